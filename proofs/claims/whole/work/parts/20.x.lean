def x_X5_halfApartSquare (q : Nat) (M : g_M) : Option (Int32 × g_M) := (some (((((M q 2) - (M q 4)) / (2 : Int32)) * (((M q 2) - (M q 4)) / (2 : Int32))), M))
set_option maxHeartbeats 4000000 in
set_option maxRecDepth 100000 in
theorem z_X5_halfApartSquare {X : g_X} (hok : g_ok X) {q : Nat} (hq : g_isM q) {M : g_M} {r : Int32 × g_M} (h : x_X5_halfApartSquare q M = some r) : g_Con X yX5_halfApartSquare cX5_halfApartSquare 2 (some .int) 0 0 [.inr q] M r := by
  rw [x_X5_halfApartSquare] at h
  refine g_con hok (by decide +kernel) (Nat.le_of_ble_eq_true rfl) (go_to (lv2 := [some (.inr q), none]) (own := RX5) ?_ (And.intro rfl trivial))
  refine go_aload_n (pc := 0) dX5_halfApartSquare_0 rfl ?_
  refine gf_5_18 (pc := 1) hq dX5_halfApartSquare_1 ?_
  refine go_aload_n (pc := 4) dX5_halfApartSquare_4 rfl ?_
  refine gf_5_24 (pc := 5) hq dX5_halfApartSquare_5 ?_
  refine go_isub (pc := 8) dX5_halfApartSquare_8 ?_
  refine go_iconst (pc := 9) (v := (2 : Int32)) dX5_halfApartSquare_9 (by decide) ?_
  refine go_idiv (pc := 10) dX5_halfApartSquare_10 (by decide) ?_
  refine go_istore_n (pc := 11) (lv' := [some (.inr q), some (.inl (((M q 2) - (M q 4)) / (2 : Int32)))]) dX5_halfApartSquare_11 (by decide) rfl ?_
  refine go_iload_n (pc := 12) dX5_halfApartSquare_12 rfl ?_
  refine go_iload_n (pc := 13) dX5_halfApartSquare_13 rfl ?_
  refine go_imul (pc := 14) dX5_halfApartSquare_14 ?_
  exact go_iret (pc := 15) (Option.some.inj h).symm rfl dX5_halfApartSquare_15 rfl
def x_X5_squareNeeded (q : Nat) (p1 : Int32) (M : g_M) : Option (Int32 × g_M) := (if (M q 0) = (1 : Int32) then (((x_X5_halfApartSquare q M).bind fun u1 => some ((((g_abs (((M q 3) - p1) - (M q 8))) * (g_abs (((M q 3) - p1) - (M q 8)))) + u1.1), u1.2))) else if (M q 0) = (2 : Int32) then (some (((g_abs (((M q 3) - p1) - (M q 8))) * (g_abs (((M q 3) - p1) - (M q 8)))), M)) else if (M q 0) = (3 : Int32) then (if (M q 3) < (p1 + (M q 8)) then (some (((g_abs (((M q 3) - p1) - (M q 8))) * (g_abs (((M q 3) - p1) - (M q 8)))), M)) else (some ((0 : Int32), M))) else if (M q 0) = (4 : Int32) then (((x_X5_halfApartSquare q M).bind fun u4 => some (((((g_abs (((M q 3) - p1) - (M q 8))) * (g_abs (((M q 3) - p1) - (M q 8)))) + u4.1) + ((u4.2 q 1) * (u4.2 q 1))), u4.2))) else if (M q 0) = (5 : Int32) then (if (M q 1) < p1 then (some (((g_abs (((M q 3) - p1) - (M q 8))) * (g_abs (((M q 3) - p1) - (M q 8)))), M)) else (some ((0 : Int32), M))) else (some (((g_abs (((M q 3) - p1) - (M q 8))) * (g_abs (((M q 3) - p1) - (M q 8)))), M)))
set_option maxHeartbeats 4000000 in
set_option maxRecDepth 100000 in
theorem z_X5_squareNeeded {X : g_X} (hok : g_ok X) {q : Nat} (hq : g_isM q) {p1 : Int32} {M : g_M} {r : Int32 × g_M} (h : x_X5_squareNeeded q p1 M = some r) : g_Con X yX5_squareNeeded cX5_squareNeeded 4 (some .int) 1 21 [.inr q, .inl p1] M r := by
  rw [x_X5_squareNeeded] at h
  refine g_con hok (by decide +kernel) (Nat.le_of_ble_eq_true rfl) (go_to (lv2 := [some (.inr q), some (.inl p1), none, none]) (own := RX5) ?_ (And.intro rfl (And.intro rfl trivial)))
  refine go_aload_n (pc := 0) dX5_squareNeeded_0 rfl ?_
  refine gf_5_21 (pc := 1) hq dX5_squareNeeded_1 ?_
  refine go_iload_n (pc := 4) dX5_squareNeeded_4 rfl ?_
  refine go_isub (pc := 5) dX5_squareNeeded_5 ?_
  refine go_aload_n (pc := 6) dX5_squareNeeded_6 rfl ?_
  refine gf_5_36 (pc := 7) hq dX5_squareNeeded_7 ?_
  refine go_isub (pc := 10) dX5_squareNeeded_10 ?_
  refine go_mabs (pc := 11) ml_X5_53 lm_abs_s lm_i lm_abs_c (by decide) (Nat.le_of_ble_eq_true rfl) dX5_squareNeeded_11 ?_
  refine go_istore_n (pc := 14) (lv' := [some (.inr q), some (.inl p1), some (.inl (g_abs (((M q 3) - p1) - (M q 8)))), none]) dX5_squareNeeded_14 (by decide) rfl ?_
  refine go_iload_n (pc := 15) dX5_squareNeeded_15 rfl ?_
  refine go_iload_n (pc := 16) dX5_squareNeeded_16 rfl ?_
  refine go_imul (pc := 17) dX5_squareNeeded_17 ?_
  refine go_istore_n (pc := 18) (lv' := [some (.inr q), some (.inl p1), some (.inl (g_abs (((M q 3) - p1) - (M q 8)))), some (.inl ((g_abs (((M q 3) - p1) - (M q 8))) * (g_abs (((M q 3) - p1) - (M q 8)))))]) dX5_squareNeeded_18 (by decide) rfl ?_
  refine go_aload_n (pc := 19) dX5_squareNeeded_19 rfl ?_
  refine gf_5_9 (pc := 20) hq dX5_squareNeeded_20 ?_
  by_cases e7 : (M q 0) = (1 : Int32)
  · replace h := (if_pos e7).symm.trans h
    refine go_tabIn (pc := 23) (off := 33) (tgt := 56) dX5_squareNeeded_23 (by rw [e7]; decide) (by rw [e7]; decide) (by rw [e7]; decide) (by decide) ?_
    refine go_iload_n (pc := 56) dX5_squareNeeded_56 rfl ?_
    refine go_aload_n (pc := 57) dX5_squareNeeded_57 rfl ?_
    obtain ⟨u1, c2, h⟩ := g_bd h
    refine go_callV (pc := 58) (as := []) (st := [.inl ((g_abs (((M q 3) - p1) - (M q 8))) * (g_abs (((M q 3) - p1) - (M q 8))))]) (r := u1.1) (M1 := u1.2) (z_X5_halfApartSquare hok hq c2) cw_X5_halfApartSquare ml_X5_59 hq rfl rfl (by decide) (Nat.le_of_ble_eq_true rfl) rfl dX5_squareNeeded_58 ?_
    refine go_iadd (pc := 61) dX5_squareNeeded_61 ?_
    exact go_iret (pc := 62) (Option.some.inj h).symm rfl dX5_squareNeeded_62 rfl
  · replace h := (if_neg e7).symm.trans h
    by_cases e8 : (M q 0) = (2 : Int32)
    · replace h := (if_pos e8).symm.trans h
      refine go_tabIn (pc := 23) (off := 90) (tgt := 113) dX5_squareNeeded_23 (by rw [e8]; decide) (by rw [e8]; decide) (by rw [e8]; decide) (by decide) ?_
      refine go_iload_n (pc := 113) dX5_squareNeeded_113 rfl ?_
      exact go_iret (pc := 114) (Option.some.inj h).symm rfl dX5_squareNeeded_114 rfl
    · replace h := (if_neg e8).symm.trans h
      by_cases e9 : (M q 0) = (3 : Int32)
      · replace h := (if_pos e9).symm.trans h
        refine go_tabIn (pc := 23) (off := 40) (tgt := 63) dX5_squareNeeded_23 (by rw [e9]; decide) (by rw [e9]; decide) (by rw [e9]; decide) (by decide) ?_
        refine go_iload_n (pc := 63) dX5_squareNeeded_63 rfl ?_
        refine go_aload_n (pc := 64) dX5_squareNeeded_64 rfl ?_
        refine gf_5_36 (pc := 65) hq dX5_squareNeeded_65 ?_
        refine go_iadd (pc := 68) dX5_squareNeeded_68 ?_
        refine go_aload_n (pc := 69) dX5_squareNeeded_69 rfl ?_
        refine gf_5_21 (pc := 70) hq dX5_squareNeeded_70 ?_
        refine go_icmp_gt (pc := 73) (tgt := 80) dX5_squareNeeded_73 (by decide) (fun e3 => ?_) (fun e3 => ?_)
        · replace h := (if_pos e3).symm.trans h
          refine go_iload_n (pc := 80) dX5_squareNeeded_80 rfl ?_
          exact go_iret (pc := 81) (Option.some.inj h).symm rfl dX5_squareNeeded_81 rfl
        · replace h := (if_neg e3).symm.trans h
          refine go_iconst (pc := 76) (v := (0 : Int32)) dX5_squareNeeded_76 (by decide) ?_
          refine go_goto (pc := 77) (tgt := 81) dX5_squareNeeded_77 (by decide) ?_
          exact go_iret (pc := 81) (Option.some.inj h).symm rfl dX5_squareNeeded_81 rfl
      · replace h := (if_neg e9).symm.trans h
        by_cases e10 : (M q 0) = (4 : Int32)
        · replace h := (if_pos e10).symm.trans h
          refine go_tabIn (pc := 23) (off := 59) (tgt := 82) dX5_squareNeeded_23 (by rw [e10]; decide) (by rw [e10]; decide) (by rw [e10]; decide) (by decide) ?_
          refine go_iload_n (pc := 82) dX5_squareNeeded_82 rfl ?_
          refine go_aload_n (pc := 83) dX5_squareNeeded_83 rfl ?_
          obtain ⟨u4, c5, h⟩ := g_bd h
          refine go_callV (pc := 84) (as := []) (st := [.inl ((g_abs (((M q 3) - p1) - (M q 8))) * (g_abs (((M q 3) - p1) - (M q 8))))]) (r := u4.1) (M1 := u4.2) (z_X5_halfApartSquare hok hq c5) cw_X5_halfApartSquare ml_X5_59 hq rfl rfl (by decide) (Nat.le_of_ble_eq_true rfl) rfl dX5_squareNeeded_84 ?_
          refine go_iadd (pc := 87) dX5_squareNeeded_87 ?_
          refine go_aload_n (pc := 88) dX5_squareNeeded_88 rfl ?_
          refine gf_5_15 (pc := 89) hq dX5_squareNeeded_89 ?_
          refine go_aload_n (pc := 92) dX5_squareNeeded_92 rfl ?_
          refine gf_5_15 (pc := 93) hq dX5_squareNeeded_93 ?_
          refine go_imul (pc := 96) dX5_squareNeeded_96 ?_
          refine go_iadd (pc := 97) dX5_squareNeeded_97 ?_
          exact go_iret (pc := 98) (Option.some.inj h).symm rfl dX5_squareNeeded_98 rfl
        · replace h := (if_neg e10).symm.trans h
          by_cases e11 : (M q 0) = (5 : Int32)
          · replace h := (if_pos e11).symm.trans h
            refine go_tabIn (pc := 23) (off := 76) (tgt := 99) dX5_squareNeeded_23 (by rw [e11]; decide) (by rw [e11]; decide) (by rw [e11]; decide) (by decide) ?_
            refine go_iload_n (pc := 99) dX5_squareNeeded_99 rfl ?_
            refine go_aload_n (pc := 100) dX5_squareNeeded_100 rfl ?_
            refine gf_5_15 (pc := 101) hq dX5_squareNeeded_101 ?_
            refine go_icmp_gt (pc := 104) (tgt := 111) dX5_squareNeeded_104 (by decide) (fun e6 => ?_) (fun e6 => ?_)
            · replace h := (if_pos e6).symm.trans h
              refine go_iload_n (pc := 111) dX5_squareNeeded_111 rfl ?_
              exact go_iret (pc := 112) (Option.some.inj h).symm rfl dX5_squareNeeded_112 rfl
            · replace h := (if_neg e6).symm.trans h
              refine go_iconst (pc := 107) (v := (0 : Int32)) dX5_squareNeeded_107 (by decide) ?_
              refine go_goto (pc := 108) (tgt := 112) dX5_squareNeeded_108 (by decide) ?_
              exact go_iret (pc := 112) (Option.some.inj h).symm rfl dX5_squareNeeded_112 rfl
          · replace h := (if_neg e11).symm.trans h
            refine go_tabOut (pc := 23) (tgt := 113) dX5_squareNeeded_23 (by have q0 := g_out e7 (show (1 : Int32).toInt = 1 by decide); have q1 := g_out e8 (show (2 : Int32).toInt = 2 by decide); have q2 := g_out e9 (show (3 : Int32).toInt = 3 by decide); have q3 := g_out e10 (show (4 : Int32).toInt = 4 by decide); have q4 := g_out e11 (show (5 : Int32).toInt = 5 by decide); omega) (by decide) ?_
            refine go_iload_n (pc := 113) dX5_squareNeeded_113 rfl ?_
            exact go_iret (pc := 114) (Option.some.inj h).symm rfl dX5_squareNeeded_114 rfl
def x_X5_hangs (q : Nat) (p1 p2 : Int32) (M : g_M) : Option (Int32 × g_M) := (((x_X5_squareNeeded q p2 M).bind fun u1 => if u1.1 ≤ (p1 * p1) then (some ((0 : Int32), u1.2)) else (some ((1 : Int32), u1.2))))
set_option maxHeartbeats 4000000 in
set_option maxRecDepth 100000 in
theorem z_X5_hangs {X : g_X} (hok : g_ok X) {q : Nat} (hq : g_isM q) {p1 p2 : Int32} {M : g_M} {r : Int32 × g_M} (h : x_X5_hangs q p1 p2 M = some r) : g_Con X yX5_hangs cX5_hangs 3 (some .boolean) 2 44 [.inr q, .inl p1, .inl p2] M r := by
  rw [x_X5_hangs] at h
  refine g_con hok (by decide +kernel) (Nat.le_of_ble_eq_true rfl) (go_to (lv2 := [some (.inr q), some (.inl p1), some (.inl p2)]) (own := RX5) ?_ (And.intro rfl (And.intro rfl (And.intro rfl trivial))))
  refine go_iload_n (pc := 0) dX5_hangs_0 rfl ?_
  refine go_iload_n (pc := 1) dX5_hangs_1 rfl ?_
  refine go_imul (pc := 2) dX5_hangs_2 ?_
  refine go_aload_n (pc := 3) dX5_hangs_3 rfl ?_
  refine go_iload_n (pc := 4) dX5_hangs_4 rfl ?_
  obtain ⟨u1, c2, h⟩ := g_bd h
  refine go_callV (pc := 5) (as := [.inl p2]) (st := [.inl (p1 * p1)]) (r := u1.1) (M1 := u1.2) (z_X5_squareNeeded hok hq c2) cw_X5_squareNeeded ml_X5_63 hq rfl rfl (by decide) (Nat.le_of_ble_eq_true rfl) rfl dX5_hangs_5 ?_
  refine go_icmp_ge (pc := 8) (tgt := 15) dX5_hangs_8 (by decide) (fun e3 => ?_) (fun e3 => ?_)
  · replace h := (if_pos e3).symm.trans h
    refine go_iconst (pc := 15) (v := (0 : Int32)) dX5_hangs_15 (by decide) ?_
    exact go_iret (pc := 16) (Option.some.inj h).symm rfl dX5_hangs_16 rfl
  · replace h := (if_neg e3).symm.trans h
    refine go_iconst (pc := 11) (v := (1 : Int32)) dX5_hangs_11 (by decide) ?_
    refine go_goto (pc := 12) (tgt := 16) dX5_hangs_12 (by decide) ?_
    exact go_iret (pc := 16) (Option.some.inj h).symm rfl dX5_hangs_16 rfl
def x_X8_rootWithin_L5   : Nat → Int32 → Int32 → Int32 → g_M → Option (Int32 × g_M)
  | 0, _, _, _, _ => none
  | n + 1, v0, v1, v2, M => (if v2 ≤ 0 then (some (v1, M)) else (if v0 < ((v1 + v2) * (v1 + v2)) then (x_X8_rootWithin_L5   n v0 v1 (v2 / (2 : Int32)) M) else (x_X8_rootWithin_L5   n v0 (v1 + v2) (v2 / (2 : Int32)) M)))
set_option maxHeartbeats 4000000 in
set_option maxRecDepth 100000 in
theorem z_X8_rootWithin_L5 {X : g_X} (hok : g_ok X)  {r : Int32 × g_M}  : ∀ (n : Nat) (v0 v1 v2 : Int32) (M : g_M), x_X8_rootWithin_L5   n v0 v1 v2 M = some r → g_Go X cX8_rootWithin RX8 3 (some .int) 0 0 r 5 [some (.inl v0), some (.inl v1), some (.inl v2)] [] M := by
  intro n
  induction n with
  | zero =>
    intro v0 v1 v2 M h
    rw [x_X8_rootWithin_L5] at h
    cases h
  | succ n ih =>
    intro v0 v1 v2 M h
    rw [x_X8_rootWithin_L5] at h
    refine go_iload_n (pc := 5) dX8_rootWithin_5 rfl ?_
    refine go_if_le (pc := 6) (tgt := 31) dX8_rootWithin_6 (by decide) (fun e2 => ?_) (fun e2 => ?_)
    · replace h := (if_pos e2).symm.trans h
      refine go_iload_n (pc := 31) dX8_rootWithin_31 rfl ?_
      exact go_iret (pc := 32) (Option.some.inj h).symm rfl dX8_rootWithin_32 rfl
    · replace h := (if_neg e2).symm.trans h
      refine go_iload_n (pc := 9) dX8_rootWithin_9 rfl ?_
      refine go_iload_n (pc := 10) dX8_rootWithin_10 rfl ?_
      refine go_iadd (pc := 11) dX8_rootWithin_11 ?_
      refine go_iload_n (pc := 12) dX8_rootWithin_12 rfl ?_
      refine go_iload_n (pc := 13) dX8_rootWithin_13 rfl ?_
      refine go_iadd (pc := 14) dX8_rootWithin_14 ?_
      refine go_imul (pc := 15) dX8_rootWithin_15 ?_
      refine go_iload_n (pc := 16) dX8_rootWithin_16 rfl ?_
      refine go_icmp_gt (pc := 17) (tgt := 24) dX8_rootWithin_17 (by decide) (fun e1 => ?_) (fun e1 => ?_)
      · replace h := (if_pos e1).symm.trans h
        refine go_iload_n (pc := 24) dX8_rootWithin_24 rfl ?_
        refine go_iconst (pc := 25) (v := (2 : Int32)) dX8_rootWithin_25 (by decide) ?_
        refine go_idiv (pc := 26) dX8_rootWithin_26 (by decide) ?_
        refine go_istore_n (pc := 27) (lv' := [some (.inl v0), some (.inl v1), some (.inl (v2 / (2 : Int32)))]) dX8_rootWithin_27 (by decide) rfl ?_
        refine go_goto (pc := 28) (tgt := 5) dX8_rootWithin_28 (by decide) ?_
        exact go_to (ih _ _ _ _ h) (And.intro rfl (And.intro rfl (And.intro rfl trivial)))
      · replace h := (if_neg e1).symm.trans h
        refine go_iload_n (pc := 20) dX8_rootWithin_20 rfl ?_
        refine go_iload_n (pc := 21) dX8_rootWithin_21 rfl ?_
        refine go_iadd (pc := 22) dX8_rootWithin_22 ?_
        refine go_istore_n (pc := 23) (lv' := [some (.inl v0), some (.inl (v1 + v2)), some (.inl v2)]) dX8_rootWithin_23 (by decide) rfl ?_
        refine go_iload_n (pc := 24) dX8_rootWithin_24 rfl ?_
        refine go_iconst (pc := 25) (v := (2 : Int32)) dX8_rootWithin_25 (by decide) ?_
        refine go_idiv (pc := 26) dX8_rootWithin_26 (by decide) ?_
        refine go_istore_n (pc := 27) (lv' := [some (.inl v0), some (.inl (v1 + v2)), some (.inl (v2 / (2 : Int32)))]) dX8_rootWithin_27 (by decide) rfl ?_
        refine go_goto (pc := 28) (tgt := 5) dX8_rootWithin_28 (by decide) ?_
        exact go_to (ih _ _ _ _ h) (And.intro rfl (And.intro rfl (And.intro rfl trivial)))
def x_X8_rootWithin  (p0 : Int32) (M : g_M) : Option (Int32 × g_M) := (x_X8_rootWithin_L5   g_F p0 (0 : Int32) (64 : Int32) M)
set_option maxHeartbeats 4000000 in
set_option maxRecDepth 100000 in
theorem z_X8_rootWithin {X : g_X} (hok : g_ok X)  {p0 : Int32} {M : g_M} {r : Int32 × g_M} (h : x_X8_rootWithin p0 M = some r) : g_Con X yX8_rootWithin cX8_rootWithin 3 (some .int) 0 0 [.inl p0] M r := by
  rw [x_X8_rootWithin] at h
  refine g_con hok (by decide +kernel) (Nat.le_of_ble_eq_true rfl) (go_to (lv2 := [some (.inl p0), none, none]) (own := RX8) ?_ (And.intro rfl trivial))
  refine go_iconst (pc := 0) (v := (0 : Int32)) dX8_rootWithin_0 (by decide) ?_
  refine go_istore_n (pc := 1) (lv' := [some (.inl p0), some (.inl (0 : Int32)), none]) dX8_rootWithin_1 (by decide) rfl ?_
  refine go_bipush (pc := 2) (v := (64 : Int32)) dX8_rootWithin_2 (by decide) ?_
  refine go_istore_n (pc := 4) (lv' := [some (.inl p0), some (.inl (0 : Int32)), some (.inl (64 : Int32))]) dX8_rootWithin_4 (by decide) rfl ?_
  exact go_to (z_X8_rootWithin_L5 hok   g_F _ _ _ _ h) (And.intro rfl (And.intro rfl (And.intro rfl trivial)))
def x_X5_reach (q : Nat) (p1 p2 : Int32) (M : g_M) : Option (Int32 × g_M) := (((x_X5_squareNeeded q p2 M).bind fun u1 => if 0 ≤ ((p1 * p1) - u1.1) then (((x_X8_rootWithin ((p1 * p1) - u1.1) u1.2).bind fun u3 => if (u3.2 q 0) = (1 : Int32) then (some ((u3.1 / (2 : Int32)), u3.2)) else if (u3.2 q 0) = (2 : Int32) then (some ((((3 : Int32) * u3.1) / (4 : Int32)), u3.2)) else if (u3.2 q 0) = (3 : Int32) then (some ((g_min u3.1 (u3.2 q 1)), u3.2)) else if (u3.2 q 0) = (4 : Int32) then (some ((u3.1 / (2 : Int32)), u3.2)) else if (u3.2 q 0) = (5 : Int32) then (if (u3.2 q 1) < p2 then (some ((((3 : Int32) * u3.1) / (4 : Int32)), u3.2)) else (some ((0 : Int32), u3.2))) else (some (u3.1, u3.2)))) else (some ((0 : Int32), u1.2))))
set_option maxHeartbeats 4000000 in
set_option maxRecDepth 100000 in
theorem z_X5_reach {X : g_X} (hok : g_ok X) {q : Nat} (hq : g_isM q) {p1 p2 : Int32} {M : g_M} {r : Int32 × g_M} (h : x_X5_reach q p1 p2 M = some r) : g_Con X yX5_reach cX5_reach 5 (some .int) 2 44 [.inr q, .inl p1, .inl p2] M r := by
  rw [x_X5_reach] at h
  refine g_con hok (by decide +kernel) (Nat.le_of_ble_eq_true rfl) (go_to (lv2 := [some (.inr q), some (.inl p1), some (.inl p2), none, none]) (own := RX5) ?_ (And.intro rfl (And.intro rfl (And.intro rfl trivial))))
  refine go_iload_n (pc := 0) dX5_reach_0 rfl ?_
  refine go_iload_n (pc := 1) dX5_reach_1 rfl ?_
  refine go_imul (pc := 2) dX5_reach_2 ?_
  refine go_aload_n (pc := 3) dX5_reach_3 rfl ?_
  refine go_iload_n (pc := 4) dX5_reach_4 rfl ?_
  obtain ⟨u1, c2, h⟩ := g_bd h
  refine go_callV (pc := 5) (as := [.inl p2]) (st := [.inl (p1 * p1)]) (r := u1.1) (M1 := u1.2) (z_X5_squareNeeded hok hq c2) cw_X5_squareNeeded ml_X5_63 hq rfl rfl (by decide) (Nat.le_of_ble_eq_true rfl) rfl dX5_reach_5 ?_
  refine go_isub (pc := 8) dX5_reach_8 ?_
  refine go_istore_n (pc := 9) (lv' := [some (.inr q), some (.inl p1), some (.inl p2), some (.inl ((p1 * p1) - u1.1)), none]) dX5_reach_9 (by decide) rfl ?_
  refine go_iload_n (pc := 10) dX5_reach_10 rfl ?_
  refine go_if_ge (pc := 11) (tgt := 16) dX5_reach_11 (by decide) (fun e11 => ?_) (fun e11 => ?_)
  · replace h := (if_pos e11).symm.trans h
    refine go_iload_n (pc := 16) dX5_reach_16 rfl ?_
    obtain ⟨u3, c4, h⟩ := g_bd h
    refine go_callSN (pc := 17) (as := [.inl ((p1 * p1) - u1.1)]) (st := []) (r := u3.1) (M1 := u3.2) (z_X8_rootWithin hok  c4) cw_X8_rootWithin ml_X5_66 (by decide) (Nat.le_of_ble_eq_true rfl) rfl dX5_reach_17 ?_
    refine go_istore (pc := 20) (lv' := [some (.inr q), some (.inl p1), some (.inl p2), some (.inl ((p1 * p1) - u1.1)), some (.inl u3.1)]) dX5_reach_20 (by decide) rfl ?_
    refine go_aload_n (pc := 22) dX5_reach_22 rfl ?_
    refine gf_5_9 (pc := 23) hq dX5_reach_23 ?_
    by_cases e6 : (u3.2 q 0) = (1 : Int32)
    · replace h := (if_pos e6).symm.trans h
      refine go_tabIn (pc := 26) (off := 34) (tgt := 60) dX5_reach_26 (by rw [e6]; decide) (by rw [e6]; decide) (by rw [e6]; decide) (by decide) ?_
      refine go_iload (pc := 60) dX5_reach_60 rfl ?_
      refine go_iconst (pc := 62) (v := (2 : Int32)) dX5_reach_62 (by decide) ?_
      refine go_idiv (pc := 63) dX5_reach_63 (by decide) ?_
      exact go_iret (pc := 64) (Option.some.inj h).symm rfl dX5_reach_64 rfl
    · replace h := (if_neg e6).symm.trans h
      by_cases e7 : (u3.2 q 0) = (2 : Int32)
      · replace h := (if_pos e7).symm.trans h
        refine go_tabIn (pc := 26) (off := 39) (tgt := 65) dX5_reach_26 (by rw [e7]; decide) (by rw [e7]; decide) (by rw [e7]; decide) (by decide) ?_
        refine go_iconst (pc := 65) (v := (3 : Int32)) dX5_reach_65 (by decide) ?_
        refine go_iload (pc := 66) dX5_reach_66 rfl ?_
        refine go_imul (pc := 68) dX5_reach_68 ?_
        refine go_iconst (pc := 69) (v := (4 : Int32)) dX5_reach_69 (by decide) ?_
        refine go_idiv (pc := 70) dX5_reach_70 (by decide) ?_
        exact go_iret (pc := 71) (Option.some.inj h).symm rfl dX5_reach_71 rfl
      · replace h := (if_neg e7).symm.trans h
        by_cases e8 : (u3.2 q 0) = (3 : Int32)
        · replace h := (if_pos e8).symm.trans h
          refine go_tabIn (pc := 26) (off := 46) (tgt := 72) dX5_reach_26 (by rw [e8]; decide) (by rw [e8]; decide) (by rw [e8]; decide) (by decide) ?_
          refine go_iload (pc := 72) dX5_reach_72 rfl ?_
          refine go_aload_n (pc := 74) dX5_reach_74 rfl ?_
          refine gf_5_15 (pc := 75) hq dX5_reach_75 ?_
          refine go_mmin (pc := 78) ml_X5_86 lm_min_s lm_i lm_min_c (by decide) (Nat.le_of_ble_eq_true rfl) dX5_reach_78 ?_
          exact go_iret (pc := 81) (Option.some.inj h).symm rfl dX5_reach_81 rfl
        · replace h := (if_neg e8).symm.trans h
          by_cases e9 : (u3.2 q 0) = (4 : Int32)
          · replace h := (if_pos e9).symm.trans h
            refine go_tabIn (pc := 26) (off := 34) (tgt := 60) dX5_reach_26 (by rw [e9]; decide) (by rw [e9]; decide) (by rw [e9]; decide) (by decide) ?_
            refine go_iload (pc := 60) dX5_reach_60 rfl ?_
            refine go_iconst (pc := 62) (v := (2 : Int32)) dX5_reach_62 (by decide) ?_
            refine go_idiv (pc := 63) dX5_reach_63 (by decide) ?_
            exact go_iret (pc := 64) (Option.some.inj h).symm rfl dX5_reach_64 rfl
          · replace h := (if_neg e9).symm.trans h
            by_cases e10 : (u3.2 q 0) = (5 : Int32)
            · replace h := (if_pos e10).symm.trans h
              refine go_tabIn (pc := 26) (off := 56) (tgt := 82) dX5_reach_26 (by rw [e10]; decide) (by rw [e10]; decide) (by rw [e10]; decide) (by decide) ?_
              refine go_iload_n (pc := 82) dX5_reach_82 rfl ?_
              refine go_aload_n (pc := 83) dX5_reach_83 rfl ?_
              refine gf_5_15 (pc := 84) hq dX5_reach_84 ?_
              refine go_icmp_gt (pc := 87) (tgt := 94) dX5_reach_87 (by decide) (fun e5 => ?_) (fun e5 => ?_)
              · replace h := (if_pos e5).symm.trans h
                refine go_iconst (pc := 94) (v := (3 : Int32)) dX5_reach_94 (by decide) ?_
                refine go_iload (pc := 95) dX5_reach_95 rfl ?_
                refine go_imul (pc := 97) dX5_reach_97 ?_
                refine go_iconst (pc := 98) (v := (4 : Int32)) dX5_reach_98 (by decide) ?_
                refine go_idiv (pc := 99) dX5_reach_99 (by decide) ?_
                exact go_iret (pc := 100) (Option.some.inj h).symm rfl dX5_reach_100 rfl
              · replace h := (if_neg e5).symm.trans h
                refine go_iconst (pc := 90) (v := (0 : Int32)) dX5_reach_90 (by decide) ?_
                refine go_goto (pc := 91) (tgt := 100) dX5_reach_91 (by decide) ?_
                exact go_iret (pc := 100) (Option.some.inj h).symm rfl dX5_reach_100 rfl
            · replace h := (if_neg e10).symm.trans h
              refine go_tabOut (pc := 26) (tgt := 101) dX5_reach_26 (by have q0 := g_out e6 (show (1 : Int32).toInt = 1 by decide); have q1 := g_out e7 (show (2 : Int32).toInt = 2 by decide); have q2 := g_out e8 (show (3 : Int32).toInt = 3 by decide); have q3 := g_out e9 (show (4 : Int32).toInt = 4 by decide); have q4 := g_out e10 (show (5 : Int32).toInt = 5 by decide); omega) (by decide) ?_
              refine go_iload (pc := 101) dX5_reach_101 rfl ?_
              exact go_iret (pc := 103) (Option.some.inj h).symm rfl dX5_reach_103 rfl
  · replace h := (if_neg e11).symm.trans h
    refine go_iconst (pc := 14) (v := (0 : Int32)) dX5_reach_14 (by decide) ?_
    exact go_iret (pc := 15) (Option.some.inj h).symm rfl dX5_reach_15 rfl
def x_X5_stillMiddle_L16 (q : Nat)  (M : g_M) : Option (Int32 × g_M) := (some ((((M q 2) + (M q 4)) / (2 : Int32)), M))
set_option maxHeartbeats 4000000 in
set_option maxRecDepth 100000 in
theorem z_X5_stillMiddle_L16 {X : g_X} (hok : g_ok X) {q : Nat} (hq : g_isM q) {r : Int32 × g_M}  {M : g_M} (h : x_X5_stillMiddle_L16 q   M = some r) : g_Go X cX5_stillMiddle RX5 1 (some .int) 0 0 r 16 [some (.inr q)] [] M := by
  rw [x_X5_stillMiddle_L16] at h
  refine go_aload_n (pc := 16) dX5_stillMiddle_16 rfl ?_
  refine gf_5_18 (pc := 17) hq dX5_stillMiddle_17 ?_
  refine go_aload_n (pc := 20) dX5_stillMiddle_20 rfl ?_
  refine gf_5_24 (pc := 21) hq dX5_stillMiddle_21 ?_
  refine go_iadd (pc := 24) dX5_stillMiddle_24 ?_
  refine go_iconst (pc := 25) (v := (2 : Int32)) dX5_stillMiddle_25 (by decide) ?_
  refine go_idiv (pc := 26) dX5_stillMiddle_26 (by decide) ?_
  refine go_goto (pc := 27) (tgt := 34) dX5_stillMiddle_27 (by decide) ?_
  exact go_iret (pc := 34) (Option.some.inj h).symm rfl dX5_stillMiddle_34 rfl
def x_X5_stillMiddle (q : Nat) (M : g_M) : Option (Int32 × g_M) := (if (M q 0) = (1 : Int32) then (x_X5_stillMiddle_L16 q   M) else (if (M q 0) = (4 : Int32) then (x_X5_stillMiddle_L16 q   M) else (some ((M q 2), M))))
set_option maxHeartbeats 4000000 in
set_option maxRecDepth 100000 in
theorem z_X5_stillMiddle {X : g_X} (hok : g_ok X) {q : Nat} (hq : g_isM q) {M : g_M} {r : Int32 × g_M} (h : x_X5_stillMiddle q M = some r) : g_Con X yX5_stillMiddle cX5_stillMiddle 1 (some .int) 0 0 [.inr q] M r := by
  rw [x_X5_stillMiddle] at h
  refine g_con hok (by decide +kernel) (Nat.le_of_ble_eq_true rfl) (go_to (lv2 := [some (.inr q)]) (own := RX5) ?_ (And.intro rfl trivial))
  refine go_aload_n (pc := 0) dX5_stillMiddle_0 rfl ?_
  refine gf_5_9 (pc := 1) hq dX5_stillMiddle_1 ?_
  refine go_iconst (pc := 4) (v := (1 : Int32)) dX5_stillMiddle_4 (by decide) ?_
  refine go_icmp_eq (pc := 5) (tgt := 16) dX5_stillMiddle_5 (by decide) (fun e2 => ?_) (fun e2 => ?_)
  · replace h := (if_pos e2).symm.trans h
    exact go_to (z_X5_stillMiddle_L16 hok hq  h) (And.intro rfl trivial)
  · replace h := (if_neg e2).symm.trans h
    refine go_aload_n (pc := 8) dX5_stillMiddle_8 rfl ?_
    refine gf_5_9 (pc := 9) hq dX5_stillMiddle_9 ?_
    refine go_iconst (pc := 12) (v := (4 : Int32)) dX5_stillMiddle_12 (by decide) ?_
    refine go_icmp_ne (pc := 13) (tgt := 30) dX5_stillMiddle_13 (by decide) (fun e1 => ?_) (fun e1 => ?_)
    · replace h := (if_neg e1).symm.trans h
      refine go_aload_n (pc := 30) dX5_stillMiddle_30 rfl ?_
      refine gf_5_18 (pc := 31) hq dX5_stillMiddle_31 ?_
      exact go_iret (pc := 34) (Option.some.inj h).symm rfl dX5_stillMiddle_34 rfl
    · replace h := (if_pos e1).symm.trans h
      exact go_to (z_X5_stillMiddle_L16 hok hq  h) (And.intro rfl trivial)
def x_X5_touchesAt (q : Nat) (q2 : Nat) (p1 p3 p4 : Int32) (M : g_M) : Option (Int32 × g_M) := (((x_X5_hangs q p1 p4 M).bind fun u1 => if u1.1 = 0 then (((x_X5_hangs q2 p3 p4 u1.2).bind fun u3 => if u3.1 = 0 then (((x_X5_reach q p1 p4 u3.2).bind fun u5 => ((x_X5_reach q2 p3 p4 u5.2).bind fun u7 => ((x_X5_stillMiddle q u7.2).bind fun u9 => ((x_X5_stillMiddle q2 u9.2).bind fun u11 => if ((u11.1 + u7.1) + (u11.2 q2 6)) < (u9.1 - u5.1) then (some ((0 : Int32), u11.2)) else (if ((u9.1 + u5.1) + (u11.2 q 6)) < (u11.1 - u7.1) then (some ((0 : Int32), u11.2)) else (some ((1 : Int32), u11.2)))))))) else (some ((0 : Int32), u3.2)))) else (some ((0 : Int32), u1.2))))
set_option maxHeartbeats 4000000 in
set_option maxRecDepth 100000 in
theorem z_X5_touchesAt {X : g_X} (hok : g_ok X) {q : Nat} (hq : g_isM q) {q2 : Nat} (hq2 : g_isM q2) {p1 p3 p4 : Int32} {M : g_M} {r : Int32 × g_M} (h : x_X5_touchesAt q q2 p1 p3 p4 M = some r) : g_Con X yX5_touchesAt cX5_touchesAt 9 (some .boolean) 3 68 [.inr q, .inl p1, .inr q2, .inl p3, .inl p4] M r := by
  rw [x_X5_touchesAt] at h
  refine g_con hok (by decide +kernel) (Nat.le_of_ble_eq_true rfl) (go_to (lv2 := [some (.inr q), some (.inl p1), some (.inr q2), some (.inl p3), some (.inl p4), none, none, none, none]) (own := RX5) ?_ (And.intro rfl (And.intro rfl (And.intro rfl (And.intro rfl (And.intro rfl trivial))))))
  refine go_aload_n (pc := 0) dX5_touchesAt_0 rfl ?_
  refine go_iload_n (pc := 1) dX5_touchesAt_1 rfl ?_
  refine go_iload (pc := 2) dX5_touchesAt_2 rfl ?_
  obtain ⟨u1, c2, h⟩ := g_bd h
  refine go_callV (pc := 4) (as := [.inl p1, .inl p4]) (st := []) (r := u1.1) (M1 := u1.2) (z_X5_hangs hok hq c2) cw_X5_hangs ml_X5_75 hq rfl rfl (by decide) (Nat.le_of_ble_eq_true rfl) rfl dX5_touchesAt_4 ?_
  refine go_if_ne (pc := 7) (tgt := 20) dX5_touchesAt_7 (by decide) (fun e16 => ?_) (fun e16 => ?_)
  · replace h := (if_neg e16).symm.trans h
    refine go_iconst (pc := 20) (v := (0 : Int32)) dX5_touchesAt_20 (by decide) ?_
    exact go_iret (pc := 21) (Option.some.inj h).symm rfl dX5_touchesAt_21 rfl
  · replace h := (if_pos e16).symm.trans h
    refine go_aload_n (pc := 10) dX5_touchesAt_10 rfl ?_
    refine go_iload_n (pc := 11) dX5_touchesAt_11 rfl ?_
    refine go_iload (pc := 12) dX5_touchesAt_12 rfl ?_
    obtain ⟨u3, c4, h⟩ := g_bd h
    refine go_callV (pc := 14) (as := [.inl p3, .inl p4]) (st := []) (r := u3.1) (M1 := u3.2) (z_X5_hangs hok hq2 c4) cw_X5_hangs ml_X5_75 hq2 rfl rfl (by decide) (Nat.le_of_ble_eq_true rfl) rfl dX5_touchesAt_14 ?_
    refine go_if_eq (pc := 17) (tgt := 22) dX5_touchesAt_17 (by decide) (fun e15 => ?_) (fun e15 => ?_)
    · replace h := (if_pos e15).symm.trans h
      refine go_aload_n (pc := 22) dX5_touchesAt_22 rfl ?_
      refine go_iload_n (pc := 23) dX5_touchesAt_23 rfl ?_
      refine go_iload (pc := 24) dX5_touchesAt_24 rfl ?_
      obtain ⟨u5, c6, h⟩ := g_bd h
      refine go_callV (pc := 26) (as := [.inl p1, .inl p4]) (st := []) (r := u5.1) (M1 := u5.2) (z_X5_reach hok hq c6) cw_X5_reach ml_X5_83 hq rfl rfl (by decide) (Nat.le_of_ble_eq_true rfl) rfl dX5_touchesAt_26 ?_
      refine go_istore (pc := 29) (lv' := [some (.inr q), some (.inl p1), some (.inr q2), some (.inl p3), some (.inl p4), some (.inl u5.1), none, none, none]) dX5_touchesAt_29 (by decide) rfl ?_
      refine go_aload_n (pc := 31) dX5_touchesAt_31 rfl ?_
      refine go_iload_n (pc := 32) dX5_touchesAt_32 rfl ?_
      refine go_iload (pc := 33) dX5_touchesAt_33 rfl ?_
      obtain ⟨u7, c8, h⟩ := g_bd h
      refine go_callV (pc := 35) (as := [.inl p3, .inl p4]) (st := []) (r := u7.1) (M1 := u7.2) (z_X5_reach hok hq2 c8) cw_X5_reach ml_X5_83 hq2 rfl rfl (by decide) (Nat.le_of_ble_eq_true rfl) rfl dX5_touchesAt_35 ?_
      refine go_istore (pc := 38) (lv' := [some (.inr q), some (.inl p1), some (.inr q2), some (.inl p3), some (.inl p4), some (.inl u5.1), some (.inl u7.1), none, none]) dX5_touchesAt_38 (by decide) rfl ?_
      refine go_aload_n (pc := 40) dX5_touchesAt_40 rfl ?_
      obtain ⟨u9, c10, h⟩ := g_bd h
      refine go_callV (pc := 41) (as := []) (st := []) (r := u9.1) (M1 := u9.2) (z_X5_stillMiddle hok hq c10) cw_X5_stillMiddle ml_X5_89 hq rfl rfl (by decide) (Nat.le_of_ble_eq_true rfl) rfl dX5_touchesAt_41 ?_
      refine go_istore (pc := 44) (lv' := [some (.inr q), some (.inl p1), some (.inr q2), some (.inl p3), some (.inl p4), some (.inl u5.1), some (.inl u7.1), some (.inl u9.1), none]) dX5_touchesAt_44 (by decide) rfl ?_
      refine go_aload_n (pc := 46) dX5_touchesAt_46 rfl ?_
      obtain ⟨u11, c12, h⟩ := g_bd h
      refine go_callV (pc := 47) (as := []) (st := []) (r := u11.1) (M1 := u11.2) (z_X5_stillMiddle hok hq2 c12) cw_X5_stillMiddle ml_X5_89 hq2 rfl rfl (by decide) (Nat.le_of_ble_eq_true rfl) rfl dX5_touchesAt_47 ?_
      refine go_istore (pc := 50) (lv' := [some (.inr q), some (.inl p1), some (.inr q2), some (.inl p3), some (.inl p4), some (.inl u5.1), some (.inl u7.1), some (.inl u9.1), some (.inl u11.1)]) dX5_touchesAt_50 (by decide) rfl ?_
      refine go_iload (pc := 52) dX5_touchesAt_52 rfl ?_
      refine go_iload (pc := 54) dX5_touchesAt_54 rfl ?_
      refine go_isub (pc := 56) dX5_touchesAt_56 ?_
      refine go_iload (pc := 57) dX5_touchesAt_57 rfl ?_
      refine go_iload (pc := 59) dX5_touchesAt_59 rfl ?_
      refine go_iadd (pc := 61) dX5_touchesAt_61 ?_
      refine go_aload_n (pc := 62) dX5_touchesAt_62 rfl ?_
      refine gf_5_30 (pc := 63) hq2 dX5_touchesAt_63 ?_
      refine go_iadd (pc := 66) dX5_touchesAt_66 ?_
      refine go_icmp_gt (pc := 67) (tgt := 92) dX5_touchesAt_67 (by decide) (fun e14 => ?_) (fun e14 => ?_)
      · replace h := (if_pos e14).symm.trans h
        refine go_iconst (pc := 92) (v := (0 : Int32)) dX5_touchesAt_92 (by decide) ?_
        exact go_iret (pc := 93) (Option.some.inj h).symm rfl dX5_touchesAt_93 rfl
      · replace h := (if_neg e14).symm.trans h
        refine go_iload (pc := 70) dX5_touchesAt_70 rfl ?_
        refine go_iload (pc := 72) dX5_touchesAt_72 rfl ?_
        refine go_isub (pc := 74) dX5_touchesAt_74 ?_
        refine go_iload (pc := 75) dX5_touchesAt_75 rfl ?_
        refine go_iload (pc := 77) dX5_touchesAt_77 rfl ?_
        refine go_iadd (pc := 79) dX5_touchesAt_79 ?_
        refine go_aload_n (pc := 80) dX5_touchesAt_80 rfl ?_
        refine gf_5_30 (pc := 81) hq dX5_touchesAt_81 ?_
        refine go_iadd (pc := 84) dX5_touchesAt_84 ?_
        refine go_icmp_gt (pc := 85) (tgt := 92) dX5_touchesAt_85 (by decide) (fun e13 => ?_) (fun e13 => ?_)
        · replace h := (if_pos e13).symm.trans h
          refine go_iconst (pc := 92) (v := (0 : Int32)) dX5_touchesAt_92 (by decide) ?_
          exact go_iret (pc := 93) (Option.some.inj h).symm rfl dX5_touchesAt_93 rfl
        · replace h := (if_neg e13).symm.trans h
          refine go_iconst (pc := 88) (v := (1 : Int32)) dX5_touchesAt_88 (by decide) ?_
          refine go_goto (pc := 89) (tgt := 93) dX5_touchesAt_89 (by decide) ?_
          exact go_iret (pc := 93) (Option.some.inj h).symm rfl dX5_touchesAt_93 rfl
    · replace h := (if_neg e15).symm.trans h
      refine go_iconst (pc := 20) (v := (0 : Int32)) dX5_touchesAt_20 (by decide) ?_
      exact go_iret (pc := 21) (Option.some.inj h).symm rfl dX5_touchesAt_21 rfl
def x_X5_touching_L6 (q : Nat) (q2 : Nat) (a4 n4 : Nat)  : Nat → Int32 → Int32 → Int32 → Int32 → g_M → Option (Int32 × g_M)
  | 0, _, _, _, _, _ => none
  | n + 1, v1, v3, v5, v6, M => (if (Int32.ofNat n4) ≤ v6 then (some (v5, M)) else ((if g_inb v6 n4 = true then (((x_X5_touchesAt q q2 v1 v3 (M a4 v6.toNatClampNeg) M).bind fun u2 => if u2.1 = 0 then (x_X5_touching_L6 q q2 a4 n4  n v1 v3 v5 (v6 + (1 : Int32)) u2.2) else (x_X5_touching_L6 q q2 a4 n4  n v1 v3 (v5 ||| ((1 : Int32) <<< (v6 &&& 31))) (v6 + (1 : Int32)) u2.2))) else none)))
set_option maxHeartbeats 4000000 in
set_option maxRecDepth 100000 in
theorem z_X5_touching_L6 {X : g_X} (hok : g_ok X) {q : Nat} (hq : g_isM q) {q2 : Nat} (hq2 : g_isM q2) {a4 n4 : Nat} (ha4 : g_lay[a4]? = some (.inl n4)) {r : Int32 × g_M}  : ∀ (n : Nat) (v1 v3 v5 v6 : Int32) (M : g_M), x_X5_touching_L6 q q2 a4 n4  n v1 v3 v5 v6 M = some r → g_Go X cX5_touching RX5 7 (some .int) 4 96 r 6 [some (.inr q), some (.inl v1), some (.inr q2), some (.inl v3), some (.inr a4), some (.inl v5), some (.inl v6)] [] M := by
  intro n
  induction n with
  | zero =>
    intro v1 v3 v5 v6 M h
    rw [x_X5_touching_L6] at h
    cases h
  | succ n ih =>
    intro v1 v3 v5 v6 M h
    rw [x_X5_touching_L6] at h
    refine go_iload (pc := 6) dX5_touching_6 rfl ?_
    refine go_aload (pc := 8) dX5_touching_8 rfl ?_
    refine go_alen (pc := 10) (n := n4) (v := (Int32.ofNat n4)) ha4 rfl dX5_touching_10 ?_
    refine go_icmp_ge (pc := 11) (tgt := 44) dX5_touching_11 (by decide) (fun e5 => ?_) (fun e5 => ?_)
    · replace h := (if_pos e5).symm.trans h
      refine go_iload (pc := 44) dX5_touching_44 rfl ?_
      exact go_iret (pc := 46) (Option.some.inj h).symm rfl dX5_touching_46 rfl
    · replace h := (if_neg e5).symm.trans h
      refine go_aload_n (pc := 14) dX5_touching_14 rfl ?_
      refine go_iload_n (pc := 15) dX5_touching_15 rfl ?_
      refine go_aload_n (pc := 16) dX5_touching_16 rfl ?_
      refine go_iload_n (pc := 17) dX5_touching_17 rfl ?_
      refine go_aload (pc := 18) dX5_touching_18 rfl ?_
      refine go_iload (pc := 20) dX5_touching_20 rfl ?_
      obtain ⟨i1, h⟩ := g_gd h
      refine go_iald (pc := 22) (n := n4) ha4 (g_inb_ok i1) dX5_touching_22 ?_
      obtain ⟨u2, c3, h⟩ := g_bd h
      refine go_callV (pc := 23) (as := [.inl v1, .inr q2, .inl v3, .inl (M a4 v6.toNatClampNeg)]) (st := []) (r := u2.1) (M1 := u2.2) (z_X5_touchesAt hok hq hq2 c3) cw_X5_touchesAt ml_X5_92 hq rfl rfl (by decide) (Nat.le_of_ble_eq_true rfl) rfl dX5_touching_23 ?_
      refine go_if_eq (pc := 26) (tgt := 38) dX5_touching_26 (by decide) (fun e4 => ?_) (fun e4 => ?_)
      · replace h := (if_pos e4).symm.trans h
        refine go_iinc (pc := 38) (v := (1 : Int32)) (lv' := [some (.inr q), some (.inl v1), some (.inr q2), some (.inl v3), some (.inr a4), some (.inl v5), some (.inl (v6 + (1 : Int32)))]) dX5_touching_38 rfl (by decide) (by decide) rfl ?_
        refine go_goto (pc := 41) (tgt := 6) dX5_touching_41 (by decide) ?_
        exact go_to (ih _ _ _ _ _ h) (And.intro rfl (And.intro rfl (And.intro rfl (And.intro rfl (And.intro rfl (And.intro rfl (And.intro rfl trivial)))))))
      · replace h := (if_neg e4).symm.trans h
        refine go_iload (pc := 29) dX5_touching_29 rfl ?_
        refine go_iconst (pc := 31) (v := (1 : Int32)) dX5_touching_31 (by decide) ?_
        refine go_iload (pc := 32) dX5_touching_32 rfl ?_
        refine go_ishl (pc := 34) dX5_touching_34 ?_
        refine go_ior (pc := 35) dX5_touching_35 ?_
        refine go_istore (pc := 36) (lv' := [some (.inr q), some (.inl v1), some (.inr q2), some (.inl v3), some (.inr a4), some (.inl (v5 ||| ((1 : Int32) <<< (v6 &&& 31)))), some (.inl v6)]) dX5_touching_36 (by decide) rfl ?_
        refine go_iinc (pc := 38) (v := (1 : Int32)) (lv' := [some (.inr q), some (.inl v1), some (.inr q2), some (.inl v3), some (.inr a4), some (.inl (v5 ||| ((1 : Int32) <<< (v6 &&& 31)))), some (.inl (v6 + (1 : Int32)))]) dX5_touching_38 rfl (by decide) (by decide) rfl ?_
        refine go_goto (pc := 41) (tgt := 6) dX5_touching_41 (by decide) ?_
        exact go_to (ih _ _ _ _ _ h) (And.intro rfl (And.intro rfl (And.intro rfl (And.intro rfl (And.intro rfl (And.intro rfl (And.intro rfl trivial)))))))
def x_X5_touching (q : Nat) (q2 : Nat) (a4 n4 : Nat) (p1 p3 : Int32) (M : g_M) : Option (Int32 × g_M) := (x_X5_touching_L6 q q2 a4 n4  g_F p1 p3 (0 : Int32) (0 : Int32) M)
set_option maxHeartbeats 4000000 in
set_option maxRecDepth 100000 in
theorem z_X5_touching {X : g_X} (hok : g_ok X) {q : Nat} (hq : g_isM q) {q2 : Nat} (hq2 : g_isM q2) {a4 n4 : Nat} (ha4 : g_lay[a4]? = some (.inl n4)) {p1 p3 : Int32} {M : g_M} {r : Int32 × g_M} (h : x_X5_touching q q2 a4 n4 p1 p3 M = some r) : g_Con X yX5_touching cX5_touching 7 (some .int) 4 96 [.inr q, .inl p1, .inr q2, .inl p3, .inr a4] M r := by
  rw [x_X5_touching] at h
  refine g_con hok (by decide +kernel) (Nat.le_of_ble_eq_true rfl) (go_to (lv2 := [some (.inr q), some (.inl p1), some (.inr q2), some (.inl p3), some (.inr a4), none, none]) (own := RX5) ?_ (And.intro rfl (And.intro rfl (And.intro rfl (And.intro rfl (And.intro rfl trivial))))))
  refine go_iconst (pc := 0) (v := (0 : Int32)) dX5_touching_0 (by decide) ?_
  refine go_istore (pc := 1) (lv' := [some (.inr q), some (.inl p1), some (.inr q2), some (.inl p3), some (.inr a4), some (.inl (0 : Int32)), none]) dX5_touching_1 (by decide) rfl ?_
  refine go_iconst (pc := 3) (v := (0 : Int32)) dX5_touching_3 (by decide) ?_
  refine go_istore (pc := 4) (lv' := [some (.inr q), some (.inl p1), some (.inr q2), some (.inl p3), some (.inr a4), some (.inl (0 : Int32)), some (.inl (0 : Int32))]) dX5_touching_4 (by decide) rfl ?_
  exact go_to (z_X5_touching_L6 hok hq hq2 ha4  g_F _ _ _ _ _ h) (And.intro rfl (And.intro rfl (And.intro rfl (And.intro rfl (And.intro rfl (And.intro rfl (And.intro rfl trivial)))))))
def x_X5_hangingWith_L5 (q : Nat) (a2 n2 : Nat)  : Nat → Int32 → Int32 → Int32 → g_M → Option (Int32 × g_M)
  | 0, _, _, _, _ => none
  | n + 1, v1, v3, v4, M => (if (Int32.ofNat n2) ≤ v4 then (some (v3, M)) else ((if g_inb v4 n2 = true then (((x_X5_hangs q v1 (M a2 v4.toNatClampNeg) M).bind fun u2 => if u2.1 = 0 then (x_X5_hangingWith_L5 q a2 n2  n v1 v3 (v4 + (1 : Int32)) u2.2) else (x_X5_hangingWith_L5 q a2 n2  n v1 (v3 ||| ((1 : Int32) <<< (v4 &&& 31))) (v4 + (1 : Int32)) u2.2))) else none)))
set_option maxHeartbeats 4000000 in
set_option maxRecDepth 100000 in
theorem z_X5_hangingWith_L5 {X : g_X} (hok : g_ok X) {q : Nat} (hq : g_isM q) {a2 n2 : Nat} (ha2 : g_lay[a2]? = some (.inl n2)) {r : Int32 × g_M}  : ∀ (n : Nat) (v1 v3 v4 : Int32) (M : g_M), x_X5_hangingWith_L5 q a2 n2  n v1 v3 v4 M = some r → g_Go X cX5_hangingWith RX5 5 (some .int) 3 66 r 5 [some (.inr q), some (.inl v1), some (.inr a2), some (.inl v3), some (.inl v4)] [] M := by
  intro n
  induction n with
  | zero =>
    intro v1 v3 v4 M h
    rw [x_X5_hangingWith_L5] at h
    cases h
  | succ n ih =>
    intro v1 v3 v4 M h
    rw [x_X5_hangingWith_L5] at h
    refine go_iload (pc := 5) dX5_hangingWith_5 rfl ?_
    refine go_aload_n (pc := 7) dX5_hangingWith_7 rfl ?_
    refine go_alen (pc := 8) (n := n2) (v := (Int32.ofNat n2)) ha2 rfl dX5_hangingWith_8 ?_
    refine go_icmp_ge (pc := 9) (tgt := 37) dX5_hangingWith_9 (by decide) (fun e5 => ?_) (fun e5 => ?_)
    · replace h := (if_pos e5).symm.trans h
      refine go_iload_n (pc := 37) dX5_hangingWith_37 rfl ?_
      exact go_iret (pc := 38) (Option.some.inj h).symm rfl dX5_hangingWith_38 rfl
    · replace h := (if_neg e5).symm.trans h
      refine go_aload_n (pc := 12) dX5_hangingWith_12 rfl ?_
      refine go_iload_n (pc := 13) dX5_hangingWith_13 rfl ?_
      refine go_aload_n (pc := 14) dX5_hangingWith_14 rfl ?_
      refine go_iload (pc := 15) dX5_hangingWith_15 rfl ?_
      obtain ⟨i1, h⟩ := g_gd h
      refine go_iald (pc := 17) (n := n2) ha2 (g_inb_ok i1) dX5_hangingWith_17 ?_
      obtain ⟨u2, c3, h⟩ := g_bd h
      refine go_callV (pc := 18) (as := [.inl v1, .inl (M a2 v4.toNatClampNeg)]) (st := []) (r := u2.1) (M1 := u2.2) (z_X5_hangs hok hq c3) cw_X5_hangs ml_X5_75 hq rfl rfl (by decide) (Nat.le_of_ble_eq_true rfl) rfl dX5_hangingWith_18 ?_
      refine go_if_eq (pc := 21) (tgt := 31) dX5_hangingWith_21 (by decide) (fun e4 => ?_) (fun e4 => ?_)
      · replace h := (if_pos e4).symm.trans h
        refine go_iinc (pc := 31) (v := (1 : Int32)) (lv' := [some (.inr q), some (.inl v1), some (.inr a2), some (.inl v3), some (.inl (v4 + (1 : Int32)))]) dX5_hangingWith_31 rfl (by decide) (by decide) rfl ?_
        refine go_goto (pc := 34) (tgt := 5) dX5_hangingWith_34 (by decide) ?_
        exact go_to (ih _ _ _ _ h) (And.intro rfl (And.intro rfl (And.intro rfl (And.intro rfl (And.intro rfl trivial)))))
      · replace h := (if_neg e4).symm.trans h
        refine go_iload_n (pc := 24) dX5_hangingWith_24 rfl ?_
        refine go_iconst (pc := 25) (v := (1 : Int32)) dX5_hangingWith_25 (by decide) ?_
        refine go_iload (pc := 26) dX5_hangingWith_26 rfl ?_
        refine go_ishl (pc := 28) dX5_hangingWith_28 ?_
        refine go_ior (pc := 29) dX5_hangingWith_29 ?_
        refine go_istore_n (pc := 30) (lv' := [some (.inr q), some (.inl v1), some (.inr a2), some (.inl (v3 ||| ((1 : Int32) <<< (v4 &&& 31)))), some (.inl v4)]) dX5_hangingWith_30 (by decide) rfl ?_
        refine go_iinc (pc := 31) (v := (1 : Int32)) (lv' := [some (.inr q), some (.inl v1), some (.inr a2), some (.inl (v3 ||| ((1 : Int32) <<< (v4 &&& 31)))), some (.inl (v4 + (1 : Int32)))]) dX5_hangingWith_31 rfl (by decide) (by decide) rfl ?_
        refine go_goto (pc := 34) (tgt := 5) dX5_hangingWith_34 (by decide) ?_
        exact go_to (ih _ _ _ _ h) (And.intro rfl (And.intro rfl (And.intro rfl (And.intro rfl (And.intro rfl trivial)))))
def x_X5_hangingWith (q : Nat) (a2 n2 : Nat) (p1 : Int32) (M : g_M) : Option (Int32 × g_M) := (x_X5_hangingWith_L5 q a2 n2  g_F p1 (0 : Int32) (0 : Int32) M)
set_option maxHeartbeats 4000000 in
set_option maxRecDepth 100000 in
theorem z_X5_hangingWith {X : g_X} (hok : g_ok X) {q : Nat} (hq : g_isM q) {a2 n2 : Nat} (ha2 : g_lay[a2]? = some (.inl n2)) {p1 : Int32} {M : g_M} {r : Int32 × g_M} (h : x_X5_hangingWith q a2 n2 p1 M = some r) : g_Con X yX5_hangingWith cX5_hangingWith 5 (some .int) 3 66 [.inr q, .inl p1, .inr a2] M r := by
  rw [x_X5_hangingWith] at h
  refine g_con hok (by decide +kernel) (Nat.le_of_ble_eq_true rfl) (go_to (lv2 := [some (.inr q), some (.inl p1), some (.inr a2), none, none]) (own := RX5) ?_ (And.intro rfl (And.intro rfl (And.intro rfl trivial))))
  refine go_iconst (pc := 0) (v := (0 : Int32)) dX5_hangingWith_0 (by decide) ?_
  refine go_istore_n (pc := 1) (lv' := [some (.inr q), some (.inl p1), some (.inr a2), some (.inl (0 : Int32)), none]) dX5_hangingWith_1 (by decide) rfl ?_
  refine go_iconst (pc := 2) (v := (0 : Int32)) dX5_hangingWith_2 (by decide) ?_
  refine go_istore (pc := 3) (lv' := [some (.inr q), some (.inl p1), some (.inr a2), some (.inl (0 : Int32)), some (.inl (0 : Int32))]) dX5_hangingWith_3 (by decide) rfl ?_
  exact go_to (z_X5_hangingWith_L5 hok hq ha2  g_F _ _ _ _ h) (And.intro rfl (And.intro rfl (And.intro rfl (And.intro rfl (And.intro rfl trivial)))))
def x_X2_cellAt (a0 n0 : Nat) (p1 : Int32) (M : g_M) : Option (Int32 × g_M) := (if p1 < 0 then (some ((0 : Int32), M)) else (if (Int32.ofNat n0) ≤ p1 then (some ((0 : Int32), M)) else ((if g_inb p1 n0 = true then (some ((M a0 p1.toNatClampNeg), M)) else none))))
set_option maxHeartbeats 4000000 in
set_option maxRecDepth 100000 in
theorem z_X2_cellAt {X : g_X} (hok : g_ok X) {a0 n0 : Nat} (ha0 : g_lay[a0]? = some (.inl n0)) {p1 : Int32} {M : g_M} {r : Int32 × g_M} (h : x_X2_cellAt a0 n0 p1 M = some r) : g_Con X yX2_cellAt cX2_cellAt 2 (some .int) 0 0 [.inr a0, .inl p1] M r := by
  rw [x_X2_cellAt] at h
  refine g_con hok (by decide +kernel) (Nat.le_of_ble_eq_true rfl) (go_to (lv2 := [some (.inr a0), some (.inl p1)]) (own := RX2) ?_ (And.intro rfl (And.intro rfl trivial)))
  refine go_iload_n (pc := 0) dX2_cellAt_0 rfl ?_
  refine go_if_lt (pc := 1) (tgt := 16) dX2_cellAt_1 (by decide) (fun e3 => ?_) (fun e3 => ?_)
  · replace h := (if_pos e3).symm.trans h
    refine go_iconst (pc := 16) (v := (0 : Int32)) dX2_cellAt_16 (by decide) ?_
    exact go_iret (pc := 17) (Option.some.inj h).symm rfl dX2_cellAt_17 rfl
  · replace h := (if_neg e3).symm.trans h
    refine go_iload_n (pc := 4) dX2_cellAt_4 rfl ?_
    refine go_aload_n (pc := 5) dX2_cellAt_5 rfl ?_
    refine go_alen (pc := 6) (n := n0) (v := (Int32.ofNat n0)) ha0 rfl dX2_cellAt_6 ?_
    refine go_icmp_ge (pc := 7) (tgt := 16) dX2_cellAt_7 (by decide) (fun e2 => ?_) (fun e2 => ?_)
    · replace h := (if_pos e2).symm.trans h
      refine go_iconst (pc := 16) (v := (0 : Int32)) dX2_cellAt_16 (by decide) ?_
      exact go_iret (pc := 17) (Option.some.inj h).symm rfl dX2_cellAt_17 rfl
    · replace h := (if_neg e2).symm.trans h
      refine go_aload_n (pc := 10) dX2_cellAt_10 rfl ?_
      refine go_iload_n (pc := 11) dX2_cellAt_11 rfl ?_
      obtain ⟨i1, h⟩ := g_gd h
      refine go_iald (pc := 12) (n := n0) ha0 (g_inb_ok i1) dX2_cellAt_12 ?_
      refine go_goto (pc := 13) (tgt := 17) dX2_cellAt_13 (by decide) ?_
      exact go_iret (pc := 17) (Option.some.inj h).symm rfl dX2_cellAt_17 rfl
def x_X2_setCell (a0 n0 : Nat) (p1 p2 : Int32) (M : g_M) : Option (Int32 × g_M) := (if p1 < 0 then (some (0, M)) else (if (Int32.ofNat n0) ≤ p1 then (some (0, M)) else ((if g_inb p1 n0 = true then (some (0, (g_upd M a0 p1.toNatClampNeg p2))) else none))))
set_option maxHeartbeats 4000000 in
set_option maxRecDepth 100000 in
theorem z_X2_setCell {X : g_X} (hok : g_ok X) {a0 n0 : Nat} (ha0 : g_lay[a0]? = some (.inl n0)) {p1 p2 : Int32} {M : g_M} {r : Int32 × g_M} (h : x_X2_setCell a0 n0 p1 p2 M = some r) : g_Con X yX2_setCell cX2_setCell 3 none 0 0 [.inr a0, .inl p1, .inl p2] M r := by
  rw [x_X2_setCell] at h
  refine g_con hok (by decide +kernel) (Nat.le_of_ble_eq_true rfl) (go_to (lv2 := [some (.inr a0), some (.inl p1), some (.inl p2)]) (own := RX2) ?_ (And.intro rfl (And.intro rfl (And.intro rfl trivial))))
  refine go_iload_n (pc := 0) dX2_setCell_0 rfl ?_
  refine go_if_lt (pc := 1) (tgt := 14) dX2_setCell_1 (by decide) (fun e3 => ?_) (fun e3 => ?_)
  · replace h := (if_pos e3).symm.trans h
    exact go_vret (pc := 14) (Option.some.inj h).symm rfl dX2_setCell_14
  · replace h := (if_neg e3).symm.trans h
    refine go_iload_n (pc := 4) dX2_setCell_4 rfl ?_
    refine go_aload_n (pc := 5) dX2_setCell_5 rfl ?_
    refine go_alen (pc := 6) (n := n0) (v := (Int32.ofNat n0)) ha0 rfl dX2_setCell_6 ?_
    refine go_icmp_ge (pc := 7) (tgt := 14) dX2_setCell_7 (by decide) (fun e2 => ?_) (fun e2 => ?_)
    · replace h := (if_pos e2).symm.trans h
      exact go_vret (pc := 14) (Option.some.inj h).symm rfl dX2_setCell_14
    · replace h := (if_neg e2).symm.trans h
      refine go_aload_n (pc := 10) dX2_setCell_10 rfl ?_
      refine go_iload_n (pc := 11) dX2_setCell_11 rfl ?_
      refine go_iload_n (pc := 12) dX2_setCell_12 rfl ?_
      obtain ⟨i1, h⟩ := g_gd h
      refine go_iast (pc := 13) (n := n0) ha0 (g_inb_ok i1) dX2_setCell_13 ?_
      exact go_vret (pc := 14) (Option.some.inj h).symm rfl dX2_setCell_14
def x_X2_tideAt (q : Nat) (p1 : Int32) (M : g_M) : Option (Int32 × g_M) := (((x_X2_cellAt (q + 1) 12 p1 M).bind fun u1 => some (u1.1, u1.2)))
set_option maxHeartbeats 4000000 in
set_option maxRecDepth 100000 in
theorem z_X2_tideAt {X : g_X} (hok : g_ok X) {q : Nat} (hq : g_isH q) {p1 : Int32} {M : g_M} {r : Int32 × g_M} (h : x_X2_tideAt q p1 M = some r) : g_Con X yX2_tideAt cX2_tideAt 2 (some .int) 1 21 [.inr q, .inl p1] M r := by
  rw [x_X2_tideAt] at h
  refine g_con hok (by decide +kernel) (Nat.le_of_ble_eq_true rfl) (go_to (lv2 := [some (.inr q), some (.inl p1)]) (own := RX2) ?_ (And.intro rfl (And.intro rfl trivial)))
  refine go_aload_n (pc := 0) dX2_tideAt_0 rfl ?_
  refine gf_2_9 (pc := 1) hq dX2_tideAt_1 ?_
  refine go_iload_n (pc := 4) dX2_tideAt_4 rfl ?_
  obtain ⟨u1, c2, h⟩ := g_bd h
  refine go_callS (pc := 5) (as := [.inr (q + 1), .inl p1]) (st := []) (r := u1.1) (M1 := u1.2) (z_X2_cellAt hok hq.2.1 c2) cw_X2_cellAt ml_X2_71 (by decide) (Nat.le_of_ble_eq_true rfl) rfl dX2_tideAt_5 ?_
  exact go_iret (pc := 8) (Option.some.inj h).symm rfl dX2_tideAt_8 rfl
def x_X2_windAt (q : Nat) (p1 : Int32) (M : g_M) : Option (Int32 × g_M) := (((x_X2_cellAt (q + 2) 12 p1 M).bind fun u1 => some (u1.1, u1.2)))
set_option maxHeartbeats 4000000 in
set_option maxRecDepth 100000 in
theorem z_X2_windAt {X : g_X} (hok : g_ok X) {q : Nat} (hq : g_isH q) {p1 : Int32} {M : g_M} {r : Int32 × g_M} (h : x_X2_windAt q p1 M = some r) : g_Con X yX2_windAt cX2_windAt 2 (some .int) 1 21 [.inr q, .inl p1] M r := by
  rw [x_X2_windAt] at h
  refine g_con hok (by decide +kernel) (Nat.le_of_ble_eq_true rfl) (go_to (lv2 := [some (.inr q), some (.inl p1)]) (own := RX2) ?_ (And.intro rfl (And.intro rfl trivial)))
  refine go_aload_n (pc := 0) dX2_windAt_0 rfl ?_
  refine gf_2_15 (pc := 1) hq dX2_windAt_1 ?_
  refine go_iload_n (pc := 4) dX2_windAt_4 rfl ?_
  obtain ⟨u1, c2, h⟩ := g_bd h
  refine go_callS (pc := 5) (as := [.inr (q + 2), .inl p1]) (st := []) (r := u1.1) (M1 := u1.2) (z_X2_cellAt hok hq.2.2.1 c2) cw_X2_cellAt ml_X2_71 (by decide) (Nat.le_of_ble_eq_true rfl) rfl dX2_windAt_5 ?_
  exact go_iret (pc := 8) (Option.some.inj h).symm rfl dX2_windAt_8 rfl
def x_X2_setTide (q : Nat) (p1 p2 : Int32) (M : g_M) : Option (Int32 × g_M) := (((x_X2_setCell (q + 1) 12 p1 p2 M).bind fun u1 => some (0, u1.2)))
set_option maxHeartbeats 4000000 in
set_option maxRecDepth 100000 in
theorem z_X2_setTide {X : g_X} (hok : g_ok X) {q : Nat} (hq : g_isH q) {p1 p2 : Int32} {M : g_M} {r : Int32 × g_M} (h : x_X2_setTide q p1 p2 M = some r) : g_Con X yX2_setTide cX2_setTide 3 none 1 22 [.inr q, .inl p1, .inl p2] M r := by
  rw [x_X2_setTide] at h
  refine g_con hok (by decide +kernel) (Nat.le_of_ble_eq_true rfl) (go_to (lv2 := [some (.inr q), some (.inl p1), some (.inl p2)]) (own := RX2) ?_ (And.intro rfl (And.intro rfl (And.intro rfl trivial))))
  refine go_aload_n (pc := 0) dX2_setTide_0 rfl ?_
  refine gf_2_9 (pc := 1) hq dX2_setTide_1 ?_
  refine go_iload_n (pc := 4) dX2_setTide_4 rfl ?_
  refine go_iload_n (pc := 5) dX2_setTide_5 rfl ?_
  obtain ⟨u1, c2, h⟩ := g_bd h
  refine go_callS (pc := 6) (as := [.inr (q + 1), .inl p1, .inl p2]) (st := []) (r := u1.1) (M1 := u1.2) (z_X2_setCell hok hq.2.1 c2) cw_X2_setCell ml_X2_75 (by decide) (Nat.le_of_ble_eq_true rfl) rfl dX2_setTide_6 ?_
  exact go_vret (pc := 9) (Option.some.inj h).symm rfl dX2_setTide_9
def x_X2_setWind (q : Nat) (p1 p2 : Int32) (M : g_M) : Option (Int32 × g_M) := (((x_X2_setCell (q + 2) 12 p1 p2 M).bind fun u1 => some (0, u1.2)))
set_option maxHeartbeats 4000000 in
set_option maxRecDepth 100000 in
theorem z_X2_setWind {X : g_X} (hok : g_ok X) {q : Nat} (hq : g_isH q) {p1 p2 : Int32} {M : g_M} {r : Int32 × g_M} (h : x_X2_setWind q p1 p2 M = some r) : g_Con X yX2_setWind cX2_setWind 3 none 1 22 [.inr q, .inl p1, .inl p2] M r := by
  rw [x_X2_setWind] at h
  refine g_con hok (by decide +kernel) (Nat.le_of_ble_eq_true rfl) (go_to (lv2 := [some (.inr q), some (.inl p1), some (.inl p2)]) (own := RX2) ?_ (And.intro rfl (And.intro rfl (And.intro rfl trivial))))
  refine go_aload_n (pc := 0) dX2_setWind_0 rfl ?_
  refine gf_2_15 (pc := 1) hq dX2_setWind_1 ?_
  refine go_iload_n (pc := 4) dX2_setWind_4 rfl ?_
  refine go_iload_n (pc := 5) dX2_setWind_5 rfl ?_
  obtain ⟨u1, c2, h⟩ := g_bd h
  refine go_callS (pc := 6) (as := [.inr (q + 2), .inl p1, .inl p2]) (st := []) (r := u1.1) (M1 := u1.2) (z_X2_setCell hok hq.2.2.1 c2) cw_X2_setCell ml_X2_75 (by decide) (Nat.le_of_ble_eq_true rfl) rfl dX2_setWind_6 ?_
  exact go_vret (pc := 9) (Option.some.inj h).symm rfl dX2_setWind_9
def x_X2_hasRing (q : Nat) (p1 : Int32) (M : g_M) : Option (Int32 × g_M) := (if p1 < 0 then (some ((0 : Int32), M)) else (if (M q 5) ≤ p1 then (some ((0 : Int32), M)) else (some ((1 : Int32), M))))
set_option maxHeartbeats 4000000 in
set_option maxRecDepth 100000 in
theorem z_X2_hasRing {X : g_X} (hok : g_ok X) {q : Nat} (hq : g_isH q) {p1 : Int32} {M : g_M} {r : Int32 × g_M} (h : x_X2_hasRing q p1 M = some r) : g_Con X yX2_hasRing cX2_hasRing 2 (some .boolean) 0 0 [.inr q, .inl p1] M r := by
  rw [x_X2_hasRing] at h
  refine g_con hok (by decide +kernel) (Nat.le_of_ble_eq_true rfl) (go_to (lv2 := [some (.inr q), some (.inl p1)]) (own := RX2) ?_ (And.intro rfl (And.intro rfl trivial)))
  refine go_iload_n (pc := 0) dX2_hasRing_0 rfl ?_
  refine go_if_lt (pc := 1) (tgt := 16) dX2_hasRing_1 (by decide) (fun e2 => ?_) (fun e2 => ?_)
  · replace h := (if_pos e2).symm.trans h
    refine go_iconst (pc := 16) (v := (0 : Int32)) dX2_hasRing_16 (by decide) ?_
    exact go_iret (pc := 17) (Option.some.inj h).symm rfl dX2_hasRing_17 rfl
  · replace h := (if_neg e2).symm.trans h
    refine go_iload_n (pc := 4) dX2_hasRing_4 rfl ?_
    refine go_aload_n (pc := 5) dX2_hasRing_5 rfl ?_
    refine gf_2_27 (pc := 6) hq dX2_hasRing_6 ?_
    refine go_icmp_ge (pc := 9) (tgt := 16) dX2_hasRing_9 (by decide) (fun e1 => ?_) (fun e1 => ?_)
    · replace h := (if_pos e1).symm.trans h
      refine go_iconst (pc := 16) (v := (0 : Int32)) dX2_hasRing_16 (by decide) ?_
      exact go_iret (pc := 17) (Option.some.inj h).symm rfl dX2_hasRing_17 rfl
    · replace h := (if_neg e1).symm.trans h
      refine go_iconst (pc := 12) (v := (1 : Int32)) dX2_hasRing_12 (by decide) ?_
      refine go_goto (pc := 13) (tgt := 17) dX2_hasRing_13 (by decide) ?_
      exact go_iret (pc := 17) (Option.some.inj h).symm rfl dX2_hasRing_17 rfl
def x_X2_hasBoat (q : Nat) (p1 : Int32) (M : g_M) : Option (Int32 × g_M) := (if p1 < 0 then (some ((0 : Int32), M)) else (if (M q 6) ≤ p1 then (some ((0 : Int32), M)) else (some ((1 : Int32), M))))
set_option maxHeartbeats 4000000 in
set_option maxRecDepth 100000 in
theorem z_X2_hasBoat {X : g_X} (hok : g_ok X) {q : Nat} (hq : g_isH q) {p1 : Int32} {M : g_M} {r : Int32 × g_M} (h : x_X2_hasBoat q p1 M = some r) : g_Con X yX2_hasBoat cX2_hasBoat 2 (some .boolean) 0 0 [.inr q, .inl p1] M r := by
  rw [x_X2_hasBoat] at h
  refine g_con hok (by decide +kernel) (Nat.le_of_ble_eq_true rfl) (go_to (lv2 := [some (.inr q), some (.inl p1)]) (own := RX2) ?_ (And.intro rfl (And.intro rfl trivial)))
  refine go_iload_n (pc := 0) dX2_hasBoat_0 rfl ?_
  refine go_if_lt (pc := 1) (tgt := 16) dX2_hasBoat_1 (by decide) (fun e2 => ?_) (fun e2 => ?_)
  · replace h := (if_pos e2).symm.trans h
    refine go_iconst (pc := 16) (v := (0 : Int32)) dX2_hasBoat_16 (by decide) ?_
    exact go_iret (pc := 17) (Option.some.inj h).symm rfl dX2_hasBoat_17 rfl
  · replace h := (if_neg e2).symm.trans h
    refine go_iload_n (pc := 4) dX2_hasBoat_4 rfl ?_
    refine go_aload_n (pc := 5) dX2_hasBoat_5 rfl ?_
    refine gf_2_31 (pc := 6) hq dX2_hasBoat_6 ?_
    refine go_icmp_ge (pc := 9) (tgt := 16) dX2_hasBoat_9 (by decide) (fun e1 => ?_) (fun e1 => ?_)
    · replace h := (if_pos e1).symm.trans h
      refine go_iconst (pc := 16) (v := (0 : Int32)) dX2_hasBoat_16 (by decide) ?_
      exact go_iret (pc := 17) (Option.some.inj h).symm rfl dX2_hasBoat_17 rfl
    · replace h := (if_neg e1).symm.trans h
      refine go_iconst (pc := 12) (v := (1 : Int32)) dX2_hasBoat_12 (by decide) ?_
      refine go_goto (pc := 13) (tgt := 17) dX2_hasBoat_13 (by decide) ?_
      exact go_iret (pc := 17) (Option.some.inj h).symm rfl dX2_hasBoat_17 rfl
def x_X2_hasRamp (q : Nat) (p1 : Int32) (M : g_M) : Option (Int32 × g_M) := (if p1 < 0 then (some ((0 : Int32), M)) else (if (M q 7) ≤ p1 then (some ((0 : Int32), M)) else (some ((1 : Int32), M))))
set_option maxHeartbeats 4000000 in
set_option maxRecDepth 100000 in
theorem z_X2_hasRamp {X : g_X} (hok : g_ok X) {q : Nat} (hq : g_isH q) {p1 : Int32} {M : g_M} {r : Int32 × g_M} (h : x_X2_hasRamp q p1 M = some r) : g_Con X yX2_hasRamp cX2_hasRamp 2 (some .boolean) 0 0 [.inr q, .inl p1] M r := by
  rw [x_X2_hasRamp] at h
  refine g_con hok (by decide +kernel) (Nat.le_of_ble_eq_true rfl) (go_to (lv2 := [some (.inr q), some (.inl p1)]) (own := RX2) ?_ (And.intro rfl (And.intro rfl trivial)))
  refine go_iload_n (pc := 0) dX2_hasRamp_0 rfl ?_
  refine go_if_lt (pc := 1) (tgt := 16) dX2_hasRamp_1 (by decide) (fun e2 => ?_) (fun e2 => ?_)
  · replace h := (if_pos e2).symm.trans h
    refine go_iconst (pc := 16) (v := (0 : Int32)) dX2_hasRamp_16 (by decide) ?_
    exact go_iret (pc := 17) (Option.some.inj h).symm rfl dX2_hasRamp_17 rfl
  · replace h := (if_neg e2).symm.trans h
    refine go_iload_n (pc := 4) dX2_hasRamp_4 rfl ?_
    refine go_aload_n (pc := 5) dX2_hasRamp_5 rfl ?_
    refine gf_2_34 (pc := 6) hq dX2_hasRamp_6 ?_
    refine go_icmp_ge (pc := 9) (tgt := 16) dX2_hasRamp_9 (by decide) (fun e1 => ?_) (fun e1 => ?_)
    · replace h := (if_pos e1).symm.trans h
      refine go_iconst (pc := 16) (v := (0 : Int32)) dX2_hasRamp_16 (by decide) ?_
      exact go_iret (pc := 17) (Option.some.inj h).symm rfl dX2_hasRamp_17 rfl
    · replace h := (if_neg e1).symm.trans h
      refine go_iconst (pc := 12) (v := (1 : Int32)) dX2_hasRamp_12 (by decide) ?_
      refine go_goto (pc := 13) (tgt := 17) dX2_hasRamp_13 (by decide) ?_
      exact go_iret (pc := 17) (Option.some.inj h).symm rfl dX2_hasRamp_17 rfl
def x_X2_ringCell (q : Nat) (p1 p2 : Int32) (M : g_M) : Option (Int32 × g_M) := (((x_X2_cellAt (q + 3) 12 ((p1 * (2 : Int32)) + p2) M).bind fun u1 => some (u1.1, u1.2)))
set_option maxHeartbeats 4000000 in
set_option maxRecDepth 100000 in
theorem z_X2_ringCell {X : g_X} (hok : g_ok X) {q : Nat} (hq : g_isH q) {p1 p2 : Int32} {M : g_M} {r : Int32 × g_M} (h : x_X2_ringCell q p1 p2 M = some r) : g_Con X yX2_ringCell cX2_ringCell 3 (some .int) 1 21 [.inr q, .inl p1, .inl p2] M r := by
  rw [x_X2_ringCell] at h
  refine g_con hok (by decide +kernel) (Nat.le_of_ble_eq_true rfl) (go_to (lv2 := [some (.inr q), some (.inl p1), some (.inl p2)]) (own := RX2) ?_ (And.intro rfl (And.intro rfl (And.intro rfl trivial))))
  refine go_aload_n (pc := 0) dX2_ringCell_0 rfl ?_
  refine gf_2_18 (pc := 1) hq dX2_ringCell_1 ?_
  refine go_iload_n (pc := 4) dX2_ringCell_4 rfl ?_
  refine go_iconst (pc := 5) (v := (2 : Int32)) dX2_ringCell_5 (by decide) ?_
  refine go_imul (pc := 6) dX2_ringCell_6 ?_
  refine go_iload_n (pc := 7) dX2_ringCell_7 rfl ?_
  refine go_iadd (pc := 8) dX2_ringCell_8 ?_
  obtain ⟨u1, c2, h⟩ := g_bd h
  refine go_callS (pc := 9) (as := [.inr (q + 3), .inl ((p1 * (2 : Int32)) + p2)]) (st := []) (r := u1.1) (M1 := u1.2) (z_X2_cellAt hok hq.2.2.2.1 c2) cw_X2_cellAt ml_X2_71 (by decide) (Nat.le_of_ble_eq_true rfl) rfl dX2_ringCell_9 ?_
  exact go_iret (pc := 12) (Option.some.inj h).symm rfl dX2_ringCell_12 rfl
def x_X2_boatCell (q : Nat) (p1 p2 : Int32) (M : g_M) : Option (Int32 × g_M) := (((x_X2_cellAt (q + 4) 35 ((p1 * (7 : Int32)) + p2) M).bind fun u1 => some (u1.1, u1.2)))
set_option maxHeartbeats 4000000 in
set_option maxRecDepth 100000 in
theorem z_X2_boatCell {X : g_X} (hok : g_ok X) {q : Nat} (hq : g_isH q) {p1 p2 : Int32} {M : g_M} {r : Int32 × g_M} (h : x_X2_boatCell q p1 p2 M = some r) : g_Con X yX2_boatCell cX2_boatCell 3 (some .int) 1 21 [.inr q, .inl p1, .inl p2] M r := by
  rw [x_X2_boatCell] at h
  refine g_con hok (by decide +kernel) (Nat.le_of_ble_eq_true rfl) (go_to (lv2 := [some (.inr q), some (.inl p1), some (.inl p2)]) (own := RX2) ?_ (And.intro rfl (And.intro rfl (And.intro rfl trivial))))
  refine go_aload_n (pc := 0) dX2_boatCell_0 rfl ?_
  refine gf_2_21 (pc := 1) hq dX2_boatCell_1 ?_
  refine go_iload_n (pc := 4) dX2_boatCell_4 rfl ?_
  refine go_bipush (pc := 5) (v := (7 : Int32)) dX2_boatCell_5 (by decide) ?_
  refine go_imul (pc := 7) dX2_boatCell_7 ?_
  refine go_iload_n (pc := 8) dX2_boatCell_8 rfl ?_
  refine go_iadd (pc := 9) dX2_boatCell_9 ?_
  obtain ⟨u1, c2, h⟩ := g_bd h
  refine go_callS (pc := 10) (as := [.inr (q + 4), .inl ((p1 * (7 : Int32)) + p2)]) (st := []) (r := u1.1) (M1 := u1.2) (z_X2_cellAt hok hq.2.2.2.2.1 c2) cw_X2_cellAt ml_X2_71 (by decide) (Nat.le_of_ble_eq_true rfl) rfl dX2_boatCell_10 ?_
  exact go_iret (pc := 13) (Option.some.inj h).symm rfl dX2_boatCell_13 rfl
def x_X2_setBoatCell (q : Nat) (p1 p2 p3 : Int32) (M : g_M) : Option (Int32 × g_M) := (((x_X2_setCell (q + 4) 35 ((p1 * (7 : Int32)) + p2) p3 M).bind fun u1 => some (0, u1.2)))
set_option maxHeartbeats 4000000 in
set_option maxRecDepth 100000 in
theorem z_X2_setBoatCell {X : g_X} (hok : g_ok X) {q : Nat} (hq : g_isH q) {p1 p2 p3 : Int32} {M : g_M} {r : Int32 × g_M} (h : x_X2_setBoatCell q p1 p2 p3 M = some r) : g_Con X yX2_setBoatCell cX2_setBoatCell 4 none 1 22 [.inr q, .inl p1, .inl p2, .inl p3] M r := by
  rw [x_X2_setBoatCell] at h
  refine g_con hok (by decide +kernel) (Nat.le_of_ble_eq_true rfl) (go_to (lv2 := [some (.inr q), some (.inl p1), some (.inl p2), some (.inl p3)]) (own := RX2) ?_ (And.intro rfl (And.intro rfl (And.intro rfl (And.intro rfl trivial)))))
  refine go_aload_n (pc := 0) dX2_setBoatCell_0 rfl ?_
  refine gf_2_21 (pc := 1) hq dX2_setBoatCell_1 ?_
  refine go_iload_n (pc := 4) dX2_setBoatCell_4 rfl ?_
  refine go_bipush (pc := 5) (v := (7 : Int32)) dX2_setBoatCell_5 (by decide) ?_
  refine go_imul (pc := 7) dX2_setBoatCell_7 ?_
  refine go_iload_n (pc := 8) dX2_setBoatCell_8 rfl ?_
  refine go_iadd (pc := 9) dX2_setBoatCell_9 ?_
  refine go_iload_n (pc := 10) dX2_setBoatCell_10 rfl ?_
  obtain ⟨u1, c2, h⟩ := g_bd h
  refine go_callS (pc := 11) (as := [.inr (q + 4), .inl ((p1 * (7 : Int32)) + p2), .inl p3]) (st := []) (r := u1.1) (M1 := u1.2) (z_X2_setCell hok hq.2.2.2.2.1 c2) cw_X2_setCell ml_X2_75 (by decide) (Nat.le_of_ble_eq_true rfl) rfl dX2_setBoatCell_11 ?_
  exact go_vret (pc := 14) (Option.some.inj h).symm rfl dX2_setBoatCell_14
def x_X2_rampCell (q : Nat) (p1 p2 : Int32) (M : g_M) : Option (Int32 × g_M) := (((x_X2_cellAt (q + 5) 6 ((p1 * (2 : Int32)) + p2) M).bind fun u1 => some (u1.1, u1.2)))
set_option maxHeartbeats 4000000 in
set_option maxRecDepth 100000 in
theorem z_X2_rampCell {X : g_X} (hok : g_ok X) {q : Nat} (hq : g_isH q) {p1 p2 : Int32} {M : g_M} {r : Int32 × g_M} (h : x_X2_rampCell q p1 p2 M = some r) : g_Con X yX2_rampCell cX2_rampCell 3 (some .int) 1 21 [.inr q, .inl p1, .inl p2] M r := by
  rw [x_X2_rampCell] at h
  refine g_con hok (by decide +kernel) (Nat.le_of_ble_eq_true rfl) (go_to (lv2 := [some (.inr q), some (.inl p1), some (.inl p2)]) (own := RX2) ?_ (And.intro rfl (And.intro rfl (And.intro rfl trivial))))
  refine go_aload_n (pc := 0) dX2_rampCell_0 rfl ?_
  refine gf_2_24 (pc := 1) hq dX2_rampCell_1 ?_
  refine go_iload_n (pc := 4) dX2_rampCell_4 rfl ?_
  refine go_iconst (pc := 5) (v := (2 : Int32)) dX2_rampCell_5 (by decide) ?_
  refine go_imul (pc := 6) dX2_rampCell_6 ?_
  refine go_iload_n (pc := 7) dX2_rampCell_7 rfl ?_
  refine go_iadd (pc := 8) dX2_rampCell_8 ?_
  obtain ⟨u1, c2, h⟩ := g_bd h
  refine go_callS (pc := 9) (as := [.inr (q + 5), .inl ((p1 * (2 : Int32)) + p2)]) (st := []) (r := u1.1) (M1 := u1.2) (z_X2_cellAt hok hq.2.2.2.2.2 c2) cw_X2_cellAt ml_X2_71 (by decide) (Nat.le_of_ble_eq_true rfl) rfl dX2_rampCell_9 ?_
  exact go_iret (pc := 12) (Option.some.inj h).symm rfl dX2_rampCell_12 rfl
def x_X2_addRing (q : Nat) (p1 p2 : Int32) (M : g_M) : Option (Int32 × g_M) := (((x_X2_setCell (q + 3) 12 (((M q 5) * (2 : Int32)) + (0 : Int32)) p1 M).bind fun u1 => ((x_X2_setCell (q + 3) 12 (((u1.2 q 5) * (2 : Int32)) + (1 : Int32)) p2 u1.2).bind fun u3 => some (0, (g_upd u3.2 q 5 ((u3.2 q 5) + (1 : Int32)))))))
set_option maxHeartbeats 4000000 in
set_option maxRecDepth 100000 in
theorem z_X2_addRing {X : g_X} (hok : g_ok X) {q : Nat} (hq : g_isH q) {p1 p2 : Int32} {M : g_M} {r : Int32 × g_M} (h : x_X2_addRing q p1 p2 M = some r) : g_Con X yX2_addRing cX2_addRing 3 none 1 22 [.inr q, .inl p1, .inl p2] M r := by
  rw [x_X2_addRing] at h
  refine g_con hok (by decide +kernel) (Nat.le_of_ble_eq_true rfl) (go_to (lv2 := [some (.inr q), some (.inl p1), some (.inl p2)]) (own := RX2) ?_ (And.intro rfl (And.intro rfl (And.intro rfl trivial))))
  refine go_aload_n (pc := 0) dX2_addRing_0 rfl ?_
  refine gf_2_18 (pc := 1) hq dX2_addRing_1 ?_
  refine go_aload_n (pc := 4) dX2_addRing_4 rfl ?_
  refine gf_2_27 (pc := 5) hq dX2_addRing_5 ?_
  refine go_iconst (pc := 8) (v := (2 : Int32)) dX2_addRing_8 (by decide) ?_
  refine go_imul (pc := 9) dX2_addRing_9 ?_
  refine go_iconst (pc := 10) (v := (0 : Int32)) dX2_addRing_10 (by decide) ?_
  refine go_iadd (pc := 11) dX2_addRing_11 ?_
  refine go_iload_n (pc := 12) dX2_addRing_12 rfl ?_
  obtain ⟨u1, c2, h⟩ := g_bd h
  refine go_callS (pc := 13) (as := [.inr (q + 3), .inl (((M q 5) * (2 : Int32)) + (0 : Int32)), .inl p1]) (st := []) (r := u1.1) (M1 := u1.2) (z_X2_setCell hok hq.2.2.2.1 c2) cw_X2_setCell ml_X2_75 (by decide) (Nat.le_of_ble_eq_true rfl) rfl dX2_addRing_13 ?_
  refine go_aload_n (pc := 16) dX2_addRing_16 rfl ?_
  refine gf_2_18 (pc := 17) hq dX2_addRing_17 ?_
  refine go_aload_n (pc := 20) dX2_addRing_20 rfl ?_
  refine gf_2_27 (pc := 21) hq dX2_addRing_21 ?_
  refine go_iconst (pc := 24) (v := (2 : Int32)) dX2_addRing_24 (by decide) ?_
  refine go_imul (pc := 25) dX2_addRing_25 ?_
  refine go_iconst (pc := 26) (v := (1 : Int32)) dX2_addRing_26 (by decide) ?_
  refine go_iadd (pc := 27) dX2_addRing_27 ?_
  refine go_iload_n (pc := 28) dX2_addRing_28 rfl ?_
  obtain ⟨u3, c4, h⟩ := g_bd h
  refine go_callS (pc := 29) (as := [.inr (q + 3), .inl (((u1.2 q 5) * (2 : Int32)) + (1 : Int32)), .inl p2]) (st := []) (r := u3.1) (M1 := u3.2) (z_X2_setCell hok hq.2.2.2.1 c4) cw_X2_setCell ml_X2_75 (by decide) (Nat.le_of_ble_eq_true rfl) rfl dX2_addRing_29 ?_
  refine go_aload_n (pc := 32) dX2_addRing_32 rfl ?_
  refine go_dup (pc := 33) dX2_addRing_33 ?_
  refine gf_2_27 (pc := 34) hq dX2_addRing_34 ?_
  refine go_iconst (pc := 37) (v := (1 : Int32)) dX2_addRing_37 (by decide) ?_
  refine go_iadd (pc := 38) dX2_addRing_38 ?_
  refine gp_2_27 (pc := 39) hq dX2_addRing_39 ?_
  exact go_vret (pc := 42) (Option.some.inj h).symm rfl dX2_addRing_42
def x_X2_addRamp (q : Nat) (p1 p2 : Int32) (M : g_M) : Option (Int32 × g_M) := (((x_X2_setCell (q + 5) 6 (((M q 7) * (2 : Int32)) + (0 : Int32)) p1 M).bind fun u1 => ((x_X2_setCell (q + 5) 6 (((u1.2 q 7) * (2 : Int32)) + (1 : Int32)) p2 u1.2).bind fun u3 => some (0, (g_upd u3.2 q 7 ((u3.2 q 7) + (1 : Int32)))))))
set_option maxHeartbeats 4000000 in
set_option maxRecDepth 100000 in
theorem z_X2_addRamp {X : g_X} (hok : g_ok X) {q : Nat} (hq : g_isH q) {p1 p2 : Int32} {M : g_M} {r : Int32 × g_M} (h : x_X2_addRamp q p1 p2 M = some r) : g_Con X yX2_addRamp cX2_addRamp 3 none 1 22 [.inr q, .inl p1, .inl p2] M r := by
  rw [x_X2_addRamp] at h
  refine g_con hok (by decide +kernel) (Nat.le_of_ble_eq_true rfl) (go_to (lv2 := [some (.inr q), some (.inl p1), some (.inl p2)]) (own := RX2) ?_ (And.intro rfl (And.intro rfl (And.intro rfl trivial))))
  refine go_aload_n (pc := 0) dX2_addRamp_0 rfl ?_
  refine gf_2_24 (pc := 1) hq dX2_addRamp_1 ?_
  refine go_aload_n (pc := 4) dX2_addRamp_4 rfl ?_
  refine gf_2_34 (pc := 5) hq dX2_addRamp_5 ?_
  refine go_iconst (pc := 8) (v := (2 : Int32)) dX2_addRamp_8 (by decide) ?_
  refine go_imul (pc := 9) dX2_addRamp_9 ?_
  refine go_iconst (pc := 10) (v := (0 : Int32)) dX2_addRamp_10 (by decide) ?_
  refine go_iadd (pc := 11) dX2_addRamp_11 ?_
  refine go_iload_n (pc := 12) dX2_addRamp_12 rfl ?_
  obtain ⟨u1, c2, h⟩ := g_bd h
  refine go_callS (pc := 13) (as := [.inr (q + 5), .inl (((M q 7) * (2 : Int32)) + (0 : Int32)), .inl p1]) (st := []) (r := u1.1) (M1 := u1.2) (z_X2_setCell hok hq.2.2.2.2.2 c2) cw_X2_setCell ml_X2_75 (by decide) (Nat.le_of_ble_eq_true rfl) rfl dX2_addRamp_13 ?_
  refine go_aload_n (pc := 16) dX2_addRamp_16 rfl ?_
  refine gf_2_24 (pc := 17) hq dX2_addRamp_17 ?_
  refine go_aload_n (pc := 20) dX2_addRamp_20 rfl ?_
  refine gf_2_34 (pc := 21) hq dX2_addRamp_21 ?_
  refine go_iconst (pc := 24) (v := (2 : Int32)) dX2_addRamp_24 (by decide) ?_
  refine go_imul (pc := 25) dX2_addRamp_25 ?_
  refine go_iconst (pc := 26) (v := (1 : Int32)) dX2_addRamp_26 (by decide) ?_
  refine go_iadd (pc := 27) dX2_addRamp_27 ?_
  refine go_iload_n (pc := 28) dX2_addRamp_28 rfl ?_
  obtain ⟨u3, c4, h⟩ := g_bd h
  refine go_callS (pc := 29) (as := [.inr (q + 5), .inl (((u1.2 q 7) * (2 : Int32)) + (1 : Int32)), .inl p2]) (st := []) (r := u3.1) (M1 := u3.2) (z_X2_setCell hok hq.2.2.2.2.2 c4) cw_X2_setCell ml_X2_75 (by decide) (Nat.le_of_ble_eq_true rfl) rfl dX2_addRamp_29 ?_
  refine go_aload_n (pc := 32) dX2_addRamp_32 rfl ?_
  refine go_dup (pc := 33) dX2_addRamp_33 ?_
  refine gf_2_34 (pc := 34) hq dX2_addRamp_34 ?_
  refine go_iconst (pc := 37) (v := (1 : Int32)) dX2_addRamp_37 (by decide) ?_
  refine go_iadd (pc := 38) dX2_addRamp_38 ?_
  refine gp_2_34 (pc := 39) hq dX2_addRamp_39 ?_
  exact go_vret (pc := 42) (Option.some.inj h).symm rfl dX2_addRamp_42
def x_X2_hoursUnder_L4 (q : Nat)  : Nat → Int32 → Int32 → g_M → Option (Int32 × g_M)
  | 0, _, _, _ => none
  | n + 1, v1, v2, M => (if (12 : Int32) ≤ v2 then (some (v1, M)) else ((if g_inb v2 12 = true then (if ((M (q + 1) v2.toNatClampNeg) + (M q 9)) ≤ (M q 8) then (x_X2_hoursUnder_L4 q  n v1 (v2 + (1 : Int32)) M) else (x_X2_hoursUnder_L4 q  n (v1 ||| ((1 : Int32) <<< (v2 &&& 31))) (v2 + (1 : Int32)) M)) else none)))
set_option maxHeartbeats 4000000 in
set_option maxRecDepth 100000 in
theorem z_X2_hoursUnder_L4 {X : g_X} (hok : g_ok X) {q : Nat} (hq : g_isH q) {r : Int32 × g_M}  : ∀ (n : Nat) (v1 v2 : Int32) (M : g_M), x_X2_hoursUnder_L4 q  n v1 v2 M = some r → g_Go X cX2_hoursUnder RX2 3 (some .int) 0 0 r 4 [some (.inr q), some (.inl v1), some (.inl v2)] [] M := by
  intro n
  induction n with
  | zero =>
    intro v1 v2 M h
    rw [x_X2_hoursUnder_L4] at h
    cases h
  | succ n ih =>
    intro v1 v2 M h
    rw [x_X2_hoursUnder_L4] at h
    refine go_iload_n (pc := 4) dX2_hoursUnder_4 rfl ?_
    refine go_aload_n (pc := 5) dX2_hoursUnder_5 rfl ?_
    refine gf_2_9 (pc := 6) hq dX2_hoursUnder_6 ?_
    refine go_alen (pc := 9) (n := 12) (v := (12 : Int32)) hq.2.1 (by decide) dX2_hoursUnder_9 ?_
    refine go_icmp_ge (pc := 10) (tgt := 43) dX2_hoursUnder_10 (by decide) (fun e3 => ?_) (fun e3 => ?_)
    · replace h := (if_pos e3).symm.trans h
      refine go_iload_n (pc := 43) dX2_hoursUnder_43 rfl ?_
      exact go_iret (pc := 44) (Option.some.inj h).symm rfl dX2_hoursUnder_44 rfl
    · replace h := (if_neg e3).symm.trans h
      refine go_aload_n (pc := 13) dX2_hoursUnder_13 rfl ?_
      refine gf_2_9 (pc := 14) hq dX2_hoursUnder_14 ?_
      refine go_iload_n (pc := 17) dX2_hoursUnder_17 rfl ?_
      obtain ⟨i1, h⟩ := g_gd h
      refine go_iald (pc := 18) (n := 12) hq.2.1 (g_inb_ok i1) dX2_hoursUnder_18 ?_
      refine go_aload_n (pc := 19) dX2_hoursUnder_19 rfl ?_
      refine gf_2_40 (pc := 20) hq dX2_hoursUnder_20 ?_
      refine go_iadd (pc := 23) dX2_hoursUnder_23 ?_
      refine go_aload_n (pc := 24) dX2_hoursUnder_24 rfl ?_
      refine gf_2_37 (pc := 25) hq dX2_hoursUnder_25 ?_
      refine go_icmp_le (pc := 28) (tgt := 37) dX2_hoursUnder_28 (by decide) (fun e2 => ?_) (fun e2 => ?_)
      · replace h := (if_pos e2).symm.trans h
        refine go_iinc (pc := 37) (v := (1 : Int32)) (lv' := [some (.inr q), some (.inl v1), some (.inl (v2 + (1 : Int32)))]) dX2_hoursUnder_37 rfl (by decide) (by decide) rfl ?_
        refine go_goto (pc := 40) (tgt := 4) dX2_hoursUnder_40 (by decide) ?_
        exact go_to (ih _ _ _ h) (And.intro rfl (And.intro rfl (And.intro rfl trivial)))
      · replace h := (if_neg e2).symm.trans h
        refine go_iload_n (pc := 31) dX2_hoursUnder_31 rfl ?_
        refine go_iconst (pc := 32) (v := (1 : Int32)) dX2_hoursUnder_32 (by decide) ?_
        refine go_iload_n (pc := 33) dX2_hoursUnder_33 rfl ?_
        refine go_ishl (pc := 34) dX2_hoursUnder_34 ?_
        refine go_ior (pc := 35) dX2_hoursUnder_35 ?_
        refine go_istore_n (pc := 36) (lv' := [some (.inr q), some (.inl (v1 ||| ((1 : Int32) <<< (v2 &&& 31)))), some (.inl v2)]) dX2_hoursUnder_36 (by decide) rfl ?_
        refine go_iinc (pc := 37) (v := (1 : Int32)) (lv' := [some (.inr q), some (.inl (v1 ||| ((1 : Int32) <<< (v2 &&& 31)))), some (.inl (v2 + (1 : Int32)))]) dX2_hoursUnder_37 rfl (by decide) (by decide) rfl ?_
        refine go_goto (pc := 40) (tgt := 4) dX2_hoursUnder_40 (by decide) ?_
        exact go_to (ih _ _ _ h) (And.intro rfl (And.intro rfl (And.intro rfl trivial)))
def x_X2_hoursUnder (q : Nat) (M : g_M) : Option (Int32 × g_M) := (x_X2_hoursUnder_L4 q  g_F (0 : Int32) (0 : Int32) M)
set_option maxHeartbeats 4000000 in
set_option maxRecDepth 100000 in
theorem z_X2_hoursUnder {X : g_X} (hok : g_ok X) {q : Nat} (hq : g_isH q) {M : g_M} {r : Int32 × g_M} (h : x_X2_hoursUnder q M = some r) : g_Con X yX2_hoursUnder cX2_hoursUnder 3 (some .int) 0 0 [.inr q] M r := by
  rw [x_X2_hoursUnder] at h
  refine g_con hok (by decide +kernel) (Nat.le_of_ble_eq_true rfl) (go_to (lv2 := [some (.inr q), none, none]) (own := RX2) ?_ (And.intro rfl trivial))
  refine go_iconst (pc := 0) (v := (0 : Int32)) dX2_hoursUnder_0 (by decide) ?_
  refine go_istore_n (pc := 1) (lv' := [some (.inr q), some (.inl (0 : Int32)), none]) dX2_hoursUnder_1 (by decide) rfl ?_
  refine go_iconst (pc := 2) (v := (0 : Int32)) dX2_hoursUnder_2 (by decide) ?_
  refine go_istore_n (pc := 3) (lv' := [some (.inr q), some (.inl (0 : Int32)), some (.inl (0 : Int32))]) dX2_hoursUnder_3 (by decide) rfl ?_
  exact go_to (z_X2_hoursUnder_L4 hok hq  g_F _ _ _ h) (And.intro rfl (And.intro rfl (And.intro rfl trivial)))
def x_J9_floorMod_7cf53  (p0 p1 : Int32) (M : g_M) : Option (Int32 × g_M) := ((if p1 = 0 then none else if 0 ≤ (p0 ^^^ p1) then (some ((p0 - p0 / p1 * p1), M)) else (if (p0 - p0 / p1 * p1) = 0 then (some ((p0 - p0 / p1 * p1), M)) else (some (((p0 - p0 / p1 * p1) + p1), M)))))
set_option maxHeartbeats 4000000 in
set_option maxRecDepth 100000 in
theorem z_J9_floorMod_7cf53 {X : g_X} (hok : g_ok X)  {p0 p1 : Int32} {M : g_M} {r : Int32 × g_M} (h : x_J9_floorMod_7cf53 p0 p1 M = some r) : g_Con X yJ9_floorMod_7cf53 cJ9_floorMod_7cf53 3 (some .int) 0 0 [.inl p0, .inl p1] M r := by
  rw [x_J9_floorMod_7cf53] at h
  refine g_con hok (by decide +kernel) (Nat.le_of_ble_eq_true rfl) (go_to (lv2 := [some (.inl p0), some (.inl p1), none]) (own := RJ9) ?_ (And.intro rfl (And.intro rfl trivial)))
  refine go_iload_n (pc := 0) dJ9_floorMod_7cf53_0 rfl ?_
  refine go_iload_n (pc := 1) dJ9_floorMod_7cf53_1 rfl ?_
  obtain ⟨z1, h⟩ := g_nz h
  refine go_irem (pc := 2) dJ9_floorMod_7cf53_2 z1 ?_
  refine go_istore_n (pc := 3) (lv' := [some (.inl p0), some (.inl p1), some (.inl (p0 - p0 / p1 * p1))]) dJ9_floorMod_7cf53_3 (by decide) rfl ?_
  refine go_iload_n (pc := 4) dJ9_floorMod_7cf53_4 rfl ?_
  refine go_iload_n (pc := 5) dJ9_floorMod_7cf53_5 rfl ?_
  refine go_ixor (pc := 6) dJ9_floorMod_7cf53_6 ?_
  refine go_if_ge (pc := 7) (tgt := 18) dJ9_floorMod_7cf53_7 (by decide) (fun e3 => ?_) (fun e3 => ?_)
  · replace h := (if_pos e3).symm.trans h
    refine go_iload_n (pc := 18) dJ9_floorMod_7cf53_18 rfl ?_
    exact go_iret (pc := 19) (Option.some.inj h).symm rfl dJ9_floorMod_7cf53_19 rfl
  · replace h := (if_neg e3).symm.trans h
    refine go_iload_n (pc := 10) dJ9_floorMod_7cf53_10 rfl ?_
    refine go_if_eq (pc := 11) (tgt := 18) dJ9_floorMod_7cf53_11 (by decide) (fun e2 => ?_) (fun e2 => ?_)
    · replace h := (if_pos e2).symm.trans h
      refine go_iload_n (pc := 18) dJ9_floorMod_7cf53_18 rfl ?_
      exact go_iret (pc := 19) (Option.some.inj h).symm rfl dJ9_floorMod_7cf53_19 rfl
    · replace h := (if_neg e2).symm.trans h
      refine go_iload_n (pc := 14) dJ9_floorMod_7cf53_14 rfl ?_
      refine go_iload_n (pc := 15) dJ9_floorMod_7cf53_15 rfl ?_
      refine go_iadd (pc := 16) dJ9_floorMod_7cf53_16 ?_
      exact go_iret (pc := 17) (Option.some.inj h).symm rfl dJ9_floorMod_7cf53_17 rfl
def x_X2_firstHourWith_L2 (q : Nat)  : Nat → Int32 → Int32 → Int32 → g_M → Option (Int32 × g_M)
  | 0, _, _, _, _ => none
  | n + 1, v1, v2, v3, M => (if (12 : Int32) ≤ v3 then (some ((-9 : Int32), M)) else (((x_J9_floorMod_7cf53 (v2 + v3) (12 : Int32) M).bind fun u1 => ((x_X2_tideAt q u1.1 u1.2).bind fun u3 => if u3.1 < v1 then (x_X2_firstHourWith_L2 q  n v1 v2 (v3 + (1 : Int32)) u3.2) else (some (u1.1, u3.2))))))
set_option maxHeartbeats 4000000 in
set_option maxRecDepth 100000 in
theorem z_X2_firstHourWith_L2 {X : g_X} (hok : g_ok X) {q : Nat} (hq : g_isH q) {r : Int32 × g_M}  : ∀ (n : Nat) (v1 v2 v3 : Int32) (M : g_M), x_X2_firstHourWith_L2 q  n v1 v2 v3 M = some r → g_Go X cX2_firstHourWith RX2 5 (some .int) 2 42 r 2 [some (.inr q), some (.inl v1), some (.inl v2), some (.inl v3), none] [] M := by
  intro n
  induction n with
  | zero =>
    intro v1 v2 v3 M h
    rw [x_X2_firstHourWith_L2] at h
    cases h
  | succ n ih =>
    intro v1 v2 v3 M h
    rw [x_X2_firstHourWith_L2] at h
    refine go_iload_n (pc := 2) dX2_firstHourWith_2 rfl ?_
    refine go_bipush (pc := 3) (v := (12 : Int32)) dX2_firstHourWith_3 (by decide) ?_
    refine go_icmp_ge (pc := 5) (tgt := 37) dX2_firstHourWith_5 (by decide) (fun e6 => ?_) (fun e6 => ?_)
    · replace h := (if_pos e6).symm.trans h
      refine go_bipush (pc := 37) (v := (-9 : Int32)) dX2_firstHourWith_37 (by decide) ?_
      exact go_iret (pc := 39) (Option.some.inj h).symm rfl dX2_firstHourWith_39 rfl
    · replace h := (if_neg e6).symm.trans h
      refine go_iload_n (pc := 8) dX2_firstHourWith_8 rfl ?_
      refine go_iload_n (pc := 9) dX2_firstHourWith_9 rfl ?_
      refine go_iadd (pc := 10) dX2_firstHourWith_10 ?_
      refine go_bipush (pc := 11) (v := (12 : Int32)) dX2_firstHourWith_11 (by decide) ?_
      obtain ⟨u1, c2, h⟩ := g_bd h
      refine go_callS (pc := 13) (as := [.inl (v2 + v3), .inl (12 : Int32)]) (st := []) (r := u1.1) (M1 := u1.2) (z_J9_floorMod_7cf53 hok  c2) cw_J9_floorMod_7cf53 ml_X2_79 (by decide) (Nat.le_of_ble_eq_true rfl) rfl dX2_firstHourWith_13 ?_
      refine go_istore (pc := 16) (lv' := [some (.inr q), some (.inl v1), some (.inl v2), some (.inl v3), some (.inl u1.1)]) dX2_firstHourWith_16 (by decide) rfl ?_
      refine go_aload_n (pc := 18) dX2_firstHourWith_18 rfl ?_
      refine go_iload (pc := 19) dX2_firstHourWith_19 rfl ?_
      obtain ⟨u3, c4, h⟩ := g_bd h
      refine go_callV (pc := 21) (as := [.inl u1.1]) (st := []) (r := u3.1) (M1 := u3.2) (z_X2_tideAt hok hq c4) cw_X2_tideAt ml_X2_82 hq.1 rfl rfl (by decide) (Nat.le_of_ble_eq_true rfl) rfl dX2_firstHourWith_21 ?_
      refine go_iload_n (pc := 24) dX2_firstHourWith_24 rfl ?_
      refine go_icmp_lt (pc := 25) (tgt := 31) dX2_firstHourWith_25 (by decide) (fun e5 => ?_) (fun e5 => ?_)
      · replace h := (if_pos e5).symm.trans h
        refine go_iinc (pc := 31) (v := (1 : Int32)) (lv' := [some (.inr q), some (.inl v1), some (.inl v2), some (.inl (v3 + (1 : Int32))), some (.inl u1.1)]) dX2_firstHourWith_31 rfl (by decide) (by decide) rfl ?_
        refine go_goto (pc := 34) (tgt := 2) dX2_firstHourWith_34 (by decide) ?_
        exact go_to (ih _ _ _ _ h) (And.intro rfl (And.intro rfl (And.intro rfl (And.intro rfl trivial))))
      · replace h := (if_neg e5).symm.trans h
        refine go_iload (pc := 28) dX2_firstHourWith_28 rfl ?_
        exact go_iret (pc := 30) (Option.some.inj h).symm rfl dX2_firstHourWith_30 rfl
def x_X2_firstHourWith (q : Nat) (p1 p2 : Int32) (M : g_M) : Option (Int32 × g_M) := (x_X2_firstHourWith_L2 q  g_F p1 p2 (0 : Int32) M)
set_option maxHeartbeats 4000000 in
set_option maxRecDepth 100000 in
theorem z_X2_firstHourWith {X : g_X} (hok : g_ok X) {q : Nat} (hq : g_isH q) {p1 p2 : Int32} {M : g_M} {r : Int32 × g_M} (h : x_X2_firstHourWith q p1 p2 M = some r) : g_Con X yX2_firstHourWith cX2_firstHourWith 5 (some .int) 2 42 [.inr q, .inl p1, .inl p2] M r := by
  rw [x_X2_firstHourWith] at h
  refine g_con hok (by decide +kernel) (Nat.le_of_ble_eq_true rfl) (go_to (lv2 := [some (.inr q), some (.inl p1), some (.inl p2), none, none]) (own := RX2) ?_ (And.intro rfl (And.intro rfl (And.intro rfl trivial))))
  refine go_iconst (pc := 0) (v := (0 : Int32)) dX2_firstHourWith_0 (by decide) ?_
  refine go_istore_n (pc := 1) (lv' := [some (.inr q), some (.inl p1), some (.inl p2), some (.inl (0 : Int32)), none]) dX2_firstHourWith_1 (by decide) rfl ?_
  exact go_to (z_X2_firstHourWith_L2 hok hq  g_F _ _ _ _ h) (And.intro rfl (And.intro rfl (And.intro rfl (And.intro rfl trivial))))
def x_X2_tideOn (q : Nat) (p1 p2 : Int32) (M : g_M) : Option (Int32 × g_M) := (((x_X2_tideAt q p1 M).bind fun u1 => if u1.1 ≤ (20 : Int32) then (if (20 : Int32) ≤ u1.1 then (some (u1.1, u1.2)) else (some ((g_max (0 : Int32) (u1.1 - (((u1.2 q 11) * (g_abs (p2 - (7 : Int32)))) / (7 : Int32)))), u1.2))) else (some ((g_min (40 : Int32) (u1.1 + (((u1.2 q 11) * (g_abs (p2 - (7 : Int32)))) / (7 : Int32)))), u1.2))))
set_option maxHeartbeats 4000000 in
set_option maxRecDepth 100000 in
theorem z_X2_tideOn {X : g_X} (hok : g_ok X) {q : Nat} (hq : g_isH q) {p1 p2 : Int32} {M : g_M} {r : Int32 × g_M} (h : x_X2_tideOn q p1 p2 M = some r) : g_Con X yX2_tideOn cX2_tideOn 5 (some .int) 2 42 [.inr q, .inl p1, .inl p2] M r := by
  rw [x_X2_tideOn] at h
  refine g_con hok (by decide +kernel) (Nat.le_of_ble_eq_true rfl) (go_to (lv2 := [some (.inr q), some (.inl p1), some (.inl p2), none, none]) (own := RX2) ?_ (And.intro rfl (And.intro rfl (And.intro rfl trivial))))
  refine go_aload_n (pc := 0) dX2_tideOn_0 rfl ?_
  refine go_iload_n (pc := 1) dX2_tideOn_1 rfl ?_
  obtain ⟨u1, c2, h⟩ := g_bd h
  refine go_callV (pc := 2) (as := [.inl p1]) (st := []) (r := u1.1) (M1 := u1.2) (z_X2_tideAt hok hq c2) cw_X2_tideAt ml_X2_82 hq.1 rfl rfl (by decide) (Nat.le_of_ble_eq_true rfl) rfl dX2_tideOn_2 ?_
  refine go_istore_n (pc := 5) (lv' := [some (.inr q), some (.inl p1), some (.inl p2), some (.inl u1.1), none]) dX2_tideOn_5 (by decide) rfl ?_
  refine go_aload_n (pc := 6) dX2_tideOn_6 rfl ?_
  refine gf_2_46 (pc := 7) hq dX2_tideOn_7 ?_
  refine go_iload_n (pc := 10) dX2_tideOn_10 rfl ?_
  refine go_bipush (pc := 11) (v := (7 : Int32)) dX2_tideOn_11 (by decide) ?_
  refine go_isub (pc := 13) dX2_tideOn_13 ?_
  refine go_mabs (pc := 14) ml_X2_86 lm_abs_s lm_i lm_abs_c (by decide) (Nat.le_of_ble_eq_true rfl) dX2_tideOn_14 ?_
  refine go_imul (pc := 17) dX2_tideOn_17 ?_
  refine go_bipush (pc := 18) (v := (7 : Int32)) dX2_tideOn_18 (by decide) ?_
  refine go_idiv (pc := 20) dX2_tideOn_20 (by decide) ?_
  refine go_istore (pc := 21) (lv' := [some (.inr q), some (.inl p1), some (.inl p2), some (.inl u1.1), some (.inl (((u1.2 q 11) * (g_abs (p2 - (7 : Int32)))) / (7 : Int32)))]) dX2_tideOn_21 (by decide) rfl ?_
  refine go_iload_n (pc := 23) dX2_tideOn_23 rfl ?_
  refine go_bipush (pc := 24) (v := (20 : Int32)) dX2_tideOn_24 (by decide) ?_
  refine go_icmp_le (pc := 26) (tgt := 39) dX2_tideOn_26 (by decide) (fun e4 => ?_) (fun e4 => ?_)
  · replace h := (if_pos e4).symm.trans h
    refine go_iload_n (pc := 39) dX2_tideOn_39 rfl ?_
    refine go_bipush (pc := 40) (v := (20 : Int32)) dX2_tideOn_40 (by decide) ?_
    refine go_icmp_ge (pc := 42) (tgt := 56) dX2_tideOn_42 (by decide) (fun e3 => ?_) (fun e3 => ?_)
    · replace h := (if_pos e3).symm.trans h
      refine go_iload_n (pc := 56) dX2_tideOn_56 rfl ?_
      exact go_iret (pc := 57) (Option.some.inj h).symm rfl dX2_tideOn_57 rfl
    · replace h := (if_neg e3).symm.trans h
      refine go_iconst (pc := 45) (v := (0 : Int32)) dX2_tideOn_45 (by decide) ?_
      refine go_iload_n (pc := 46) dX2_tideOn_46 rfl ?_
      refine go_iload (pc := 47) dX2_tideOn_47 rfl ?_
      refine go_isub (pc := 49) dX2_tideOn_49 ?_
      refine go_mmax (pc := 50) ml_X2_89 lm_max_s lm_i lm_max_c (by decide) (Nat.le_of_ble_eq_true rfl) dX2_tideOn_50 ?_
      refine go_goto (pc := 53) (tgt := 57) dX2_tideOn_53 (by decide) ?_
      exact go_iret (pc := 57) (Option.some.inj h).symm rfl dX2_tideOn_57 rfl
  · replace h := (if_neg e4).symm.trans h
    refine go_bipush (pc := 29) (v := (40 : Int32)) dX2_tideOn_29 (by decide) ?_
    refine go_iload_n (pc := 31) dX2_tideOn_31 rfl ?_
    refine go_iload (pc := 32) dX2_tideOn_32 rfl ?_
    refine go_iadd (pc := 34) dX2_tideOn_34 ?_
    refine go_mmin (pc := 35) ml_X2_59 lm_min_s lm_i lm_min_c (by decide) (Nat.le_of_ble_eq_true rfl) dX2_tideOn_35 ?_
    exact go_iret (pc := 38) (Option.some.inj h).symm rfl dX2_tideOn_38 rfl
def x_X2_slopeOf (q : Nat) (p1 p2 p3 : Int32) (M : g_M) : Option (Int32 × g_M) := (if (1 : Int32) ≤ p2 then (((x_X2_tideAt q p3 M).bind fun u1 => (if p2 = 0 then none else some ((((100 : Int32) * (g_abs (u1.1 - p1))) / p2), u1.2)))) else (some ((0 : Int32), M)))
set_option maxHeartbeats 4000000 in
set_option maxRecDepth 100000 in
theorem z_X2_slopeOf {X : g_X} (hok : g_ok X) {q : Nat} (hq : g_isH q) {p1 p2 p3 : Int32} {M : g_M} {r : Int32 × g_M} (h : x_X2_slopeOf q p1 p2 p3 M = some r) : g_Con X yX2_slopeOf cX2_slopeOf 4 (some .int) 2 42 [.inr q, .inl p1, .inl p2, .inl p3] M r := by
  rw [x_X2_slopeOf] at h
  refine g_con hok (by decide +kernel) (Nat.le_of_ble_eq_true rfl) (go_to (lv2 := [some (.inr q), some (.inl p1), some (.inl p2), some (.inl p3)]) (own := RX2) ?_ (And.intro rfl (And.intro rfl (And.intro rfl (And.intro rfl trivial)))))
  refine go_iload_n (pc := 0) dX2_slopeOf_0 rfl ?_
  refine go_iconst (pc := 1) (v := (1 : Int32)) dX2_slopeOf_1 (by decide) ?_
  refine go_icmp_ge (pc := 2) (tgt := 9) dX2_slopeOf_2 (by decide) (fun e4 => ?_) (fun e4 => ?_)
  · replace h := (if_pos e4).symm.trans h
    refine go_bipush (pc := 9) (v := (100 : Int32)) dX2_slopeOf_9 (by decide) ?_
    refine go_aload_n (pc := 11) dX2_slopeOf_11 rfl ?_
    refine go_iload_n (pc := 12) dX2_slopeOf_12 rfl ?_
    obtain ⟨u1, c2, h⟩ := g_bd h
    refine go_callV (pc := 13) (as := [.inl p3]) (st := [.inl (100 : Int32)]) (r := u1.1) (M1 := u1.2) (z_X2_tideAt hok hq c2) cw_X2_tideAt ml_X2_82 hq.1 rfl rfl (by decide) (Nat.le_of_ble_eq_true rfl) rfl dX2_slopeOf_13 ?_
    refine go_iload_n (pc := 16) dX2_slopeOf_16 rfl ?_
    refine go_isub (pc := 17) dX2_slopeOf_17 ?_
    refine go_mabs (pc := 18) ml_X2_86 lm_abs_s lm_i lm_abs_c (by decide) (Nat.le_of_ble_eq_true rfl) dX2_slopeOf_18 ?_
    refine go_imul (pc := 21) dX2_slopeOf_21 ?_
    refine go_iload_n (pc := 22) dX2_slopeOf_22 rfl ?_
    obtain ⟨z3, h⟩ := g_nz h
    refine go_idiv (pc := 23) dX2_slopeOf_23 z3 ?_
    exact go_iret (pc := 24) (Option.some.inj h).symm rfl dX2_slopeOf_24 rfl
  · replace h := (if_neg e4).symm.trans h
    refine go_iconst (pc := 5) (v := (0 : Int32)) dX2_slopeOf_5 (by decide) ?_
    refine go_goto (pc := 6) (tgt := 24) dX2_slopeOf_6 (by decide) ?_
    exact go_iret (pc := 24) (Option.some.inj h).symm rfl dX2_slopeOf_24 rfl
def x_X2_hoursOpen_L6 (q : Nat)  : Nat → Int32 → Int32 → Int32 → Int32 → Int32 → g_M → Option (Int32 × g_M)
  | 0, _, _, _, _, _, _ => none
  | n + 1, v1, v2, v3, v4, v5, M => (if (12 : Int32) ≤ v5 then (some (v4, M)) else (((x_X2_slopeOf q v1 v2 v5 M).bind fun u1 => if v3 < u1.1 then (x_X2_hoursOpen_L6 q  n v1 v2 v3 v4 (v5 + (1 : Int32)) u1.2) else (x_X2_hoursOpen_L6 q  n v1 v2 v3 (v4 ||| ((1 : Int32) <<< (v5 &&& 31))) (v5 + (1 : Int32)) u1.2))))
set_option maxHeartbeats 4000000 in
set_option maxRecDepth 100000 in
theorem z_X2_hoursOpen_L6 {X : g_X} (hok : g_ok X) {q : Nat} (hq : g_isH q) {r : Int32 × g_M}  : ∀ (n : Nat) (v1 v2 v3 v4 v5 : Int32) (M : g_M), x_X2_hoursOpen_L6 q  n v1 v2 v3 v4 v5 M = some r → g_Go X cX2_hoursOpen RX2 6 (some .int) 3 65 r 6 [some (.inr q), some (.inl v1), some (.inl v2), some (.inl v3), some (.inl v4), some (.inl v5)] [] M := by
  intro n
  induction n with
  | zero =>
    intro v1 v2 v3 v4 v5 M h
    rw [x_X2_hoursOpen_L6] at h
    cases h
  | succ n ih =>
    intro v1 v2 v3 v4 v5 M h
    rw [x_X2_hoursOpen_L6] at h
    refine go_iload (pc := 6) dX2_hoursOpen_6 rfl ?_
    refine go_bipush (pc := 8) (v := (12 : Int32)) dX2_hoursOpen_8 (by decide) ?_
    refine go_icmp_ge (pc := 10) (tgt := 40) dX2_hoursOpen_10 (by decide) (fun e4 => ?_) (fun e4 => ?_)
    · replace h := (if_pos e4).symm.trans h
      refine go_iload (pc := 40) dX2_hoursOpen_40 rfl ?_
      exact go_iret (pc := 42) (Option.some.inj h).symm rfl dX2_hoursOpen_42 rfl
    · replace h := (if_neg e4).symm.trans h
      refine go_aload_n (pc := 13) dX2_hoursOpen_13 rfl ?_
      refine go_iload_n (pc := 14) dX2_hoursOpen_14 rfl ?_
      refine go_iload_n (pc := 15) dX2_hoursOpen_15 rfl ?_
      refine go_iload (pc := 16) dX2_hoursOpen_16 rfl ?_
      obtain ⟨u1, c2, h⟩ := g_bd h
      refine go_callV (pc := 18) (as := [.inl v1, .inl v2, .inl v5]) (st := []) (r := u1.1) (M1 := u1.2) (z_X2_slopeOf hok hq c2) cw_X2_slopeOf ml_X2_92 hq.1 rfl rfl (by decide) (Nat.le_of_ble_eq_true rfl) rfl dX2_hoursOpen_18 ?_
      refine go_iload_n (pc := 21) dX2_hoursOpen_21 rfl ?_
      refine go_icmp_gt (pc := 22) (tgt := 34) dX2_hoursOpen_22 (by decide) (fun e3 => ?_) (fun e3 => ?_)
      · replace h := (if_pos e3).symm.trans h
        refine go_iinc (pc := 34) (v := (1 : Int32)) (lv' := [some (.inr q), some (.inl v1), some (.inl v2), some (.inl v3), some (.inl v4), some (.inl (v5 + (1 : Int32)))]) dX2_hoursOpen_34 rfl (by decide) (by decide) rfl ?_
        refine go_goto (pc := 37) (tgt := 6) dX2_hoursOpen_37 (by decide) ?_
        exact go_to (ih _ _ _ _ _ _ h) (And.intro rfl (And.intro rfl (And.intro rfl (And.intro rfl (And.intro rfl (And.intro rfl trivial))))))
      · replace h := (if_neg e3).symm.trans h
        refine go_iload (pc := 25) dX2_hoursOpen_25 rfl ?_
        refine go_iconst (pc := 27) (v := (1 : Int32)) dX2_hoursOpen_27 (by decide) ?_
        refine go_iload (pc := 28) dX2_hoursOpen_28 rfl ?_
        refine go_ishl (pc := 30) dX2_hoursOpen_30 ?_
        refine go_ior (pc := 31) dX2_hoursOpen_31 ?_
        refine go_istore (pc := 32) (lv' := [some (.inr q), some (.inl v1), some (.inl v2), some (.inl v3), some (.inl (v4 ||| ((1 : Int32) <<< (v5 &&& 31)))), some (.inl v5)]) dX2_hoursOpen_32 (by decide) rfl ?_
        refine go_iinc (pc := 34) (v := (1 : Int32)) (lv' := [some (.inr q), some (.inl v1), some (.inl v2), some (.inl v3), some (.inl (v4 ||| ((1 : Int32) <<< (v5 &&& 31)))), some (.inl (v5 + (1 : Int32)))]) dX2_hoursOpen_34 rfl (by decide) (by decide) rfl ?_
        refine go_goto (pc := 37) (tgt := 6) dX2_hoursOpen_37 (by decide) ?_
        exact go_to (ih _ _ _ _ _ _ h) (And.intro rfl (And.intro rfl (And.intro rfl (And.intro rfl (And.intro rfl (And.intro rfl trivial))))))
def x_X2_hoursOpen (q : Nat) (p1 p2 p3 : Int32) (M : g_M) : Option (Int32 × g_M) := (x_X2_hoursOpen_L6 q  g_F p1 p2 p3 (0 : Int32) (0 : Int32) M)
set_option maxHeartbeats 4000000 in
set_option maxRecDepth 100000 in
theorem z_X2_hoursOpen {X : g_X} (hok : g_ok X) {q : Nat} (hq : g_isH q) {p1 p2 p3 : Int32} {M : g_M} {r : Int32 × g_M} (h : x_X2_hoursOpen q p1 p2 p3 M = some r) : g_Con X yX2_hoursOpen cX2_hoursOpen 6 (some .int) 3 65 [.inr q, .inl p1, .inl p2, .inl p3] M r := by
  rw [x_X2_hoursOpen] at h
  refine g_con hok (by decide +kernel) (Nat.le_of_ble_eq_true rfl) (go_to (lv2 := [some (.inr q), some (.inl p1), some (.inl p2), some (.inl p3), none, none]) (own := RX2) ?_ (And.intro rfl (And.intro rfl (And.intro rfl (And.intro rfl trivial)))))
  refine go_iconst (pc := 0) (v := (0 : Int32)) dX2_hoursOpen_0 (by decide) ?_
  refine go_istore (pc := 1) (lv' := [some (.inr q), some (.inl p1), some (.inl p2), some (.inl p3), some (.inl (0 : Int32)), none]) dX2_hoursOpen_1 (by decide) rfl ?_
  refine go_iconst (pc := 3) (v := (0 : Int32)) dX2_hoursOpen_3 (by decide) ?_
  refine go_istore (pc := 4) (lv' := [some (.inr q), some (.inl p1), some (.inl p2), some (.inl p3), some (.inl (0 : Int32)), some (.inl (0 : Int32))]) dX2_hoursOpen_4 (by decide) rfl ?_
  exact go_to (z_X2_hoursOpen_L6 hok hq  g_F _ _ _ _ _ _ h) (And.intro rfl (And.intro rfl (And.intro rfl (And.intro rfl (And.intro rfl (And.intro rfl trivial))))))
def x_X5_leastAt (q : Nat) (p1 : Int32) (M : g_M) : Option (Int32 × g_M) := (((x_X5_squareNeeded q p1 M).bind fun u1 => ((x_X8_rootWithin u1.1 u1.2).bind fun u3 => if u1.1 ≤ (u3.1 * u3.1) then (some (u3.1, u3.2)) else (some ((u3.1 + (1 : Int32)), u3.2)))))
set_option maxHeartbeats 4000000 in
set_option maxRecDepth 100000 in
theorem z_X5_leastAt {X : g_X} (hok : g_ok X) {q : Nat} (hq : g_isM q) {p1 : Int32} {M : g_M} {r : Int32 × g_M} (h : x_X5_leastAt q p1 M = some r) : g_Con X yX5_leastAt cX5_leastAt 4 (some .int) 2 44 [.inr q, .inl p1] M r := by
  rw [x_X5_leastAt] at h
  refine g_con hok (by decide +kernel) (Nat.le_of_ble_eq_true rfl) (go_to (lv2 := [some (.inr q), some (.inl p1), none, none]) (own := RX5) ?_ (And.intro rfl (And.intro rfl trivial)))
  refine go_aload_n (pc := 0) dX5_leastAt_0 rfl ?_
  refine go_iload_n (pc := 1) dX5_leastAt_1 rfl ?_
  obtain ⟨u1, c2, h⟩ := g_bd h
  refine go_callV (pc := 2) (as := [.inl p1]) (st := []) (r := u1.1) (M1 := u1.2) (z_X5_squareNeeded hok hq c2) cw_X5_squareNeeded ml_X5_63 hq rfl rfl (by decide) (Nat.le_of_ble_eq_true rfl) rfl dX5_leastAt_2 ?_
  refine go_istore_n (pc := 5) (lv' := [some (.inr q), some (.inl p1), some (.inl u1.1), none]) dX5_leastAt_5 (by decide) rfl ?_
  refine go_iload_n (pc := 6) dX5_leastAt_6 rfl ?_
  obtain ⟨u3, c4, h⟩ := g_bd h
  refine go_callSN (pc := 7) (as := [.inl u1.1]) (st := []) (r := u3.1) (M1 := u3.2) (z_X8_rootWithin hok  c4) cw_X8_rootWithin ml_X5_66 (by decide) (Nat.le_of_ble_eq_true rfl) rfl dX5_leastAt_7 ?_
  refine go_istore_n (pc := 10) (lv' := [some (.inr q), some (.inl p1), some (.inl u1.1), some (.inl u3.1)]) dX5_leastAt_10 (by decide) rfl ?_
  refine go_iload_n (pc := 11) dX5_leastAt_11 rfl ?_
  refine go_iload_n (pc := 12) dX5_leastAt_12 rfl ?_
  refine go_imul (pc := 13) dX5_leastAt_13 ?_
  refine go_iload_n (pc := 14) dX5_leastAt_14 rfl ?_
  refine go_icmp_ge (pc := 15) (tgt := 24) dX5_leastAt_15 (by decide) (fun e5 => ?_) (fun e5 => ?_)
  · replace h := (if_pos e5).symm.trans h
    refine go_iload_n (pc := 24) dX5_leastAt_24 rfl ?_
    exact go_iret (pc := 25) (Option.some.inj h).symm rfl dX5_leastAt_25 rfl
  · replace h := (if_neg e5).symm.trans h
    refine go_iload_n (pc := 18) dX5_leastAt_18 rfl ?_
    refine go_iconst (pc := 19) (v := (1 : Int32)) dX5_leastAt_19 (by decide) ?_
    refine go_iadd (pc := 20) dX5_leastAt_20 ?_
    refine go_goto (pc := 21) (tgt := 25) dX5_leastAt_21 (by decide) ?_
    exact go_iret (pc := 25) (Option.some.inj h).symm rfl dX5_leastAt_25 rfl
def x_X5_greatestAt_L5 (q : Nat)  : Nat → Int32 → Int32 → Int32 → g_M → Option (Int32 × g_M)
  | 0, _, _, _, _ => none
  | n + 1, v1, v2, v3, M => (if v3 ≤ 0 then (some (v2, M)) else (if (99 : Int32) < (v2 + v3) then (x_X5_greatestAt_L5 q  n v1 v2 (v3 / (2 : Int32)) M) else (((x_X5_reach q (v2 + v3) v1 M).bind fun u1 => if (u1.2 q 7) < u1.1 then (x_X5_greatestAt_L5 q  n v1 v2 (v3 / (2 : Int32)) u1.2) else (x_X5_greatestAt_L5 q  n v1 (v2 + v3) (v3 / (2 : Int32)) u1.2)))))
set_option maxHeartbeats 4000000 in
set_option maxRecDepth 100000 in
theorem z_X5_greatestAt_L5 {X : g_X} (hok : g_ok X) {q : Nat} (hq : g_isM q) {r : Int32 × g_M}  : ∀ (n : Nat) (v1 v2 v3 : Int32) (M : g_M), x_X5_greatestAt_L5 q  n v1 v2 v3 M = some r → g_Go X cX5_greatestAt RX5 5 (some .int) 3 68 r 5 [some (.inr q), some (.inl v1), some (.inl v2), some (.inl v3), none] [] M := by
  intro n
  induction n with
  | zero =>
    intro v1 v2 v3 M h
    rw [x_X5_greatestAt_L5] at h
    cases h
  | succ n ih =>
    intro v1 v2 v3 M h
    rw [x_X5_greatestAt_L5] at h
    refine go_iload_n (pc := 5) dX5_greatestAt_5 rfl ?_
    refine go_if_le (pc := 6) (tgt := 45) dX5_greatestAt_6 (by decide) (fun e5 => ?_) (fun e5 => ?_)
    · replace h := (if_pos e5).symm.trans h
      refine go_iload_n (pc := 45) dX5_greatestAt_45 rfl ?_
      exact go_iret (pc := 46) (Option.some.inj h).symm rfl dX5_greatestAt_46 rfl
    · replace h := (if_neg e5).symm.trans h
      refine go_iload_n (pc := 9) dX5_greatestAt_9 rfl ?_
      refine go_iload_n (pc := 10) dX5_greatestAt_10 rfl ?_
      refine go_iadd (pc := 11) dX5_greatestAt_11 ?_
      refine go_istore (pc := 12) (lv' := [some (.inr q), some (.inl v1), some (.inl v2), some (.inl v3), some (.inl (v2 + v3))]) dX5_greatestAt_12 (by decide) rfl ?_
      refine go_iload (pc := 14) dX5_greatestAt_14 rfl ?_
      refine go_bipush (pc := 16) (v := (99 : Int32)) dX5_greatestAt_16 (by decide) ?_
      refine go_icmp_gt (pc := 18) (tgt := 38) dX5_greatestAt_18 (by decide) (fun e4 => ?_) (fun e4 => ?_)
      · replace h := (if_pos e4).symm.trans h
        refine go_iload_n (pc := 38) dX5_greatestAt_38 rfl ?_
        refine go_iconst (pc := 39) (v := (2 : Int32)) dX5_greatestAt_39 (by decide) ?_
        refine go_idiv (pc := 40) dX5_greatestAt_40 (by decide) ?_
        refine go_istore_n (pc := 41) (lv' := [some (.inr q), some (.inl v1), some (.inl v2), some (.inl (v3 / (2 : Int32))), some (.inl (v2 + v3))]) dX5_greatestAt_41 (by decide) rfl ?_
        refine go_goto (pc := 42) (tgt := 5) dX5_greatestAt_42 (by decide) ?_
        exact go_to (ih _ _ _ _ h) (And.intro rfl (And.intro rfl (And.intro rfl (And.intro rfl trivial))))
      · replace h := (if_neg e4).symm.trans h
        refine go_aload_n (pc := 21) dX5_greatestAt_21 rfl ?_
        refine go_iload (pc := 22) dX5_greatestAt_22 rfl ?_
        refine go_iload_n (pc := 24) dX5_greatestAt_24 rfl ?_
        obtain ⟨u1, c2, h⟩ := g_bd h
        refine go_callV (pc := 25) (as := [.inl (v2 + v3), .inl v1]) (st := []) (r := u1.1) (M1 := u1.2) (z_X5_reach hok hq c2) cw_X5_reach ml_X5_83 hq rfl rfl (by decide) (Nat.le_of_ble_eq_true rfl) rfl dX5_greatestAt_25 ?_
        refine go_aload_n (pc := 28) dX5_greatestAt_28 rfl ?_
        refine gf_5_33 (pc := 29) hq dX5_greatestAt_29 ?_
        refine go_icmp_gt (pc := 32) (tgt := 38) dX5_greatestAt_32 (by decide) (fun e3 => ?_) (fun e3 => ?_)
        · replace h := (if_pos e3).symm.trans h
          refine go_iload_n (pc := 38) dX5_greatestAt_38 rfl ?_
          refine go_iconst (pc := 39) (v := (2 : Int32)) dX5_greatestAt_39 (by decide) ?_
          refine go_idiv (pc := 40) dX5_greatestAt_40 (by decide) ?_
          refine go_istore_n (pc := 41) (lv' := [some (.inr q), some (.inl v1), some (.inl v2), some (.inl (v3 / (2 : Int32))), some (.inl (v2 + v3))]) dX5_greatestAt_41 (by decide) rfl ?_
          refine go_goto (pc := 42) (tgt := 5) dX5_greatestAt_42 (by decide) ?_
          exact go_to (ih _ _ _ _ h) (And.intro rfl (And.intro rfl (And.intro rfl (And.intro rfl trivial))))
        · replace h := (if_neg e3).symm.trans h
          refine go_iload (pc := 35) dX5_greatestAt_35 rfl ?_
          refine go_istore_n (pc := 37) (lv' := [some (.inr q), some (.inl v1), some (.inl (v2 + v3)), some (.inl v3), some (.inl (v2 + v3))]) dX5_greatestAt_37 (by decide) rfl ?_
          refine go_iload_n (pc := 38) dX5_greatestAt_38 rfl ?_
          refine go_iconst (pc := 39) (v := (2 : Int32)) dX5_greatestAt_39 (by decide) ?_
          refine go_idiv (pc := 40) dX5_greatestAt_40 (by decide) ?_
          refine go_istore_n (pc := 41) (lv' := [some (.inr q), some (.inl v1), some (.inl (v2 + v3)), some (.inl (v3 / (2 : Int32))), some (.inl (v2 + v3))]) dX5_greatestAt_41 (by decide) rfl ?_
          refine go_goto (pc := 42) (tgt := 5) dX5_greatestAt_42 (by decide) ?_
          exact go_to (ih _ _ _ _ h) (And.intro rfl (And.intro rfl (And.intro rfl (And.intro rfl trivial))))
def x_X5_greatestAt (q : Nat) (p1 : Int32) (M : g_M) : Option (Int32 × g_M) := (x_X5_greatestAt_L5 q  g_F p1 (0 : Int32) (64 : Int32) M)
set_option maxHeartbeats 4000000 in
set_option maxRecDepth 100000 in
theorem z_X5_greatestAt {X : g_X} (hok : g_ok X) {q : Nat} (hq : g_isM q) {p1 : Int32} {M : g_M} {r : Int32 × g_M} (h : x_X5_greatestAt q p1 M = some r) : g_Con X yX5_greatestAt cX5_greatestAt 5 (some .int) 3 68 [.inr q, .inl p1] M r := by
  rw [x_X5_greatestAt] at h
  refine g_con hok (by decide +kernel) (Nat.le_of_ble_eq_true rfl) (go_to (lv2 := [some (.inr q), some (.inl p1), none, none, none]) (own := RX5) ?_ (And.intro rfl (And.intro rfl trivial)))
  refine go_iconst (pc := 0) (v := (0 : Int32)) dX5_greatestAt_0 (by decide) ?_
  refine go_istore_n (pc := 1) (lv' := [some (.inr q), some (.inl p1), some (.inl (0 : Int32)), none, none]) dX5_greatestAt_1 (by decide) rfl ?_
  refine go_bipush (pc := 2) (v := (64 : Int32)) dX5_greatestAt_2 (by decide) ?_
  refine go_istore_n (pc := 4) (lv' := [some (.inr q), some (.inl p1), some (.inl (0 : Int32)), some (.inl (64 : Int32)), none]) dX5_greatestAt_4 (by decide) rfl ?_
  exact go_to (z_X5_greatestAt_L5 hok hq  g_F _ _ _ _ h) (And.intro rfl (And.intro rfl (And.intro rfl (And.intro rfl trivial))))
def x_X5_moveTo (q : Nat) (q1 : Nat) (p2 : Int32) (M : g_M) : Option (Int32 × g_M) := (((x_X2_ringCell q1 p2 (0 : Int32) M).bind fun u1 => ((x_X2_ringCell q1 p2 (1 : Int32) (g_upd u1.2 q 2 u1.1)).bind fun u3 => some (0, (g_upd u3.2 q 3 u3.1)))))
set_option maxHeartbeats 4000000 in
set_option maxRecDepth 100000 in
theorem z_X5_moveTo {X : g_X} (hok : g_ok X) {q : Nat} (hq : g_isM q) {q1 : Nat} (hq1 : g_isH q1) {p2 : Int32} {M : g_M} {r : Int32 × g_M} (h : x_X5_moveTo q q1 p2 M = some r) : g_Con X yX5_moveTo cX5_moveTo 3 none 2 43 [.inr q, .inr q1, .inl p2] M r := by
  rw [x_X5_moveTo] at h
  refine g_con hok (by decide +kernel) (Nat.le_of_ble_eq_true rfl) (go_to (lv2 := [some (.inr q), some (.inr q1), some (.inl p2)]) (own := RX5) ?_ (And.intro rfl (And.intro rfl (And.intro rfl trivial))))
  refine go_aload_n (pc := 0) dX5_moveTo_0 rfl ?_
  refine go_aload_n (pc := 1) dX5_moveTo_1 rfl ?_
  refine go_iload_n (pc := 2) dX5_moveTo_2 rfl ?_
  refine go_iconst (pc := 3) (v := (0 : Int32)) dX5_moveTo_3 (by decide) ?_
  obtain ⟨u1, c2, h⟩ := g_bd h
  refine go_callV (pc := 4) (as := [.inl p2, .inl (0 : Int32)]) (st := [.inr q]) (r := u1.1) (M1 := u1.2) (z_X2_ringCell hok hq1 c2) cw_X2_ringCell ml_X5_49 hq1.1 rfl rfl (by decide) (Nat.le_of_ble_eq_true rfl) rfl dX5_moveTo_4 ?_
  refine gp_5_18 (pc := 7) hq dX5_moveTo_7 ?_
  refine go_aload_n (pc := 10) dX5_moveTo_10 rfl ?_
  refine go_aload_n (pc := 11) dX5_moveTo_11 rfl ?_
  refine go_iload_n (pc := 12) dX5_moveTo_12 rfl ?_
  refine go_iconst (pc := 13) (v := (1 : Int32)) dX5_moveTo_13 (by decide) ?_
  obtain ⟨u3, c4, h⟩ := g_bd h
  refine go_callV (pc := 14) (as := [.inl p2, .inl (1 : Int32)]) (st := [.inr q]) (r := u3.1) (M1 := u3.2) (z_X2_ringCell hok hq1 c4) cw_X2_ringCell ml_X5_49 hq1.1 rfl rfl (by decide) (Nat.le_of_ble_eq_true rfl) rfl dX5_moveTo_14 ?_
  refine gp_5_21 (pc := 17) hq dX5_moveTo_17 ?_
  exact go_vret (pc := 20) (Option.some.inj h).symm rfl dX5_moveTo_20
def x_X5_load (q : Nat) (q1 : Nat) (p2 : Int32) (M : g_M) : Option (Int32 × g_M) := (((x_X2_boatCell q1 p2 (0 : Int32) M).bind fun u1 => ((x_X2_boatCell q1 p2 (1 : Int32) (g_upd u1.2 q 0 u1.1)).bind fun u3 => ((x_X2_boatCell q1 p2 (2 : Int32) (g_upd u3.2 q 1 u3.1)).bind fun u5 => ((x_X5_moveTo q q1 u5.1 u5.2).bind fun u7 => ((x_X2_boatCell q1 p2 (3 : Int32) u7.2).bind fun u9 => ((x_X2_ringCell q1 u9.1 (0 : Int32) u9.2).bind fun u11 => ((x_X2_boatCell q1 p2 (4 : Int32) (g_upd u11.2 q 4 u11.1)).bind fun u13 => ((x_X2_boatCell q1 p2 (5 : Int32) (g_upd u13.2 q 5 u13.1)).bind fun u15 => ((x_X2_boatCell q1 p2 (6 : Int32) (g_upd u15.2 q 6 u15.1)).bind fun u17 => some (0, (g_upd (g_upd u17.2 q 7 u17.1) q 8 ((g_upd u17.2 q 7 u17.1) q1 9)))))))))))))
set_option maxHeartbeats 4000000 in
set_option maxRecDepth 100000 in
theorem z_X5_load {X : g_X} (hok : g_ok X) {q : Nat} (hq : g_isM q) {q1 : Nat} (hq1 : g_isH q1) {p2 : Int32} {M : g_M} {r : Int32 × g_M} (h : x_X5_load q q1 p2 M = some r) : g_Con X yX5_load cX5_load 3 none 3 65 [.inr q, .inr q1, .inl p2] M r := by
  rw [x_X5_load] at h
  refine g_con hok (by decide +kernel) (Nat.le_of_ble_eq_true rfl) (go_to (lv2 := [some (.inr q), some (.inr q1), some (.inl p2)]) (own := RX5) ?_ (And.intro rfl (And.intro rfl (And.intro rfl trivial))))
  refine go_aload_n (pc := 0) dX5_load_0 rfl ?_
  refine go_aload_n (pc := 1) dX5_load_1 rfl ?_
  refine go_iload_n (pc := 2) dX5_load_2 rfl ?_
  refine go_iconst (pc := 3) (v := (0 : Int32)) dX5_load_3 (by decide) ?_
  obtain ⟨u1, c2, h⟩ := g_bd h
  refine go_callV (pc := 4) (as := [.inl p2, .inl (0 : Int32)]) (st := [.inr q]) (r := u1.1) (M1 := u1.2) (z_X2_boatCell hok hq1 c2) cw_X2_boatCell ml_X5_39 hq1.1 rfl rfl (by decide) (Nat.le_of_ble_eq_true rfl) rfl dX5_load_4 ?_
  refine gp_5_9 (pc := 7) hq dX5_load_7 ?_
  refine go_aload_n (pc := 10) dX5_load_10 rfl ?_
  refine go_aload_n (pc := 11) dX5_load_11 rfl ?_
  refine go_iload_n (pc := 12) dX5_load_12 rfl ?_
  refine go_iconst (pc := 13) (v := (1 : Int32)) dX5_load_13 (by decide) ?_
  obtain ⟨u3, c4, h⟩ := g_bd h
  refine go_callV (pc := 14) (as := [.inl p2, .inl (1 : Int32)]) (st := [.inr q]) (r := u3.1) (M1 := u3.2) (z_X2_boatCell hok hq1 c4) cw_X2_boatCell ml_X5_39 hq1.1 rfl rfl (by decide) (Nat.le_of_ble_eq_true rfl) rfl dX5_load_14 ?_
  refine gp_5_15 (pc := 17) hq dX5_load_17 ?_
  refine go_aload_n (pc := 20) dX5_load_20 rfl ?_
  refine go_aload_n (pc := 21) dX5_load_21 rfl ?_
  refine go_aload_n (pc := 22) dX5_load_22 rfl ?_
  refine go_iload_n (pc := 23) dX5_load_23 rfl ?_
  refine go_iconst (pc := 24) (v := (2 : Int32)) dX5_load_24 (by decide) ?_
  obtain ⟨u5, c6, h⟩ := g_bd h
  refine go_callV (pc := 25) (as := [.inl p2, .inl (2 : Int32)]) (st := [.inr q1, .inr q]) (r := u5.1) (M1 := u5.2) (z_X2_boatCell hok hq1 c6) cw_X2_boatCell ml_X5_39 hq1.1 rfl rfl (by decide) (Nat.le_of_ble_eq_true rfl) rfl dX5_load_25 ?_
  obtain ⟨u7, c8, h⟩ := g_bd h
  refine go_callV (pc := 28) (as := [.inr q1, .inl u5.1]) (st := []) (r := u7.1) (M1 := u7.2) (z_X5_moveTo hok hq hq1 c8) cw_X5_moveTo ml_X5_45 hq rfl rfl (by decide) (Nat.le_of_ble_eq_true rfl) rfl dX5_load_28 ?_
  refine go_aload_n (pc := 31) dX5_load_31 rfl ?_
  refine go_aload_n (pc := 32) dX5_load_32 rfl ?_
  refine go_aload_n (pc := 33) dX5_load_33 rfl ?_
  refine go_iload_n (pc := 34) dX5_load_34 rfl ?_
  refine go_iconst (pc := 35) (v := (3 : Int32)) dX5_load_35 (by decide) ?_
  obtain ⟨u9, c10, h⟩ := g_bd h
  refine go_callV (pc := 36) (as := [.inl p2, .inl (3 : Int32)]) (st := [.inr q1, .inr q]) (r := u9.1) (M1 := u9.2) (z_X2_boatCell hok hq1 c10) cw_X2_boatCell ml_X5_39 hq1.1 rfl rfl (by decide) (Nat.le_of_ble_eq_true rfl) rfl dX5_load_36 ?_
  refine go_iconst (pc := 39) (v := (0 : Int32)) dX5_load_39 (by decide) ?_
  obtain ⟨u11, c12, h⟩ := g_bd h
  refine go_callV (pc := 40) (as := [.inl u9.1, .inl (0 : Int32)]) (st := [.inr q]) (r := u11.1) (M1 := u11.2) (z_X2_ringCell hok hq1 c12) cw_X2_ringCell ml_X5_49 hq1.1 rfl rfl (by decide) (Nat.le_of_ble_eq_true rfl) rfl dX5_load_40 ?_
  refine gp_5_24 (pc := 43) hq dX5_load_43 ?_
  refine go_aload_n (pc := 46) dX5_load_46 rfl ?_
  refine go_aload_n (pc := 47) dX5_load_47 rfl ?_
  refine go_iload_n (pc := 48) dX5_load_48 rfl ?_
  refine go_iconst (pc := 49) (v := (4 : Int32)) dX5_load_49 (by decide) ?_
  obtain ⟨u13, c14, h⟩ := g_bd h
  refine go_callV (pc := 50) (as := [.inl p2, .inl (4 : Int32)]) (st := [.inr q]) (r := u13.1) (M1 := u13.2) (z_X2_boatCell hok hq1 c14) cw_X2_boatCell ml_X5_39 hq1.1 rfl rfl (by decide) (Nat.le_of_ble_eq_true rfl) rfl dX5_load_50 ?_
  refine gp_5_27 (pc := 53) hq dX5_load_53 ?_
  refine go_aload_n (pc := 56) dX5_load_56 rfl ?_
  refine go_aload_n (pc := 57) dX5_load_57 rfl ?_
  refine go_iload_n (pc := 58) dX5_load_58 rfl ?_
  refine go_iconst (pc := 59) (v := (5 : Int32)) dX5_load_59 (by decide) ?_
  obtain ⟨u15, c16, h⟩ := g_bd h
  refine go_callV (pc := 60) (as := [.inl p2, .inl (5 : Int32)]) (st := [.inr q]) (r := u15.1) (M1 := u15.2) (z_X2_boatCell hok hq1 c16) cw_X2_boatCell ml_X5_39 hq1.1 rfl rfl (by decide) (Nat.le_of_ble_eq_true rfl) rfl dX5_load_60 ?_
  refine gp_5_30 (pc := 63) hq dX5_load_63 ?_
  refine go_aload_n (pc := 66) dX5_load_66 rfl ?_
  refine go_aload_n (pc := 67) dX5_load_67 rfl ?_
  refine go_iload_n (pc := 68) dX5_load_68 rfl ?_
  refine go_bipush (pc := 69) (v := (6 : Int32)) dX5_load_69 (by decide) ?_
  obtain ⟨u17, c18, h⟩ := g_bd h
  refine go_callV (pc := 71) (as := [.inl p2, .inl (6 : Int32)]) (st := [.inr q]) (r := u17.1) (M1 := u17.2) (z_X2_boatCell hok hq1 c18) cw_X2_boatCell ml_X5_39 hq1.1 rfl rfl (by decide) (Nat.le_of_ble_eq_true rfl) rfl dX5_load_71 ?_
  refine gp_5_33 (pc := 74) hq dX5_load_74 ?_
  refine go_aload_n (pc := 77) dX5_load_77 rfl ?_
  refine go_aload_n (pc := 78) dX5_load_78 rfl ?_
  refine gf_5_52 (pc := 79) hq1 dX5_load_79 ?_
  refine gp_5_36 (pc := 82) hq dX5_load_82 ?_
  exact go_vret (pc := 85) (Option.some.inj h).symm rfl dX5_load_85
def x_X5_leastFor_L4 (q : Nat) (a1 n1 : Nat)  : Nat → Int32 → Int32 → g_M → Option (Int32 × g_M)
  | 0, _, _, _ => none
  | n + 1, v2, v3, M => (if (Int32.ofNat n1) ≤ v3 then (some (v2, M)) else ((if g_inb v3 n1 = true then (((x_X5_leastAt q (M a1 v3.toNatClampNeg) M).bind fun u2 => x_X5_leastFor_L4 q a1 n1  n (g_max v2 u2.1) (v3 + (1 : Int32)) u2.2)) else none)))
set_option maxHeartbeats 4000000 in
set_option maxRecDepth 100000 in
theorem z_X5_leastFor_L4 {X : g_X} (hok : g_ok X) {q : Nat} (hq : g_isM q) {a1 n1 : Nat} (ha1 : g_lay[a1]? = some (.inl n1)) {r : Int32 × g_M}  : ∀ (n : Nat) (v2 v3 : Int32) (M : g_M), x_X5_leastFor_L4 q a1 n1  n v2 v3 M = some r → g_Go X cX5_leastFor RX5 4 (some .int) 3 67 r 4 [some (.inr q), some (.inr a1), some (.inl v2), some (.inl v3)] [] M := by
  intro n
  induction n with
  | zero =>
    intro v2 v3 M h
    rw [x_X5_leastFor_L4] at h
    cases h
  | succ n ih =>
    intro v2 v3 M h
    rw [x_X5_leastFor_L4] at h
    refine go_iload_n (pc := 4) dX5_leastFor_4 rfl ?_
    refine go_aload_n (pc := 5) dX5_leastFor_5 rfl ?_
    refine go_alen (pc := 6) (n := n1) (v := (Int32.ofNat n1)) ha1 rfl dX5_leastFor_6 ?_
    refine go_icmp_ge (pc := 7) (tgt := 28) dX5_leastFor_7 (by decide) (fun e4 => ?_) (fun e4 => ?_)
    · replace h := (if_pos e4).symm.trans h
      refine go_iload_n (pc := 28) dX5_leastFor_28 rfl ?_
      exact go_iret (pc := 29) (Option.some.inj h).symm rfl dX5_leastFor_29 rfl
    · replace h := (if_neg e4).symm.trans h
      refine go_iload_n (pc := 10) dX5_leastFor_10 rfl ?_
      refine go_aload_n (pc := 11) dX5_leastFor_11 rfl ?_
      refine go_aload_n (pc := 12) dX5_leastFor_12 rfl ?_
      refine go_iload_n (pc := 13) dX5_leastFor_13 rfl ?_
      obtain ⟨i1, h⟩ := g_gd h
      refine go_iald (pc := 14) (n := n1) ha1 (g_inb_ok i1) dX5_leastFor_14 ?_
      obtain ⟨u2, c3, h⟩ := g_bd h
      refine go_callV (pc := 15) (as := [.inl (M a1 v3.toNatClampNeg)]) (st := [.inl v2]) (r := u2.1) (M1 := u2.2) (z_X5_leastAt hok hq c3) cw_X5_leastAt ml_X5_69 hq rfl rfl (by decide) (Nat.le_of_ble_eq_true rfl) rfl dX5_leastFor_15 ?_
      refine go_mmax (pc := 18) ml_X5_72 lm_max_s lm_i lm_max_c (by decide) (Nat.le_of_ble_eq_true rfl) dX5_leastFor_18 ?_
      refine go_istore_n (pc := 21) (lv' := [some (.inr q), some (.inr a1), some (.inl (g_max v2 u2.1)), some (.inl v3)]) dX5_leastFor_21 (by decide) rfl ?_
      refine go_iinc (pc := 22) (v := (1 : Int32)) (lv' := [some (.inr q), some (.inr a1), some (.inl (g_max v2 u2.1)), some (.inl (v3 + (1 : Int32)))]) dX5_leastFor_22 rfl (by decide) (by decide) rfl ?_
      refine go_goto (pc := 25) (tgt := 4) dX5_leastFor_25 (by decide) ?_
      exact go_to (ih _ _ _ h) (And.intro rfl (And.intro rfl (And.intro rfl (And.intro rfl trivial))))
def x_X5_leastFor (q : Nat) (a1 n1 : Nat) (M : g_M) : Option (Int32 × g_M) := (x_X5_leastFor_L4 q a1 n1  g_F (0 : Int32) (0 : Int32) M)
set_option maxHeartbeats 4000000 in
set_option maxRecDepth 100000 in
theorem z_X5_leastFor {X : g_X} (hok : g_ok X) {q : Nat} (hq : g_isM q) {a1 n1 : Nat} (ha1 : g_lay[a1]? = some (.inl n1)) {M : g_M} {r : Int32 × g_M} (h : x_X5_leastFor q a1 n1 M = some r) : g_Con X yX5_leastFor cX5_leastFor 4 (some .int) 3 67 [.inr q, .inr a1] M r := by
  rw [x_X5_leastFor] at h
  refine g_con hok (by decide +kernel) (Nat.le_of_ble_eq_true rfl) (go_to (lv2 := [some (.inr q), some (.inr a1), none, none]) (own := RX5) ?_ (And.intro rfl (And.intro rfl trivial)))
  refine go_iconst (pc := 0) (v := (0 : Int32)) dX5_leastFor_0 (by decide) ?_
  refine go_istore_n (pc := 1) (lv' := [some (.inr q), some (.inr a1), some (.inl (0 : Int32)), none]) dX5_leastFor_1 (by decide) rfl ?_
  refine go_iconst (pc := 2) (v := (0 : Int32)) dX5_leastFor_2 (by decide) ?_
  refine go_istore_n (pc := 3) (lv' := [some (.inr q), some (.inr a1), some (.inl (0 : Int32)), some (.inl (0 : Int32))]) dX5_leastFor_3 (by decide) rfl ?_
  exact go_to (z_X5_leastFor_L4 hok hq ha1  g_F _ _ _ h) (And.intro rfl (And.intro rfl (And.intro rfl (And.intro rfl trivial))))
def x_X5_hangingHours (q : Nat) (a1 n1 : Nat) (M : g_M) : Option (Int32 × g_M) := (((x_X5_hangingWith q a1 n1 (M q 5) M).bind fun u1 => some (u1.1, u1.2)))
set_option maxHeartbeats 4000000 in
set_option maxRecDepth 100000 in
theorem z_X5_hangingHours {X : g_X} (hok : g_ok X) {q : Nat} (hq : g_isM q) {a1 n1 : Nat} (ha1 : g_lay[a1]? = some (.inl n1)) {M : g_M} {r : Int32 × g_M} (h : x_X5_hangingHours q a1 n1 M = some r) : g_Con X yX5_hangingHours cX5_hangingHours 2 (some .int) 4 90 [.inr q, .inr a1] M r := by
  rw [x_X5_hangingHours] at h
  refine g_con hok (by decide +kernel) (Nat.le_of_ble_eq_true rfl) (go_to (lv2 := [some (.inr q), some (.inr a1)]) (own := RX5) ?_ (And.intro rfl (And.intro rfl trivial)))
  refine go_aload_n (pc := 0) dX5_hangingHours_0 rfl ?_
  refine go_aload_n (pc := 1) dX5_hangingHours_1 rfl ?_
  refine gf_5_27 (pc := 2) hq dX5_hangingHours_2 ?_
  refine go_aload_n (pc := 5) dX5_hangingHours_5 rfl ?_
  obtain ⟨u1, c2, h⟩ := g_bd h
  refine go_callV (pc := 6) (as := [.inl (M q 5), .inr a1]) (st := []) (r := u1.1) (M1 := u1.2) (z_X5_hangingWith hok hq ha1 c2) cw_X5_hangingWith ml_X5_79 hq rfl rfl (by decide) (Nat.le_of_ble_eq_true rfl) rfl dX5_hangingHours_6 ?_
  exact go_iret (pc := 9) (Option.some.inj h).symm rfl dX5_hangingHours_9 rfl
def x_X5_tooFarHours_L4 (q : Nat) (a1 n1 : Nat)  : Nat → Int32 → Int32 → g_M → Option (Int32 × g_M)
  | 0, _, _, _ => none
  | n + 1, v2, v3, M => (if (Int32.ofNat n1) ≤ v3 then (some (v2, M)) else ((if g_inb v3 n1 = true then (((x_X5_reach q (M q 5) (M a1 v3.toNatClampNeg) M).bind fun u2 => if u2.1 ≤ (u2.2 q 7) then (x_X5_tooFarHours_L4 q a1 n1  n v2 (v3 + (1 : Int32)) u2.2) else (x_X5_tooFarHours_L4 q a1 n1  n (v2 ||| ((1 : Int32) <<< (v3 &&& 31))) (v3 + (1 : Int32)) u2.2))) else none)))
set_option maxHeartbeats 4000000 in
set_option maxRecDepth 100000 in
theorem z_X5_tooFarHours_L4 {X : g_X} (hok : g_ok X) {q : Nat} (hq : g_isM q) {a1 n1 : Nat} (ha1 : g_lay[a1]? = some (.inl n1)) {r : Int32 × g_M}  : ∀ (n : Nat) (v2 v3 : Int32) (M : g_M), x_X5_tooFarHours_L4 q a1 n1  n v2 v3 M = some r → g_Go X cX5_tooFarHours RX5 4 (some .int) 3 68 r 4 [some (.inr q), some (.inr a1), some (.inl v2), some (.inl v3)] [] M := by
  intro n
  induction n with
  | zero =>
    intro v2 v3 M h
    rw [x_X5_tooFarHours_L4] at h
    cases h
  | succ n ih =>
    intro v2 v3 M h
    rw [x_X5_tooFarHours_L4] at h
    refine go_iload_n (pc := 4) dX5_tooFarHours_4 rfl ?_
    refine go_aload_n (pc := 5) dX5_tooFarHours_5 rfl ?_
    refine go_alen (pc := 6) (n := n1) (v := (Int32.ofNat n1)) ha1 rfl dX5_tooFarHours_6 ?_
    refine go_icmp_ge (pc := 7) (tgt := 40) dX5_tooFarHours_7 (by decide) (fun e5 => ?_) (fun e5 => ?_)
    · replace h := (if_pos e5).symm.trans h
      refine go_iload_n (pc := 40) dX5_tooFarHours_40 rfl ?_
      exact go_iret (pc := 41) (Option.some.inj h).symm rfl dX5_tooFarHours_41 rfl
    · replace h := (if_neg e5).symm.trans h
      refine go_aload_n (pc := 10) dX5_tooFarHours_10 rfl ?_
      refine go_aload_n (pc := 11) dX5_tooFarHours_11 rfl ?_
      refine gf_5_27 (pc := 12) hq dX5_tooFarHours_12 ?_
      refine go_aload_n (pc := 15) dX5_tooFarHours_15 rfl ?_
      refine go_iload_n (pc := 16) dX5_tooFarHours_16 rfl ?_
      obtain ⟨i1, h⟩ := g_gd h
      refine go_iald (pc := 17) (n := n1) ha1 (g_inb_ok i1) dX5_tooFarHours_17 ?_
      obtain ⟨u2, c3, h⟩ := g_bd h
      refine go_callV (pc := 18) (as := [.inl (M q 5), .inl (M a1 v3.toNatClampNeg)]) (st := []) (r := u2.1) (M1 := u2.2) (z_X5_reach hok hq c3) cw_X5_reach ml_X5_83 hq rfl rfl (by decide) (Nat.le_of_ble_eq_true rfl) rfl dX5_tooFarHours_18 ?_
      refine go_aload_n (pc := 21) dX5_tooFarHours_21 rfl ?_
      refine gf_5_33 (pc := 22) hq dX5_tooFarHours_22 ?_
      refine go_icmp_le (pc := 25) (tgt := 34) dX5_tooFarHours_25 (by decide) (fun e4 => ?_) (fun e4 => ?_)
      · replace h := (if_pos e4).symm.trans h
        refine go_iinc (pc := 34) (v := (1 : Int32)) (lv' := [some (.inr q), some (.inr a1), some (.inl v2), some (.inl (v3 + (1 : Int32)))]) dX5_tooFarHours_34 rfl (by decide) (by decide) rfl ?_
        refine go_goto (pc := 37) (tgt := 4) dX5_tooFarHours_37 (by decide) ?_
        exact go_to (ih _ _ _ h) (And.intro rfl (And.intro rfl (And.intro rfl (And.intro rfl trivial))))
      · replace h := (if_neg e4).symm.trans h
        refine go_iload_n (pc := 28) dX5_tooFarHours_28 rfl ?_
        refine go_iconst (pc := 29) (v := (1 : Int32)) dX5_tooFarHours_29 (by decide) ?_
        refine go_iload_n (pc := 30) dX5_tooFarHours_30 rfl ?_
        refine go_ishl (pc := 31) dX5_tooFarHours_31 ?_
        refine go_ior (pc := 32) dX5_tooFarHours_32 ?_
        refine go_istore_n (pc := 33) (lv' := [some (.inr q), some (.inr a1), some (.inl (v2 ||| ((1 : Int32) <<< (v3 &&& 31)))), some (.inl v3)]) dX5_tooFarHours_33 (by decide) rfl ?_
        refine go_iinc (pc := 34) (v := (1 : Int32)) (lv' := [some (.inr q), some (.inr a1), some (.inl (v2 ||| ((1 : Int32) <<< (v3 &&& 31)))), some (.inl (v3 + (1 : Int32)))]) dX5_tooFarHours_34 rfl (by decide) (by decide) rfl ?_
        refine go_goto (pc := 37) (tgt := 4) dX5_tooFarHours_37 (by decide) ?_
        exact go_to (ih _ _ _ h) (And.intro rfl (And.intro rfl (And.intro rfl (And.intro rfl trivial))))
def x_X5_tooFarHours (q : Nat) (a1 n1 : Nat) (M : g_M) : Option (Int32 × g_M) := (x_X5_tooFarHours_L4 q a1 n1  g_F (0 : Int32) (0 : Int32) M)
set_option maxHeartbeats 4000000 in
set_option maxRecDepth 100000 in
theorem z_X5_tooFarHours {X : g_X} (hok : g_ok X) {q : Nat} (hq : g_isM q) {a1 n1 : Nat} (ha1 : g_lay[a1]? = some (.inl n1)) {M : g_M} {r : Int32 × g_M} (h : x_X5_tooFarHours q a1 n1 M = some r) : g_Con X yX5_tooFarHours cX5_tooFarHours 4 (some .int) 3 68 [.inr q, .inr a1] M r := by
  rw [x_X5_tooFarHours] at h
  refine g_con hok (by decide +kernel) (Nat.le_of_ble_eq_true rfl) (go_to (lv2 := [some (.inr q), some (.inr a1), none, none]) (own := RX5) ?_ (And.intro rfl (And.intro rfl trivial)))
  refine go_iconst (pc := 0) (v := (0 : Int32)) dX5_tooFarHours_0 (by decide) ?_
  refine go_istore_n (pc := 1) (lv' := [some (.inr q), some (.inr a1), some (.inl (0 : Int32)), none]) dX5_tooFarHours_1 (by decide) rfl ?_
  refine go_iconst (pc := 2) (v := (0 : Int32)) dX5_tooFarHours_2 (by decide) ?_
  refine go_istore_n (pc := 3) (lv' := [some (.inr q), some (.inr a1), some (.inl (0 : Int32)), some (.inl (0 : Int32))]) dX5_tooFarHours_3 (by decide) rfl ?_
  exact go_to (z_X5_tooFarHours_L4 hok hq ha1  g_F _ _ _ h) (And.intro rfl (And.intro rfl (And.intro rfl (And.intro rfl trivial))))
def x_X5_blownMiddle (q : Nat) (p1 p2 : Int32) (M : g_M) : Option (Int32 × g_M) := (((x_X5_reach q (M q 5) p1 M).bind fun u1 => ((x_X5_stillMiddle q u1.2).bind fun u3 => some ((u3.1 + (g_max (-u1.1) (g_min u1.1 p2))), u3.2))))
set_option maxHeartbeats 4000000 in
set_option maxRecDepth 100000 in
theorem z_X5_blownMiddle {X : g_X} (hok : g_ok X) {q : Nat} (hq : g_isM q) {p1 p2 : Int32} {M : g_M} {r : Int32 × g_M} (h : x_X5_blownMiddle q p1 p2 M = some r) : g_Con X yX5_blownMiddle cX5_blownMiddle 4 (some .int) 3 68 [.inr q, .inl p1, .inl p2] M r := by
  rw [x_X5_blownMiddle] at h
  refine g_con hok (by decide +kernel) (Nat.le_of_ble_eq_true rfl) (go_to (lv2 := [some (.inr q), some (.inl p1), some (.inl p2), none]) (own := RX5) ?_ (And.intro rfl (And.intro rfl (And.intro rfl trivial))))
  refine go_aload_n (pc := 0) dX5_blownMiddle_0 rfl ?_
  refine go_aload_n (pc := 1) dX5_blownMiddle_1 rfl ?_
  refine gf_5_27 (pc := 2) hq dX5_blownMiddle_2 ?_
  refine go_iload_n (pc := 5) dX5_blownMiddle_5 rfl ?_
  obtain ⟨u1, c2, h⟩ := g_bd h
  refine go_callV (pc := 6) (as := [.inl (M q 5), .inl p1]) (st := []) (r := u1.1) (M1 := u1.2) (z_X5_reach hok hq c2) cw_X5_reach ml_X5_83 hq rfl rfl (by decide) (Nat.le_of_ble_eq_true rfl) rfl dX5_blownMiddle_6 ?_
  refine go_istore_n (pc := 9) (lv' := [some (.inr q), some (.inl p1), some (.inl p2), some (.inl u1.1)]) dX5_blownMiddle_9 (by decide) rfl ?_
  refine go_aload_n (pc := 10) dX5_blownMiddle_10 rfl ?_
  obtain ⟨u3, c4, h⟩ := g_bd h
  refine go_callV (pc := 11) (as := []) (st := []) (r := u3.1) (M1 := u3.2) (z_X5_stillMiddle hok hq c4) cw_X5_stillMiddle ml_X5_89 hq rfl rfl (by decide) (Nat.le_of_ble_eq_true rfl) rfl dX5_blownMiddle_11 ?_
  refine go_iload_n (pc := 14) dX5_blownMiddle_14 rfl ?_
  refine go_ineg (pc := 15) dX5_blownMiddle_15 ?_
  refine go_iload_n (pc := 16) dX5_blownMiddle_16 rfl ?_
  refine go_iload_n (pc := 17) dX5_blownMiddle_17 rfl ?_
  refine go_mmin (pc := 18) ml_X5_86 lm_min_s lm_i lm_min_c (by decide) (Nat.le_of_ble_eq_true rfl) dX5_blownMiddle_18 ?_
  refine go_mmax (pc := 21) ml_X5_72 lm_max_s lm_i lm_max_c (by decide) (Nat.le_of_ble_eq_true rfl) dX5_blownMiddle_21 ?_
  refine go_iadd (pc := 24) dX5_blownMiddle_24 ?_
  exact go_iret (pc := 25) (Option.some.inj h).symm rfl dX5_blownMiddle_25 rfl
