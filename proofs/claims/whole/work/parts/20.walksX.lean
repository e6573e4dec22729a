def x_X0_setCost  (p1 p2 p3 : Int32) (M : g_M) : Option (Int32 × g_M) := (if ((p1 * (6 : Int32)) + p2) < 0 then (some (0, M)) else (if (30 : Int32) ≤ ((p1 * (6 : Int32)) + p2) then (some (0, M)) else ((if g_inb ((p1 * (6 : Int32)) + p2) 30 = true then (some (0, (g_upd M 35 ((p1 * (6 : Int32)) + p2).toNatClampNeg p3))) else none))))
set_option maxHeartbeats 4000000 in
set_option maxRecDepth 100000 in
theorem z_X0_setCost {X : g_X} (hok : g_ok X)  {p1 p2 p3 : Int32} {M : g_M} {r : Int32 × g_M} (h : x_X0_setCost p1 p2 p3 M = some r) : g_Con X yX0_setCost cX0_setCost 5 none 0 0 [.inr 34, .inl p1, .inl p2, .inl p3] M r := by
  rw [x_X0_setCost] at h
  refine g_con hok (plainFor_of_name (by decide +kernel)) (Nat.le_of_ble_eq_true rfl) (go_to (lv2 := [some (.inr 34), some (.inl p1), some (.inl p2), some (.inl p3), none]) (own := RX0) ?_ (And.intro rfl (And.intro rfl (And.intro rfl (And.intro rfl trivial)))))
  refine go_iload_n (pc := 0) dX0_setCost_0 rfl ?_
  refine go_bipush (pc := 1) (v := (6 : Int32)) dX0_setCost_1 (by decide) ?_
  refine go_imul (pc := 3) dX0_setCost_3 ?_
  refine go_iload_n (pc := 4) dX0_setCost_4 rfl ?_
  refine go_iadd (pc := 5) dX0_setCost_5 ?_
  refine go_istore (pc := 6) (lv' := [some (.inr 34), some (.inl p1), some (.inl p2), some (.inl p3), some (.inl ((p1 * (6 : Int32)) + p2))]) dX0_setCost_6 (by decide) rfl ?_
  refine go_iload (pc := 8) dX0_setCost_8 rfl ?_
  refine go_if_lt (pc := 10) (tgt := 31) dX0_setCost_10 (by decide) (fun e3 => ?_) (fun e3 => ?_)
  · replace h := (if_pos e3).symm.trans h
    exact go_vret (pc := 31) (Option.some.inj h).symm rfl dX0_setCost_31
  · replace h := (if_neg e3).symm.trans h
    refine go_iload (pc := 13) dX0_setCost_13 rfl ?_
    refine go_aload_n (pc := 15) dX0_setCost_15 rfl ?_
    refine gf_0_9 (pc := 16) dX0_setCost_16 ?_
    refine go_alen (pc := 19) (n := 30) (v := (30 : Int32)) rfl (by decide) dX0_setCost_19 ?_
    refine go_icmp_ge (pc := 20) (tgt := 31) dX0_setCost_20 (by decide) (fun e2 => ?_) (fun e2 => ?_)
    · replace h := (if_pos e2).symm.trans h
      exact go_vret (pc := 31) (Option.some.inj h).symm rfl dX0_setCost_31
    · replace h := (if_neg e2).symm.trans h
      refine go_aload_n (pc := 23) dX0_setCost_23 rfl ?_
      refine gf_0_9 (pc := 24) dX0_setCost_24 ?_
      refine go_iload (pc := 27) dX0_setCost_27 rfl ?_
      refine go_iload_n (pc := 29) dX0_setCost_29 rfl ?_
      obtain ⟨i1, h⟩ := g_gd h
      refine go_iast (pc := 30) (n := 30) rfl (g_inb_ok i1) dX0_setCost_30 ?_
      exact go_vret (pc := 31) (Option.some.inj h).symm rfl dX0_setCost_31
def x_X0_costWith  (p1 p2 p3 : Int32) (M : g_M) : Option (Int32 × g_M) := (if p3 < (M 34 3) then (if (p2 &&& ((1 : Int32) <<< (p3 &&& 31))) = 0 then ((if g_inb ((p1 * (6 : Int32)) + p3) 30 = true then ((if g_inb (((p1 + (1 : Int32)) * (64 : Int32)) + (p2 ||| ((1 : Int32) <<< (p3 &&& 31)))) 384 = true then (some (((M 35 ((p1 * (6 : Int32)) + p3).toNatClampNeg) + (M 36 (((p1 + (1 : Int32)) * (64 : Int32)) + (p2 ||| ((1 : Int32) <<< (p3 &&& 31)))).toNatClampNeg)), M)) else none)) else none)) else (some ((1000000 : Int32), M))) else ((if g_inb (((p1 + (1 : Int32)) * (64 : Int32)) + p2) 384 = true then (some (((M 34 4) + (M 36 (((p1 + (1 : Int32)) * (64 : Int32)) + p2).toNatClampNeg)), M)) else none)))
set_option maxHeartbeats 4000000 in
set_option maxRecDepth 100000 in
theorem z_X0_costWith {X : g_X} (hok : g_ok X)  {p1 p2 p3 : Int32} {M : g_M} {r : Int32 × g_M} (h : x_X0_costWith p1 p2 p3 M = some r) : g_Con X yX0_costWith cX0_costWith 5 (some .int) 0 0 [.inr 34, .inl p1, .inl p2, .inl p3] M r := by
  rw [x_X0_costWith] at h
  refine g_con hok (plainFor_of_name (by decide +kernel)) (Nat.le_of_ble_eq_true rfl) (go_to (lv2 := [some (.inr 34), some (.inl p1), some (.inl p2), some (.inl p3), none]) (own := RX0) ?_ (And.intro rfl (And.intro rfl (And.intro rfl (And.intro rfl trivial)))))
  refine go_iload_n (pc := 0) dX0_costWith_0 rfl ?_
  refine go_iconst (pc := 1) (v := (1 : Int32)) dX0_costWith_1 (by decide) ?_
  refine go_iadd (pc := 2) dX0_costWith_2 ?_
  refine go_bipush (pc := 3) (v := (64 : Int32)) dX0_costWith_3 (by decide) ?_
  refine go_imul (pc := 5) dX0_costWith_5 ?_
  refine go_istore (pc := 6) (lv' := [some (.inr 34), some (.inl p1), some (.inl p2), some (.inl p3), some (.inl ((p1 + (1 : Int32)) * (64 : Int32)))]) dX0_costWith_6 (by decide) rfl ?_
  refine go_iload_n (pc := 8) dX0_costWith_8 rfl ?_
  refine go_aload_n (pc := 9) dX0_costWith_9 rfl ?_
  refine gf_0_22 (pc := 10) dX0_costWith_10 ?_
  refine go_icmp_lt (pc := 13) (tgt := 31) dX0_costWith_13 (by decide) (fun e5 => ?_) (fun e5 => ?_)
  · replace h := (if_pos e5).symm.trans h
    refine go_iload_n (pc := 31) dX0_costWith_31 rfl ?_
    refine go_iconst (pc := 32) (v := (1 : Int32)) dX0_costWith_32 (by decide) ?_
    refine go_iload_n (pc := 33) dX0_costWith_33 rfl ?_
    refine go_ishl (pc := 34) dX0_costWith_34 ?_
    refine go_iand (pc := 35) dX0_costWith_35 ?_
    refine go_if_eq (pc := 36) (tgt := 42) dX0_costWith_36 (by decide) (fun e3 => ?_) (fun e3 => ?_)
    · replace h := (if_pos e3).symm.trans h
      refine go_aload_n (pc := 42) dX0_costWith_42 rfl ?_
      refine gf_0_9 (pc := 43) dX0_costWith_43 ?_
      refine go_iload_n (pc := 46) dX0_costWith_46 rfl ?_
      refine go_bipush (pc := 47) (v := (6 : Int32)) dX0_costWith_47 (by decide) ?_
      refine go_imul (pc := 49) dX0_costWith_49 ?_
      refine go_iload_n (pc := 50) dX0_costWith_50 rfl ?_
      refine go_iadd (pc := 51) dX0_costWith_51 ?_
      obtain ⟨i1, h⟩ := g_gd h
      refine go_iald (pc := 52) (n := 30) rfl (g_inb_ok i1) dX0_costWith_52 ?_
      refine go_aload_n (pc := 53) dX0_costWith_53 rfl ?_
      refine gf_0_15 (pc := 54) dX0_costWith_54 ?_
      refine go_iload (pc := 57) dX0_costWith_57 rfl ?_
      refine go_iload_n (pc := 59) dX0_costWith_59 rfl ?_
      refine go_iconst (pc := 60) (v := (1 : Int32)) dX0_costWith_60 (by decide) ?_
      refine go_iload_n (pc := 61) dX0_costWith_61 rfl ?_
      refine go_ishl (pc := 62) dX0_costWith_62 ?_
      refine go_ior (pc := 63) dX0_costWith_63 ?_
      refine go_iadd (pc := 64) dX0_costWith_64 ?_
      obtain ⟨i2, h⟩ := g_gd h
      refine go_iald (pc := 65) (n := 384) rfl (g_inb_ok i2) dX0_costWith_65 ?_
      refine go_iadd (pc := 66) dX0_costWith_66 ?_
      exact go_iret (pc := 67) (Option.some.inj h).symm rfl dX0_costWith_67 rfl
    · replace h := (if_neg e3).symm.trans h
      refine go_ldc (pc := 39) (v := (1000000 : Int32)) kc_X0_44 dX0_costWith_39 ?_
      exact go_iret (pc := 41) (Option.some.inj h).symm rfl dX0_costWith_41 rfl
  · replace h := (if_neg e5).symm.trans h
    refine go_aload_n (pc := 16) dX0_costWith_16 rfl ?_
    refine gf_0_25 (pc := 17) dX0_costWith_17 ?_
    refine go_aload_n (pc := 20) dX0_costWith_20 rfl ?_
    refine gf_0_15 (pc := 21) dX0_costWith_21 ?_
    refine go_iload (pc := 24) dX0_costWith_24 rfl ?_
    refine go_iload_n (pc := 26) dX0_costWith_26 rfl ?_
    refine go_iadd (pc := 27) dX0_costWith_27 ?_
    obtain ⟨i4, h⟩ := g_gd h
    refine go_iald (pc := 28) (n := 384) rfl (g_inb_ok i4) dX0_costWith_28 ?_
    refine go_iadd (pc := 29) dX0_costWith_29 ?_
    exact go_iret (pc := 30) (Option.some.inj h).symm rfl dX0_costWith_30 rfl
def x_X0_leastFor_L14   : Nat → Int32 → Int32 → Int32 → Int32 → g_M → Option (Int32 × g_M)
  | 0, _, _, _, _, _ => none
  | n + 1, v1, v2, v3, v4, M => (if (M 34 3) ≤ v4 then (some (v3, M)) else (((x_X0_costWith v1 v2 v4 M).bind fun u1 => x_X0_leastFor_L14   n v1 v2 (g_min v3 u1.1) (v4 + (1 : Int32)) u1.2)))
set_option maxHeartbeats 4000000 in
set_option maxRecDepth 100000 in
theorem z_X0_leastFor_L14 {X : g_X} (hok : g_ok X)  {r : Int32 × g_M}  : ∀ (n : Nat) (v1 : Int32) (v2 : Int32) (v3 : Int32) (v4 : Int32) (M : g_M), x_X0_leastFor_L14   n v1 v2 v3 v4 M = some r → g_Go X cX0_leastFor RX0 5 (some .int) 1 24 r 14 [some (.inr 34), some (.inl v1), some (.inl v2), some (.inl v3), some (.inl v4)] [] M := by
  intro n
  induction n with
  | zero =>
    intro v1 v2 v3 v4 M h
    rw [x_X0_leastFor_L14] at h
    cases h
  | succ n ih =>
    intro v1 v2 v3 v4 M h
    rw [x_X0_leastFor_L14] at h
    refine go_iload (pc := 14) dX0_leastFor_14 rfl ?_
    refine go_aload_n (pc := 16) dX0_leastFor_16 rfl ?_
    refine gf_0_22 (pc := 17) dX0_leastFor_17 ?_
    refine go_icmp_ge (pc := 20) (tgt := 42) dX0_leastFor_20 (by decide) (fun e3 => ?_) (fun e3 => ?_)
    · replace h := (if_pos e3).symm.trans h
      refine go_iload_n (pc := 42) dX0_leastFor_42 rfl ?_
      exact go_iret (pc := 43) (Option.some.inj h).symm rfl dX0_leastFor_43 rfl
    · replace h := (if_neg e3).symm.trans h
      refine go_iload_n (pc := 23) dX0_leastFor_23 rfl ?_
      refine go_aload_n (pc := 24) dX0_leastFor_24 rfl ?_
      refine go_iload_n (pc := 25) dX0_leastFor_25 rfl ?_
      refine go_iload_n (pc := 26) dX0_leastFor_26 rfl ?_
      refine go_iload (pc := 27) dX0_leastFor_27 rfl ?_
      obtain ⟨u1, c2, h⟩ := g_bd h
      refine go_callV (pc := 29) (as := [.inl v1, .inl v2, .inl v4]) (st := [.inl v3]) (r := u1.1) (M1 := u1.2) (z_X0_costWith hok  c2) cw_X0_costWith ml_X0_40 (show g_lay[34]? = some _ from rfl) rfl rfl (by decide) (Nat.le_of_ble_eq_true rfl) rfl dX0_leastFor_29 ?_
      refine go_mmin (pc := 32) ml_X0_28 lm_min_s lm_i lm_min_c (by decide) (Nat.le_of_ble_eq_true rfl) dX0_leastFor_32 ?_
      refine go_istore_n (pc := 35) (lv' := [some (.inr 34), some (.inl v1), some (.inl v2), some (.inl (g_min v3 u1.1)), some (.inl v4)]) dX0_leastFor_35 (by decide) rfl ?_
      refine go_iinc (pc := 36) (v := (1 : Int32)) (lv' := [some (.inr 34), some (.inl v1), some (.inl v2), some (.inl (g_min v3 u1.1)), some (.inl (v4 + (1 : Int32)))]) dX0_leastFor_36 rfl (by decide) (by decide) rfl ?_
      refine go_goto (pc := 39) (tgt := 14) dX0_leastFor_39 (by decide) ?_
      exact go_to (ih _ _ _ _ _ h) (And.intro rfl (And.intro rfl (And.intro rfl (And.intro rfl (And.intro rfl trivial)))))
def x_X0_leastFor  (p1 p2 : Int32) (M : g_M) : Option (Int32 × g_M) := (((x_X0_costWith p1 p2 (M 34 3) M).bind fun u4 => x_X0_leastFor_L14   g_F p1 p2 u4.1 (0 : Int32) u4.2))
set_option maxHeartbeats 4000000 in
set_option maxRecDepth 100000 in
theorem z_X0_leastFor {X : g_X} (hok : g_ok X)  {p1 p2 : Int32} {M : g_M} {r : Int32 × g_M} (h : x_X0_leastFor p1 p2 M = some r) : g_Con X yX0_leastFor cX0_leastFor 5 (some .int) 1 24 [.inr 34, .inl p1, .inl p2] M r := by
  rw [x_X0_leastFor] at h
  refine g_con hok (plainFor_of_name (by decide +kernel)) (Nat.le_of_ble_eq_true rfl) (go_to (lv2 := [some (.inr 34), some (.inl p1), some (.inl p2), none, none]) (own := RX0) ?_ (And.intro rfl (And.intro rfl (And.intro rfl trivial))))
  refine go_aload_n (pc := 0) dX0_leastFor_0 rfl ?_
  refine go_iload_n (pc := 1) dX0_leastFor_1 rfl ?_
  refine go_iload_n (pc := 2) dX0_leastFor_2 rfl ?_
  refine go_aload_n (pc := 3) dX0_leastFor_3 rfl ?_
  refine gf_0_22 (pc := 4) dX0_leastFor_4 ?_
  obtain ⟨u4, c5, h⟩ := g_bd h
  refine go_callV (pc := 7) (as := [.inl p1, .inl p2, .inl (M 34 3)]) (st := []) (r := u4.1) (M1 := u4.2) (z_X0_costWith hok  c5) cw_X0_costWith ml_X0_40 (show g_lay[34]? = some _ from rfl) rfl rfl (by decide) (Nat.le_of_ble_eq_true rfl) rfl dX0_leastFor_7 ?_
  refine go_istore_n (pc := 10) (lv' := [some (.inr 34), some (.inl p1), some (.inl p2), some (.inl u4.1), none]) dX0_leastFor_10 (by decide) rfl ?_
  refine go_iconst (pc := 11) (v := (0 : Int32)) dX0_leastFor_11 (by decide) ?_
  refine go_istore (pc := 12) (lv' := [some (.inr 34), some (.inl p1), some (.inl p2), some (.inl u4.1), some (.inl (0 : Int32))]) dX0_leastFor_12 (by decide) rfl ?_
  exact go_to (z_X0_leastFor_L14 hok   g_F _ _ _ _ _ h) (And.intro rfl (And.intro rfl (And.intro rfl (And.intro rfl (And.intro rfl trivial)))))
def x_X0_solve_L80  (k72 : Int32 → g_M → Option (Int32 × g_M)) : Nat → Int32 → Int32 → g_M → Option (Int32 × g_M)
  | 0, _, _, _ => none
  | n + 1, v4, v5, M => (if (64 : Int32) ≤ v5 then (k72 (v4 + (-1 : Int32)) M) else (((x_X0_leastFor v4 v5 M).bind fun u1 => (if g_inb ((v4 * (64 : Int32)) + v5) 384 = true then (x_X0_solve_L80  k72 n v4 (v5 + (1 : Int32)) (g_upd u1.2 36 ((v4 * (64 : Int32)) + v5).toNatClampNeg u1.1)) else none))))
set_option maxHeartbeats 4000000 in
set_option maxRecDepth 100000 in
theorem z_X0_solve_L80 {X : g_X} (hok : g_ok X)  {r : Int32 × g_M} {k72 : Int32 → g_M → Option (Int32 × g_M)} (hk72 : ∀ (v4 : Int32) (M : g_M), k72 v4 M = some r → g_Go X cX0_solve RX0 6 none 2 48 r 72 [some (.inr 34), none, none, none, some (.inl v4), none] [] M) : ∀ (n : Nat) (v4 : Int32) (v5 : Int32) (M : g_M), x_X0_solve_L80  k72 n v4 v5 M = some r → g_Go X cX0_solve RX0 6 none 2 48 r 80 [some (.inr 34), none, none, none, some (.inl v4), some (.inl v5)] [] M := by
  intro n
  induction n with
  | zero =>
    intro v4 v5 M h
    rw [x_X0_solve_L80] at h
    cases h
  | succ n ih =>
    intro v4 v5 M h
    rw [x_X0_solve_L80] at h
    refine go_iload (pc := 80) dX0_solve_80 rfl ?_
    refine go_bipush (pc := 82) (v := (64 : Int32)) dX0_solve_82 (by decide) ?_
    refine go_icmp_ge (pc := 84) (tgt := 114) dX0_solve_84 (by decide) (fun e4 => ?_) (fun e4 => ?_)
    · replace h := (if_pos e4).symm.trans h
      refine go_iinc (pc := 114) (v := (-1 : Int32)) (lv' := [some (.inr 34), none, none, none, some (.inl (v4 + (-1 : Int32))), some (.inl v5)]) dX0_solve_114 rfl (by decide) (by decide) rfl ?_
      refine go_goto (pc := 117) (tgt := 72) dX0_solve_117 (by decide) ?_
      exact go_to (hk72 _ _ h) (And.intro rfl (And.intro rfl trivial))
    · replace h := (if_neg e4).symm.trans h
      refine go_aload_n (pc := 87) dX0_solve_87 rfl ?_
      refine gf_0_15 (pc := 88) dX0_solve_88 ?_
      refine go_iload (pc := 91) dX0_solve_91 rfl ?_
      refine go_bipush (pc := 93) (v := (64 : Int32)) dX0_solve_93 (by decide) ?_
      refine go_imul (pc := 95) dX0_solve_95 ?_
      refine go_iload (pc := 96) dX0_solve_96 rfl ?_
      refine go_iadd (pc := 98) dX0_solve_98 ?_
      refine go_aload_n (pc := 99) dX0_solve_99 rfl ?_
      refine go_iload (pc := 100) dX0_solve_100 rfl ?_
      refine go_iload (pc := 102) dX0_solve_102 rfl ?_
      obtain ⟨u1, c2, h⟩ := g_bd h
      refine go_callV (pc := 104) (as := [.inl v4, .inl v5]) (st := [.inl ((v4 * (64 : Int32)) + v5), .inr 36]) (r := u1.1) (M1 := u1.2) (z_X0_leastFor hok  c2) cw_X0_leastFor ml_X0_37 (show g_lay[34]? = some _ from rfl) rfl rfl (by decide) (Nat.le_of_ble_eq_true rfl) rfl dX0_solve_104 ?_
      obtain ⟨i3, h⟩ := g_gd h
      refine go_iast (pc := 107) (n := 384) rfl (g_inb_ok i3) dX0_solve_107 ?_
      refine go_iinc (pc := 108) (v := (1 : Int32)) (lv' := [some (.inr 34), none, none, none, some (.inl v4), some (.inl (v5 + (1 : Int32)))]) dX0_solve_108 rfl (by decide) (by decide) rfl ?_
      refine go_goto (pc := 111) (tgt := 80) dX0_solve_111 (by decide) ?_
      exact go_to (ih _ _ _ h) (And.intro rfl (And.intro rfl (And.intro rfl trivial)))
def x_X0_solve_L72   : Nat → Int32 → g_M → Option (Int32 × g_M)
  | 0, _, _ => none
  | n + 1, v4, M => (if v4 < 0 then (some (0, M)) else (x_X0_solve_L80  (x_X0_solve_L72   n) g_F v4 (0 : Int32) M))
set_option maxHeartbeats 4000000 in
set_option maxRecDepth 100000 in
theorem z_X0_solve_L72 {X : g_X} (hok : g_ok X)  {r : Int32 × g_M}  : ∀ (n : Nat) (v4 : Int32) (M : g_M), x_X0_solve_L72   n v4 M = some r → g_Go X cX0_solve RX0 6 none 2 48 r 72 [some (.inr 34), none, none, none, some (.inl v4), none] [] M := by
  intro n
  induction n with
  | zero =>
    intro v4 M h
    rw [x_X0_solve_L72] at h
    cases h
  | succ n ih =>
    intro v4 M h
    rw [x_X0_solve_L72] at h
    refine go_iload (pc := 72) dX0_solve_72 rfl ?_
    refine go_if_lt (pc := 74) (tgt := 120) dX0_solve_74 (by decide) (fun e5 => ?_) (fun e5 => ?_)
    · replace h := (if_pos e5).symm.trans h
      exact go_vret (pc := 120) (Option.some.inj h).symm rfl dX0_solve_120
    · replace h := (if_neg e5).symm.trans h
      refine go_iconst (pc := 77) (v := (0 : Int32)) dX0_solve_77 (by decide) ?_
      refine go_istore (pc := 78) (lv' := [some (.inr 34), none, none, none, some (.inl v4), some (.inl (0 : Int32))]) dX0_solve_78 (by decide) rfl ?_
      exact go_to (z_X0_solve_L80 hok  (ih) g_F _ _ _ h) (And.intro rfl (And.intro rfl (And.intro rfl trivial)))
def x_X0_solve_L35   : Nat → Int32 → g_M → Option (Int32 × g_M)
  | 0, _, _ => none
  | n + 1, v4, M => (if (64 : Int32) ≤ v4 then (x_X0_solve_L72   g_F ((M 34 2) - (1 : Int32)) M) else ((if g_inb (((M 34 2) * (64 : Int32)) + v4) 384 = true then (x_X0_solve_L35   n (v4 + (1 : Int32)) (g_upd M 36 (((M 34 2) * (64 : Int32)) + v4).toNatClampNeg (0 : Int32))) else none)))
set_option maxHeartbeats 4000000 in
set_option maxRecDepth 100000 in
theorem z_X0_solve_L35 {X : g_X} (hok : g_ok X)  {r : Int32 × g_M}  : ∀ (n : Nat) (v4 : Int32) (M : g_M), x_X0_solve_L35   n v4 M = some r → g_Go X cX0_solve RX0 6 none 2 48 r 35 [some (.inr 34), none, none, none, some (.inl v4), none] [] M := by
  intro n
  induction n with
  | zero =>
    intro v4 M h
    rw [x_X0_solve_L35] at h
    cases h
  | succ n ih =>
    intro v4 M h
    rw [x_X0_solve_L35] at h
    refine go_iload (pc := 35) dX0_solve_35 rfl ?_
    refine go_bipush (pc := 37) (v := (64 : Int32)) dX0_solve_37 (by decide) ?_
    refine go_icmp_ge (pc := 39) (tgt := 64) dX0_solve_39 (by decide) (fun e7 => ?_) (fun e7 => ?_)
    · replace h := (if_pos e7).symm.trans h
      refine go_aload_n (pc := 64) dX0_solve_64 rfl ?_
      refine gf_0_18 (pc := 65) dX0_solve_65 ?_
      refine go_iconst (pc := 68) (v := (1 : Int32)) dX0_solve_68 (by decide) ?_
      refine go_isub (pc := 69) dX0_solve_69 ?_
      refine go_istore (pc := 70) (lv' := [some (.inr 34), none, none, none, some (.inl ((M 34 2) - (1 : Int32))), none]) dX0_solve_70 (by decide) rfl ?_
      exact go_to (z_X0_solve_L72 hok   g_F _ _ h) (And.intro rfl (And.intro rfl trivial))
    · replace h := (if_neg e7).symm.trans h
      refine go_aload_n (pc := 42) dX0_solve_42 rfl ?_
      refine gf_0_15 (pc := 43) dX0_solve_43 ?_
      refine go_aload_n (pc := 46) dX0_solve_46 rfl ?_
      refine gf_0_18 (pc := 47) dX0_solve_47 ?_
      refine go_bipush (pc := 50) (v := (64 : Int32)) dX0_solve_50 (by decide) ?_
      refine go_imul (pc := 52) dX0_solve_52 ?_
      refine go_iload (pc := 53) dX0_solve_53 rfl ?_
      refine go_iadd (pc := 55) dX0_solve_55 ?_
      refine go_iconst (pc := 56) (v := (0 : Int32)) dX0_solve_56 (by decide) ?_
      obtain ⟨i6, h⟩ := g_gd h
      refine go_iast (pc := 57) (n := 384) rfl (g_inb_ok i6) dX0_solve_57 ?_
      refine go_iinc (pc := 58) (v := (1 : Int32)) (lv' := [some (.inr 34), none, none, none, some (.inl (v4 + (1 : Int32))), none]) dX0_solve_58 rfl (by decide) (by decide) rfl ?_
      refine go_goto (pc := 61) (tgt := 35) dX0_solve_61 (by decide) ?_
      exact go_to (ih _ _ h) (And.intro rfl (And.intro rfl trivial))
def x_X0_solve  (p1 p2 p3 : Int32) (M : g_M) : Option (Int32 × g_M) := (x_X0_solve_L35   g_F (0 : Int32) (g_upd (g_upd (g_upd M 34 2 (g_max (0 : Int32) (g_min p1 (5 : Int32)))) 34 3 (g_max (0 : Int32) (g_min p2 (6 : Int32)))) 34 4 p3))
set_option maxHeartbeats 4000000 in
set_option maxRecDepth 100000 in
theorem z_X0_solve {X : g_X} (hok : g_ok X)  {p1 p2 p3 : Int32} {M : g_M} {r : Int32 × g_M} (h : x_X0_solve p1 p2 p3 M = some r) : g_Con X yX0_solve cX0_solve 6 none 2 48 [.inr 34, .inl p1, .inl p2, .inl p3] M r := by
  rw [x_X0_solve] at h
  refine g_con hok (plainFor_of_name (by decide +kernel)) (Nat.le_of_ble_eq_true rfl) (go_to (lv2 := [some (.inr 34), some (.inl p1), some (.inl p2), some (.inl p3), none, none]) (own := RX0) ?_ (And.intro rfl (And.intro rfl (And.intro rfl (And.intro rfl trivial)))))
  refine go_aload_n (pc := 0) dX0_solve_0 rfl ?_
  refine go_iconst (pc := 1) (v := (0 : Int32)) dX0_solve_1 (by decide) ?_
  refine go_iload_n (pc := 2) dX0_solve_2 rfl ?_
  refine go_iconst (pc := 3) (v := (5 : Int32)) dX0_solve_3 (by decide) ?_
  refine go_mmin (pc := 4) ml_X0_28 lm_min_s lm_i lm_min_c (by decide) (Nat.le_of_ble_eq_true rfl) dX0_solve_4 ?_
  refine go_mmax (pc := 7) ml_X0_34 lm_max_s lm_i lm_max_c (by decide) (Nat.le_of_ble_eq_true rfl) dX0_solve_7 ?_
  refine gp_0_18 (pc := 10) dX0_solve_10 ?_
  refine go_aload_n (pc := 13) dX0_solve_13 rfl ?_
  refine go_iconst (pc := 14) (v := (0 : Int32)) dX0_solve_14 (by decide) ?_
  refine go_iload_n (pc := 15) dX0_solve_15 rfl ?_
  refine go_bipush (pc := 16) (v := (6 : Int32)) dX0_solve_16 (by decide) ?_
  refine go_mmin (pc := 18) ml_X0_28 lm_min_s lm_i lm_min_c (by decide) (Nat.le_of_ble_eq_true rfl) dX0_solve_18 ?_
  refine go_mmax (pc := 21) ml_X0_34 lm_max_s lm_i lm_max_c (by decide) (Nat.le_of_ble_eq_true rfl) dX0_solve_21 ?_
  refine gp_0_22 (pc := 24) dX0_solve_24 ?_
  refine go_aload_n (pc := 27) dX0_solve_27 rfl ?_
  refine go_iload_n (pc := 28) dX0_solve_28 rfl ?_
  refine gp_0_25 (pc := 29) dX0_solve_29 ?_
  refine go_iconst (pc := 32) (v := (0 : Int32)) dX0_solve_32 (by decide) ?_
  refine go_istore (pc := 33) (lv' := [some (.inr 34), some (.inl p1), some (.inl p2), some (.inl p3), some (.inl (0 : Int32)), none]) dX0_solve_33 (by decide) rfl ?_
  exact go_to (z_X0_solve_L35 hok   g_F _ _ h) (And.intro rfl (And.intro rfl trivial))
def x_X0_leastCost  (M : g_M) : Option (Int32 × g_M) := (some ((M 36 (0 : Int32).toNatClampNeg), M))
set_option maxHeartbeats 4000000 in
set_option maxRecDepth 100000 in
theorem z_X0_leastCost {X : g_X} (hok : g_ok X)  {M : g_M} {r : Int32 × g_M} (h : x_X0_leastCost  M = some r) : g_Con X yX0_leastCost cX0_leastCost 1 (some .int) 0 0 [.inr 34] M r := by
  rw [x_X0_leastCost] at h
  refine g_con hok (plainFor_of_name (by decide +kernel)) (Nat.le_of_ble_eq_true rfl) (go_to (lv2 := [some (.inr 34)]) (own := RX0) ?_ (And.intro rfl trivial))
  refine go_aload_n (pc := 0) dX0_leastCost_0 rfl ?_
  refine gf_0_15 (pc := 1) dX0_leastCost_1 ?_
  refine go_iconst (pc := 4) (v := (0 : Int32)) dX0_leastCost_4 (by decide) ?_
  refine go_iald (pc := 5) (n := 384) rfl (g_inb_ok (by decide)) dX0_leastCost_5 ?_
  exact go_iret (pc := 6) (Option.some.inj h).symm rfl dX0_leastCost_6 rfl
def x_X0_firstBest_L2   : Nat → Int32 → Int32 → Int32 → g_M → Option (Int32 × g_M)
  | 0, _, _, _, _ => none
  | n + 1, v1, v2, v3, M => (if (M 34 3) ≤ v3 then (some ((M 34 3), M)) else (((x_X0_costWith v1 v2 v3 M).bind fun u1 => (if g_inb ((v1 * (64 : Int32)) + v2) 384 = true then (if u1.1 = (u1.2 36 ((v1 * (64 : Int32)) + v2).toNatClampNeg) then (some (v3, u1.2)) else (x_X0_firstBest_L2   n v1 v2 (v3 + (1 : Int32)) u1.2)) else none))))
set_option maxHeartbeats 4000000 in
set_option maxRecDepth 100000 in
theorem z_X0_firstBest_L2 {X : g_X} (hok : g_ok X)  {r : Int32 × g_M}  : ∀ (n : Nat) (v1 : Int32) (v2 : Int32) (v3 : Int32) (M : g_M), x_X0_firstBest_L2   n v1 v2 v3 M = some r → g_Go X cX0_firstBest RX0 4 (some .int) 1 24 r 2 [some (.inr 34), some (.inl v1), some (.inl v2), some (.inl v3)] [] M := by
  intro n
  induction n with
  | zero =>
    intro v1 v2 v3 M h
    rw [x_X0_firstBest_L2] at h
    cases h
  | succ n ih =>
    intro v1 v2 v3 M h
    rw [x_X0_firstBest_L2] at h
    refine go_iload_n (pc := 2) dX0_firstBest_2 rfl ?_
    refine go_aload_n (pc := 3) dX0_firstBest_3 rfl ?_
    refine gf_0_22 (pc := 4) dX0_firstBest_4 ?_
    refine go_icmp_ge (pc := 7) (tgt := 39) dX0_firstBest_7 (by decide) (fun e5 => ?_) (fun e5 => ?_)
    · replace h := (if_pos e5).symm.trans h
      refine go_aload_n (pc := 39) dX0_firstBest_39 rfl ?_
      refine gf_0_22 (pc := 40) dX0_firstBest_40 ?_
      exact go_iret (pc := 43) (Option.some.inj h).symm rfl dX0_firstBest_43 rfl
    · replace h := (if_neg e5).symm.trans h
      refine go_aload_n (pc := 10) dX0_firstBest_10 rfl ?_
      refine go_iload_n (pc := 11) dX0_firstBest_11 rfl ?_
      refine go_iload_n (pc := 12) dX0_firstBest_12 rfl ?_
      refine go_iload_n (pc := 13) dX0_firstBest_13 rfl ?_
      obtain ⟨u1, c2, h⟩ := g_bd h
      refine go_callV (pc := 14) (as := [.inl v1, .inl v2, .inl v3]) (st := []) (r := u1.1) (M1 := u1.2) (z_X0_costWith hok  c2) cw_X0_costWith ml_X0_40 (show g_lay[34]? = some _ from rfl) rfl rfl (by decide) (Nat.le_of_ble_eq_true rfl) rfl dX0_firstBest_14 ?_
      refine go_aload_n (pc := 17) dX0_firstBest_17 rfl ?_
      refine gf_0_15 (pc := 18) dX0_firstBest_18 ?_
      refine go_iload_n (pc := 21) dX0_firstBest_21 rfl ?_
      refine go_bipush (pc := 22) (v := (64 : Int32)) dX0_firstBest_22 (by decide) ?_
      refine go_imul (pc := 24) dX0_firstBest_24 ?_
      refine go_iload_n (pc := 25) dX0_firstBest_25 rfl ?_
      refine go_iadd (pc := 26) dX0_firstBest_26 ?_
      obtain ⟨i3, h⟩ := g_gd h
      refine go_iald (pc := 27) (n := 384) rfl (g_inb_ok i3) dX0_firstBest_27 ?_
      refine go_icmp_ne (pc := 28) (tgt := 33) dX0_firstBest_28 (by decide) (fun e4 => ?_) (fun e4 => ?_)
      · replace h := (if_neg e4).symm.trans h
        refine go_iinc (pc := 33) (v := (1 : Int32)) (lv' := [some (.inr 34), some (.inl v1), some (.inl v2), some (.inl (v3 + (1 : Int32)))]) dX0_firstBest_33 rfl (by decide) (by decide) rfl ?_
        refine go_goto (pc := 36) (tgt := 2) dX0_firstBest_36 (by decide) ?_
        exact go_to (ih _ _ _ _ h) (And.intro rfl (And.intro rfl (And.intro rfl (And.intro rfl trivial))))
      · replace h := (if_pos e4).symm.trans h
        refine go_iload_n (pc := 31) dX0_firstBest_31 rfl ?_
        exact go_iret (pc := 32) (Option.some.inj h).symm rfl dX0_firstBest_32 rfl
def x_X0_firstBest  (p1 p2 : Int32) (M : g_M) : Option (Int32 × g_M) := (x_X0_firstBest_L2   g_F p1 p2 (0 : Int32) M)
set_option maxHeartbeats 4000000 in
set_option maxRecDepth 100000 in
theorem z_X0_firstBest {X : g_X} (hok : g_ok X)  {p1 p2 : Int32} {M : g_M} {r : Int32 × g_M} (h : x_X0_firstBest p1 p2 M = some r) : g_Con X yX0_firstBest cX0_firstBest 4 (some .int) 1 24 [.inr 34, .inl p1, .inl p2] M r := by
  rw [x_X0_firstBest] at h
  refine g_con hok (plainFor_of_name (by decide +kernel)) (Nat.le_of_ble_eq_true rfl) (go_to (lv2 := [some (.inr 34), some (.inl p1), some (.inl p2), none]) (own := RX0) ?_ (And.intro rfl (And.intro rfl (And.intro rfl trivial))))
  refine go_iconst (pc := 0) (v := (0 : Int32)) dX0_firstBest_0 (by decide) ?_
  refine go_istore_n (pc := 1) (lv' := [some (.inr 34), some (.inl p1), some (.inl p2), some (.inl (0 : Int32))]) dX0_firstBest_1 (by decide) rfl ?_
  exact go_to (z_X0_firstBest_L2 hok   g_F _ _ _ _ h) (And.intro rfl (And.intro rfl (And.intro rfl (And.intro rfl trivial))))
def x_X0_ringDigits_L45  (k9 : Int32 → Int32 → Int32 → Int32 → g_M → Option (Int32 × g_M)) (v2 : Int32) (v3 : Int32) (v4 : Int32) (v5 : Int32) (s0 : Int32) (s1 : Int32) (s2 : Int32) (M : g_M) : Option (Int32 × g_M) := (if (M 34 3) ≤ v5 then (k9 (s2 + (s1 * s0)) (v2 * (10 : Int32)) (v3 ||| (0 : Int32)) (v4 + (1 : Int32)) M) else (k9 (s2 + (s1 * s0)) (v2 * (10 : Int32)) (v3 ||| ((1 : Int32) <<< (v5 &&& 31))) (v4 + (1 : Int32)) M))
set_option maxHeartbeats 4000000 in
set_option maxRecDepth 100000 in
theorem z_X0_ringDigits_L45 {X : g_X} (hok : g_ok X)  {r : Int32 × g_M} {k9 : Int32 → Int32 → Int32 → Int32 → g_M → Option (Int32 × g_M)} (hk9 : ∀ (v1 : Int32) (v2 : Int32) (v3 : Int32) (v4 : Int32) (M : g_M), k9 v1 v2 v3 v4 M = some r → g_Go X cX0_ringDigits RX0 6 (some .int) 2 47 r 9 [some (.inr 34), some (.inl v1), some (.inl v2), some (.inl v3), some (.inl v4), none] [] M) {v2 : Int32} {v3 : Int32} {v4 : Int32} {v5 : Int32} {s0 : Int32} {s1 : Int32} {s2 : Int32} {M : g_M} (h : x_X0_ringDigits_L45  k9 v2 v3 v4 v5 s0 s1 s2 M = some r) : g_Go X cX0_ringDigits RX0 6 (some .int) 2 47 r 45 [some (.inr 34), none, some (.inl v2), some (.inl v3), some (.inl v4), some (.inl v5)] [.inl s0, .inl s1, .inl s2] M := by
  rw [x_X0_ringDigits_L45] at h
  refine go_imul (pc := 45) dX0_ringDigits_45 ?_
  refine go_iadd (pc := 46) dX0_ringDigits_46 ?_
  refine go_istore_n (pc := 47) (lv' := [some (.inr 34), some (.inl (s2 + (s1 * s0))), some (.inl v2), some (.inl v3), some (.inl v4), some (.inl v5)]) dX0_ringDigits_47 (by decide) rfl ?_
  refine go_iload_n (pc := 48) dX0_ringDigits_48 rfl ?_
  refine go_bipush (pc := 49) (v := (10 : Int32)) dX0_ringDigits_49 (by decide) ?_
  refine go_imul (pc := 51) dX0_ringDigits_51 ?_
  refine go_istore_n (pc := 52) (lv' := [some (.inr 34), some (.inl (s2 + (s1 * s0))), some (.inl (v2 * (10 : Int32))), some (.inl v3), some (.inl v4), some (.inl v5)]) dX0_ringDigits_52 (by decide) rfl ?_
  refine go_iload_n (pc := 53) dX0_ringDigits_53 rfl ?_
  refine go_iload (pc := 54) dX0_ringDigits_54 rfl ?_
  refine go_aload_n (pc := 56) dX0_ringDigits_56 rfl ?_
  refine gf_0_22 (pc := 57) dX0_ringDigits_57 ?_
  refine go_icmp_ge (pc := 60) (tgt := 70) dX0_ringDigits_60 (by decide) (fun e1 => ?_) (fun e1 => ?_)
  · replace h := (if_pos e1).symm.trans h
    refine go_iconst (pc := 70) (v := (0 : Int32)) dX0_ringDigits_70 (by decide) ?_
    refine go_ior (pc := 71) dX0_ringDigits_71 ?_
    refine go_istore_n (pc := 72) (lv' := [some (.inr 34), some (.inl (s2 + (s1 * s0))), some (.inl (v2 * (10 : Int32))), some (.inl (v3 ||| (0 : Int32))), some (.inl v4), some (.inl v5)]) dX0_ringDigits_72 (by decide) rfl ?_
    refine go_iinc (pc := 73) (v := (1 : Int32)) (lv' := [some (.inr 34), some (.inl (s2 + (s1 * s0))), some (.inl (v2 * (10 : Int32))), some (.inl (v3 ||| (0 : Int32))), some (.inl (v4 + (1 : Int32))), some (.inl v5)]) dX0_ringDigits_73 rfl (by decide) (by decide) rfl ?_
    refine go_goto (pc := 76) (tgt := 9) dX0_ringDigits_76 (by decide) ?_
    exact go_to (hk9 _ _ _ _ _ h) (And.intro rfl (And.intro rfl (And.intro rfl (And.intro rfl (And.intro rfl trivial)))))
  · replace h := (if_neg e1).symm.trans h
    refine go_iconst (pc := 63) (v := (1 : Int32)) dX0_ringDigits_63 (by decide) ?_
    refine go_iload (pc := 64) dX0_ringDigits_64 rfl ?_
    refine go_ishl (pc := 66) dX0_ringDigits_66 ?_
    refine go_goto (pc := 67) (tgt := 71) dX0_ringDigits_67 (by decide) ?_
    refine go_ior (pc := 71) dX0_ringDigits_71 ?_
    refine go_istore_n (pc := 72) (lv' := [some (.inr 34), some (.inl (s2 + (s1 * s0))), some (.inl (v2 * (10 : Int32))), some (.inl (v3 ||| ((1 : Int32) <<< (v5 &&& 31)))), some (.inl v4), some (.inl v5)]) dX0_ringDigits_72 (by decide) rfl ?_
    refine go_iinc (pc := 73) (v := (1 : Int32)) (lv' := [some (.inr 34), some (.inl (s2 + (s1 * s0))), some (.inl (v2 * (10 : Int32))), some (.inl (v3 ||| ((1 : Int32) <<< (v5 &&& 31)))), some (.inl (v4 + (1 : Int32))), some (.inl v5)]) dX0_ringDigits_73 rfl (by decide) (by decide) rfl ?_
    refine go_goto (pc := 76) (tgt := 9) dX0_ringDigits_76 (by decide) ?_
    exact go_to (hk9 _ _ _ _ _ h) (And.intro rfl (And.intro rfl (And.intro rfl (And.intro rfl (And.intro rfl trivial)))))
def x_X0_ringDigits_L9   : Nat → Int32 → Int32 → Int32 → Int32 → g_M → Option (Int32 × g_M)
  | 0, _, _, _, _, _ => none
  | n + 1, v1, v2, v3, v4, M => (if (M 34 2) ≤ v4 then (some (v1, M)) else (((x_X0_firstBest v4 v3 M).bind fun u2 => if (u2.2 34 3) ≤ u2.1 then (x_X0_ringDigits_L45  (x_X0_ringDigits_L9   n) v2 v3 v4 u2.1 (9 : Int32) v2 v1 u2.2) else (x_X0_ringDigits_L45  (x_X0_ringDigits_L9   n) v2 v3 v4 u2.1 u2.1 v2 v1 u2.2))))
set_option maxHeartbeats 4000000 in
set_option maxRecDepth 100000 in
theorem z_X0_ringDigits_L9 {X : g_X} (hok : g_ok X)  {r : Int32 × g_M}  : ∀ (n : Nat) (v1 : Int32) (v2 : Int32) (v3 : Int32) (v4 : Int32) (M : g_M), x_X0_ringDigits_L9   n v1 v2 v3 v4 M = some r → g_Go X cX0_ringDigits RX0 6 (some .int) 2 47 r 9 [some (.inr 34), some (.inl v1), some (.inl v2), some (.inl v3), some (.inl v4), none] [] M := by
  intro n
  induction n with
  | zero =>
    intro v1 v2 v3 v4 M h
    rw [x_X0_ringDigits_L9] at h
    cases h
  | succ n ih =>
    intro v1 v2 v3 v4 M h
    rw [x_X0_ringDigits_L9] at h
    refine go_iload (pc := 9) dX0_ringDigits_9 rfl ?_
    refine go_aload_n (pc := 11) dX0_ringDigits_11 rfl ?_
    refine gf_0_18 (pc := 12) dX0_ringDigits_12 ?_
    refine go_icmp_ge (pc := 15) (tgt := 79) dX0_ringDigits_15 (by decide) (fun e5 => ?_) (fun e5 => ?_)
    · replace h := (if_pos e5).symm.trans h
      refine go_iload_n (pc := 79) dX0_ringDigits_79 rfl ?_
      exact go_iret (pc := 80) (Option.some.inj h).symm rfl dX0_ringDigits_80 rfl
    · replace h := (if_neg e5).symm.trans h
      refine go_aload_n (pc := 18) dX0_ringDigits_18 rfl ?_
      refine go_iload (pc := 19) dX0_ringDigits_19 rfl ?_
      refine go_iload_n (pc := 21) dX0_ringDigits_21 rfl ?_
      obtain ⟨u2, c3, h⟩ := g_bd h
      refine go_callV (pc := 22) (as := [.inl v4, .inl v3]) (st := []) (r := u2.1) (M1 := u2.2) (z_X0_firstBest hok  c3) cw_X0_firstBest ml_X0_45 (show g_lay[34]? = some _ from rfl) rfl rfl (by decide) (Nat.le_of_ble_eq_true rfl) rfl dX0_ringDigits_22 ?_
      refine go_istore (pc := 25) (lv' := [some (.inr 34), some (.inl v1), some (.inl v2), some (.inl v3), some (.inl v4), some (.inl u2.1)]) dX0_ringDigits_25 (by decide) rfl ?_
      refine go_iload_n (pc := 27) dX0_ringDigits_27 rfl ?_
      refine go_iload_n (pc := 28) dX0_ringDigits_28 rfl ?_
      refine go_iload (pc := 29) dX0_ringDigits_29 rfl ?_
      refine go_aload_n (pc := 31) dX0_ringDigits_31 rfl ?_
      refine gf_0_22 (pc := 32) dX0_ringDigits_32 ?_
      refine go_icmp_ge (pc := 35) (tgt := 43) dX0_ringDigits_35 (by decide) (fun e4 => ?_) (fun e4 => ?_)
      · replace h := (if_pos e4).symm.trans h
        refine go_bipush (pc := 43) (v := (9 : Int32)) dX0_ringDigits_43 (by decide) ?_
        exact go_to (z_X0_ringDigits_L45 hok  (ih) h) (And.intro rfl (And.intro rfl (And.intro rfl (And.intro rfl (And.intro rfl trivial)))))
      · replace h := (if_neg e4).symm.trans h
        refine go_iload (pc := 38) dX0_ringDigits_38 rfl ?_
        refine go_goto (pc := 40) (tgt := 45) dX0_ringDigits_40 (by decide) ?_
        exact go_to (z_X0_ringDigits_L45 hok  (ih) h) (And.intro rfl (And.intro rfl (And.intro rfl (And.intro rfl (And.intro rfl trivial)))))
def x_X0_ringDigits  (M : g_M) : Option (Int32 × g_M) := (x_X0_ringDigits_L9   g_F (0 : Int32) (1 : Int32) (0 : Int32) (0 : Int32) M)
set_option maxHeartbeats 4000000 in
set_option maxRecDepth 100000 in
theorem z_X0_ringDigits {X : g_X} (hok : g_ok X)  {M : g_M} {r : Int32 × g_M} (h : x_X0_ringDigits  M = some r) : g_Con X yX0_ringDigits cX0_ringDigits 6 (some .int) 2 47 [.inr 34] M r := by
  rw [x_X0_ringDigits] at h
  refine g_con hok (plainFor_of_name (by decide +kernel)) (Nat.le_of_ble_eq_true rfl) (go_to (lv2 := [some (.inr 34), none, none, none, none, none]) (own := RX0) ?_ (And.intro rfl trivial))
  refine go_iconst (pc := 0) (v := (0 : Int32)) dX0_ringDigits_0 (by decide) ?_
  refine go_istore_n (pc := 1) (lv' := [some (.inr 34), some (.inl (0 : Int32)), none, none, none, none]) dX0_ringDigits_1 (by decide) rfl ?_
  refine go_iconst (pc := 2) (v := (1 : Int32)) dX0_ringDigits_2 (by decide) ?_
  refine go_istore_n (pc := 3) (lv' := [some (.inr 34), some (.inl (0 : Int32)), some (.inl (1 : Int32)), none, none, none]) dX0_ringDigits_3 (by decide) rfl ?_
  refine go_iconst (pc := 4) (v := (0 : Int32)) dX0_ringDigits_4 (by decide) ?_
  refine go_istore_n (pc := 5) (lv' := [some (.inr 34), some (.inl (0 : Int32)), some (.inl (1 : Int32)), some (.inl (0 : Int32)), none, none]) dX0_ringDigits_5 (by decide) rfl ?_
  refine go_iconst (pc := 6) (v := (0 : Int32)) dX0_ringDigits_6 (by decide) ?_
  refine go_istore (pc := 7) (lv' := [some (.inr 34), some (.inl (0 : Int32)), some (.inl (1 : Int32)), some (.inl (0 : Int32)), some (.inl (0 : Int32)), none]) dX0_ringDigits_7 (by decide) rfl ?_
  exact go_to (z_X0_ringDigits_L9 hok   g_F _ _ _ _ _ h) (And.intro rfl (And.intro rfl (And.intro rfl (And.intro rfl (And.intro rfl trivial)))))
def x_X5_halfApartSquare (q : Nat) (M : g_M) : Option (Int32 × g_M) := (some (((((M q 2) - (M q 4)) / (2 : Int32)) * (((M q 2) - (M q 4)) / (2 : Int32))), M))
set_option maxHeartbeats 4000000 in
set_option maxRecDepth 100000 in
theorem z_X5_halfApartSquare {X : g_X} (hok : g_ok X) {q : Nat} (hq : g_isM q) {M : g_M} {r : Int32 × g_M} (h : x_X5_halfApartSquare q M = some r) : g_Con X yX5_halfApartSquare cX5_halfApartSquare 2 (some .int) 0 0 [.inr q] M r := by
  rw [x_X5_halfApartSquare] at h
  refine g_con hok (plainFor_of_name (by decide +kernel)) (Nat.le_of_ble_eq_true rfl) (go_to (lv2 := [some (.inr q), none]) (own := RX5) ?_ (And.intro rfl trivial))
  refine go_aload_n (pc := 0) dX5_halfApartSquare_0 rfl ?_
  refine gf_5_18 (pc := 1) hq dX5_halfApartSquare_1 ?_
  refine go_aload_n (pc := 4) dX5_halfApartSquare_4 rfl ?_
  refine gf_5_24 (pc := 5) hq dX5_halfApartSquare_5 ?_
  refine go_isub (pc := 8) dX5_halfApartSquare_8 ?_
  refine go_iconst (pc := 9) (v := (2 : Int32)) dX5_halfApartSquare_9 (by decide) ?_
  refine go_idiv (pc := 10) dX5_halfApartSquare_10 (by decide) ?_
  refine go_istore_n (pc := 11) (lv' := [some (.inr q), some (.inl (((M q 2) - (M q 4)) / (2 : Int32)))]) dX5_halfApartSquare_11 (by decide) rfl ?_
  refine go_iload_n (pc := 12) dX5_halfApartSquare_12 rfl ?_
  refine go_iload_n (pc := 13) dX5_halfApartSquare_13 rfl ?_
  refine go_imul (pc := 14) dX5_halfApartSquare_14 ?_
  exact go_iret (pc := 15) (Option.some.inj h).symm rfl dX5_halfApartSquare_15 rfl
def x_X5_squareNeeded (q : Nat) (p1 : Int32) (M : g_M) : Option (Int32 × g_M) := (if (M q 0) = (1 : Int32) then (((x_X5_halfApartSquare q M).bind fun u1 => some ((((g_abs (((M q 3) - p1) - (M q 8))) * (g_abs (((M q 3) - p1) - (M q 8)))) + u1.1), u1.2))) else if (M q 0) = (2 : Int32) then (some (((g_abs (((M q 3) - p1) - (M q 8))) * (g_abs (((M q 3) - p1) - (M q 8)))), M)) else if (M q 0) = (3 : Int32) then (if (M q 3) < (p1 + (M q 8)) then (some (((g_abs (((M q 3) - p1) - (M q 8))) * (g_abs (((M q 3) - p1) - (M q 8)))), M)) else (some ((0 : Int32), M))) else if (M q 0) = (4 : Int32) then (((x_X5_halfApartSquare q M).bind fun u4 => some (((((g_abs (((M q 3) - p1) - (M q 8))) * (g_abs (((M q 3) - p1) - (M q 8)))) + u4.1) + ((u4.2 q 1) * (u4.2 q 1))), u4.2))) else if (M q 0) = (5 : Int32) then (if (M q 1) < p1 then (some (((g_abs (((M q 3) - p1) - (M q 8))) * (g_abs (((M q 3) - p1) - (M q 8)))), M)) else (some ((0 : Int32), M))) else (some (((g_abs (((M q 3) - p1) - (M q 8))) * (g_abs (((M q 3) - p1) - (M q 8)))), M)))
set_option maxHeartbeats 4000000 in
set_option maxRecDepth 100000 in
theorem z_X5_squareNeeded {X : g_X} (hok : g_ok X) {q : Nat} (hq : g_isM q) {p1 : Int32} {M : g_M} {r : Int32 × g_M} (h : x_X5_squareNeeded q p1 M = some r) : g_Con X yX5_squareNeeded cX5_squareNeeded 4 (some .int) 1 21 [.inr q, .inl p1] M r := by
  rw [x_X5_squareNeeded] at h
  refine g_con hok (plainFor_of_name (by decide +kernel)) (Nat.le_of_ble_eq_true rfl) (go_to (lv2 := [some (.inr q), some (.inl p1), none, none]) (own := RX5) ?_ (And.intro rfl (And.intro rfl trivial)))
  refine go_aload_n (pc := 0) dX5_squareNeeded_0 rfl ?_
  refine gf_5_21 (pc := 1) hq dX5_squareNeeded_1 ?_
  refine go_iload_n (pc := 4) dX5_squareNeeded_4 rfl ?_
  refine go_isub (pc := 5) dX5_squareNeeded_5 ?_
  refine go_aload_n (pc := 6) dX5_squareNeeded_6 rfl ?_
  refine gf_5_36 (pc := 7) hq dX5_squareNeeded_7 ?_
  refine go_isub (pc := 10) dX5_squareNeeded_10 ?_
  refine go_mabs (pc := 11) ml_X5_53 lm_abs_s lm_i lm_abs_c (by decide) (Nat.le_of_ble_eq_true rfl) dX5_squareNeeded_11 ?_
  refine go_istore_n (pc := 14) (lv' := [some (.inr q), some (.inl p1), some (.inl (g_abs (((M q 3) - p1) - (M q 8)))), none]) dX5_squareNeeded_14 (by decide) rfl ?_
  refine go_iload_n (pc := 15) dX5_squareNeeded_15 rfl ?_
  refine go_iload_n (pc := 16) dX5_squareNeeded_16 rfl ?_
  refine go_imul (pc := 17) dX5_squareNeeded_17 ?_
  refine go_istore_n (pc := 18) (lv' := [some (.inr q), some (.inl p1), some (.inl (g_abs (((M q 3) - p1) - (M q 8)))), some (.inl ((g_abs (((M q 3) - p1) - (M q 8))) * (g_abs (((M q 3) - p1) - (M q 8)))))]) dX5_squareNeeded_18 (by decide) rfl ?_
  refine go_aload_n (pc := 19) dX5_squareNeeded_19 rfl ?_
  refine gf_5_9 (pc := 20) hq dX5_squareNeeded_20 ?_
  by_cases e7 : (M q 0) = (1 : Int32)
  · replace h := (if_pos e7).symm.trans h
    refine go_tabIn (pc := 23) (off := 33) (tgt := 56) dX5_squareNeeded_23 (by rw [e7]; decide) (by rw [e7]; decide) (by rw [e7]; decide) (by decide) ?_
    refine go_iload_n (pc := 56) dX5_squareNeeded_56 rfl ?_
    refine go_aload_n (pc := 57) dX5_squareNeeded_57 rfl ?_
    obtain ⟨u1, c2, h⟩ := g_bd h
    refine go_callV (pc := 58) (as := []) (st := [.inl ((g_abs (((M q 3) - p1) - (M q 8))) * (g_abs (((M q 3) - p1) - (M q 8))))]) (r := u1.1) (M1 := u1.2) (z_X5_halfApartSquare hok hq c2) cw_X5_halfApartSquare ml_X5_59 hq rfl rfl (by decide) (Nat.le_of_ble_eq_true rfl) rfl dX5_squareNeeded_58 ?_
    refine go_iadd (pc := 61) dX5_squareNeeded_61 ?_
    exact go_iret (pc := 62) (Option.some.inj h).symm rfl dX5_squareNeeded_62 rfl
  · replace h := (if_neg e7).symm.trans h
    by_cases e8 : (M q 0) = (2 : Int32)
    · replace h := (if_pos e8).symm.trans h
      refine go_tabIn (pc := 23) (off := 90) (tgt := 113) dX5_squareNeeded_23 (by rw [e8]; decide) (by rw [e8]; decide) (by rw [e8]; decide) (by decide) ?_
      refine go_iload_n (pc := 113) dX5_squareNeeded_113 rfl ?_
      exact go_iret (pc := 114) (Option.some.inj h).symm rfl dX5_squareNeeded_114 rfl
    · replace h := (if_neg e8).symm.trans h
      by_cases e9 : (M q 0) = (3 : Int32)
      · replace h := (if_pos e9).symm.trans h
        refine go_tabIn (pc := 23) (off := 40) (tgt := 63) dX5_squareNeeded_23 (by rw [e9]; decide) (by rw [e9]; decide) (by rw [e9]; decide) (by decide) ?_
        refine go_iload_n (pc := 63) dX5_squareNeeded_63 rfl ?_
        refine go_aload_n (pc := 64) dX5_squareNeeded_64 rfl ?_
        refine gf_5_36 (pc := 65) hq dX5_squareNeeded_65 ?_
        refine go_iadd (pc := 68) dX5_squareNeeded_68 ?_
        refine go_aload_n (pc := 69) dX5_squareNeeded_69 rfl ?_
        refine gf_5_21 (pc := 70) hq dX5_squareNeeded_70 ?_
        refine go_icmp_gt (pc := 73) (tgt := 80) dX5_squareNeeded_73 (by decide) (fun e3 => ?_) (fun e3 => ?_)
        · replace h := (if_pos e3).symm.trans h
          refine go_iload_n (pc := 80) dX5_squareNeeded_80 rfl ?_
          exact go_iret (pc := 81) (Option.some.inj h).symm rfl dX5_squareNeeded_81 rfl
        · replace h := (if_neg e3).symm.trans h
          refine go_iconst (pc := 76) (v := (0 : Int32)) dX5_squareNeeded_76 (by decide) ?_
          refine go_goto (pc := 77) (tgt := 81) dX5_squareNeeded_77 (by decide) ?_
          exact go_iret (pc := 81) (Option.some.inj h).symm rfl dX5_squareNeeded_81 rfl
      · replace h := (if_neg e9).symm.trans h
        by_cases e10 : (M q 0) = (4 : Int32)
        · replace h := (if_pos e10).symm.trans h
          refine go_tabIn (pc := 23) (off := 59) (tgt := 82) dX5_squareNeeded_23 (by rw [e10]; decide) (by rw [e10]; decide) (by rw [e10]; decide) (by decide) ?_
          refine go_iload_n (pc := 82) dX5_squareNeeded_82 rfl ?_
          refine go_aload_n (pc := 83) dX5_squareNeeded_83 rfl ?_
          obtain ⟨u4, c5, h⟩ := g_bd h
          refine go_callV (pc := 84) (as := []) (st := [.inl ((g_abs (((M q 3) - p1) - (M q 8))) * (g_abs (((M q 3) - p1) - (M q 8))))]) (r := u4.1) (M1 := u4.2) (z_X5_halfApartSquare hok hq c5) cw_X5_halfApartSquare ml_X5_59 hq rfl rfl (by decide) (Nat.le_of_ble_eq_true rfl) rfl dX5_squareNeeded_84 ?_
          refine go_iadd (pc := 87) dX5_squareNeeded_87 ?_
          refine go_aload_n (pc := 88) dX5_squareNeeded_88 rfl ?_
          refine gf_5_15 (pc := 89) hq dX5_squareNeeded_89 ?_
          refine go_aload_n (pc := 92) dX5_squareNeeded_92 rfl ?_
          refine gf_5_15 (pc := 93) hq dX5_squareNeeded_93 ?_
          refine go_imul (pc := 96) dX5_squareNeeded_96 ?_
          refine go_iadd (pc := 97) dX5_squareNeeded_97 ?_
          exact go_iret (pc := 98) (Option.some.inj h).symm rfl dX5_squareNeeded_98 rfl
        · replace h := (if_neg e10).symm.trans h
          by_cases e11 : (M q 0) = (5 : Int32)
          · replace h := (if_pos e11).symm.trans h
            refine go_tabIn (pc := 23) (off := 76) (tgt := 99) dX5_squareNeeded_23 (by rw [e11]; decide) (by rw [e11]; decide) (by rw [e11]; decide) (by decide) ?_
            refine go_iload_n (pc := 99) dX5_squareNeeded_99 rfl ?_
            refine go_aload_n (pc := 100) dX5_squareNeeded_100 rfl ?_
            refine gf_5_15 (pc := 101) hq dX5_squareNeeded_101 ?_
            refine go_icmp_gt (pc := 104) (tgt := 111) dX5_squareNeeded_104 (by decide) (fun e6 => ?_) (fun e6 => ?_)
            · replace h := (if_pos e6).symm.trans h
              refine go_iload_n (pc := 111) dX5_squareNeeded_111 rfl ?_
              exact go_iret (pc := 112) (Option.some.inj h).symm rfl dX5_squareNeeded_112 rfl
            · replace h := (if_neg e6).symm.trans h
              refine go_iconst (pc := 107) (v := (0 : Int32)) dX5_squareNeeded_107 (by decide) ?_
              refine go_goto (pc := 108) (tgt := 112) dX5_squareNeeded_108 (by decide) ?_
              exact go_iret (pc := 112) (Option.some.inj h).symm rfl dX5_squareNeeded_112 rfl
          · replace h := (if_neg e11).symm.trans h
            refine go_tabOut (pc := 23) (tgt := 113) dX5_squareNeeded_23 (by have q0 := g_out e7 (show (1 : Int32).toInt = 1 by decide); have q1 := g_out e8 (show (2 : Int32).toInt = 2 by decide); have q2 := g_out e9 (show (3 : Int32).toInt = 3 by decide); have q3 := g_out e10 (show (4 : Int32).toInt = 4 by decide); have q4 := g_out e11 (show (5 : Int32).toInt = 5 by decide); omega) (by decide) ?_
            refine go_iload_n (pc := 113) dX5_squareNeeded_113 rfl ?_
            exact go_iret (pc := 114) (Option.some.inj h).symm rfl dX5_squareNeeded_114 rfl
def x_X5_hangs (q : Nat) (p1 p2 : Int32) (M : g_M) : Option (Int32 × g_M) := (((x_X5_squareNeeded q p2 M).bind fun u1 => if u1.1 ≤ (p1 * p1) then (some ((0 : Int32), u1.2)) else (some ((1 : Int32), u1.2))))
set_option maxHeartbeats 4000000 in
set_option maxRecDepth 100000 in
theorem z_X5_hangs {X : g_X} (hok : g_ok X) {q : Nat} (hq : g_isM q) {p1 p2 : Int32} {M : g_M} {r : Int32 × g_M} (h : x_X5_hangs q p1 p2 M = some r) : g_Con X yX5_hangs cX5_hangs 3 (some .boolean) 2 44 [.inr q, .inl p1, .inl p2] M r := by
  rw [x_X5_hangs] at h
  refine g_con hok (plainFor_of_name (by decide +kernel)) (Nat.le_of_ble_eq_true rfl) (go_to (lv2 := [some (.inr q), some (.inl p1), some (.inl p2)]) (own := RX5) ?_ (And.intro rfl (And.intro rfl (And.intro rfl trivial))))
  refine go_iload_n (pc := 0) dX5_hangs_0 rfl ?_
  refine go_iload_n (pc := 1) dX5_hangs_1 rfl ?_
  refine go_imul (pc := 2) dX5_hangs_2 ?_
  refine go_aload_n (pc := 3) dX5_hangs_3 rfl ?_
  refine go_iload_n (pc := 4) dX5_hangs_4 rfl ?_
  obtain ⟨u1, c2, h⟩ := g_bd h
  refine go_callV (pc := 5) (as := [.inl p2]) (st := [.inl (p1 * p1)]) (r := u1.1) (M1 := u1.2) (z_X5_squareNeeded hok hq c2) cw_X5_squareNeeded ml_X5_63 hq rfl rfl (by decide) (Nat.le_of_ble_eq_true rfl) rfl dX5_hangs_5 ?_
  refine go_icmp_ge (pc := 8) (tgt := 15) dX5_hangs_8 (by decide) (fun e3 => ?_) (fun e3 => ?_)
  · replace h := (if_pos e3).symm.trans h
    refine go_iconst (pc := 15) (v := (0 : Int32)) dX5_hangs_15 (by decide) ?_
    exact go_iret (pc := 16) (Option.some.inj h).symm rfl dX5_hangs_16 rfl
  · replace h := (if_neg e3).symm.trans h
    refine go_iconst (pc := 11) (v := (1 : Int32)) dX5_hangs_11 (by decide) ?_
    refine go_goto (pc := 12) (tgt := 16) dX5_hangs_12 (by decide) ?_
    exact go_iret (pc := 16) (Option.some.inj h).symm rfl dX5_hangs_16 rfl
def x_X8_rootWithin_L5   : Nat → Int32 → Int32 → Int32 → g_M → Option (Int32 × g_M)
  | 0, _, _, _, _ => none
  | n + 1, v0, v1, v2, M => (if v2 ≤ 0 then (some (v1, M)) else (if v0 < ((v1 + v2) * (v1 + v2)) then (x_X8_rootWithin_L5   n v0 v1 (v2 / (2 : Int32)) M) else (x_X8_rootWithin_L5   n v0 (v1 + v2) (v2 / (2 : Int32)) M)))
set_option maxHeartbeats 4000000 in
set_option maxRecDepth 100000 in
theorem z_X8_rootWithin_L5 {X : g_X} (hok : g_ok X)  {r : Int32 × g_M}  : ∀ (n : Nat) (v0 : Int32) (v1 : Int32) (v2 : Int32) (M : g_M), x_X8_rootWithin_L5   n v0 v1 v2 M = some r → g_Go X cX8_rootWithin RX8 3 (some .int) 0 0 r 5 [some (.inl v0), some (.inl v1), some (.inl v2)] [] M := by
  intro n
  induction n with
  | zero =>
    intro v0 v1 v2 M h
    rw [x_X8_rootWithin_L5] at h
    cases h
  | succ n ih =>
    intro v0 v1 v2 M h
    rw [x_X8_rootWithin_L5] at h
    refine go_iload_n (pc := 5) dX8_rootWithin_5 rfl ?_
    refine go_if_le (pc := 6) (tgt := 31) dX8_rootWithin_6 (by decide) (fun e2 => ?_) (fun e2 => ?_)
    · replace h := (if_pos e2).symm.trans h
      refine go_iload_n (pc := 31) dX8_rootWithin_31 rfl ?_
      exact go_iret (pc := 32) (Option.some.inj h).symm rfl dX8_rootWithin_32 rfl
    · replace h := (if_neg e2).symm.trans h
      refine go_iload_n (pc := 9) dX8_rootWithin_9 rfl ?_
      refine go_iload_n (pc := 10) dX8_rootWithin_10 rfl ?_
      refine go_iadd (pc := 11) dX8_rootWithin_11 ?_
      refine go_iload_n (pc := 12) dX8_rootWithin_12 rfl ?_
      refine go_iload_n (pc := 13) dX8_rootWithin_13 rfl ?_
      refine go_iadd (pc := 14) dX8_rootWithin_14 ?_
      refine go_imul (pc := 15) dX8_rootWithin_15 ?_
      refine go_iload_n (pc := 16) dX8_rootWithin_16 rfl ?_
      refine go_icmp_gt (pc := 17) (tgt := 24) dX8_rootWithin_17 (by decide) (fun e1 => ?_) (fun e1 => ?_)
      · replace h := (if_pos e1).symm.trans h
        refine go_iload_n (pc := 24) dX8_rootWithin_24 rfl ?_
        refine go_iconst (pc := 25) (v := (2 : Int32)) dX8_rootWithin_25 (by decide) ?_
        refine go_idiv (pc := 26) dX8_rootWithin_26 (by decide) ?_
        refine go_istore_n (pc := 27) (lv' := [some (.inl v0), some (.inl v1), some (.inl (v2 / (2 : Int32)))]) dX8_rootWithin_27 (by decide) rfl ?_
        refine go_goto (pc := 28) (tgt := 5) dX8_rootWithin_28 (by decide) ?_
        exact go_to (ih _ _ _ _ h) (And.intro rfl (And.intro rfl (And.intro rfl trivial)))
      · replace h := (if_neg e1).symm.trans h
        refine go_iload_n (pc := 20) dX8_rootWithin_20 rfl ?_
        refine go_iload_n (pc := 21) dX8_rootWithin_21 rfl ?_
        refine go_iadd (pc := 22) dX8_rootWithin_22 ?_
        refine go_istore_n (pc := 23) (lv' := [some (.inl v0), some (.inl (v1 + v2)), some (.inl v2)]) dX8_rootWithin_23 (by decide) rfl ?_
        refine go_iload_n (pc := 24) dX8_rootWithin_24 rfl ?_
        refine go_iconst (pc := 25) (v := (2 : Int32)) dX8_rootWithin_25 (by decide) ?_
        refine go_idiv (pc := 26) dX8_rootWithin_26 (by decide) ?_
        refine go_istore_n (pc := 27) (lv' := [some (.inl v0), some (.inl (v1 + v2)), some (.inl (v2 / (2 : Int32)))]) dX8_rootWithin_27 (by decide) rfl ?_
        refine go_goto (pc := 28) (tgt := 5) dX8_rootWithin_28 (by decide) ?_
        exact go_to (ih _ _ _ _ h) (And.intro rfl (And.intro rfl (And.intro rfl trivial)))
def x_X8_rootWithin  (p0 : Int32) (M : g_M) : Option (Int32 × g_M) := (x_X8_rootWithin_L5   g_F p0 (0 : Int32) (64 : Int32) M)
set_option maxHeartbeats 4000000 in
set_option maxRecDepth 100000 in
theorem z_X8_rootWithin {X : g_X} (hok : g_ok X)  {p0 : Int32} {M : g_M} {r : Int32 × g_M} (h : x_X8_rootWithin p0 M = some r) : g_Con X yX8_rootWithin cX8_rootWithin 3 (some .int) 0 0 [.inl p0] M r := by
  rw [x_X8_rootWithin] at h
  refine g_con hok (plainFor_of_name (by decide +kernel)) (Nat.le_of_ble_eq_true rfl) (go_to (lv2 := [some (.inl p0), none, none]) (own := RX8) ?_ (And.intro rfl trivial))
  refine go_iconst (pc := 0) (v := (0 : Int32)) dX8_rootWithin_0 (by decide) ?_
  refine go_istore_n (pc := 1) (lv' := [some (.inl p0), some (.inl (0 : Int32)), none]) dX8_rootWithin_1 (by decide) rfl ?_
  refine go_bipush (pc := 2) (v := (64 : Int32)) dX8_rootWithin_2 (by decide) ?_
  refine go_istore_n (pc := 4) (lv' := [some (.inl p0), some (.inl (0 : Int32)), some (.inl (64 : Int32))]) dX8_rootWithin_4 (by decide) rfl ?_
  exact go_to (z_X8_rootWithin_L5 hok   g_F _ _ _ _ h) (And.intro rfl (And.intro rfl (And.intro rfl trivial)))
def x_X5_reach (q : Nat) (p1 p2 : Int32) (M : g_M) : Option (Int32 × g_M) := (((x_X5_squareNeeded q p2 M).bind fun u1 => if 0 ≤ ((p1 * p1) - u1.1) then (((x_X8_rootWithin ((p1 * p1) - u1.1) u1.2).bind fun u3 => if (u3.2 q 0) = (1 : Int32) then (some ((u3.1 / (2 : Int32)), u3.2)) else if (u3.2 q 0) = (2 : Int32) then (some ((((3 : Int32) * u3.1) / (4 : Int32)), u3.2)) else if (u3.2 q 0) = (3 : Int32) then (some ((g_min u3.1 (u3.2 q 1)), u3.2)) else if (u3.2 q 0) = (4 : Int32) then (some ((u3.1 / (2 : Int32)), u3.2)) else if (u3.2 q 0) = (5 : Int32) then (if (u3.2 q 1) < p2 then (some ((((3 : Int32) * u3.1) / (4 : Int32)), u3.2)) else (some ((0 : Int32), u3.2))) else (some (u3.1, u3.2)))) else (some ((0 : Int32), u1.2))))
set_option maxHeartbeats 4000000 in
set_option maxRecDepth 100000 in
theorem z_X5_reach {X : g_X} (hok : g_ok X) {q : Nat} (hq : g_isM q) {p1 p2 : Int32} {M : g_M} {r : Int32 × g_M} (h : x_X5_reach q p1 p2 M = some r) : g_Con X yX5_reach cX5_reach 5 (some .int) 2 44 [.inr q, .inl p1, .inl p2] M r := by
  rw [x_X5_reach] at h
  refine g_con hok (plainFor_of_name (by decide +kernel)) (Nat.le_of_ble_eq_true rfl) (go_to (lv2 := [some (.inr q), some (.inl p1), some (.inl p2), none, none]) (own := RX5) ?_ (And.intro rfl (And.intro rfl (And.intro rfl trivial))))
  refine go_iload_n (pc := 0) dX5_reach_0 rfl ?_
  refine go_iload_n (pc := 1) dX5_reach_1 rfl ?_
  refine go_imul (pc := 2) dX5_reach_2 ?_
  refine go_aload_n (pc := 3) dX5_reach_3 rfl ?_
  refine go_iload_n (pc := 4) dX5_reach_4 rfl ?_
  obtain ⟨u1, c2, h⟩ := g_bd h
  refine go_callV (pc := 5) (as := [.inl p2]) (st := [.inl (p1 * p1)]) (r := u1.1) (M1 := u1.2) (z_X5_squareNeeded hok hq c2) cw_X5_squareNeeded ml_X5_63 hq rfl rfl (by decide) (Nat.le_of_ble_eq_true rfl) rfl dX5_reach_5 ?_
  refine go_isub (pc := 8) dX5_reach_8 ?_
  refine go_istore_n (pc := 9) (lv' := [some (.inr q), some (.inl p1), some (.inl p2), some (.inl ((p1 * p1) - u1.1)), none]) dX5_reach_9 (by decide) rfl ?_
  refine go_iload_n (pc := 10) dX5_reach_10 rfl ?_
  refine go_if_ge (pc := 11) (tgt := 16) dX5_reach_11 (by decide) (fun e11 => ?_) (fun e11 => ?_)
  · replace h := (if_pos e11).symm.trans h
    refine go_iload_n (pc := 16) dX5_reach_16 rfl ?_
    obtain ⟨u3, c4, h⟩ := g_bd h
    refine go_callSN (pc := 17) (as := [.inl ((p1 * p1) - u1.1)]) (st := []) (r := u3.1) (M1 := u3.2) (z_X8_rootWithin hok  c4) cw_X8_rootWithin ml_X5_66 (by decide) (Nat.le_of_ble_eq_true rfl) rfl dX5_reach_17 ?_
    refine go_istore (pc := 20) (lv' := [some (.inr q), some (.inl p1), some (.inl p2), some (.inl ((p1 * p1) - u1.1)), some (.inl u3.1)]) dX5_reach_20 (by decide) rfl ?_
    refine go_aload_n (pc := 22) dX5_reach_22 rfl ?_
    refine gf_5_9 (pc := 23) hq dX5_reach_23 ?_
    by_cases e6 : (u3.2 q 0) = (1 : Int32)
    · replace h := (if_pos e6).symm.trans h
      refine go_tabIn (pc := 26) (off := 34) (tgt := 60) dX5_reach_26 (by rw [e6]; decide) (by rw [e6]; decide) (by rw [e6]; decide) (by decide) ?_
      refine go_iload (pc := 60) dX5_reach_60 rfl ?_
      refine go_iconst (pc := 62) (v := (2 : Int32)) dX5_reach_62 (by decide) ?_
      refine go_idiv (pc := 63) dX5_reach_63 (by decide) ?_
      exact go_iret (pc := 64) (Option.some.inj h).symm rfl dX5_reach_64 rfl
    · replace h := (if_neg e6).symm.trans h
      by_cases e7 : (u3.2 q 0) = (2 : Int32)
      · replace h := (if_pos e7).symm.trans h
        refine go_tabIn (pc := 26) (off := 39) (tgt := 65) dX5_reach_26 (by rw [e7]; decide) (by rw [e7]; decide) (by rw [e7]; decide) (by decide) ?_
        refine go_iconst (pc := 65) (v := (3 : Int32)) dX5_reach_65 (by decide) ?_
        refine go_iload (pc := 66) dX5_reach_66 rfl ?_
        refine go_imul (pc := 68) dX5_reach_68 ?_
        refine go_iconst (pc := 69) (v := (4 : Int32)) dX5_reach_69 (by decide) ?_
        refine go_idiv (pc := 70) dX5_reach_70 (by decide) ?_
        exact go_iret (pc := 71) (Option.some.inj h).symm rfl dX5_reach_71 rfl
      · replace h := (if_neg e7).symm.trans h
        by_cases e8 : (u3.2 q 0) = (3 : Int32)
        · replace h := (if_pos e8).symm.trans h
          refine go_tabIn (pc := 26) (off := 46) (tgt := 72) dX5_reach_26 (by rw [e8]; decide) (by rw [e8]; decide) (by rw [e8]; decide) (by decide) ?_
          refine go_iload (pc := 72) dX5_reach_72 rfl ?_
          refine go_aload_n (pc := 74) dX5_reach_74 rfl ?_
          refine gf_5_15 (pc := 75) hq dX5_reach_75 ?_
          refine go_mmin (pc := 78) ml_X5_86 lm_min_s lm_i lm_min_c (by decide) (Nat.le_of_ble_eq_true rfl) dX5_reach_78 ?_
          exact go_iret (pc := 81) (Option.some.inj h).symm rfl dX5_reach_81 rfl
        · replace h := (if_neg e8).symm.trans h
          by_cases e9 : (u3.2 q 0) = (4 : Int32)
          · replace h := (if_pos e9).symm.trans h
            refine go_tabIn (pc := 26) (off := 34) (tgt := 60) dX5_reach_26 (by rw [e9]; decide) (by rw [e9]; decide) (by rw [e9]; decide) (by decide) ?_
            refine go_iload (pc := 60) dX5_reach_60 rfl ?_
            refine go_iconst (pc := 62) (v := (2 : Int32)) dX5_reach_62 (by decide) ?_
            refine go_idiv (pc := 63) dX5_reach_63 (by decide) ?_
            exact go_iret (pc := 64) (Option.some.inj h).symm rfl dX5_reach_64 rfl
          · replace h := (if_neg e9).symm.trans h
            by_cases e10 : (u3.2 q 0) = (5 : Int32)
            · replace h := (if_pos e10).symm.trans h
              refine go_tabIn (pc := 26) (off := 56) (tgt := 82) dX5_reach_26 (by rw [e10]; decide) (by rw [e10]; decide) (by rw [e10]; decide) (by decide) ?_
              refine go_iload_n (pc := 82) dX5_reach_82 rfl ?_
              refine go_aload_n (pc := 83) dX5_reach_83 rfl ?_
              refine gf_5_15 (pc := 84) hq dX5_reach_84 ?_
              refine go_icmp_gt (pc := 87) (tgt := 94) dX5_reach_87 (by decide) (fun e5 => ?_) (fun e5 => ?_)
              · replace h := (if_pos e5).symm.trans h
                refine go_iconst (pc := 94) (v := (3 : Int32)) dX5_reach_94 (by decide) ?_
                refine go_iload (pc := 95) dX5_reach_95 rfl ?_
                refine go_imul (pc := 97) dX5_reach_97 ?_
                refine go_iconst (pc := 98) (v := (4 : Int32)) dX5_reach_98 (by decide) ?_
                refine go_idiv (pc := 99) dX5_reach_99 (by decide) ?_
                exact go_iret (pc := 100) (Option.some.inj h).symm rfl dX5_reach_100 rfl
              · replace h := (if_neg e5).symm.trans h
                refine go_iconst (pc := 90) (v := (0 : Int32)) dX5_reach_90 (by decide) ?_
                refine go_goto (pc := 91) (tgt := 100) dX5_reach_91 (by decide) ?_
                exact go_iret (pc := 100) (Option.some.inj h).symm rfl dX5_reach_100 rfl
            · replace h := (if_neg e10).symm.trans h
              refine go_tabOut (pc := 26) (tgt := 101) dX5_reach_26 (by have q0 := g_out e6 (show (1 : Int32).toInt = 1 by decide); have q1 := g_out e7 (show (2 : Int32).toInt = 2 by decide); have q2 := g_out e8 (show (3 : Int32).toInt = 3 by decide); have q3 := g_out e9 (show (4 : Int32).toInt = 4 by decide); have q4 := g_out e10 (show (5 : Int32).toInt = 5 by decide); omega) (by decide) ?_
              refine go_iload (pc := 101) dX5_reach_101 rfl ?_
              exact go_iret (pc := 103) (Option.some.inj h).symm rfl dX5_reach_103 rfl
  · replace h := (if_neg e11).symm.trans h
    refine go_iconst (pc := 14) (v := (0 : Int32)) dX5_reach_14 (by decide) ?_
    exact go_iret (pc := 15) (Option.some.inj h).symm rfl dX5_reach_15 rfl
def x_X5_stillMiddle_L16 (q : Nat)   (M : g_M) : Option (Int32 × g_M) := (some ((((M q 2) + (M q 4)) / (2 : Int32)), M))
set_option maxHeartbeats 4000000 in
set_option maxRecDepth 100000 in
theorem z_X5_stillMiddle_L16 {X : g_X} (hok : g_ok X) {q : Nat} (hq : g_isM q) {r : Int32 × g_M}   {M : g_M} (h : x_X5_stillMiddle_L16 q   M = some r) : g_Go X cX5_stillMiddle RX5 1 (some .int) 0 0 r 16 [some (.inr q)] [] M := by
  rw [x_X5_stillMiddle_L16] at h
  refine go_aload_n (pc := 16) dX5_stillMiddle_16 rfl ?_
  refine gf_5_18 (pc := 17) hq dX5_stillMiddle_17 ?_
  refine go_aload_n (pc := 20) dX5_stillMiddle_20 rfl ?_
  refine gf_5_24 (pc := 21) hq dX5_stillMiddle_21 ?_
  refine go_iadd (pc := 24) dX5_stillMiddle_24 ?_
  refine go_iconst (pc := 25) (v := (2 : Int32)) dX5_stillMiddle_25 (by decide) ?_
  refine go_idiv (pc := 26) dX5_stillMiddle_26 (by decide) ?_
  refine go_goto (pc := 27) (tgt := 34) dX5_stillMiddle_27 (by decide) ?_
  exact go_iret (pc := 34) (Option.some.inj h).symm rfl dX5_stillMiddle_34 rfl
def x_X5_stillMiddle (q : Nat) (M : g_M) : Option (Int32 × g_M) := (if (M q 0) = (1 : Int32) then (x_X5_stillMiddle_L16 q   M) else (if (M q 0) = (4 : Int32) then (x_X5_stillMiddle_L16 q   M) else (some ((M q 2), M))))
set_option maxHeartbeats 4000000 in
set_option maxRecDepth 100000 in
theorem z_X5_stillMiddle {X : g_X} (hok : g_ok X) {q : Nat} (hq : g_isM q) {M : g_M} {r : Int32 × g_M} (h : x_X5_stillMiddle q M = some r) : g_Con X yX5_stillMiddle cX5_stillMiddle 1 (some .int) 0 0 [.inr q] M r := by
  rw [x_X5_stillMiddle] at h
  refine g_con hok (plainFor_of_name (by decide +kernel)) (Nat.le_of_ble_eq_true rfl) (go_to (lv2 := [some (.inr q)]) (own := RX5) ?_ (And.intro rfl trivial))
  refine go_aload_n (pc := 0) dX5_stillMiddle_0 rfl ?_
  refine gf_5_9 (pc := 1) hq dX5_stillMiddle_1 ?_
  refine go_iconst (pc := 4) (v := (1 : Int32)) dX5_stillMiddle_4 (by decide) ?_
  refine go_icmp_eq (pc := 5) (tgt := 16) dX5_stillMiddle_5 (by decide) (fun e2 => ?_) (fun e2 => ?_)
  · replace h := (if_pos e2).symm.trans h
    exact go_to (z_X5_stillMiddle_L16 hok hq  h) (And.intro rfl trivial)
  · replace h := (if_neg e2).symm.trans h
    refine go_aload_n (pc := 8) dX5_stillMiddle_8 rfl ?_
    refine gf_5_9 (pc := 9) hq dX5_stillMiddle_9 ?_
    refine go_iconst (pc := 12) (v := (4 : Int32)) dX5_stillMiddle_12 (by decide) ?_
    refine go_icmp_ne (pc := 13) (tgt := 30) dX5_stillMiddle_13 (by decide) (fun e1 => ?_) (fun e1 => ?_)
    · replace h := (if_neg e1).symm.trans h
      refine go_aload_n (pc := 30) dX5_stillMiddle_30 rfl ?_
      refine gf_5_18 (pc := 31) hq dX5_stillMiddle_31 ?_
      exact go_iret (pc := 34) (Option.some.inj h).symm rfl dX5_stillMiddle_34 rfl
    · replace h := (if_pos e1).symm.trans h
      exact go_to (z_X5_stillMiddle_L16 hok hq  h) (And.intro rfl trivial)
def x_X5_touchesAt (q : Nat) (q2 : Nat) (p1 p3 p4 : Int32) (M : g_M) : Option (Int32 × g_M) := (((x_X5_hangs q p1 p4 M).bind fun u1 => if u1.1 = 0 then (((x_X5_hangs q2 p3 p4 u1.2).bind fun u3 => if u3.1 = 0 then (((x_X5_reach q p1 p4 u3.2).bind fun u5 => ((x_X5_reach q2 p3 p4 u5.2).bind fun u7 => ((x_X5_stillMiddle q u7.2).bind fun u9 => ((x_X5_stillMiddle q2 u9.2).bind fun u11 => if ((u11.1 + u7.1) + (u11.2 q2 6)) < (u9.1 - u5.1) then (some ((0 : Int32), u11.2)) else (if ((u9.1 + u5.1) + (u11.2 q 6)) < (u11.1 - u7.1) then (some ((0 : Int32), u11.2)) else (some ((1 : Int32), u11.2)))))))) else (some ((0 : Int32), u3.2)))) else (some ((0 : Int32), u1.2))))
set_option maxHeartbeats 4000000 in
set_option maxRecDepth 100000 in
theorem z_X5_touchesAt {X : g_X} (hok : g_ok X) {q : Nat} (hq : g_isM q) {q2 : Nat} (hq2 : g_isM q2) {p1 p3 p4 : Int32} {M : g_M} {r : Int32 × g_M} (h : x_X5_touchesAt q q2 p1 p3 p4 M = some r) : g_Con X yX5_touchesAt cX5_touchesAt 9 (some .boolean) 3 68 [.inr q, .inl p1, .inr q2, .inl p3, .inl p4] M r := by
  rw [x_X5_touchesAt] at h
  refine g_con hok (plainFor_of_name (by decide +kernel)) (Nat.le_of_ble_eq_true rfl) (go_to (lv2 := [some (.inr q), some (.inl p1), some (.inr q2), some (.inl p3), some (.inl p4), none, none, none, none]) (own := RX5) ?_ (And.intro rfl (And.intro rfl (And.intro rfl (And.intro rfl (And.intro rfl trivial))))))
  refine go_aload_n (pc := 0) dX5_touchesAt_0 rfl ?_
  refine go_iload_n (pc := 1) dX5_touchesAt_1 rfl ?_
  refine go_iload (pc := 2) dX5_touchesAt_2 rfl ?_
  obtain ⟨u1, c2, h⟩ := g_bd h
  refine go_callV (pc := 4) (as := [.inl p1, .inl p4]) (st := []) (r := u1.1) (M1 := u1.2) (z_X5_hangs hok hq c2) cw_X5_hangs ml_X5_75 hq rfl rfl (by decide) (Nat.le_of_ble_eq_true rfl) rfl dX5_touchesAt_4 ?_
  refine go_if_ne (pc := 7) (tgt := 20) dX5_touchesAt_7 (by decide) (fun e16 => ?_) (fun e16 => ?_)
  · replace h := (if_neg e16).symm.trans h
    refine go_iconst (pc := 20) (v := (0 : Int32)) dX5_touchesAt_20 (by decide) ?_
    exact go_iret (pc := 21) (Option.some.inj h).symm rfl dX5_touchesAt_21 rfl
  · replace h := (if_pos e16).symm.trans h
    refine go_aload_n (pc := 10) dX5_touchesAt_10 rfl ?_
    refine go_iload_n (pc := 11) dX5_touchesAt_11 rfl ?_
    refine go_iload (pc := 12) dX5_touchesAt_12 rfl ?_
    obtain ⟨u3, c4, h⟩ := g_bd h
    refine go_callV (pc := 14) (as := [.inl p3, .inl p4]) (st := []) (r := u3.1) (M1 := u3.2) (z_X5_hangs hok hq2 c4) cw_X5_hangs ml_X5_75 hq2 rfl rfl (by decide) (Nat.le_of_ble_eq_true rfl) rfl dX5_touchesAt_14 ?_
    refine go_if_eq (pc := 17) (tgt := 22) dX5_touchesAt_17 (by decide) (fun e15 => ?_) (fun e15 => ?_)
    · replace h := (if_pos e15).symm.trans h
      refine go_aload_n (pc := 22) dX5_touchesAt_22 rfl ?_
      refine go_iload_n (pc := 23) dX5_touchesAt_23 rfl ?_
      refine go_iload (pc := 24) dX5_touchesAt_24 rfl ?_
      obtain ⟨u5, c6, h⟩ := g_bd h
      refine go_callV (pc := 26) (as := [.inl p1, .inl p4]) (st := []) (r := u5.1) (M1 := u5.2) (z_X5_reach hok hq c6) cw_X5_reach ml_X5_83 hq rfl rfl (by decide) (Nat.le_of_ble_eq_true rfl) rfl dX5_touchesAt_26 ?_
      refine go_istore (pc := 29) (lv' := [some (.inr q), some (.inl p1), some (.inr q2), some (.inl p3), some (.inl p4), some (.inl u5.1), none, none, none]) dX5_touchesAt_29 (by decide) rfl ?_
      refine go_aload_n (pc := 31) dX5_touchesAt_31 rfl ?_
      refine go_iload_n (pc := 32) dX5_touchesAt_32 rfl ?_
      refine go_iload (pc := 33) dX5_touchesAt_33 rfl ?_
      obtain ⟨u7, c8, h⟩ := g_bd h
      refine go_callV (pc := 35) (as := [.inl p3, .inl p4]) (st := []) (r := u7.1) (M1 := u7.2) (z_X5_reach hok hq2 c8) cw_X5_reach ml_X5_83 hq2 rfl rfl (by decide) (Nat.le_of_ble_eq_true rfl) rfl dX5_touchesAt_35 ?_
      refine go_istore (pc := 38) (lv' := [some (.inr q), some (.inl p1), some (.inr q2), some (.inl p3), some (.inl p4), some (.inl u5.1), some (.inl u7.1), none, none]) dX5_touchesAt_38 (by decide) rfl ?_
      refine go_aload_n (pc := 40) dX5_touchesAt_40 rfl ?_
      obtain ⟨u9, c10, h⟩ := g_bd h
      refine go_callV (pc := 41) (as := []) (st := []) (r := u9.1) (M1 := u9.2) (z_X5_stillMiddle hok hq c10) cw_X5_stillMiddle ml_X5_89 hq rfl rfl (by decide) (Nat.le_of_ble_eq_true rfl) rfl dX5_touchesAt_41 ?_
      refine go_istore (pc := 44) (lv' := [some (.inr q), some (.inl p1), some (.inr q2), some (.inl p3), some (.inl p4), some (.inl u5.1), some (.inl u7.1), some (.inl u9.1), none]) dX5_touchesAt_44 (by decide) rfl ?_
      refine go_aload_n (pc := 46) dX5_touchesAt_46 rfl ?_
      obtain ⟨u11, c12, h⟩ := g_bd h
      refine go_callV (pc := 47) (as := []) (st := []) (r := u11.1) (M1 := u11.2) (z_X5_stillMiddle hok hq2 c12) cw_X5_stillMiddle ml_X5_89 hq2 rfl rfl (by decide) (Nat.le_of_ble_eq_true rfl) rfl dX5_touchesAt_47 ?_
      refine go_istore (pc := 50) (lv' := [some (.inr q), some (.inl p1), some (.inr q2), some (.inl p3), some (.inl p4), some (.inl u5.1), some (.inl u7.1), some (.inl u9.1), some (.inl u11.1)]) dX5_touchesAt_50 (by decide) rfl ?_
      refine go_iload (pc := 52) dX5_touchesAt_52 rfl ?_
      refine go_iload (pc := 54) dX5_touchesAt_54 rfl ?_
      refine go_isub (pc := 56) dX5_touchesAt_56 ?_
      refine go_iload (pc := 57) dX5_touchesAt_57 rfl ?_
      refine go_iload (pc := 59) dX5_touchesAt_59 rfl ?_
      refine go_iadd (pc := 61) dX5_touchesAt_61 ?_
      refine go_aload_n (pc := 62) dX5_touchesAt_62 rfl ?_
      refine gf_5_30 (pc := 63) hq2 dX5_touchesAt_63 ?_
      refine go_iadd (pc := 66) dX5_touchesAt_66 ?_
      refine go_icmp_gt (pc := 67) (tgt := 92) dX5_touchesAt_67 (by decide) (fun e14 => ?_) (fun e14 => ?_)
      · replace h := (if_pos e14).symm.trans h
        refine go_iconst (pc := 92) (v := (0 : Int32)) dX5_touchesAt_92 (by decide) ?_
        exact go_iret (pc := 93) (Option.some.inj h).symm rfl dX5_touchesAt_93 rfl
      · replace h := (if_neg e14).symm.trans h
        refine go_iload (pc := 70) dX5_touchesAt_70 rfl ?_
        refine go_iload (pc := 72) dX5_touchesAt_72 rfl ?_
        refine go_isub (pc := 74) dX5_touchesAt_74 ?_
        refine go_iload (pc := 75) dX5_touchesAt_75 rfl ?_
        refine go_iload (pc := 77) dX5_touchesAt_77 rfl ?_
        refine go_iadd (pc := 79) dX5_touchesAt_79 ?_
        refine go_aload_n (pc := 80) dX5_touchesAt_80 rfl ?_
        refine gf_5_30 (pc := 81) hq dX5_touchesAt_81 ?_
        refine go_iadd (pc := 84) dX5_touchesAt_84 ?_
        refine go_icmp_gt (pc := 85) (tgt := 92) dX5_touchesAt_85 (by decide) (fun e13 => ?_) (fun e13 => ?_)
        · replace h := (if_pos e13).symm.trans h
          refine go_iconst (pc := 92) (v := (0 : Int32)) dX5_touchesAt_92 (by decide) ?_
          exact go_iret (pc := 93) (Option.some.inj h).symm rfl dX5_touchesAt_93 rfl
        · replace h := (if_neg e13).symm.trans h
          refine go_iconst (pc := 88) (v := (1 : Int32)) dX5_touchesAt_88 (by decide) ?_
          refine go_goto (pc := 89) (tgt := 93) dX5_touchesAt_89 (by decide) ?_
          exact go_iret (pc := 93) (Option.some.inj h).symm rfl dX5_touchesAt_93 rfl
    · replace h := (if_neg e15).symm.trans h
      refine go_iconst (pc := 20) (v := (0 : Int32)) dX5_touchesAt_20 (by decide) ?_
      exact go_iret (pc := 21) (Option.some.inj h).symm rfl dX5_touchesAt_21 rfl
def x_X5_touching_L6 (q : Nat) (q2 : Nat) (a4 n4 : Nat)  : Nat → Int32 → Int32 → Int32 → Int32 → g_M → Option (Int32 × g_M)
  | 0, _, _, _, _, _ => none
  | n + 1, v1, v3, v5, v6, M => (if (Int32.ofNat n4) ≤ v6 then (some (v5, M)) else ((if g_inb v6 n4 = true then (((x_X5_touchesAt q q2 v1 v3 (M a4 v6.toNatClampNeg) M).bind fun u2 => if u2.1 = 0 then (x_X5_touching_L6 q q2 a4 n4  n v1 v3 v5 (v6 + (1 : Int32)) u2.2) else (x_X5_touching_L6 q q2 a4 n4  n v1 v3 (v5 ||| ((1 : Int32) <<< (v6 &&& 31))) (v6 + (1 : Int32)) u2.2))) else none)))
set_option maxHeartbeats 4000000 in
set_option maxRecDepth 100000 in
theorem z_X5_touching_L6 {X : g_X} (hok : g_ok X) {q : Nat} (hq : g_isM q) {q2 : Nat} (hq2 : g_isM q2) {a4 n4 : Nat} (ha4 : g_lay[a4]? = some (.inl n4)) {r : Int32 × g_M}  : ∀ (n : Nat) (v1 : Int32) (v3 : Int32) (v5 : Int32) (v6 : Int32) (M : g_M), x_X5_touching_L6 q q2 a4 n4  n v1 v3 v5 v6 M = some r → g_Go X cX5_touching RX5 7 (some .int) 4 96 r 6 [some (.inr q), some (.inl v1), some (.inr q2), some (.inl v3), some (.inr a4), some (.inl v5), some (.inl v6)] [] M := by
  intro n
  induction n with
  | zero =>
    intro v1 v3 v5 v6 M h
    rw [x_X5_touching_L6] at h
    cases h
  | succ n ih =>
    intro v1 v3 v5 v6 M h
    rw [x_X5_touching_L6] at h
    refine go_iload (pc := 6) dX5_touching_6 rfl ?_
    refine go_aload (pc := 8) dX5_touching_8 rfl ?_
    refine go_alen (pc := 10) (n := n4) (v := (Int32.ofNat n4)) ha4 rfl dX5_touching_10 ?_
    refine go_icmp_ge (pc := 11) (tgt := 44) dX5_touching_11 (by decide) (fun e5 => ?_) (fun e5 => ?_)
    · replace h := (if_pos e5).symm.trans h
      refine go_iload (pc := 44) dX5_touching_44 rfl ?_
      exact go_iret (pc := 46) (Option.some.inj h).symm rfl dX5_touching_46 rfl
    · replace h := (if_neg e5).symm.trans h
      refine go_aload_n (pc := 14) dX5_touching_14 rfl ?_
      refine go_iload_n (pc := 15) dX5_touching_15 rfl ?_
      refine go_aload_n (pc := 16) dX5_touching_16 rfl ?_
      refine go_iload_n (pc := 17) dX5_touching_17 rfl ?_
      refine go_aload (pc := 18) dX5_touching_18 rfl ?_
      refine go_iload (pc := 20) dX5_touching_20 rfl ?_
      obtain ⟨i1, h⟩ := g_gd h
      refine go_iald (pc := 22) (n := n4) ha4 (g_inb_ok i1) dX5_touching_22 ?_
      obtain ⟨u2, c3, h⟩ := g_bd h
      refine go_callV (pc := 23) (as := [.inl v1, .inr q2, .inl v3, .inl (M a4 v6.toNatClampNeg)]) (st := []) (r := u2.1) (M1 := u2.2) (z_X5_touchesAt hok hq hq2 c3) cw_X5_touchesAt ml_X5_92 hq rfl rfl (by decide) (Nat.le_of_ble_eq_true rfl) rfl dX5_touching_23 ?_
      refine go_if_eq (pc := 26) (tgt := 38) dX5_touching_26 (by decide) (fun e4 => ?_) (fun e4 => ?_)
      · replace h := (if_pos e4).symm.trans h
        refine go_iinc (pc := 38) (v := (1 : Int32)) (lv' := [some (.inr q), some (.inl v1), some (.inr q2), some (.inl v3), some (.inr a4), some (.inl v5), some (.inl (v6 + (1 : Int32)))]) dX5_touching_38 rfl (by decide) (by decide) rfl ?_
        refine go_goto (pc := 41) (tgt := 6) dX5_touching_41 (by decide) ?_
        exact go_to (ih _ _ _ _ _ h) (And.intro rfl (And.intro rfl (And.intro rfl (And.intro rfl (And.intro rfl (And.intro rfl (And.intro rfl trivial)))))))
      · replace h := (if_neg e4).symm.trans h
        refine go_iload (pc := 29) dX5_touching_29 rfl ?_
        refine go_iconst (pc := 31) (v := (1 : Int32)) dX5_touching_31 (by decide) ?_
        refine go_iload (pc := 32) dX5_touching_32 rfl ?_
        refine go_ishl (pc := 34) dX5_touching_34 ?_
        refine go_ior (pc := 35) dX5_touching_35 ?_
        refine go_istore (pc := 36) (lv' := [some (.inr q), some (.inl v1), some (.inr q2), some (.inl v3), some (.inr a4), some (.inl (v5 ||| ((1 : Int32) <<< (v6 &&& 31)))), some (.inl v6)]) dX5_touching_36 (by decide) rfl ?_
        refine go_iinc (pc := 38) (v := (1 : Int32)) (lv' := [some (.inr q), some (.inl v1), some (.inr q2), some (.inl v3), some (.inr a4), some (.inl (v5 ||| ((1 : Int32) <<< (v6 &&& 31)))), some (.inl (v6 + (1 : Int32)))]) dX5_touching_38 rfl (by decide) (by decide) rfl ?_
        refine go_goto (pc := 41) (tgt := 6) dX5_touching_41 (by decide) ?_
        exact go_to (ih _ _ _ _ _ h) (And.intro rfl (And.intro rfl (And.intro rfl (And.intro rfl (And.intro rfl (And.intro rfl (And.intro rfl trivial)))))))
def x_X5_touching (q : Nat) (q2 : Nat) (a4 n4 : Nat) (p1 p3 : Int32) (M : g_M) : Option (Int32 × g_M) := (x_X5_touching_L6 q q2 a4 n4  g_F p1 p3 (0 : Int32) (0 : Int32) M)
set_option maxHeartbeats 4000000 in
set_option maxRecDepth 100000 in
theorem z_X5_touching {X : g_X} (hok : g_ok X) {q : Nat} (hq : g_isM q) {q2 : Nat} (hq2 : g_isM q2) {a4 n4 : Nat} (ha4 : g_lay[a4]? = some (.inl n4)) {p1 p3 : Int32} {M : g_M} {r : Int32 × g_M} (h : x_X5_touching q q2 a4 n4 p1 p3 M = some r) : g_Con X yX5_touching cX5_touching 7 (some .int) 4 96 [.inr q, .inl p1, .inr q2, .inl p3, .inr a4] M r := by
  rw [x_X5_touching] at h
  refine g_con hok (plainFor_of_name (by decide +kernel)) (Nat.le_of_ble_eq_true rfl) (go_to (lv2 := [some (.inr q), some (.inl p1), some (.inr q2), some (.inl p3), some (.inr a4), none, none]) (own := RX5) ?_ (And.intro rfl (And.intro rfl (And.intro rfl (And.intro rfl (And.intro rfl trivial))))))
  refine go_iconst (pc := 0) (v := (0 : Int32)) dX5_touching_0 (by decide) ?_
  refine go_istore (pc := 1) (lv' := [some (.inr q), some (.inl p1), some (.inr q2), some (.inl p3), some (.inr a4), some (.inl (0 : Int32)), none]) dX5_touching_1 (by decide) rfl ?_
  refine go_iconst (pc := 3) (v := (0 : Int32)) dX5_touching_3 (by decide) ?_
  refine go_istore (pc := 4) (lv' := [some (.inr q), some (.inl p1), some (.inr q2), some (.inl p3), some (.inr a4), some (.inl (0 : Int32)), some (.inl (0 : Int32))]) dX5_touching_4 (by decide) rfl ?_
  exact go_to (z_X5_touching_L6 hok hq hq2 ha4  g_F _ _ _ _ _ h) (And.intro rfl (And.intro rfl (And.intro rfl (And.intro rfl (And.intro rfl (And.intro rfl (And.intro rfl trivial)))))))
def x_J6_bitCount_0f7a4  (p0 : Int32) (M : g_M) : Option (Int32 × g_M) := (some (((((((((p0 - ((p0.toUInt32 >>> ((1 : Int32).toUInt32 &&& Int32.toUInt32 31)).toInt32 &&& (1431655765 : Int32))) &&& (858993459 : Int32)) + (((p0 - ((p0.toUInt32 >>> ((1 : Int32).toUInt32 &&& Int32.toUInt32 31)).toInt32 &&& (1431655765 : Int32))).toUInt32 >>> ((2 : Int32).toUInt32 &&& Int32.toUInt32 31)).toInt32 &&& (858993459 : Int32))) + ((((p0 - ((p0.toUInt32 >>> ((1 : Int32).toUInt32 &&& Int32.toUInt32 31)).toInt32 &&& (1431655765 : Int32))) &&& (858993459 : Int32)) + (((p0 - ((p0.toUInt32 >>> ((1 : Int32).toUInt32 &&& Int32.toUInt32 31)).toInt32 &&& (1431655765 : Int32))).toUInt32 >>> ((2 : Int32).toUInt32 &&& Int32.toUInt32 31)).toInt32 &&& (858993459 : Int32))).toUInt32 >>> ((4 : Int32).toUInt32 &&& Int32.toUInt32 31)).toInt32) &&& (252645135 : Int32)) + ((((((p0 - ((p0.toUInt32 >>> ((1 : Int32).toUInt32 &&& Int32.toUInt32 31)).toInt32 &&& (1431655765 : Int32))) &&& (858993459 : Int32)) + (((p0 - ((p0.toUInt32 >>> ((1 : Int32).toUInt32 &&& Int32.toUInt32 31)).toInt32 &&& (1431655765 : Int32))).toUInt32 >>> ((2 : Int32).toUInt32 &&& Int32.toUInt32 31)).toInt32 &&& (858993459 : Int32))) + ((((p0 - ((p0.toUInt32 >>> ((1 : Int32).toUInt32 &&& Int32.toUInt32 31)).toInt32 &&& (1431655765 : Int32))) &&& (858993459 : Int32)) + (((p0 - ((p0.toUInt32 >>> ((1 : Int32).toUInt32 &&& Int32.toUInt32 31)).toInt32 &&& (1431655765 : Int32))).toUInt32 >>> ((2 : Int32).toUInt32 &&& Int32.toUInt32 31)).toInt32 &&& (858993459 : Int32))).toUInt32 >>> ((4 : Int32).toUInt32 &&& Int32.toUInt32 31)).toInt32) &&& (252645135 : Int32)).toUInt32 >>> ((8 : Int32).toUInt32 &&& Int32.toUInt32 31)).toInt32) + (((((((p0 - ((p0.toUInt32 >>> ((1 : Int32).toUInt32 &&& Int32.toUInt32 31)).toInt32 &&& (1431655765 : Int32))) &&& (858993459 : Int32)) + (((p0 - ((p0.toUInt32 >>> ((1 : Int32).toUInt32 &&& Int32.toUInt32 31)).toInt32 &&& (1431655765 : Int32))).toUInt32 >>> ((2 : Int32).toUInt32 &&& Int32.toUInt32 31)).toInt32 &&& (858993459 : Int32))) + ((((p0 - ((p0.toUInt32 >>> ((1 : Int32).toUInt32 &&& Int32.toUInt32 31)).toInt32 &&& (1431655765 : Int32))) &&& (858993459 : Int32)) + (((p0 - ((p0.toUInt32 >>> ((1 : Int32).toUInt32 &&& Int32.toUInt32 31)).toInt32 &&& (1431655765 : Int32))).toUInt32 >>> ((2 : Int32).toUInt32 &&& Int32.toUInt32 31)).toInt32 &&& (858993459 : Int32))).toUInt32 >>> ((4 : Int32).toUInt32 &&& Int32.toUInt32 31)).toInt32) &&& (252645135 : Int32)) + ((((((p0 - ((p0.toUInt32 >>> ((1 : Int32).toUInt32 &&& Int32.toUInt32 31)).toInt32 &&& (1431655765 : Int32))) &&& (858993459 : Int32)) + (((p0 - ((p0.toUInt32 >>> ((1 : Int32).toUInt32 &&& Int32.toUInt32 31)).toInt32 &&& (1431655765 : Int32))).toUInt32 >>> ((2 : Int32).toUInt32 &&& Int32.toUInt32 31)).toInt32 &&& (858993459 : Int32))) + ((((p0 - ((p0.toUInt32 >>> ((1 : Int32).toUInt32 &&& Int32.toUInt32 31)).toInt32 &&& (1431655765 : Int32))) &&& (858993459 : Int32)) + (((p0 - ((p0.toUInt32 >>> ((1 : Int32).toUInt32 &&& Int32.toUInt32 31)).toInt32 &&& (1431655765 : Int32))).toUInt32 >>> ((2 : Int32).toUInt32 &&& Int32.toUInt32 31)).toInt32 &&& (858993459 : Int32))).toUInt32 >>> ((4 : Int32).toUInt32 &&& Int32.toUInt32 31)).toInt32) &&& (252645135 : Int32)).toUInt32 >>> ((8 : Int32).toUInt32 &&& Int32.toUInt32 31)).toInt32).toUInt32 >>> ((16 : Int32).toUInt32 &&& Int32.toUInt32 31)).toInt32) &&& (63 : Int32)), M))
set_option maxHeartbeats 4000000 in
set_option maxRecDepth 100000 in
theorem z_J6_bitCount_0f7a4 {X : g_X} (hok : g_ok X)  {p0 : Int32} {M : g_M} {r : Int32 × g_M} (h : x_J6_bitCount_0f7a4 p0 M = some r) : g_Con X yJ6_bitCount_0f7a4 cJ6_bitCount_0f7a4 1 (some .int) 0 0 [.inl p0] M r := by
  rw [x_J6_bitCount_0f7a4] at h
  refine g_con hok (plainFor_of_name (by decide +kernel)) (Nat.le_of_ble_eq_true rfl) (go_to (lv2 := [some (.inl p0)]) (own := RJ6) ?_ (And.intro rfl trivial))
  refine go_iload_n (pc := 0) dJ6_bitCount_0f7a4_0 rfl ?_
  refine go_iload_n (pc := 1) dJ6_bitCount_0f7a4_1 rfl ?_
  refine go_iconst (pc := 2) (v := (1 : Int32)) dJ6_bitCount_0f7a4_2 (by decide) ?_
  refine go_iushr (pc := 3) dJ6_bitCount_0f7a4_3 ?_
  refine go_ldcw (pc := 4) (v := (1431655765 : Int32)) kc_J6_265 dJ6_bitCount_0f7a4_4 ?_
  refine go_iand (pc := 7) dJ6_bitCount_0f7a4_7 ?_
  refine go_isub (pc := 8) dJ6_bitCount_0f7a4_8 ?_
  refine go_istore_n (pc := 9) (lv' := [some (.inl (p0 - ((p0.toUInt32 >>> ((1 : Int32).toUInt32 &&& Int32.toUInt32 31)).toInt32 &&& (1431655765 : Int32))))]) dJ6_bitCount_0f7a4_9 (by decide) rfl ?_
  refine go_iload_n (pc := 10) dJ6_bitCount_0f7a4_10 rfl ?_
  refine go_ldcw (pc := 11) (v := (858993459 : Int32)) kc_J6_266 dJ6_bitCount_0f7a4_11 ?_
  refine go_iand (pc := 14) dJ6_bitCount_0f7a4_14 ?_
  refine go_iload_n (pc := 15) dJ6_bitCount_0f7a4_15 rfl ?_
  refine go_iconst (pc := 16) (v := (2 : Int32)) dJ6_bitCount_0f7a4_16 (by decide) ?_
  refine go_iushr (pc := 17) dJ6_bitCount_0f7a4_17 ?_
  refine go_ldcw (pc := 18) (v := (858993459 : Int32)) kc_J6_266 dJ6_bitCount_0f7a4_18 ?_
  refine go_iand (pc := 21) dJ6_bitCount_0f7a4_21 ?_
  refine go_iadd (pc := 22) dJ6_bitCount_0f7a4_22 ?_
  refine go_istore_n (pc := 23) (lv' := [some (.inl (((p0 - ((p0.toUInt32 >>> ((1 : Int32).toUInt32 &&& Int32.toUInt32 31)).toInt32 &&& (1431655765 : Int32))) &&& (858993459 : Int32)) + (((p0 - ((p0.toUInt32 >>> ((1 : Int32).toUInt32 &&& Int32.toUInt32 31)).toInt32 &&& (1431655765 : Int32))).toUInt32 >>> ((2 : Int32).toUInt32 &&& Int32.toUInt32 31)).toInt32 &&& (858993459 : Int32))))]) dJ6_bitCount_0f7a4_23 (by decide) rfl ?_
  refine go_iload_n (pc := 24) dJ6_bitCount_0f7a4_24 rfl ?_
  refine go_iload_n (pc := 25) dJ6_bitCount_0f7a4_25 rfl ?_
  refine go_iconst (pc := 26) (v := (4 : Int32)) dJ6_bitCount_0f7a4_26 (by decide) ?_
  refine go_iushr (pc := 27) dJ6_bitCount_0f7a4_27 ?_
  refine go_iadd (pc := 28) dJ6_bitCount_0f7a4_28 ?_
  refine go_ldcw (pc := 29) (v := (252645135 : Int32)) kc_J6_267 dJ6_bitCount_0f7a4_29 ?_
  refine go_iand (pc := 32) dJ6_bitCount_0f7a4_32 ?_
  refine go_istore_n (pc := 33) (lv' := [some (.inl (((((p0 - ((p0.toUInt32 >>> ((1 : Int32).toUInt32 &&& Int32.toUInt32 31)).toInt32 &&& (1431655765 : Int32))) &&& (858993459 : Int32)) + (((p0 - ((p0.toUInt32 >>> ((1 : Int32).toUInt32 &&& Int32.toUInt32 31)).toInt32 &&& (1431655765 : Int32))).toUInt32 >>> ((2 : Int32).toUInt32 &&& Int32.toUInt32 31)).toInt32 &&& (858993459 : Int32))) + ((((p0 - ((p0.toUInt32 >>> ((1 : Int32).toUInt32 &&& Int32.toUInt32 31)).toInt32 &&& (1431655765 : Int32))) &&& (858993459 : Int32)) + (((p0 - ((p0.toUInt32 >>> ((1 : Int32).toUInt32 &&& Int32.toUInt32 31)).toInt32 &&& (1431655765 : Int32))).toUInt32 >>> ((2 : Int32).toUInt32 &&& Int32.toUInt32 31)).toInt32 &&& (858993459 : Int32))).toUInt32 >>> ((4 : Int32).toUInt32 &&& Int32.toUInt32 31)).toInt32) &&& (252645135 : Int32)))]) dJ6_bitCount_0f7a4_33 (by decide) rfl ?_
  refine go_iload_n (pc := 34) dJ6_bitCount_0f7a4_34 rfl ?_
  refine go_iload_n (pc := 35) dJ6_bitCount_0f7a4_35 rfl ?_
  refine go_bipush (pc := 36) (v := (8 : Int32)) dJ6_bitCount_0f7a4_36 (by decide) ?_
  refine go_iushr (pc := 38) dJ6_bitCount_0f7a4_38 ?_
  refine go_iadd (pc := 39) dJ6_bitCount_0f7a4_39 ?_
  refine go_istore_n (pc := 40) (lv' := [some (.inl ((((((p0 - ((p0.toUInt32 >>> ((1 : Int32).toUInt32 &&& Int32.toUInt32 31)).toInt32 &&& (1431655765 : Int32))) &&& (858993459 : Int32)) + (((p0 - ((p0.toUInt32 >>> ((1 : Int32).toUInt32 &&& Int32.toUInt32 31)).toInt32 &&& (1431655765 : Int32))).toUInt32 >>> ((2 : Int32).toUInt32 &&& Int32.toUInt32 31)).toInt32 &&& (858993459 : Int32))) + ((((p0 - ((p0.toUInt32 >>> ((1 : Int32).toUInt32 &&& Int32.toUInt32 31)).toInt32 &&& (1431655765 : Int32))) &&& (858993459 : Int32)) + (((p0 - ((p0.toUInt32 >>> ((1 : Int32).toUInt32 &&& Int32.toUInt32 31)).toInt32 &&& (1431655765 : Int32))).toUInt32 >>> ((2 : Int32).toUInt32 &&& Int32.toUInt32 31)).toInt32 &&& (858993459 : Int32))).toUInt32 >>> ((4 : Int32).toUInt32 &&& Int32.toUInt32 31)).toInt32) &&& (252645135 : Int32)) + ((((((p0 - ((p0.toUInt32 >>> ((1 : Int32).toUInt32 &&& Int32.toUInt32 31)).toInt32 &&& (1431655765 : Int32))) &&& (858993459 : Int32)) + (((p0 - ((p0.toUInt32 >>> ((1 : Int32).toUInt32 &&& Int32.toUInt32 31)).toInt32 &&& (1431655765 : Int32))).toUInt32 >>> ((2 : Int32).toUInt32 &&& Int32.toUInt32 31)).toInt32 &&& (858993459 : Int32))) + ((((p0 - ((p0.toUInt32 >>> ((1 : Int32).toUInt32 &&& Int32.toUInt32 31)).toInt32 &&& (1431655765 : Int32))) &&& (858993459 : Int32)) + (((p0 - ((p0.toUInt32 >>> ((1 : Int32).toUInt32 &&& Int32.toUInt32 31)).toInt32 &&& (1431655765 : Int32))).toUInt32 >>> ((2 : Int32).toUInt32 &&& Int32.toUInt32 31)).toInt32 &&& (858993459 : Int32))).toUInt32 >>> ((4 : Int32).toUInt32 &&& Int32.toUInt32 31)).toInt32) &&& (252645135 : Int32)).toUInt32 >>> ((8 : Int32).toUInt32 &&& Int32.toUInt32 31)).toInt32))]) dJ6_bitCount_0f7a4_40 (by decide) rfl ?_
  refine go_iload_n (pc := 41) dJ6_bitCount_0f7a4_41 rfl ?_
  refine go_iload_n (pc := 42) dJ6_bitCount_0f7a4_42 rfl ?_
  refine go_bipush (pc := 43) (v := (16 : Int32)) dJ6_bitCount_0f7a4_43 (by decide) ?_
  refine go_iushr (pc := 45) dJ6_bitCount_0f7a4_45 ?_
  refine go_iadd (pc := 46) dJ6_bitCount_0f7a4_46 ?_
  refine go_istore_n (pc := 47) (lv' := [some (.inl (((((((p0 - ((p0.toUInt32 >>> ((1 : Int32).toUInt32 &&& Int32.toUInt32 31)).toInt32 &&& (1431655765 : Int32))) &&& (858993459 : Int32)) + (((p0 - ((p0.toUInt32 >>> ((1 : Int32).toUInt32 &&& Int32.toUInt32 31)).toInt32 &&& (1431655765 : Int32))).toUInt32 >>> ((2 : Int32).toUInt32 &&& Int32.toUInt32 31)).toInt32 &&& (858993459 : Int32))) + ((((p0 - ((p0.toUInt32 >>> ((1 : Int32).toUInt32 &&& Int32.toUInt32 31)).toInt32 &&& (1431655765 : Int32))) &&& (858993459 : Int32)) + (((p0 - ((p0.toUInt32 >>> ((1 : Int32).toUInt32 &&& Int32.toUInt32 31)).toInt32 &&& (1431655765 : Int32))).toUInt32 >>> ((2 : Int32).toUInt32 &&& Int32.toUInt32 31)).toInt32 &&& (858993459 : Int32))).toUInt32 >>> ((4 : Int32).toUInt32 &&& Int32.toUInt32 31)).toInt32) &&& (252645135 : Int32)) + ((((((p0 - ((p0.toUInt32 >>> ((1 : Int32).toUInt32 &&& Int32.toUInt32 31)).toInt32 &&& (1431655765 : Int32))) &&& (858993459 : Int32)) + (((p0 - ((p0.toUInt32 >>> ((1 : Int32).toUInt32 &&& Int32.toUInt32 31)).toInt32 &&& (1431655765 : Int32))).toUInt32 >>> ((2 : Int32).toUInt32 &&& Int32.toUInt32 31)).toInt32 &&& (858993459 : Int32))) + ((((p0 - ((p0.toUInt32 >>> ((1 : Int32).toUInt32 &&& Int32.toUInt32 31)).toInt32 &&& (1431655765 : Int32))) &&& (858993459 : Int32)) + (((p0 - ((p0.toUInt32 >>> ((1 : Int32).toUInt32 &&& Int32.toUInt32 31)).toInt32 &&& (1431655765 : Int32))).toUInt32 >>> ((2 : Int32).toUInt32 &&& Int32.toUInt32 31)).toInt32 &&& (858993459 : Int32))).toUInt32 >>> ((4 : Int32).toUInt32 &&& Int32.toUInt32 31)).toInt32) &&& (252645135 : Int32)).toUInt32 >>> ((8 : Int32).toUInt32 &&& Int32.toUInt32 31)).toInt32) + (((((((p0 - ((p0.toUInt32 >>> ((1 : Int32).toUInt32 &&& Int32.toUInt32 31)).toInt32 &&& (1431655765 : Int32))) &&& (858993459 : Int32)) + (((p0 - ((p0.toUInt32 >>> ((1 : Int32).toUInt32 &&& Int32.toUInt32 31)).toInt32 &&& (1431655765 : Int32))).toUInt32 >>> ((2 : Int32).toUInt32 &&& Int32.toUInt32 31)).toInt32 &&& (858993459 : Int32))) + ((((p0 - ((p0.toUInt32 >>> ((1 : Int32).toUInt32 &&& Int32.toUInt32 31)).toInt32 &&& (1431655765 : Int32))) &&& (858993459 : Int32)) + (((p0 - ((p0.toUInt32 >>> ((1 : Int32).toUInt32 &&& Int32.toUInt32 31)).toInt32 &&& (1431655765 : Int32))).toUInt32 >>> ((2 : Int32).toUInt32 &&& Int32.toUInt32 31)).toInt32 &&& (858993459 : Int32))).toUInt32 >>> ((4 : Int32).toUInt32 &&& Int32.toUInt32 31)).toInt32) &&& (252645135 : Int32)) + ((((((p0 - ((p0.toUInt32 >>> ((1 : Int32).toUInt32 &&& Int32.toUInt32 31)).toInt32 &&& (1431655765 : Int32))) &&& (858993459 : Int32)) + (((p0 - ((p0.toUInt32 >>> ((1 : Int32).toUInt32 &&& Int32.toUInt32 31)).toInt32 &&& (1431655765 : Int32))).toUInt32 >>> ((2 : Int32).toUInt32 &&& Int32.toUInt32 31)).toInt32 &&& (858993459 : Int32))) + ((((p0 - ((p0.toUInt32 >>> ((1 : Int32).toUInt32 &&& Int32.toUInt32 31)).toInt32 &&& (1431655765 : Int32))) &&& (858993459 : Int32)) + (((p0 - ((p0.toUInt32 >>> ((1 : Int32).toUInt32 &&& Int32.toUInt32 31)).toInt32 &&& (1431655765 : Int32))).toUInt32 >>> ((2 : Int32).toUInt32 &&& Int32.toUInt32 31)).toInt32 &&& (858993459 : Int32))).toUInt32 >>> ((4 : Int32).toUInt32 &&& Int32.toUInt32 31)).toInt32) &&& (252645135 : Int32)).toUInt32 >>> ((8 : Int32).toUInt32 &&& Int32.toUInt32 31)).toInt32).toUInt32 >>> ((16 : Int32).toUInt32 &&& Int32.toUInt32 31)).toInt32))]) dJ6_bitCount_0f7a4_47 (by decide) rfl ?_
  refine go_iload_n (pc := 48) dJ6_bitCount_0f7a4_48 rfl ?_
  refine go_bipush (pc := 49) (v := (63 : Int32)) dJ6_bitCount_0f7a4_49 (by decide) ?_
  refine go_iand (pc := 51) dJ6_bitCount_0f7a4_51 ?_
  exact go_iret (pc := 52) (Option.some.inj h).symm rfl dJ6_bitCount_0f7a4_52 rfl
def x_X1_pairOf  (p1 p2 : Int32) (M : g_M) : Option (Int32 × g_M) := (if ((((p1 - (M 37 2)) * (5 : Int32)) + p2) - (M 37 4)) < 0 then (some ((0 : Int32), M)) else (if (25 : Int32) ≤ ((((p1 - (M 37 2)) * (5 : Int32)) + p2) - (M 37 4)) then (some ((0 : Int32), M)) else (some (((((p1 - (M 37 2)) * (5 : Int32)) + p2) - (M 37 4)), M))))
set_option maxHeartbeats 4000000 in
set_option maxRecDepth 100000 in
theorem z_X1_pairOf {X : g_X} (hok : g_ok X)  {p1 p2 : Int32} {M : g_M} {r : Int32 × g_M} (h : x_X1_pairOf p1 p2 M = some r) : g_Con X yX1_pairOf cX1_pairOf 4 (some .int) 0 0 [.inr 37, .inl p1, .inl p2] M r := by
  rw [x_X1_pairOf] at h
  refine g_con hok (plainFor_of_name (by decide +kernel)) (Nat.le_of_ble_eq_true rfl) (go_to (lv2 := [some (.inr 37), some (.inl p1), some (.inl p2), none]) (own := RX1) ?_ (And.intro rfl (And.intro rfl (And.intro rfl trivial))))
  refine go_iload_n (pc := 0) dX1_pairOf_0 rfl ?_
  refine go_aload_n (pc := 1) dX1_pairOf_1 rfl ?_
  refine gf_1_18 (pc := 2) dX1_pairOf_2 ?_
  refine go_isub (pc := 5) dX1_pairOf_5 ?_
  refine go_iconst (pc := 6) (v := (5 : Int32)) dX1_pairOf_6 (by decide) ?_
  refine go_imul (pc := 7) dX1_pairOf_7 ?_
  refine go_iload_n (pc := 8) dX1_pairOf_8 rfl ?_
  refine go_iadd (pc := 9) dX1_pairOf_9 ?_
  refine go_aload_n (pc := 10) dX1_pairOf_10 rfl ?_
  refine gf_1_25 (pc := 11) dX1_pairOf_11 ?_
  refine go_isub (pc := 14) dX1_pairOf_14 ?_
  refine go_istore_n (pc := 15) (lv' := [some (.inr 37), some (.inl p1), some (.inl p2), some (.inl ((((p1 - (M 37 2)) * (5 : Int32)) + p2) - (M 37 4)))]) dX1_pairOf_15 (by decide) rfl ?_
  refine go_iload_n (pc := 16) dX1_pairOf_16 rfl ?_
  refine go_if_lt (pc := 17) (tgt := 33) dX1_pairOf_17 (by decide) (fun e2 => ?_) (fun e2 => ?_)
  · replace h := (if_pos e2).symm.trans h
    refine go_iconst (pc := 33) (v := (0 : Int32)) dX1_pairOf_33 (by decide) ?_
    exact go_iret (pc := 34) (Option.some.inj h).symm rfl dX1_pairOf_34 rfl
  · replace h := (if_neg e2).symm.trans h
    refine go_iload_n (pc := 20) dX1_pairOf_20 rfl ?_
    refine go_aload_n (pc := 21) dX1_pairOf_21 rfl ?_
    refine gf_1_9 (pc := 22) dX1_pairOf_22 ?_
    refine go_alen (pc := 25) (n := 25) (v := (25 : Int32)) rfl (by decide) dX1_pairOf_25 ?_
    refine go_icmp_ge (pc := 26) (tgt := 33) dX1_pairOf_26 (by decide) (fun e1 => ?_) (fun e1 => ?_)
    · replace h := (if_pos e1).symm.trans h
      refine go_iconst (pc := 33) (v := (0 : Int32)) dX1_pairOf_33 (by decide) ?_
      exact go_iret (pc := 34) (Option.some.inj h).symm rfl dX1_pairOf_34 rfl
    · replace h := (if_neg e1).symm.trans h
      refine go_iload_n (pc := 29) dX1_pairOf_29 rfl ?_
      refine go_goto (pc := 30) (tgt := 34) dX1_pairOf_30 (by decide) ?_
      exact go_iret (pc := 34) (Option.some.inj h).symm rfl dX1_pairOf_34 rfl
def x_X5_hangingWith_L5 (q : Nat) (a2 n2 : Nat)  : Nat → Int32 → Int32 → Int32 → g_M → Option (Int32 × g_M)
  | 0, _, _, _, _ => none
  | n + 1, v1, v3, v4, M => (if (Int32.ofNat n2) ≤ v4 then (some (v3, M)) else ((if g_inb v4 n2 = true then (((x_X5_hangs q v1 (M a2 v4.toNatClampNeg) M).bind fun u2 => if u2.1 = 0 then (x_X5_hangingWith_L5 q a2 n2  n v1 v3 (v4 + (1 : Int32)) u2.2) else (x_X5_hangingWith_L5 q a2 n2  n v1 (v3 ||| ((1 : Int32) <<< (v4 &&& 31))) (v4 + (1 : Int32)) u2.2))) else none)))
set_option maxHeartbeats 4000000 in
set_option maxRecDepth 100000 in
theorem z_X5_hangingWith_L5 {X : g_X} (hok : g_ok X) {q : Nat} (hq : g_isM q) {a2 n2 : Nat} (ha2 : g_lay[a2]? = some (.inl n2)) {r : Int32 × g_M}  : ∀ (n : Nat) (v1 : Int32) (v3 : Int32) (v4 : Int32) (M : g_M), x_X5_hangingWith_L5 q a2 n2  n v1 v3 v4 M = some r → g_Go X cX5_hangingWith RX5 5 (some .int) 3 66 r 5 [some (.inr q), some (.inl v1), some (.inr a2), some (.inl v3), some (.inl v4)] [] M := by
  intro n
  induction n with
  | zero =>
    intro v1 v3 v4 M h
    rw [x_X5_hangingWith_L5] at h
    cases h
  | succ n ih =>
    intro v1 v3 v4 M h
    rw [x_X5_hangingWith_L5] at h
    refine go_iload (pc := 5) dX5_hangingWith_5 rfl ?_
    refine go_aload_n (pc := 7) dX5_hangingWith_7 rfl ?_
    refine go_alen (pc := 8) (n := n2) (v := (Int32.ofNat n2)) ha2 rfl dX5_hangingWith_8 ?_
    refine go_icmp_ge (pc := 9) (tgt := 37) dX5_hangingWith_9 (by decide) (fun e5 => ?_) (fun e5 => ?_)
    · replace h := (if_pos e5).symm.trans h
      refine go_iload_n (pc := 37) dX5_hangingWith_37 rfl ?_
      exact go_iret (pc := 38) (Option.some.inj h).symm rfl dX5_hangingWith_38 rfl
    · replace h := (if_neg e5).symm.trans h
      refine go_aload_n (pc := 12) dX5_hangingWith_12 rfl ?_
      refine go_iload_n (pc := 13) dX5_hangingWith_13 rfl ?_
      refine go_aload_n (pc := 14) dX5_hangingWith_14 rfl ?_
      refine go_iload (pc := 15) dX5_hangingWith_15 rfl ?_
      obtain ⟨i1, h⟩ := g_gd h
      refine go_iald (pc := 17) (n := n2) ha2 (g_inb_ok i1) dX5_hangingWith_17 ?_
      obtain ⟨u2, c3, h⟩ := g_bd h
      refine go_callV (pc := 18) (as := [.inl v1, .inl (M a2 v4.toNatClampNeg)]) (st := []) (r := u2.1) (M1 := u2.2) (z_X5_hangs hok hq c3) cw_X5_hangs ml_X5_75 hq rfl rfl (by decide) (Nat.le_of_ble_eq_true rfl) rfl dX5_hangingWith_18 ?_
      refine go_if_eq (pc := 21) (tgt := 31) dX5_hangingWith_21 (by decide) (fun e4 => ?_) (fun e4 => ?_)
      · replace h := (if_pos e4).symm.trans h
        refine go_iinc (pc := 31) (v := (1 : Int32)) (lv' := [some (.inr q), some (.inl v1), some (.inr a2), some (.inl v3), some (.inl (v4 + (1 : Int32)))]) dX5_hangingWith_31 rfl (by decide) (by decide) rfl ?_
        refine go_goto (pc := 34) (tgt := 5) dX5_hangingWith_34 (by decide) ?_
        exact go_to (ih _ _ _ _ h) (And.intro rfl (And.intro rfl (And.intro rfl (And.intro rfl (And.intro rfl trivial)))))
      · replace h := (if_neg e4).symm.trans h
        refine go_iload_n (pc := 24) dX5_hangingWith_24 rfl ?_
        refine go_iconst (pc := 25) (v := (1 : Int32)) dX5_hangingWith_25 (by decide) ?_
        refine go_iload (pc := 26) dX5_hangingWith_26 rfl ?_
        refine go_ishl (pc := 28) dX5_hangingWith_28 ?_
        refine go_ior (pc := 29) dX5_hangingWith_29 ?_
        refine go_istore_n (pc := 30) (lv' := [some (.inr q), some (.inl v1), some (.inr a2), some (.inl (v3 ||| ((1 : Int32) <<< (v4 &&& 31)))), some (.inl v4)]) dX5_hangingWith_30 (by decide) rfl ?_
        refine go_iinc (pc := 31) (v := (1 : Int32)) (lv' := [some (.inr q), some (.inl v1), some (.inr a2), some (.inl (v3 ||| ((1 : Int32) <<< (v4 &&& 31)))), some (.inl (v4 + (1 : Int32)))]) dX5_hangingWith_31 rfl (by decide) (by decide) rfl ?_
        refine go_goto (pc := 34) (tgt := 5) dX5_hangingWith_34 (by decide) ?_
        exact go_to (ih _ _ _ _ h) (And.intro rfl (And.intro rfl (And.intro rfl (And.intro rfl (And.intro rfl trivial)))))
def x_X5_hangingWith (q : Nat) (a2 n2 : Nat) (p1 : Int32) (M : g_M) : Option (Int32 × g_M) := (x_X5_hangingWith_L5 q a2 n2  g_F p1 (0 : Int32) (0 : Int32) M)
set_option maxHeartbeats 4000000 in
set_option maxRecDepth 100000 in
theorem z_X5_hangingWith {X : g_X} (hok : g_ok X) {q : Nat} (hq : g_isM q) {a2 n2 : Nat} (ha2 : g_lay[a2]? = some (.inl n2)) {p1 : Int32} {M : g_M} {r : Int32 × g_M} (h : x_X5_hangingWith q a2 n2 p1 M = some r) : g_Con X yX5_hangingWith cX5_hangingWith 5 (some .int) 3 66 [.inr q, .inl p1, .inr a2] M r := by
  rw [x_X5_hangingWith] at h
  refine g_con hok (plainFor_of_name (by decide +kernel)) (Nat.le_of_ble_eq_true rfl) (go_to (lv2 := [some (.inr q), some (.inl p1), some (.inr a2), none, none]) (own := RX5) ?_ (And.intro rfl (And.intro rfl (And.intro rfl trivial))))
  refine go_iconst (pc := 0) (v := (0 : Int32)) dX5_hangingWith_0 (by decide) ?_
  refine go_istore_n (pc := 1) (lv' := [some (.inr q), some (.inl p1), some (.inr a2), some (.inl (0 : Int32)), none]) dX5_hangingWith_1 (by decide) rfl ?_
  refine go_iconst (pc := 2) (v := (0 : Int32)) dX5_hangingWith_2 (by decide) ?_
  refine go_istore (pc := 3) (lv' := [some (.inr q), some (.inl p1), some (.inr a2), some (.inl (0 : Int32)), some (.inl (0 : Int32))]) dX5_hangingWith_3 (by decide) rfl ?_
  exact go_to (z_X5_hangingWith_L5 hok hq ha2  g_F _ _ _ _ h) (And.intro rfl (And.intro rfl (And.intro rfl (And.intro rfl (And.intro rfl trivial)))))
def x_X1_worthAlone_L16 (q0 : Nat) (a2 n2 : Nat)  : Nat → Int32 → Int32 → Int32 → g_M → Option (Int32 × g_M)
  | 0, _, _, _, _ => none
  | n + 1, v1, v3, v4, M => (if (Int32.ofNat n2) ≤ v4 then (some (v3, M)) else ((if g_inb v4 n2 = true then (((x_X5_reach q0 v1 (M a2 v4.toNatClampNeg) M).bind fun u2 => x_X1_worthAlone_L16 q0 a2 n2  n v1 (v3 + u2.1) (v4 + (1 : Int32)) u2.2)) else none)))
set_option maxHeartbeats 4000000 in
set_option maxRecDepth 100000 in
theorem z_X1_worthAlone_L16 {X : g_X} (hok : g_ok X) {q0 : Nat} (hq0 : g_isM q0) {a2 n2 : Nat} (ha2 : g_lay[a2]? = some (.inl n2)) {r : Int32 × g_M}  : ∀ (n : Nat) (v1 : Int32) (v3 : Int32) (v4 : Int32) (M : g_M), x_X1_worthAlone_L16 q0 a2 n2  n v1 v3 v4 M = some r → g_Go X cX1_worthAlone RX1 5 (some .int) 4 90 r 16 [some (.inr q0), some (.inl v1), some (.inr a2), some (.inl v3), some (.inl v4)] [] M := by
  intro n
  induction n with
  | zero =>
    intro v1 v3 v4 M h
    rw [x_X1_worthAlone_L16] at h
    cases h
  | succ n ih =>
    intro v1 v3 v4 M h
    rw [x_X1_worthAlone_L16] at h
    refine go_iload (pc := 16) dX1_worthAlone_16 rfl ?_
    refine go_aload_n (pc := 18) dX1_worthAlone_18 rfl ?_
    refine go_alen (pc := 19) (n := n2) (v := (Int32.ofNat n2)) ha2 rfl dX1_worthAlone_19 ?_
    refine go_icmp_ge (pc := 20) (tgt := 41) dX1_worthAlone_20 (by decide) (fun e4 => ?_) (fun e4 => ?_)
    · replace h := (if_pos e4).symm.trans h
      refine go_iload_n (pc := 41) dX1_worthAlone_41 rfl ?_
      exact go_iret (pc := 42) (Option.some.inj h).symm rfl dX1_worthAlone_42 rfl
    · replace h := (if_neg e4).symm.trans h
      refine go_iload_n (pc := 23) dX1_worthAlone_23 rfl ?_
      refine go_aload_n (pc := 24) dX1_worthAlone_24 rfl ?_
      refine go_iload_n (pc := 25) dX1_worthAlone_25 rfl ?_
      refine go_aload_n (pc := 26) dX1_worthAlone_26 rfl ?_
      refine go_iload (pc := 27) dX1_worthAlone_27 rfl ?_
      obtain ⟨i1, h⟩ := g_gd h
      refine go_iald (pc := 29) (n := n2) ha2 (g_inb_ok i1) dX1_worthAlone_29 ?_
      obtain ⟨u2, c3, h⟩ := g_bd h
      refine go_callV (pc := 30) (as := [.inl v1, .inl (M a2 v4.toNatClampNeg)]) (st := [.inl v3]) (r := u2.1) (M1 := u2.2) (z_X5_reach hok hq0 c3) cw_X5_reach ml_X1_73 hq0 rfl rfl (by decide) (Nat.le_of_ble_eq_true rfl) rfl dX1_worthAlone_30 ?_
      refine go_iadd (pc := 33) dX1_worthAlone_33 ?_
      refine go_istore_n (pc := 34) (lv' := [some (.inr q0), some (.inl v1), some (.inr a2), some (.inl (v3 + u2.1)), some (.inl v4)]) dX1_worthAlone_34 (by decide) rfl ?_
      refine go_iinc (pc := 35) (v := (1 : Int32)) (lv' := [some (.inr q0), some (.inl v1), some (.inr a2), some (.inl (v3 + u2.1)), some (.inl (v4 + (1 : Int32)))]) dX1_worthAlone_35 rfl (by decide) (by decide) rfl ?_
      refine go_goto (pc := 38) (tgt := 16) dX1_worthAlone_38 (by decide) ?_
      exact go_to (ih _ _ _ _ h) (And.intro rfl (And.intro rfl (And.intro rfl (And.intro rfl (And.intro rfl trivial)))))
def x_X1_worthAlone (q0 : Nat) (a2 n2 : Nat) (p1 : Int32) (M : g_M) : Option (Int32 × g_M) := (((x_X5_hangingWith q0 a2 n2 p1 M).bind fun u5 => ((x_J6_bitCount_0f7a4 u5.1 u5.2).bind fun u7 => x_X1_worthAlone_L16 q0 a2 n2  g_F p1 ((-99 : Int32) * u7.1) (0 : Int32) u7.2)))
set_option maxHeartbeats 4000000 in
set_option maxRecDepth 100000 in
theorem z_X1_worthAlone {X : g_X} (hok : g_ok X) {q0 : Nat} (hq0 : g_isM q0) {a2 n2 : Nat} (ha2 : g_lay[a2]? = some (.inl n2)) {p1 : Int32} {M : g_M} {r : Int32 × g_M} (h : x_X1_worthAlone q0 a2 n2 p1 M = some r) : g_Con X yX1_worthAlone cX1_worthAlone 5 (some .int) 4 90 [.inr q0, .inl p1, .inr a2] M r := by
  rw [x_X1_worthAlone] at h
  refine g_con hok (plainFor_of_name (by decide +kernel)) (Nat.le_of_ble_eq_true rfl) (go_to (lv2 := [some (.inr q0), some (.inl p1), some (.inr a2), none, none]) (own := RX1) ?_ (And.intro rfl (And.intro rfl (And.intro rfl trivial))))
  refine go_bipush (pc := 0) (v := (-99 : Int32)) dX1_worthAlone_0 (by decide) ?_
  refine go_aload_n (pc := 2) dX1_worthAlone_2 rfl ?_
  refine go_iload_n (pc := 3) dX1_worthAlone_3 rfl ?_
  refine go_aload_n (pc := 4) dX1_worthAlone_4 rfl ?_
  obtain ⟨u5, c6, h⟩ := g_bd h
  refine go_callV (pc := 5) (as := [.inl p1, .inr a2]) (st := [.inl (-99 : Int32)]) (r := u5.1) (M1 := u5.2) (z_X5_hangingWith hok hq0 ha2 c6) cw_X5_hangingWith ml_X1_69 hq0 rfl rfl (by decide) (Nat.le_of_ble_eq_true rfl) rfl dX1_worthAlone_5 ?_
  obtain ⟨u7, c8, h⟩ := g_bd h
  refine go_callS (pc := 8) (as := [.inl u5.1]) (st := [.inl (-99 : Int32)]) (r := u7.1) (M1 := u7.2) (z_J6_bitCount_0f7a4 hok  c8) cw_J6_bitCount_0f7a4 ml_X1_52 (by decide) (Nat.le_of_ble_eq_true rfl) rfl dX1_worthAlone_8 ?_
  refine go_imul (pc := 11) dX1_worthAlone_11 ?_
  refine go_istore_n (pc := 12) (lv' := [some (.inr q0), some (.inl p1), some (.inr a2), some (.inl ((-99 : Int32) * u7.1)), none]) dX1_worthAlone_12 (by decide) rfl ?_
  refine go_iconst (pc := 13) (v := (0 : Int32)) dX1_worthAlone_13 (by decide) ?_
  refine go_istore (pc := 14) (lv' := [some (.inr q0), some (.inl p1), some (.inr a2), some (.inl ((-99 : Int32) * u7.1)), some (.inl (0 : Int32))]) dX1_worthAlone_14 (by decide) rfl ?_
  exact go_to (z_X1_worthAlone_L16 hok hq0 ha2  g_F _ _ _ _ h) (And.intro rfl (And.intro rfl (And.intro rfl (And.intro rfl (And.intro rfl trivial)))))
def x_X1_isSettled_L57   : Nat → Int32 → Int32 → Int32 → g_M → Option (Int32 × g_M)
  | 0, _, _, _, _ => none
  | n + 1, v1, v3, v4, M => (if (M 37 5) < v4 then (some ((1 : Int32), M)) else (((x_X1_pairOf v1 v4 M).bind fun u1 => (if g_inb u1.1 25 = true then ((if g_inb v3 25 = true then (if (u1.2 39 u1.1.toNatClampNeg) ≤ (u1.2 39 v3.toNatClampNeg) then (x_X1_isSettled_L57   n v1 v3 (v4 + (1 : Int32)) u1.2) else (some ((0 : Int32), u1.2))) else none)) else none))))
set_option maxHeartbeats 4000000 in
set_option maxRecDepth 100000 in
theorem z_X1_isSettled_L57 {X : g_X} (hok : g_ok X)  {r : Int32 × g_M}  : ∀ (n : Nat) (v1 : Int32) (v3 : Int32) (v4 : Int32) (M : g_M), x_X1_isSettled_L57   n v1 v3 v4 M = some r → g_Go X cX1_isSettled RX1 5 (some .boolean) 1 23 r 57 [some (.inr 37), some (.inl v1), none, some (.inl v3), some (.inl v4)] [] M := by
  intro n
  induction n with
  | zero =>
    intro v1 v3 v4 M h
    rw [x_X1_isSettled_L57] at h
    cases h
  | succ n ih =>
    intro v1 v3 v4 M h
    rw [x_X1_isSettled_L57] at h
    refine go_iload (pc := 57) dX1_isSettled_57 rfl ?_
    refine go_aload_n (pc := 59) dX1_isSettled_59 rfl ?_
    refine gf_1_28 (pc := 60) dX1_isSettled_60 ?_
    refine go_icmp_gt (pc := 63) (tgt := 95) dX1_isSettled_63 (by decide) (fun e6 => ?_) (fun e6 => ?_)
    · replace h := (if_pos e6).symm.trans h
      refine go_iconst (pc := 95) (v := (1 : Int32)) dX1_isSettled_95 (by decide) ?_
      exact go_iret (pc := 96) (Option.some.inj h).symm rfl dX1_isSettled_96 rfl
    · replace h := (if_neg e6).symm.trans h
      refine go_aload_n (pc := 66) dX1_isSettled_66 rfl ?_
      refine gf_1_15 (pc := 67) dX1_isSettled_67 ?_
      refine go_aload_n (pc := 70) dX1_isSettled_70 rfl ?_
      refine go_iload_n (pc := 71) dX1_isSettled_71 rfl ?_
      refine go_iload (pc := 72) dX1_isSettled_72 rfl ?_
      obtain ⟨u1, c2, h⟩ := g_bd h
      refine go_callV (pc := 74) (as := [.inl v1, .inl v4]) (st := [.inr 39]) (r := u1.1) (M1 := u1.2) (z_X1_pairOf hok  c2) cw_X1_pairOf ml_X1_58 (show g_lay[37]? = some _ from rfl) rfl rfl (by decide) (Nat.le_of_ble_eq_true rfl) rfl dX1_isSettled_74 ?_
      obtain ⟨i3, h⟩ := g_gd h
      refine go_iald (pc := 77) (n := 25) rfl (g_inb_ok i3) dX1_isSettled_77 ?_
      refine go_aload_n (pc := 78) dX1_isSettled_78 rfl ?_
      refine gf_1_15 (pc := 79) dX1_isSettled_79 ?_
      refine go_iload_n (pc := 82) dX1_isSettled_82 rfl ?_
      obtain ⟨i4, h⟩ := g_gd h
      refine go_iald (pc := 83) (n := 25) rfl (g_inb_ok i4) dX1_isSettled_83 ?_
      refine go_icmp_le (pc := 84) (tgt := 89) dX1_isSettled_84 (by decide) (fun e5 => ?_) (fun e5 => ?_)
      · replace h := (if_pos e5).symm.trans h
        refine go_iinc (pc := 89) (v := (1 : Int32)) (lv' := [some (.inr 37), some (.inl v1), none, some (.inl v3), some (.inl (v4 + (1 : Int32)))]) dX1_isSettled_89 rfl (by decide) (by decide) rfl ?_
        refine go_goto (pc := 92) (tgt := 57) dX1_isSettled_92 (by decide) ?_
        exact go_to (ih _ _ _ _ h) (And.intro rfl (And.intro rfl (And.intro rfl (And.intro rfl trivial))))
      · replace h := (if_neg e5).symm.trans h
        refine go_iconst (pc := 87) (v := (0 : Int32)) dX1_isSettled_87 (by decide) ?_
        exact go_iret (pc := 88) (Option.some.inj h).symm rfl dX1_isSettled_88 rfl
def x_X1_isSettled_L13   : Nat → Int32 → Int32 → Int32 → Int32 → g_M → Option (Int32 × g_M)
  | 0, _, _, _, _, _ => none
  | n + 1, v1, v2, v3, v4, M => (if (M 37 3) < v4 then (x_X1_isSettled_L57   g_F v1 v3 (M 37 4) M) else (((x_X1_pairOf v4 v2 M).bind fun u7 => (if g_inb u7.1 25 = true then ((if g_inb v3 25 = true then (if (u7.2 38 u7.1.toNatClampNeg) ≤ (u7.2 38 v3.toNatClampNeg) then (x_X1_isSettled_L13   n v1 v2 v3 (v4 + (1 : Int32)) u7.2) else (some ((0 : Int32), u7.2))) else none)) else none))))
set_option maxHeartbeats 4000000 in
set_option maxRecDepth 100000 in
theorem z_X1_isSettled_L13 {X : g_X} (hok : g_ok X)  {r : Int32 × g_M}  : ∀ (n : Nat) (v1 : Int32) (v2 : Int32) (v3 : Int32) (v4 : Int32) (M : g_M), x_X1_isSettled_L13   n v1 v2 v3 v4 M = some r → g_Go X cX1_isSettled RX1 5 (some .boolean) 1 23 r 13 [some (.inr 37), some (.inl v1), some (.inl v2), some (.inl v3), some (.inl v4)] [] M := by
  intro n
  induction n with
  | zero =>
    intro v1 v2 v3 v4 M h
    rw [x_X1_isSettled_L13] at h
    cases h
  | succ n ih =>
    intro v1 v2 v3 v4 M h
    rw [x_X1_isSettled_L13] at h
    refine go_iload (pc := 13) dX1_isSettled_13 rfl ?_
    refine go_aload_n (pc := 15) dX1_isSettled_15 rfl ?_
    refine gf_1_22 (pc := 16) dX1_isSettled_16 ?_
    refine go_icmp_gt (pc := 19) (tgt := 51) dX1_isSettled_19 (by decide) (fun e12 => ?_) (fun e12 => ?_)
    · replace h := (if_pos e12).symm.trans h
      refine go_aload_n (pc := 51) dX1_isSettled_51 rfl ?_
      refine gf_1_25 (pc := 52) dX1_isSettled_52 ?_
      refine go_istore (pc := 55) (lv' := [some (.inr 37), some (.inl v1), some (.inl v2), some (.inl v3), some (.inl (M 37 4))]) dX1_isSettled_55 (by decide) rfl ?_
      exact go_to (z_X1_isSettled_L57 hok   g_F _ _ _ _ h) (And.intro rfl (And.intro rfl (And.intro rfl (And.intro rfl trivial))))
    · replace h := (if_neg e12).symm.trans h
      refine go_aload_n (pc := 22) dX1_isSettled_22 rfl ?_
      refine gf_1_9 (pc := 23) dX1_isSettled_23 ?_
      refine go_aload_n (pc := 26) dX1_isSettled_26 rfl ?_
      refine go_iload (pc := 27) dX1_isSettled_27 rfl ?_
      refine go_iload_n (pc := 29) dX1_isSettled_29 rfl ?_
      obtain ⟨u7, c8, h⟩ := g_bd h
      refine go_callV (pc := 30) (as := [.inl v4, .inl v2]) (st := [.inr 38]) (r := u7.1) (M1 := u7.2) (z_X1_pairOf hok  c8) cw_X1_pairOf ml_X1_58 (show g_lay[37]? = some _ from rfl) rfl rfl (by decide) (Nat.le_of_ble_eq_true rfl) rfl dX1_isSettled_30 ?_
      obtain ⟨i9, h⟩ := g_gd h
      refine go_iald (pc := 33) (n := 25) rfl (g_inb_ok i9) dX1_isSettled_33 ?_
      refine go_aload_n (pc := 34) dX1_isSettled_34 rfl ?_
      refine gf_1_9 (pc := 35) dX1_isSettled_35 ?_
      refine go_iload_n (pc := 38) dX1_isSettled_38 rfl ?_
      obtain ⟨i10, h⟩ := g_gd h
      refine go_iald (pc := 39) (n := 25) rfl (g_inb_ok i10) dX1_isSettled_39 ?_
      refine go_icmp_le (pc := 40) (tgt := 45) dX1_isSettled_40 (by decide) (fun e11 => ?_) (fun e11 => ?_)
      · replace h := (if_pos e11).symm.trans h
        refine go_iinc (pc := 45) (v := (1 : Int32)) (lv' := [some (.inr 37), some (.inl v1), some (.inl v2), some (.inl v3), some (.inl (v4 + (1 : Int32)))]) dX1_isSettled_45 rfl (by decide) (by decide) rfl ?_
        refine go_goto (pc := 48) (tgt := 13) dX1_isSettled_48 (by decide) ?_
        exact go_to (ih _ _ _ _ _ h) (And.intro rfl (And.intro rfl (And.intro rfl (And.intro rfl (And.intro rfl trivial)))))
      · replace h := (if_neg e11).symm.trans h
        refine go_iconst (pc := 43) (v := (0 : Int32)) dX1_isSettled_43 (by decide) ?_
        exact go_iret (pc := 44) (Option.some.inj h).symm rfl dX1_isSettled_44 rfl
def x_X1_isSettled  (p1 p2 : Int32) (M : g_M) : Option (Int32 × g_M) := (((x_X1_pairOf p1 p2 M).bind fun u13 => x_X1_isSettled_L13   g_F p1 p2 u13.1 (u13.2 37 2) u13.2))
set_option maxHeartbeats 4000000 in
set_option maxRecDepth 100000 in
theorem z_X1_isSettled {X : g_X} (hok : g_ok X)  {p1 p2 : Int32} {M : g_M} {r : Int32 × g_M} (h : x_X1_isSettled p1 p2 M = some r) : g_Con X yX1_isSettled cX1_isSettled 5 (some .boolean) 1 23 [.inr 37, .inl p1, .inl p2] M r := by
  rw [x_X1_isSettled] at h
  refine g_con hok (plainFor_of_name (by decide +kernel)) (Nat.le_of_ble_eq_true rfl) (go_to (lv2 := [some (.inr 37), some (.inl p1), some (.inl p2), none, none]) (own := RX1) ?_ (And.intro rfl (And.intro rfl (And.intro rfl trivial))))
  refine go_aload_n (pc := 0) dX1_isSettled_0 rfl ?_
  refine go_iload_n (pc := 1) dX1_isSettled_1 rfl ?_
  refine go_iload_n (pc := 2) dX1_isSettled_2 rfl ?_
  obtain ⟨u13, c14, h⟩ := g_bd h
  refine go_callV (pc := 3) (as := [.inl p1, .inl p2]) (st := []) (r := u13.1) (M1 := u13.2) (z_X1_pairOf hok  c14) cw_X1_pairOf ml_X1_58 (show g_lay[37]? = some _ from rfl) rfl rfl (by decide) (Nat.le_of_ble_eq_true rfl) rfl dX1_isSettled_3 ?_
  refine go_istore_n (pc := 6) (lv' := [some (.inr 37), some (.inl p1), some (.inl p2), some (.inl u13.1), none]) dX1_isSettled_6 (by decide) rfl ?_
  refine go_aload_n (pc := 7) dX1_isSettled_7 rfl ?_
  refine gf_1_18 (pc := 8) dX1_isSettled_8 ?_
  refine go_istore (pc := 11) (lv' := [some (.inr 37), some (.inl p1), some (.inl p2), some (.inl u13.1), some (.inl (u13.2 37 2))]) dX1_isSettled_11 (by decide) rfl ?_
  exact go_to (z_X1_isSettled_L13 hok   g_F _ _ _ _ _ h) (And.intro rfl (And.intro rfl (And.intro rfl (And.intro rfl (And.intro rfl trivial)))))
def x_X1_firstSettled_L18  (k5 : Int32 → g_M → Option (Int32 × g_M)) : Nat → Int32 → Int32 → g_M → Option (Int32 × g_M)
  | 0, _, _, _ => none
  | n + 1, v1, v2, M => (if (M 37 5) < v2 then (k5 (v1 + (1 : Int32)) M) else (((x_X1_isSettled v1 v2 M).bind fun u1 => if u1.1 = 0 then (x_X1_firstSettled_L18  k5 n v1 (v2 + (1 : Int32)) u1.2) else (((x_X1_pairOf v1 v2 u1.2).bind fun u3 => some (u3.1, u3.2))))))
set_option maxHeartbeats 4000000 in
set_option maxRecDepth 100000 in
theorem z_X1_firstSettled_L18 {X : g_X} (hok : g_ok X)  {r : Int32 × g_M} {k5 : Int32 → g_M → Option (Int32 × g_M)} (hk5 : ∀ (v1 : Int32) (M : g_M), k5 v1 M = some r → g_Go X cX1_firstSettled RX1 3 (some .int) 2 47 r 5 [some (.inr 37), some (.inl v1), none] [] M) : ∀ (n : Nat) (v1 : Int32) (v2 : Int32) (M : g_M), x_X1_firstSettled_L18  k5 n v1 v2 M = some r → g_Go X cX1_firstSettled RX1 3 (some .int) 2 47 r 18 [some (.inr 37), some (.inl v1), some (.inl v2)] [] M := by
  intro n
  induction n with
  | zero =>
    intro v1 v2 M h
    rw [x_X1_firstSettled_L18] at h
    cases h
  | succ n ih =>
    intro v1 v2 M h
    rw [x_X1_firstSettled_L18] at h
    refine go_iload_n (pc := 18) dX1_firstSettled_18 rfl ?_
    refine go_aload_n (pc := 19) dX1_firstSettled_19 rfl ?_
    refine gf_1_28 (pc := 20) dX1_firstSettled_20 ?_
    refine go_icmp_gt (pc := 23) (tgt := 48) dX1_firstSettled_23 (by decide) (fun e6 => ?_) (fun e6 => ?_)
    · replace h := (if_pos e6).symm.trans h
      refine go_iinc (pc := 48) (v := (1 : Int32)) (lv' := [some (.inr 37), some (.inl (v1 + (1 : Int32))), some (.inl v2)]) dX1_firstSettled_48 rfl (by decide) (by decide) rfl ?_
      refine go_goto (pc := 51) (tgt := 5) dX1_firstSettled_51 (by decide) ?_
      exact go_to (hk5 _ _ h) (And.intro rfl (And.intro rfl trivial))
    · replace h := (if_neg e6).symm.trans h
      refine go_aload_n (pc := 26) dX1_firstSettled_26 rfl ?_
      refine go_iload_n (pc := 27) dX1_firstSettled_27 rfl ?_
      refine go_iload_n (pc := 28) dX1_firstSettled_28 rfl ?_
      obtain ⟨u1, c2, h⟩ := g_bd h
      refine go_callV (pc := 29) (as := [.inl v1, .inl v2]) (st := []) (r := u1.1) (M1 := u1.2) (z_X1_isSettled hok  c2) cw_X1_isSettled ml_X1_76 (show g_lay[37]? = some _ from rfl) rfl rfl (by decide) (Nat.le_of_ble_eq_true rfl) rfl dX1_firstSettled_29 ?_
      refine go_if_eq (pc := 32) (tgt := 42) dX1_firstSettled_32 (by decide) (fun e5 => ?_) (fun e5 => ?_)
      · replace h := (if_pos e5).symm.trans h
        refine go_iinc (pc := 42) (v := (1 : Int32)) (lv' := [some (.inr 37), some (.inl v1), some (.inl (v2 + (1 : Int32)))]) dX1_firstSettled_42 rfl (by decide) (by decide) rfl ?_
        refine go_goto (pc := 45) (tgt := 18) dX1_firstSettled_45 (by decide) ?_
        exact go_to (ih _ _ _ h) (And.intro rfl (And.intro rfl (And.intro rfl trivial)))
      · replace h := (if_neg e5).symm.trans h
        refine go_aload_n (pc := 35) dX1_firstSettled_35 rfl ?_
        refine go_iload_n (pc := 36) dX1_firstSettled_36 rfl ?_
        refine go_iload_n (pc := 37) dX1_firstSettled_37 rfl ?_
        obtain ⟨u3, c4, h⟩ := g_bd h
        refine go_callV (pc := 38) (as := [.inl v1, .inl v2]) (st := []) (r := u3.1) (M1 := u3.2) (z_X1_pairOf hok  c4) cw_X1_pairOf ml_X1_58 (show g_lay[37]? = some _ from rfl) rfl rfl (by decide) (Nat.le_of_ble_eq_true rfl) rfl dX1_firstSettled_38 ?_
        exact go_iret (pc := 41) (Option.some.inj h).symm rfl dX1_firstSettled_41 rfl
def x_X1_firstSettled_L5   : Nat → Int32 → g_M → Option (Int32 × g_M)
  | 0, _, _ => none
  | n + 1, v1, M => (if (M 37 3) < v1 then (some ((-9 : Int32), M)) else (x_X1_firstSettled_L18  (x_X1_firstSettled_L5   n) g_F v1 (M 37 4) M))
set_option maxHeartbeats 4000000 in
set_option maxRecDepth 100000 in
theorem z_X1_firstSettled_L5 {X : g_X} (hok : g_ok X)  {r : Int32 × g_M}  : ∀ (n : Nat) (v1 : Int32) (M : g_M), x_X1_firstSettled_L5   n v1 M = some r → g_Go X cX1_firstSettled RX1 3 (some .int) 2 47 r 5 [some (.inr 37), some (.inl v1), none] [] M := by
  intro n
  induction n with
  | zero =>
    intro v1 M h
    rw [x_X1_firstSettled_L5] at h
    cases h
  | succ n ih =>
    intro v1 M h
    rw [x_X1_firstSettled_L5] at h
    refine go_iload_n (pc := 5) dX1_firstSettled_5 rfl ?_
    refine go_aload_n (pc := 6) dX1_firstSettled_6 rfl ?_
    refine gf_1_22 (pc := 7) dX1_firstSettled_7 ?_
    refine go_icmp_gt (pc := 10) (tgt := 54) dX1_firstSettled_10 (by decide) (fun e7 => ?_) (fun e7 => ?_)
    · replace h := (if_pos e7).symm.trans h
      refine go_bipush (pc := 54) (v := (-9 : Int32)) dX1_firstSettled_54 (by decide) ?_
      exact go_iret (pc := 56) (Option.some.inj h).symm rfl dX1_firstSettled_56 rfl
    · replace h := (if_neg e7).symm.trans h
      refine go_aload_n (pc := 13) dX1_firstSettled_13 rfl ?_
      refine gf_1_25 (pc := 14) dX1_firstSettled_14 ?_
      refine go_istore_n (pc := 17) (lv' := [some (.inr 37), some (.inl v1), some (.inl (M 37 4))]) dX1_firstSettled_17 (by decide) rfl ?_
      exact go_to (z_X1_firstSettled_L18 hok  (ih) g_F _ _ _ h) (And.intro rfl (And.intro rfl (And.intro rfl trivial)))
def x_X1_firstSettled  (M : g_M) : Option (Int32 × g_M) := (x_X1_firstSettled_L5   g_F (M 37 2) M)
set_option maxHeartbeats 4000000 in
set_option maxRecDepth 100000 in
theorem z_X1_firstSettled {X : g_X} (hok : g_ok X)  {M : g_M} {r : Int32 × g_M} (h : x_X1_firstSettled  M = some r) : g_Con X yX1_firstSettled cX1_firstSettled 3 (some .int) 2 47 [.inr 37] M r := by
  rw [x_X1_firstSettled] at h
  refine g_con hok (plainFor_of_name (by decide +kernel)) (Nat.le_of_ble_eq_true rfl) (go_to (lv2 := [some (.inr 37), none, none]) (own := RX1) ?_ (And.intro rfl trivial))
  refine go_aload_n (pc := 0) dX1_firstSettled_0 rfl ?_
  refine gf_1_18 (pc := 1) dX1_firstSettled_1 ?_
  refine go_istore_n (pc := 4) (lv' := [some (.inr 37), some (.inl (M 37 2)), none]) dX1_firstSettled_4 (by decide) rfl ?_
  exact go_to (z_X1_firstSettled_L5 hok   g_F _ _ h) (And.intro rfl (And.intro rfl trivial))
def x_X1_weigh_L79 (q1 : Nat) (q2 : Nat) (a3 n3 : Nat) (k64 : Int32 → g_M → Option (Int32 × g_M)) : Nat → Int32 → Int32 → g_M → Option (Int32 × g_M)
  | 0, _, _, _ => none
  | n + 1, v4, v5, M => (if (M 37 5) < v5 then (k64 (v4 + (1 : Int32)) M) else (((x_X5_touching q1 q2 a3 n3 v4 v5 M).bind fun u1 => ((x_J6_bitCount_0f7a4 u1.1 u1.2).bind fun u3 => ((x_X1_pairOf v4 v5 u3.2).bind fun u5 => ((x_X1_worthAlone q1 a3 n3 v4 u5.2).bind fun u7 => (if g_inb u5.1 25 = true then (((x_X1_worthAlone q2 a3 n3 v5 (g_upd u7.2 38 u5.1.toNatClampNeg (u7.1 - ((50 : Int32) * u3.1)))).bind fun u10 => (if g_inb u5.1 25 = true then (x_X1_weigh_L79 q1 q2 a3 n3 k64 n v4 (v5 + (1 : Int32)) (g_upd u10.2 39 u5.1.toNatClampNeg (u10.1 - ((50 : Int32) * u3.1)))) else none))) else none)))))))
set_option maxHeartbeats 4000000 in
set_option maxRecDepth 100000 in
theorem z_X1_weigh_L79 {X : g_X} (hok : g_ok X) {q1 : Nat} (hq1 : g_isM q1) {q2 : Nat} (hq2 : g_isM q2) {a3 n3 : Nat} (ha3 : g_lay[a3]? = some (.inl n3)) {r : Int32 × g_M} {k64 : Int32 → g_M → Option (Int32 × g_M)} (hk64 : ∀ (v4 : Int32) (M : g_M), k64 v4 M = some r → g_Go X cX1_weigh RX1 8 none 5 122 r 64 [some (.inr 37), some (.inr q1), some (.inr q2), some (.inr a3), some (.inl v4), none, none, none] [] M) : ∀ (n : Nat) (v4 : Int32) (v5 : Int32) (M : g_M), x_X1_weigh_L79 q1 q2 a3 n3 k64 n v4 v5 M = some r → g_Go X cX1_weigh RX1 8 none 5 122 r 79 [some (.inr 37), some (.inr q1), some (.inr q2), some (.inr a3), some (.inl v4), some (.inl v5), none, none] [] M := by
  intro n
  induction n with
  | zero =>
    intro v4 v5 M h
    rw [x_X1_weigh_L79] at h
    cases h
  | succ n ih =>
    intro v4 v5 M h
    rw [x_X1_weigh_L79] at h
    refine go_iload (pc := 79) dX1_weigh_79 rfl ?_
    refine go_aload_n (pc := 81) dX1_weigh_81 rfl ?_
    refine gf_1_28 (pc := 82) dX1_weigh_82 ?_
    refine go_icmp_gt (pc := 85) (tgt := 156) dX1_weigh_85 (by decide) (fun e13 => ?_) (fun e13 => ?_)
    · replace h := (if_pos e13).symm.trans h
      refine go_iinc (pc := 156) (v := (1 : Int32)) (lv' := [some (.inr 37), some (.inr q1), some (.inr q2), some (.inr a3), some (.inl (v4 + (1 : Int32))), some (.inl v5), none, none]) dX1_weigh_156 rfl (by decide) (by decide) rfl ?_
      refine go_goto (pc := 159) (tgt := 64) dX1_weigh_159 (by decide) ?_
      exact go_to (hk64 _ _ h) (And.intro rfl (And.intro rfl (And.intro rfl (And.intro rfl (And.intro rfl trivial)))))
    · replace h := (if_neg e13).symm.trans h
      refine go_bipush (pc := 88) (v := (50 : Int32)) dX1_weigh_88 (by decide) ?_
      refine go_aload_n (pc := 90) dX1_weigh_90 rfl ?_
      refine go_iload (pc := 91) dX1_weigh_91 rfl ?_
      refine go_aload_n (pc := 93) dX1_weigh_93 rfl ?_
      refine go_iload (pc := 94) dX1_weigh_94 rfl ?_
      refine go_aload_n (pc := 96) dX1_weigh_96 rfl ?_
      obtain ⟨u1, c2, h⟩ := g_bd h
      refine go_callV (pc := 97) (as := [.inl v4, .inr q2, .inl v5, .inr a3]) (st := [.inl (50 : Int32)]) (r := u1.1) (M1 := u1.2) (z_X5_touching hok hq1 hq2 ha3 c2) cw_X5_touching ml_X1_48 hq1 rfl rfl (by decide) (Nat.le_of_ble_eq_true rfl) rfl dX1_weigh_97 ?_
      obtain ⟨u3, c4, h⟩ := g_bd h
      refine go_callS (pc := 100) (as := [.inl u1.1]) (st := [.inl (50 : Int32)]) (r := u3.1) (M1 := u3.2) (z_J6_bitCount_0f7a4 hok  c4) cw_J6_bitCount_0f7a4 ml_X1_52 (by decide) (Nat.le_of_ble_eq_true rfl) rfl dX1_weigh_100 ?_
      refine go_imul (pc := 103) dX1_weigh_103 ?_
      refine go_istore (pc := 104) (lv' := [some (.inr 37), some (.inr q1), some (.inr q2), some (.inr a3), some (.inl v4), some (.inl v5), some (.inl ((50 : Int32) * u3.1)), none]) dX1_weigh_104 (by decide) rfl ?_
      refine go_aload_n (pc := 106) dX1_weigh_106 rfl ?_
      refine go_iload (pc := 107) dX1_weigh_107 rfl ?_
      refine go_iload (pc := 109) dX1_weigh_109 rfl ?_
      obtain ⟨u5, c6, h⟩ := g_bd h
      refine go_callV (pc := 111) (as := [.inl v4, .inl v5]) (st := []) (r := u5.1) (M1 := u5.2) (z_X1_pairOf hok  c6) cw_X1_pairOf ml_X1_58 (show g_lay[37]? = some _ from rfl) rfl rfl (by decide) (Nat.le_of_ble_eq_true rfl) rfl dX1_weigh_111 ?_
      refine go_istore (pc := 114) (lv' := [some (.inr 37), some (.inr q1), some (.inr q2), some (.inr a3), some (.inl v4), some (.inl v5), some (.inl ((50 : Int32) * u3.1)), some (.inl u5.1)]) dX1_weigh_114 (by decide) rfl ?_
      refine go_aload_n (pc := 116) dX1_weigh_116 rfl ?_
      refine gf_1_9 (pc := 117) dX1_weigh_117 ?_
      refine go_iload (pc := 120) dX1_weigh_120 rfl ?_
      refine go_aload_n (pc := 122) dX1_weigh_122 rfl ?_
      refine go_iload (pc := 123) dX1_weigh_123 rfl ?_
      refine go_aload_n (pc := 125) dX1_weigh_125 rfl ?_
      obtain ⟨u7, c8, h⟩ := g_bd h
      refine go_callS (pc := 126) (as := [.inr q1, .inl v4, .inr a3]) (st := [.inl u5.1, .inr 38]) (r := u7.1) (M1 := u7.2) (z_X1_worthAlone hok hq1 ha3 c8) cw_X1_worthAlone ml_X1_61 (by decide) (Nat.le_of_ble_eq_true rfl) rfl dX1_weigh_126 ?_
      refine go_iload (pc := 129) dX1_weigh_129 rfl ?_
      refine go_isub (pc := 131) dX1_weigh_131 ?_
      obtain ⟨i9, h⟩ := g_gd h
      refine go_iast (pc := 132) (n := 25) rfl (g_inb_ok i9) dX1_weigh_132 ?_
      refine go_aload_n (pc := 133) dX1_weigh_133 rfl ?_
      refine gf_1_15 (pc := 134) dX1_weigh_134 ?_
      refine go_iload (pc := 137) dX1_weigh_137 rfl ?_
      refine go_aload_n (pc := 139) dX1_weigh_139 rfl ?_
      refine go_iload (pc := 140) dX1_weigh_140 rfl ?_
      refine go_aload_n (pc := 142) dX1_weigh_142 rfl ?_
      obtain ⟨u10, c11, h⟩ := g_bd h
      refine go_callS (pc := 143) (as := [.inr q2, .inl v5, .inr a3]) (st := [.inl u5.1, .inr 39]) (r := u10.1) (M1 := u10.2) (z_X1_worthAlone hok hq2 ha3 c11) cw_X1_worthAlone ml_X1_61 (by decide) (Nat.le_of_ble_eq_true rfl) rfl dX1_weigh_143 ?_
      refine go_iload (pc := 146) dX1_weigh_146 rfl ?_
      refine go_isub (pc := 148) dX1_weigh_148 ?_
      obtain ⟨i12, h⟩ := g_gd h
      refine go_iast (pc := 149) (n := 25) rfl (g_inb_ok i12) dX1_weigh_149 ?_
      refine go_iinc (pc := 150) (v := (1 : Int32)) (lv' := [some (.inr 37), some (.inr q1), some (.inr q2), some (.inr a3), some (.inl v4), some (.inl (v5 + (1 : Int32))), some (.inl ((50 : Int32) * u3.1)), some (.inl u5.1)]) dX1_weigh_150 rfl (by decide) (by decide) rfl ?_
      refine go_goto (pc := 153) (tgt := 79) dX1_weigh_153 (by decide) ?_
      exact go_to (ih _ _ _ h) (And.intro rfl (And.intro rfl (And.intro rfl (And.intro rfl (And.intro rfl (And.intro rfl trivial))))))
def x_X1_weigh_L64 (q1 : Nat) (q2 : Nat) (a3 n3 : Nat)  : Nat → Int32 → g_M → Option (Int32 × g_M)
  | 0, _, _ => none
  | n + 1, v4, M => (if (M 37 3) < v4 then (((x_X1_firstSettled M).bind fun u14 => some (0, (g_upd u14.2 37 6 u14.1)))) else (x_X1_weigh_L79 q1 q2 a3 n3 (x_X1_weigh_L64 q1 q2 a3 n3  n) g_F v4 (M 37 4) M))
set_option maxHeartbeats 4000000 in
set_option maxRecDepth 100000 in
theorem z_X1_weigh_L64 {X : g_X} (hok : g_ok X) {q1 : Nat} (hq1 : g_isM q1) {q2 : Nat} (hq2 : g_isM q2) {a3 n3 : Nat} (ha3 : g_lay[a3]? = some (.inl n3)) {r : Int32 × g_M}  : ∀ (n : Nat) (v4 : Int32) (M : g_M), x_X1_weigh_L64 q1 q2 a3 n3  n v4 M = some r → g_Go X cX1_weigh RX1 8 none 5 122 r 64 [some (.inr 37), some (.inr q1), some (.inr q2), some (.inr a3), some (.inl v4), none, none, none] [] M := by
  intro n
  induction n with
  | zero =>
    intro v4 M h
    rw [x_X1_weigh_L64] at h
    cases h
  | succ n ih =>
    intro v4 M h
    rw [x_X1_weigh_L64] at h
    refine go_iload (pc := 64) dX1_weigh_64 rfl ?_
    refine go_aload_n (pc := 66) dX1_weigh_66 rfl ?_
    refine gf_1_22 (pc := 67) dX1_weigh_67 ?_
    refine go_icmp_gt (pc := 70) (tgt := 162) dX1_weigh_70 (by decide) (fun e16 => ?_) (fun e16 => ?_)
    · replace h := (if_pos e16).symm.trans h
      refine go_aload_n (pc := 162) dX1_weigh_162 rfl ?_
      refine go_aload_n (pc := 163) dX1_weigh_163 rfl ?_
      obtain ⟨u14, c15, h⟩ := g_bd h
      refine go_callV (pc := 164) (as := []) (st := [.inr 37]) (r := u14.1) (M1 := u14.2) (z_X1_firstSettled hok  c15) cw_X1_firstSettled ml_X1_65 (show g_lay[37]? = some _ from rfl) rfl rfl (by decide) (Nat.le_of_ble_eq_true rfl) rfl dX1_weigh_164 ?_
      refine gp_1_31 (pc := 167) dX1_weigh_167 ?_
      exact go_vret (pc := 170) (Option.some.inj h).symm rfl dX1_weigh_170
    · replace h := (if_neg e16).symm.trans h
      refine go_aload_n (pc := 73) dX1_weigh_73 rfl ?_
      refine gf_1_25 (pc := 74) dX1_weigh_74 ?_
      refine go_istore (pc := 77) (lv' := [some (.inr 37), some (.inr q1), some (.inr q2), some (.inr a3), some (.inl v4), some (.inl (M 37 4)), none, none]) dX1_weigh_77 (by decide) rfl ?_
      exact go_to (z_X1_weigh_L79 hok hq1 hq2 ha3 (ih) g_F _ _ _ h) (And.intro rfl (And.intro rfl (And.intro rfl (And.intro rfl (And.intro rfl (And.intro rfl trivial))))))
def x_X1_weigh (q1 : Nat) (q2 : Nat) (a3 n3 : Nat) (M : g_M) : Option (Int32 × g_M) := (x_X1_weigh_L64 q1 q2 a3 n3  g_F ((g_upd (g_upd (g_upd (g_upd M 37 2 (g_max (0 : Int32) ((M q1 5) - (2 : Int32)))) 37 3 (g_min (99 : Int32) (((g_upd M 37 2 (g_max (0 : Int32) ((M q1 5) - (2 : Int32)))) q1 5) + (2 : Int32)))) 37 4 (g_max (0 : Int32) (((g_upd (g_upd M 37 2 (g_max (0 : Int32) ((M q1 5) - (2 : Int32)))) 37 3 (g_min (99 : Int32) (((g_upd M 37 2 (g_max (0 : Int32) ((M q1 5) - (2 : Int32)))) q1 5) + (2 : Int32)))) q2 5) - (2 : Int32)))) 37 5 (g_min (99 : Int32) (((g_upd (g_upd (g_upd M 37 2 (g_max (0 : Int32) ((M q1 5) - (2 : Int32)))) 37 3 (g_min (99 : Int32) (((g_upd M 37 2 (g_max (0 : Int32) ((M q1 5) - (2 : Int32)))) q1 5) + (2 : Int32)))) 37 4 (g_max (0 : Int32) (((g_upd (g_upd M 37 2 (g_max (0 : Int32) ((M q1 5) - (2 : Int32)))) 37 3 (g_min (99 : Int32) (((g_upd M 37 2 (g_max (0 : Int32) ((M q1 5) - (2 : Int32)))) q1 5) + (2 : Int32)))) q2 5) - (2 : Int32)))) q2 5) + (2 : Int32)))) 37 2) (g_upd (g_upd (g_upd (g_upd M 37 2 (g_max (0 : Int32) ((M q1 5) - (2 : Int32)))) 37 3 (g_min (99 : Int32) (((g_upd M 37 2 (g_max (0 : Int32) ((M q1 5) - (2 : Int32)))) q1 5) + (2 : Int32)))) 37 4 (g_max (0 : Int32) (((g_upd (g_upd M 37 2 (g_max (0 : Int32) ((M q1 5) - (2 : Int32)))) 37 3 (g_min (99 : Int32) (((g_upd M 37 2 (g_max (0 : Int32) ((M q1 5) - (2 : Int32)))) q1 5) + (2 : Int32)))) q2 5) - (2 : Int32)))) 37 5 (g_min (99 : Int32) (((g_upd (g_upd (g_upd M 37 2 (g_max (0 : Int32) ((M q1 5) - (2 : Int32)))) 37 3 (g_min (99 : Int32) (((g_upd M 37 2 (g_max (0 : Int32) ((M q1 5) - (2 : Int32)))) q1 5) + (2 : Int32)))) 37 4 (g_max (0 : Int32) (((g_upd (g_upd M 37 2 (g_max (0 : Int32) ((M q1 5) - (2 : Int32)))) 37 3 (g_min (99 : Int32) (((g_upd M 37 2 (g_max (0 : Int32) ((M q1 5) - (2 : Int32)))) q1 5) + (2 : Int32)))) q2 5) - (2 : Int32)))) q2 5) + (2 : Int32)))))
set_option maxHeartbeats 4000000 in
set_option maxRecDepth 100000 in
theorem z_X1_weigh {X : g_X} (hok : g_ok X) {q1 : Nat} (hq1 : g_isM q1) {q2 : Nat} (hq2 : g_isM q2) {a3 n3 : Nat} (ha3 : g_lay[a3]? = some (.inl n3)) {M : g_M} {r : Int32 × g_M} (h : x_X1_weigh q1 q2 a3 n3 M = some r) : g_Con X yX1_weigh cX1_weigh 8 none 5 122 [.inr 37, .inr q1, .inr q2, .inr a3] M r := by
  rw [x_X1_weigh] at h
  refine g_con hok (plainFor_of_name (by decide +kernel)) (Nat.le_of_ble_eq_true rfl) (go_to (lv2 := [some (.inr 37), some (.inr q1), some (.inr q2), some (.inr a3), none, none, none, none]) (own := RX1) ?_ (And.intro rfl (And.intro rfl (And.intro rfl (And.intro rfl trivial)))))
  refine go_aload_n (pc := 0) dX1_weigh_0 rfl ?_
  refine go_iconst (pc := 1) (v := (0 : Int32)) dX1_weigh_1 (by decide) ?_
  refine go_aload_n (pc := 2) dX1_weigh_2 rfl ?_
  refine gf_1_34 (pc := 3) hq1 dX1_weigh_3 ?_
  refine go_iconst (pc := 6) (v := (2 : Int32)) dX1_weigh_6 (by decide) ?_
  refine go_isub (pc := 7) dX1_weigh_7 ?_
  refine go_mmax (pc := 8) ml_X1_39 lm_max_s lm_i lm_max_c (by decide) (Nat.le_of_ble_eq_true rfl) dX1_weigh_8 ?_
  refine gp_1_18 (pc := 11) dX1_weigh_11 ?_
  refine go_aload_n (pc := 14) dX1_weigh_14 rfl ?_
  refine go_bipush (pc := 15) (v := (99 : Int32)) dX1_weigh_15 (by decide) ?_
  refine go_aload_n (pc := 17) dX1_weigh_17 rfl ?_
  refine gf_1_34 (pc := 18) hq1 dX1_weigh_18 ?_
  refine go_iconst (pc := 21) (v := (2 : Int32)) dX1_weigh_21 (by decide) ?_
  refine go_iadd (pc := 22) dX1_weigh_22 ?_
  refine go_mmin (pc := 23) ml_X1_45 lm_min_s lm_i lm_min_c (by decide) (Nat.le_of_ble_eq_true rfl) dX1_weigh_23 ?_
  refine gp_1_22 (pc := 26) dX1_weigh_26 ?_
  refine go_aload_n (pc := 29) dX1_weigh_29 rfl ?_
  refine go_iconst (pc := 30) (v := (0 : Int32)) dX1_weigh_30 (by decide) ?_
  refine go_aload_n (pc := 31) dX1_weigh_31 rfl ?_
  refine gf_1_34 (pc := 32) hq2 dX1_weigh_32 ?_
  refine go_iconst (pc := 35) (v := (2 : Int32)) dX1_weigh_35 (by decide) ?_
  refine go_isub (pc := 36) dX1_weigh_36 ?_
  refine go_mmax (pc := 37) ml_X1_39 lm_max_s lm_i lm_max_c (by decide) (Nat.le_of_ble_eq_true rfl) dX1_weigh_37 ?_
  refine gp_1_25 (pc := 40) dX1_weigh_40 ?_
  refine go_aload_n (pc := 43) dX1_weigh_43 rfl ?_
  refine go_bipush (pc := 44) (v := (99 : Int32)) dX1_weigh_44 (by decide) ?_
  refine go_aload_n (pc := 46) dX1_weigh_46 rfl ?_
  refine gf_1_34 (pc := 47) hq2 dX1_weigh_47 ?_
  refine go_iconst (pc := 50) (v := (2 : Int32)) dX1_weigh_50 (by decide) ?_
  refine go_iadd (pc := 51) dX1_weigh_51 ?_
  refine go_mmin (pc := 52) ml_X1_45 lm_min_s lm_i lm_min_c (by decide) (Nat.le_of_ble_eq_true rfl) dX1_weigh_52 ?_
  refine gp_1_28 (pc := 55) dX1_weigh_55 ?_
  refine go_aload_n (pc := 58) dX1_weigh_58 rfl ?_
  refine gf_1_18 (pc := 59) dX1_weigh_59 ?_
  refine go_istore (pc := 62) (lv' := [some (.inr 37), some (.inr q1), some (.inr q2), some (.inr a3), some (.inl ((g_upd (g_upd (g_upd (g_upd M 37 2 (g_max (0 : Int32) ((M q1 5) - (2 : Int32)))) 37 3 (g_min (99 : Int32) (((g_upd M 37 2 (g_max (0 : Int32) ((M q1 5) - (2 : Int32)))) q1 5) + (2 : Int32)))) 37 4 (g_max (0 : Int32) (((g_upd (g_upd M 37 2 (g_max (0 : Int32) ((M q1 5) - (2 : Int32)))) 37 3 (g_min (99 : Int32) (((g_upd M 37 2 (g_max (0 : Int32) ((M q1 5) - (2 : Int32)))) q1 5) + (2 : Int32)))) q2 5) - (2 : Int32)))) 37 5 (g_min (99 : Int32) (((g_upd (g_upd (g_upd M 37 2 (g_max (0 : Int32) ((M q1 5) - (2 : Int32)))) 37 3 (g_min (99 : Int32) (((g_upd M 37 2 (g_max (0 : Int32) ((M q1 5) - (2 : Int32)))) q1 5) + (2 : Int32)))) 37 4 (g_max (0 : Int32) (((g_upd (g_upd M 37 2 (g_max (0 : Int32) ((M q1 5) - (2 : Int32)))) 37 3 (g_min (99 : Int32) (((g_upd M 37 2 (g_max (0 : Int32) ((M q1 5) - (2 : Int32)))) q1 5) + (2 : Int32)))) q2 5) - (2 : Int32)))) q2 5) + (2 : Int32)))) 37 2)), none, none, none]) dX1_weigh_62 (by decide) rfl ?_
  exact go_to (z_X1_weigh_L64 hok hq1 hq2 ha3  g_F _ _ h) (And.intro rfl (And.intro rfl (And.intro rfl (And.intro rfl (And.intro rfl trivial)))))
def x_X1_firstLength  (M : g_M) : Option (Int32 × g_M) := (if (M 37 6) = (-9 : Int32) then (some ((-9 : Int32), M)) else (some (((M 37 2) + ((M 37 6) / (5 : Int32))), M)))
set_option maxHeartbeats 4000000 in
set_option maxRecDepth 100000 in
theorem z_X1_firstLength {X : g_X} (hok : g_ok X)  {M : g_M} {r : Int32 × g_M} (h : x_X1_firstLength  M = some r) : g_Con X yX1_firstLength cX1_firstLength 1 (some .int) 0 0 [.inr 37] M r := by
  rw [x_X1_firstLength] at h
  refine g_con hok (plainFor_of_name (by decide +kernel)) (Nat.le_of_ble_eq_true rfl) (go_to (lv2 := [some (.inr 37)]) (own := RX1) ?_ (And.intro rfl trivial))
  refine go_aload_n (pc := 0) dX1_firstLength_0 rfl ?_
  refine gf_1_31 (pc := 1) dX1_firstLength_1 ?_
  refine go_bipush (pc := 4) (v := (-9 : Int32)) dX1_firstLength_4 (by decide) ?_
  refine go_icmp_ne (pc := 6) (tgt := 14) dX1_firstLength_6 (by decide) (fun e1 => ?_) (fun e1 => ?_)
  · replace h := (if_neg e1).symm.trans h
    refine go_aload_n (pc := 14) dX1_firstLength_14 rfl ?_
    refine gf_1_18 (pc := 15) dX1_firstLength_15 ?_
    refine go_aload_n (pc := 18) dX1_firstLength_18 rfl ?_
    refine gf_1_31 (pc := 19) dX1_firstLength_19 ?_
    refine go_iconst (pc := 22) (v := (5 : Int32)) dX1_firstLength_22 (by decide) ?_
    refine go_idiv (pc := 23) dX1_firstLength_23 (by decide) ?_
    refine go_iadd (pc := 24) dX1_firstLength_24 ?_
    exact go_iret (pc := 25) (Option.some.inj h).symm rfl dX1_firstLength_25 rfl
  · replace h := (if_pos e1).symm.trans h
    refine go_bipush (pc := 9) (v := (-9 : Int32)) dX1_firstLength_9 (by decide) ?_
    refine go_goto (pc := 11) (tgt := 25) dX1_firstLength_11 (by decide) ?_
    exact go_iret (pc := 25) (Option.some.inj h).symm rfl dX1_firstLength_25 rfl
def x_X1_otherLength  (M : g_M) : Option (Int32 × g_M) := (if (M 37 6) = (-9 : Int32) then (some ((-9 : Int32), M)) else (some (((M 37 4) + ((M 37 6) - (M 37 6) / (5 : Int32) * (5 : Int32))), M)))
set_option maxHeartbeats 4000000 in
set_option maxRecDepth 100000 in
theorem z_X1_otherLength {X : g_X} (hok : g_ok X)  {M : g_M} {r : Int32 × g_M} (h : x_X1_otherLength  M = some r) : g_Con X yX1_otherLength cX1_otherLength 1 (some .int) 0 0 [.inr 37] M r := by
  rw [x_X1_otherLength] at h
  refine g_con hok (plainFor_of_name (by decide +kernel)) (Nat.le_of_ble_eq_true rfl) (go_to (lv2 := [some (.inr 37)]) (own := RX1) ?_ (And.intro rfl trivial))
  refine go_aload_n (pc := 0) dX1_otherLength_0 rfl ?_
  refine gf_1_31 (pc := 1) dX1_otherLength_1 ?_
  refine go_bipush (pc := 4) (v := (-9 : Int32)) dX1_otherLength_4 (by decide) ?_
  refine go_icmp_ne (pc := 6) (tgt := 14) dX1_otherLength_6 (by decide) (fun e1 => ?_) (fun e1 => ?_)
  · replace h := (if_neg e1).symm.trans h
    refine go_aload_n (pc := 14) dX1_otherLength_14 rfl ?_
    refine gf_1_25 (pc := 15) dX1_otherLength_15 ?_
    refine go_aload_n (pc := 18) dX1_otherLength_18 rfl ?_
    refine gf_1_31 (pc := 19) dX1_otherLength_19 ?_
    refine go_iconst (pc := 22) (v := (5 : Int32)) dX1_otherLength_22 (by decide) ?_
    refine go_irem (pc := 23) dX1_otherLength_23 (by decide) ?_
    refine go_iadd (pc := 24) dX1_otherLength_24 ?_
    exact go_iret (pc := 25) (Option.some.inj h).symm rfl dX1_otherLength_25 rfl
  · replace h := (if_pos e1).symm.trans h
    refine go_bipush (pc := 9) (v := (-9 : Int32)) dX1_otherLength_9 (by decide) ?_
    refine go_goto (pc := 11) (tgt := 25) dX1_otherLength_11 (by decide) ?_
    exact go_iret (pc := 25) (Option.some.inj h).symm rfl dX1_otherLength_25 rfl
def x_X2_copyCells (a0 n0 : Nat) (a1 n1 : Nat) (M : g_M) : Option (Int32 × g_M) := ((if g_cpb (0 : Int32) (0 : Int32) (g_min (Int32.ofNat n0) (Int32.ofNat n1)) n0 n1 = true then (some (0, (g_cpy M a0 a1 (0 : Int32) (0 : Int32) (g_min (Int32.ofNat n0) (Int32.ofNat n1))))) else none))
set_option maxHeartbeats 4000000 in
set_option maxRecDepth 100000 in
theorem z_X2_copyCells {X : g_X} (hok : g_ok X) {a0 n0 : Nat} (ha0 : g_lay[a0]? = some (.inl n0)) {a1 n1 : Nat} (ha1 : g_lay[a1]? = some (.inl n1)) {M : g_M} {r : Int32 × g_M} (h : x_X2_copyCells a0 n0 a1 n1 M = some r) : g_Con X yX2_copyCells cX2_copyCells 2 none 1 70 [.inr a0, .inr a1] M r := by
  rw [x_X2_copyCells] at h
  refine g_con hok (plainFor_of_name (by decide +kernel)) (Nat.le_of_ble_eq_true rfl) (go_to (lv2 := [some (.inr a0), some (.inr a1)]) (own := RX2) ?_ (And.intro rfl (And.intro rfl trivial)))
  refine go_aload_n (pc := 0) dX2_copyCells_0 rfl ?_
  refine go_iconst (pc := 1) (v := (0 : Int32)) dX2_copyCells_1 (by decide) ?_
  refine go_aload_n (pc := 2) dX2_copyCells_2 rfl ?_
  refine go_iconst (pc := 3) (v := (0 : Int32)) dX2_copyCells_3 (by decide) ?_
  refine go_aload_n (pc := 4) dX2_copyCells_4 rfl ?_
  refine go_alen (pc := 5) (n := n0) (v := (Int32.ofNat n0)) ha0 rfl dX2_copyCells_5 ?_
  refine go_aload_n (pc := 6) dX2_copyCells_6 rfl ?_
  refine go_alen (pc := 7) (n := n1) (v := (Int32.ofNat n1)) ha1 rfl dX2_copyCells_7 ?_
  refine go_mmin (pc := 8) ml_X2_59 lm_min_s lm_i lm_min_c (by decide) (Nat.le_of_ble_eq_true rfl) dX2_copyCells_8 ?_
  obtain ⟨i1, h⟩ := g_gd h
  refine go_copy (pc := 11) ha0 ha1 i1 ml_X2_65 ac_n ac_s ac_i (by decide) (Nat.le_of_ble_eq_true rfl) (by decide +kernel) dX2_copyCells_11 ?_
  exact go_vret (pc := 14) (Option.some.inj h).symm rfl dX2_copyCells_14
def x_X2_copyFrom (q : Nat) (q1 : Nat) (M : g_M) : Option (Int32 × g_M) := (((x_X2_copyCells (q1 + 1) 12 (q + 1) 12 M).bind fun u1 => ((x_X2_copyCells (q1 + 2) 12 (q + 2) 12 u1.2).bind fun u3 => ((x_X2_copyCells (q1 + 3) 12 (q + 3) 12 u3.2).bind fun u5 => ((x_X2_copyCells (q1 + 4) 35 (q + 4) 35 u5.2).bind fun u7 => ((x_X2_copyCells (q1 + 5) 6 (q + 5) 6 u7.2).bind fun u9 => some (0, (g_upd (g_upd (g_upd (g_upd (g_upd (g_upd (g_upd u9.2 q 5 (u9.2 q1 5)) q 6 ((g_upd u9.2 q 5 (u9.2 q1 5)) q1 6)) q 7 ((g_upd (g_upd u9.2 q 5 (u9.2 q1 5)) q 6 ((g_upd u9.2 q 5 (u9.2 q1 5)) q1 6)) q1 7)) q 8 ((g_upd (g_upd (g_upd u9.2 q 5 (u9.2 q1 5)) q 6 ((g_upd u9.2 q 5 (u9.2 q1 5)) q1 6)) q 7 ((g_upd (g_upd u9.2 q 5 (u9.2 q1 5)) q 6 ((g_upd u9.2 q 5 (u9.2 q1 5)) q1 6)) q1 7)) q1 8)) q 9 ((g_upd (g_upd (g_upd (g_upd u9.2 q 5 (u9.2 q1 5)) q 6 ((g_upd u9.2 q 5 (u9.2 q1 5)) q1 6)) q 7 ((g_upd (g_upd u9.2 q 5 (u9.2 q1 5)) q 6 ((g_upd u9.2 q 5 (u9.2 q1 5)) q1 6)) q1 7)) q 8 ((g_upd (g_upd (g_upd u9.2 q 5 (u9.2 q1 5)) q 6 ((g_upd u9.2 q 5 (u9.2 q1 5)) q1 6)) q 7 ((g_upd (g_upd u9.2 q 5 (u9.2 q1 5)) q 6 ((g_upd u9.2 q 5 (u9.2 q1 5)) q1 6)) q1 7)) q1 8)) q1 9)) q 10 ((g_upd (g_upd (g_upd (g_upd (g_upd u9.2 q 5 (u9.2 q1 5)) q 6 ((g_upd u9.2 q 5 (u9.2 q1 5)) q1 6)) q 7 ((g_upd (g_upd u9.2 q 5 (u9.2 q1 5)) q 6 ((g_upd u9.2 q 5 (u9.2 q1 5)) q1 6)) q1 7)) q 8 ((g_upd (g_upd (g_upd u9.2 q 5 (u9.2 q1 5)) q 6 ((g_upd u9.2 q 5 (u9.2 q1 5)) q1 6)) q 7 ((g_upd (g_upd u9.2 q 5 (u9.2 q1 5)) q 6 ((g_upd u9.2 q 5 (u9.2 q1 5)) q1 6)) q1 7)) q1 8)) q 9 ((g_upd (g_upd (g_upd (g_upd u9.2 q 5 (u9.2 q1 5)) q 6 ((g_upd u9.2 q 5 (u9.2 q1 5)) q1 6)) q 7 ((g_upd (g_upd u9.2 q 5 (u9.2 q1 5)) q 6 ((g_upd u9.2 q 5 (u9.2 q1 5)) q1 6)) q1 7)) q 8 ((g_upd (g_upd (g_upd u9.2 q 5 (u9.2 q1 5)) q 6 ((g_upd u9.2 q 5 (u9.2 q1 5)) q1 6)) q 7 ((g_upd (g_upd u9.2 q 5 (u9.2 q1 5)) q 6 ((g_upd u9.2 q 5 (u9.2 q1 5)) q1 6)) q1 7)) q1 8)) q1 9)) q1 10)) q 11 ((g_upd (g_upd (g_upd (g_upd (g_upd (g_upd u9.2 q 5 (u9.2 q1 5)) q 6 ((g_upd u9.2 q 5 (u9.2 q1 5)) q1 6)) q 7 ((g_upd (g_upd u9.2 q 5 (u9.2 q1 5)) q 6 ((g_upd u9.2 q 5 (u9.2 q1 5)) q1 6)) q1 7)) q 8 ((g_upd (g_upd (g_upd u9.2 q 5 (u9.2 q1 5)) q 6 ((g_upd u9.2 q 5 (u9.2 q1 5)) q1 6)) q 7 ((g_upd (g_upd u9.2 q 5 (u9.2 q1 5)) q 6 ((g_upd u9.2 q 5 (u9.2 q1 5)) q1 6)) q1 7)) q1 8)) q 9 ((g_upd (g_upd (g_upd (g_upd u9.2 q 5 (u9.2 q1 5)) q 6 ((g_upd u9.2 q 5 (u9.2 q1 5)) q1 6)) q 7 ((g_upd (g_upd u9.2 q 5 (u9.2 q1 5)) q 6 ((g_upd u9.2 q 5 (u9.2 q1 5)) q1 6)) q1 7)) q 8 ((g_upd (g_upd (g_upd u9.2 q 5 (u9.2 q1 5)) q 6 ((g_upd u9.2 q 5 (u9.2 q1 5)) q1 6)) q 7 ((g_upd (g_upd u9.2 q 5 (u9.2 q1 5)) q 6 ((g_upd u9.2 q 5 (u9.2 q1 5)) q1 6)) q1 7)) q1 8)) q1 9)) q 10 ((g_upd (g_upd (g_upd (g_upd (g_upd u9.2 q 5 (u9.2 q1 5)) q 6 ((g_upd u9.2 q 5 (u9.2 q1 5)) q1 6)) q 7 ((g_upd (g_upd u9.2 q 5 (u9.2 q1 5)) q 6 ((g_upd u9.2 q 5 (u9.2 q1 5)) q1 6)) q1 7)) q 8 ((g_upd (g_upd (g_upd u9.2 q 5 (u9.2 q1 5)) q 6 ((g_upd u9.2 q 5 (u9.2 q1 5)) q1 6)) q 7 ((g_upd (g_upd u9.2 q 5 (u9.2 q1 5)) q 6 ((g_upd u9.2 q 5 (u9.2 q1 5)) q1 6)) q1 7)) q1 8)) q 9 ((g_upd (g_upd (g_upd (g_upd u9.2 q 5 (u9.2 q1 5)) q 6 ((g_upd u9.2 q 5 (u9.2 q1 5)) q1 6)) q 7 ((g_upd (g_upd u9.2 q 5 (u9.2 q1 5)) q 6 ((g_upd u9.2 q 5 (u9.2 q1 5)) q1 6)) q1 7)) q 8 ((g_upd (g_upd (g_upd u9.2 q 5 (u9.2 q1 5)) q 6 ((g_upd u9.2 q 5 (u9.2 q1 5)) q1 6)) q 7 ((g_upd (g_upd u9.2 q 5 (u9.2 q1 5)) q 6 ((g_upd u9.2 q 5 (u9.2 q1 5)) q1 6)) q1 7)) q1 8)) q1 9)) q1 10)) q1 11)))))))))
set_option maxHeartbeats 4000000 in
set_option maxRecDepth 100000 in
theorem z_X2_copyFrom {X : g_X} (hok : g_ok X) {q : Nat} (hq : g_isH q) {q1 : Nat} (hq1 : g_isH q1) {M : g_M} {r : Int32 × g_M} (h : x_X2_copyFrom q q1 M = some r) : g_Con X yX2_copyFrom cX2_copyFrom 2 none 2 91 [.inr q, .inr q1] M r := by
  rw [x_X2_copyFrom] at h
  refine g_con hok (plainFor_of_name (by decide +kernel)) (Nat.le_of_ble_eq_true rfl) (go_to (lv2 := [some (.inr q), some (.inr q1)]) (own := RX2) ?_ (And.intro rfl (And.intro rfl trivial)))
  refine go_aload_n (pc := 0) dX2_copyFrom_0 rfl ?_
  refine gf_2_9 (pc := 1) hq1 dX2_copyFrom_1 ?_
  refine go_aload_n (pc := 4) dX2_copyFrom_4 rfl ?_
  refine gf_2_9 (pc := 5) hq dX2_copyFrom_5 ?_
  obtain ⟨u1, c2, h⟩ := g_bd h
  refine go_callS (pc := 8) (as := [.inr (q1 + 1), .inr (q + 1)]) (st := []) (r := u1.1) (M1 := u1.2) (z_X2_copyCells hok hq1.2.1 hq.2.1 c2) cw_X2_copyCells ml_X2_55 (by decide) (Nat.le_of_ble_eq_true rfl) rfl dX2_copyFrom_8 ?_
  refine go_aload_n (pc := 11) dX2_copyFrom_11 rfl ?_
  refine gf_2_15 (pc := 12) hq1 dX2_copyFrom_12 ?_
  refine go_aload_n (pc := 15) dX2_copyFrom_15 rfl ?_
  refine gf_2_15 (pc := 16) hq dX2_copyFrom_16 ?_
  obtain ⟨u3, c4, h⟩ := g_bd h
  refine go_callS (pc := 19) (as := [.inr (q1 + 2), .inr (q + 2)]) (st := []) (r := u3.1) (M1 := u3.2) (z_X2_copyCells hok hq1.2.2.1 hq.2.2.1 c4) cw_X2_copyCells ml_X2_55 (by decide) (Nat.le_of_ble_eq_true rfl) rfl dX2_copyFrom_19 ?_
  refine go_aload_n (pc := 22) dX2_copyFrom_22 rfl ?_
  refine gf_2_18 (pc := 23) hq1 dX2_copyFrom_23 ?_
  refine go_aload_n (pc := 26) dX2_copyFrom_26 rfl ?_
  refine gf_2_18 (pc := 27) hq dX2_copyFrom_27 ?_
  obtain ⟨u5, c6, h⟩ := g_bd h
  refine go_callS (pc := 30) (as := [.inr (q1 + 3), .inr (q + 3)]) (st := []) (r := u5.1) (M1 := u5.2) (z_X2_copyCells hok hq1.2.2.2.1 hq.2.2.2.1 c6) cw_X2_copyCells ml_X2_55 (by decide) (Nat.le_of_ble_eq_true rfl) rfl dX2_copyFrom_30 ?_
  refine go_aload_n (pc := 33) dX2_copyFrom_33 rfl ?_
  refine gf_2_21 (pc := 34) hq1 dX2_copyFrom_34 ?_
  refine go_aload_n (pc := 37) dX2_copyFrom_37 rfl ?_
  refine gf_2_21 (pc := 38) hq dX2_copyFrom_38 ?_
  obtain ⟨u7, c8, h⟩ := g_bd h
  refine go_callS (pc := 41) (as := [.inr (q1 + 4), .inr (q + 4)]) (st := []) (r := u7.1) (M1 := u7.2) (z_X2_copyCells hok hq1.2.2.2.2.1 hq.2.2.2.2.1 c8) cw_X2_copyCells ml_X2_55 (by decide) (Nat.le_of_ble_eq_true rfl) rfl dX2_copyFrom_41 ?_
  refine go_aload_n (pc := 44) dX2_copyFrom_44 rfl ?_
  refine gf_2_24 (pc := 45) hq1 dX2_copyFrom_45 ?_
  refine go_aload_n (pc := 48) dX2_copyFrom_48 rfl ?_
  refine gf_2_24 (pc := 49) hq dX2_copyFrom_49 ?_
  obtain ⟨u9, c10, h⟩ := g_bd h
  refine go_callS (pc := 52) (as := [.inr (q1 + 5), .inr (q + 5)]) (st := []) (r := u9.1) (M1 := u9.2) (z_X2_copyCells hok hq1.2.2.2.2.2 hq.2.2.2.2.2 c10) cw_X2_copyCells ml_X2_55 (by decide) (Nat.le_of_ble_eq_true rfl) rfl dX2_copyFrom_52 ?_
  refine go_aload_n (pc := 55) dX2_copyFrom_55 rfl ?_
  refine go_aload_n (pc := 56) dX2_copyFrom_56 rfl ?_
  refine gf_2_27 (pc := 57) hq1 dX2_copyFrom_57 ?_
  refine gp_2_27 (pc := 60) hq dX2_copyFrom_60 ?_
  refine go_aload_n (pc := 63) dX2_copyFrom_63 rfl ?_
  refine go_aload_n (pc := 64) dX2_copyFrom_64 rfl ?_
  refine gf_2_31 (pc := 65) hq1 dX2_copyFrom_65 ?_
  refine gp_2_31 (pc := 68) hq dX2_copyFrom_68 ?_
  refine go_aload_n (pc := 71) dX2_copyFrom_71 rfl ?_
  refine go_aload_n (pc := 72) dX2_copyFrom_72 rfl ?_
  refine gf_2_34 (pc := 73) hq1 dX2_copyFrom_73 ?_
  refine gp_2_34 (pc := 76) hq dX2_copyFrom_76 ?_
  refine go_aload_n (pc := 79) dX2_copyFrom_79 rfl ?_
  refine go_aload_n (pc := 80) dX2_copyFrom_80 rfl ?_
  refine gf_2_37 (pc := 81) hq1 dX2_copyFrom_81 ?_
  refine gp_2_37 (pc := 84) hq dX2_copyFrom_84 ?_
  refine go_aload_n (pc := 87) dX2_copyFrom_87 rfl ?_
  refine go_aload_n (pc := 88) dX2_copyFrom_88 rfl ?_
  refine gf_2_40 (pc := 89) hq1 dX2_copyFrom_89 ?_
  refine gp_2_40 (pc := 92) hq dX2_copyFrom_92 ?_
  refine go_aload_n (pc := 95) dX2_copyFrom_95 rfl ?_
  refine go_aload_n (pc := 96) dX2_copyFrom_96 rfl ?_
  refine gf_2_43 (pc := 97) hq1 dX2_copyFrom_97 ?_
  refine gp_2_43 (pc := 100) hq dX2_copyFrom_100 ?_
  refine go_aload_n (pc := 103) dX2_copyFrom_103 rfl ?_
  refine go_aload_n (pc := 104) dX2_copyFrom_104 rfl ?_
  refine gf_2_46 (pc := 105) hq1 dX2_copyFrom_105 ?_
  refine gp_2_46 (pc := 108) hq dX2_copyFrom_108 ?_
  exact go_vret (pc := 111) (Option.some.inj h).symm rfl dX2_copyFrom_111
def x_X2_cellAt (a0 n0 : Nat) (p1 : Int32) (M : g_M) : Option (Int32 × g_M) := (if p1 < 0 then (some ((0 : Int32), M)) else (if (Int32.ofNat n0) ≤ p1 then (some ((0 : Int32), M)) else ((if g_inb p1 n0 = true then (some ((M a0 p1.toNatClampNeg), M)) else none))))
set_option maxHeartbeats 4000000 in
set_option maxRecDepth 100000 in
theorem z_X2_cellAt {X : g_X} (hok : g_ok X) {a0 n0 : Nat} (ha0 : g_lay[a0]? = some (.inl n0)) {p1 : Int32} {M : g_M} {r : Int32 × g_M} (h : x_X2_cellAt a0 n0 p1 M = some r) : g_Con X yX2_cellAt cX2_cellAt 2 (some .int) 0 0 [.inr a0, .inl p1] M r := by
  rw [x_X2_cellAt] at h
  refine g_con hok (plainFor_of_name (by decide +kernel)) (Nat.le_of_ble_eq_true rfl) (go_to (lv2 := [some (.inr a0), some (.inl p1)]) (own := RX2) ?_ (And.intro rfl (And.intro rfl trivial)))
  refine go_iload_n (pc := 0) dX2_cellAt_0 rfl ?_
  refine go_if_lt (pc := 1) (tgt := 16) dX2_cellAt_1 (by decide) (fun e3 => ?_) (fun e3 => ?_)
  · replace h := (if_pos e3).symm.trans h
    refine go_iconst (pc := 16) (v := (0 : Int32)) dX2_cellAt_16 (by decide) ?_
    exact go_iret (pc := 17) (Option.some.inj h).symm rfl dX2_cellAt_17 rfl
  · replace h := (if_neg e3).symm.trans h
    refine go_iload_n (pc := 4) dX2_cellAt_4 rfl ?_
    refine go_aload_n (pc := 5) dX2_cellAt_5 rfl ?_
    refine go_alen (pc := 6) (n := n0) (v := (Int32.ofNat n0)) ha0 rfl dX2_cellAt_6 ?_
    refine go_icmp_ge (pc := 7) (tgt := 16) dX2_cellAt_7 (by decide) (fun e2 => ?_) (fun e2 => ?_)
    · replace h := (if_pos e2).symm.trans h
      refine go_iconst (pc := 16) (v := (0 : Int32)) dX2_cellAt_16 (by decide) ?_
      exact go_iret (pc := 17) (Option.some.inj h).symm rfl dX2_cellAt_17 rfl
    · replace h := (if_neg e2).symm.trans h
      refine go_aload_n (pc := 10) dX2_cellAt_10 rfl ?_
      refine go_iload_n (pc := 11) dX2_cellAt_11 rfl ?_
      obtain ⟨i1, h⟩ := g_gd h
      refine go_iald (pc := 12) (n := n0) ha0 (g_inb_ok i1) dX2_cellAt_12 ?_
      refine go_goto (pc := 13) (tgt := 17) dX2_cellAt_13 (by decide) ?_
      exact go_iret (pc := 17) (Option.some.inj h).symm rfl dX2_cellAt_17 rfl
def x_X2_setCell (a0 n0 : Nat) (p1 p2 : Int32) (M : g_M) : Option (Int32 × g_M) := (if p1 < 0 then (some (0, M)) else (if (Int32.ofNat n0) ≤ p1 then (some (0, M)) else ((if g_inb p1 n0 = true then (some (0, (g_upd M a0 p1.toNatClampNeg p2))) else none))))
set_option maxHeartbeats 4000000 in
set_option maxRecDepth 100000 in
theorem z_X2_setCell {X : g_X} (hok : g_ok X) {a0 n0 : Nat} (ha0 : g_lay[a0]? = some (.inl n0)) {p1 p2 : Int32} {M : g_M} {r : Int32 × g_M} (h : x_X2_setCell a0 n0 p1 p2 M = some r) : g_Con X yX2_setCell cX2_setCell 3 none 0 0 [.inr a0, .inl p1, .inl p2] M r := by
  rw [x_X2_setCell] at h
  refine g_con hok (plainFor_of_name (by decide +kernel)) (Nat.le_of_ble_eq_true rfl) (go_to (lv2 := [some (.inr a0), some (.inl p1), some (.inl p2)]) (own := RX2) ?_ (And.intro rfl (And.intro rfl (And.intro rfl trivial))))
  refine go_iload_n (pc := 0) dX2_setCell_0 rfl ?_
  refine go_if_lt (pc := 1) (tgt := 14) dX2_setCell_1 (by decide) (fun e3 => ?_) (fun e3 => ?_)
  · replace h := (if_pos e3).symm.trans h
    exact go_vret (pc := 14) (Option.some.inj h).symm rfl dX2_setCell_14
  · replace h := (if_neg e3).symm.trans h
    refine go_iload_n (pc := 4) dX2_setCell_4 rfl ?_
    refine go_aload_n (pc := 5) dX2_setCell_5 rfl ?_
    refine go_alen (pc := 6) (n := n0) (v := (Int32.ofNat n0)) ha0 rfl dX2_setCell_6 ?_
    refine go_icmp_ge (pc := 7) (tgt := 14) dX2_setCell_7 (by decide) (fun e2 => ?_) (fun e2 => ?_)
    · replace h := (if_pos e2).symm.trans h
      exact go_vret (pc := 14) (Option.some.inj h).symm rfl dX2_setCell_14
    · replace h := (if_neg e2).symm.trans h
      refine go_aload_n (pc := 10) dX2_setCell_10 rfl ?_
      refine go_iload_n (pc := 11) dX2_setCell_11 rfl ?_
      refine go_iload_n (pc := 12) dX2_setCell_12 rfl ?_
      obtain ⟨i1, h⟩ := g_gd h
      refine go_iast (pc := 13) (n := n0) ha0 (g_inb_ok i1) dX2_setCell_13 ?_
      exact go_vret (pc := 14) (Option.some.inj h).symm rfl dX2_setCell_14
def x_X2_tideAt (q : Nat) (p1 : Int32) (M : g_M) : Option (Int32 × g_M) := (((x_X2_cellAt (q + 1) 12 p1 M).bind fun u1 => some (u1.1, u1.2)))
set_option maxHeartbeats 4000000 in
set_option maxRecDepth 100000 in
theorem z_X2_tideAt {X : g_X} (hok : g_ok X) {q : Nat} (hq : g_isH q) {p1 : Int32} {M : g_M} {r : Int32 × g_M} (h : x_X2_tideAt q p1 M = some r) : g_Con X yX2_tideAt cX2_tideAt 2 (some .int) 1 21 [.inr q, .inl p1] M r := by
  rw [x_X2_tideAt] at h
  refine g_con hok (plainFor_of_name (by decide +kernel)) (Nat.le_of_ble_eq_true rfl) (go_to (lv2 := [some (.inr q), some (.inl p1)]) (own := RX2) ?_ (And.intro rfl (And.intro rfl trivial)))
  refine go_aload_n (pc := 0) dX2_tideAt_0 rfl ?_
  refine gf_2_9 (pc := 1) hq dX2_tideAt_1 ?_
  refine go_iload_n (pc := 4) dX2_tideAt_4 rfl ?_
  obtain ⟨u1, c2, h⟩ := g_bd h
  refine go_callS (pc := 5) (as := [.inr (q + 1), .inl p1]) (st := []) (r := u1.1) (M1 := u1.2) (z_X2_cellAt hok hq.2.1 c2) cw_X2_cellAt ml_X2_71 (by decide) (Nat.le_of_ble_eq_true rfl) rfl dX2_tideAt_5 ?_
  exact go_iret (pc := 8) (Option.some.inj h).symm rfl dX2_tideAt_8 rfl
def x_X2_windAt (q : Nat) (p1 : Int32) (M : g_M) : Option (Int32 × g_M) := (((x_X2_cellAt (q + 2) 12 p1 M).bind fun u1 => some (u1.1, u1.2)))
set_option maxHeartbeats 4000000 in
set_option maxRecDepth 100000 in
theorem z_X2_windAt {X : g_X} (hok : g_ok X) {q : Nat} (hq : g_isH q) {p1 : Int32} {M : g_M} {r : Int32 × g_M} (h : x_X2_windAt q p1 M = some r) : g_Con X yX2_windAt cX2_windAt 2 (some .int) 1 21 [.inr q, .inl p1] M r := by
  rw [x_X2_windAt] at h
  refine g_con hok (plainFor_of_name (by decide +kernel)) (Nat.le_of_ble_eq_true rfl) (go_to (lv2 := [some (.inr q), some (.inl p1)]) (own := RX2) ?_ (And.intro rfl (And.intro rfl trivial)))
  refine go_aload_n (pc := 0) dX2_windAt_0 rfl ?_
  refine gf_2_15 (pc := 1) hq dX2_windAt_1 ?_
  refine go_iload_n (pc := 4) dX2_windAt_4 rfl ?_
  obtain ⟨u1, c2, h⟩ := g_bd h
  refine go_callS (pc := 5) (as := [.inr (q + 2), .inl p1]) (st := []) (r := u1.1) (M1 := u1.2) (z_X2_cellAt hok hq.2.2.1 c2) cw_X2_cellAt ml_X2_71 (by decide) (Nat.le_of_ble_eq_true rfl) rfl dX2_windAt_5 ?_
  exact go_iret (pc := 8) (Option.some.inj h).symm rfl dX2_windAt_8 rfl
def x_X2_setTide (q : Nat) (p1 p2 : Int32) (M : g_M) : Option (Int32 × g_M) := (((x_X2_setCell (q + 1) 12 p1 p2 M).bind fun u1 => some (0, u1.2)))
set_option maxHeartbeats 4000000 in
set_option maxRecDepth 100000 in
theorem z_X2_setTide {X : g_X} (hok : g_ok X) {q : Nat} (hq : g_isH q) {p1 p2 : Int32} {M : g_M} {r : Int32 × g_M} (h : x_X2_setTide q p1 p2 M = some r) : g_Con X yX2_setTide cX2_setTide 3 none 1 22 [.inr q, .inl p1, .inl p2] M r := by
  rw [x_X2_setTide] at h
  refine g_con hok (plainFor_of_name (by decide +kernel)) (Nat.le_of_ble_eq_true rfl) (go_to (lv2 := [some (.inr q), some (.inl p1), some (.inl p2)]) (own := RX2) ?_ (And.intro rfl (And.intro rfl (And.intro rfl trivial))))
  refine go_aload_n (pc := 0) dX2_setTide_0 rfl ?_
  refine gf_2_9 (pc := 1) hq dX2_setTide_1 ?_
  refine go_iload_n (pc := 4) dX2_setTide_4 rfl ?_
  refine go_iload_n (pc := 5) dX2_setTide_5 rfl ?_
  obtain ⟨u1, c2, h⟩ := g_bd h
  refine go_callS (pc := 6) (as := [.inr (q + 1), .inl p1, .inl p2]) (st := []) (r := u1.1) (M1 := u1.2) (z_X2_setCell hok hq.2.1 c2) cw_X2_setCell ml_X2_75 (by decide) (Nat.le_of_ble_eq_true rfl) rfl dX2_setTide_6 ?_
  exact go_vret (pc := 9) (Option.some.inj h).symm rfl dX2_setTide_9
def x_X2_setWind (q : Nat) (p1 p2 : Int32) (M : g_M) : Option (Int32 × g_M) := (((x_X2_setCell (q + 2) 12 p1 p2 M).bind fun u1 => some (0, u1.2)))
set_option maxHeartbeats 4000000 in
set_option maxRecDepth 100000 in
theorem z_X2_setWind {X : g_X} (hok : g_ok X) {q : Nat} (hq : g_isH q) {p1 p2 : Int32} {M : g_M} {r : Int32 × g_M} (h : x_X2_setWind q p1 p2 M = some r) : g_Con X yX2_setWind cX2_setWind 3 none 1 22 [.inr q, .inl p1, .inl p2] M r := by
  rw [x_X2_setWind] at h
  refine g_con hok (plainFor_of_name (by decide +kernel)) (Nat.le_of_ble_eq_true rfl) (go_to (lv2 := [some (.inr q), some (.inl p1), some (.inl p2)]) (own := RX2) ?_ (And.intro rfl (And.intro rfl (And.intro rfl trivial))))
  refine go_aload_n (pc := 0) dX2_setWind_0 rfl ?_
  refine gf_2_15 (pc := 1) hq dX2_setWind_1 ?_
  refine go_iload_n (pc := 4) dX2_setWind_4 rfl ?_
  refine go_iload_n (pc := 5) dX2_setWind_5 rfl ?_
  obtain ⟨u1, c2, h⟩ := g_bd h
  refine go_callS (pc := 6) (as := [.inr (q + 2), .inl p1, .inl p2]) (st := []) (r := u1.1) (M1 := u1.2) (z_X2_setCell hok hq.2.2.1 c2) cw_X2_setCell ml_X2_75 (by decide) (Nat.le_of_ble_eq_true rfl) rfl dX2_setWind_6 ?_
  exact go_vret (pc := 9) (Option.some.inj h).symm rfl dX2_setWind_9
def x_X2_hasRing (q : Nat) (p1 : Int32) (M : g_M) : Option (Int32 × g_M) := (if p1 < 0 then (some ((0 : Int32), M)) else (if (M q 5) ≤ p1 then (some ((0 : Int32), M)) else (some ((1 : Int32), M))))
set_option maxHeartbeats 4000000 in
set_option maxRecDepth 100000 in
theorem z_X2_hasRing {X : g_X} (hok : g_ok X) {q : Nat} (hq : g_isH q) {p1 : Int32} {M : g_M} {r : Int32 × g_M} (h : x_X2_hasRing q p1 M = some r) : g_Con X yX2_hasRing cX2_hasRing 2 (some .boolean) 0 0 [.inr q, .inl p1] M r := by
  rw [x_X2_hasRing] at h
  refine g_con hok (plainFor_of_name (by decide +kernel)) (Nat.le_of_ble_eq_true rfl) (go_to (lv2 := [some (.inr q), some (.inl p1)]) (own := RX2) ?_ (And.intro rfl (And.intro rfl trivial)))
  refine go_iload_n (pc := 0) dX2_hasRing_0 rfl ?_
  refine go_if_lt (pc := 1) (tgt := 16) dX2_hasRing_1 (by decide) (fun e2 => ?_) (fun e2 => ?_)
  · replace h := (if_pos e2).symm.trans h
    refine go_iconst (pc := 16) (v := (0 : Int32)) dX2_hasRing_16 (by decide) ?_
    exact go_iret (pc := 17) (Option.some.inj h).symm rfl dX2_hasRing_17 rfl
  · replace h := (if_neg e2).symm.trans h
    refine go_iload_n (pc := 4) dX2_hasRing_4 rfl ?_
    refine go_aload_n (pc := 5) dX2_hasRing_5 rfl ?_
    refine gf_2_27 (pc := 6) hq dX2_hasRing_6 ?_
    refine go_icmp_ge (pc := 9) (tgt := 16) dX2_hasRing_9 (by decide) (fun e1 => ?_) (fun e1 => ?_)
    · replace h := (if_pos e1).symm.trans h
      refine go_iconst (pc := 16) (v := (0 : Int32)) dX2_hasRing_16 (by decide) ?_
      exact go_iret (pc := 17) (Option.some.inj h).symm rfl dX2_hasRing_17 rfl
    · replace h := (if_neg e1).symm.trans h
      refine go_iconst (pc := 12) (v := (1 : Int32)) dX2_hasRing_12 (by decide) ?_
      refine go_goto (pc := 13) (tgt := 17) dX2_hasRing_13 (by decide) ?_
      exact go_iret (pc := 17) (Option.some.inj h).symm rfl dX2_hasRing_17 rfl
def x_X2_hasBoat (q : Nat) (p1 : Int32) (M : g_M) : Option (Int32 × g_M) := (if p1 < 0 then (some ((0 : Int32), M)) else (if (M q 6) ≤ p1 then (some ((0 : Int32), M)) else (some ((1 : Int32), M))))
set_option maxHeartbeats 4000000 in
set_option maxRecDepth 100000 in
theorem z_X2_hasBoat {X : g_X} (hok : g_ok X) {q : Nat} (hq : g_isH q) {p1 : Int32} {M : g_M} {r : Int32 × g_M} (h : x_X2_hasBoat q p1 M = some r) : g_Con X yX2_hasBoat cX2_hasBoat 2 (some .boolean) 0 0 [.inr q, .inl p1] M r := by
  rw [x_X2_hasBoat] at h
  refine g_con hok (plainFor_of_name (by decide +kernel)) (Nat.le_of_ble_eq_true rfl) (go_to (lv2 := [some (.inr q), some (.inl p1)]) (own := RX2) ?_ (And.intro rfl (And.intro rfl trivial)))
  refine go_iload_n (pc := 0) dX2_hasBoat_0 rfl ?_
  refine go_if_lt (pc := 1) (tgt := 16) dX2_hasBoat_1 (by decide) (fun e2 => ?_) (fun e2 => ?_)
  · replace h := (if_pos e2).symm.trans h
    refine go_iconst (pc := 16) (v := (0 : Int32)) dX2_hasBoat_16 (by decide) ?_
    exact go_iret (pc := 17) (Option.some.inj h).symm rfl dX2_hasBoat_17 rfl
  · replace h := (if_neg e2).symm.trans h
    refine go_iload_n (pc := 4) dX2_hasBoat_4 rfl ?_
    refine go_aload_n (pc := 5) dX2_hasBoat_5 rfl ?_
    refine gf_2_31 (pc := 6) hq dX2_hasBoat_6 ?_
    refine go_icmp_ge (pc := 9) (tgt := 16) dX2_hasBoat_9 (by decide) (fun e1 => ?_) (fun e1 => ?_)
    · replace h := (if_pos e1).symm.trans h
      refine go_iconst (pc := 16) (v := (0 : Int32)) dX2_hasBoat_16 (by decide) ?_
      exact go_iret (pc := 17) (Option.some.inj h).symm rfl dX2_hasBoat_17 rfl
    · replace h := (if_neg e1).symm.trans h
      refine go_iconst (pc := 12) (v := (1 : Int32)) dX2_hasBoat_12 (by decide) ?_
      refine go_goto (pc := 13) (tgt := 17) dX2_hasBoat_13 (by decide) ?_
      exact go_iret (pc := 17) (Option.some.inj h).symm rfl dX2_hasBoat_17 rfl
def x_X2_hasRamp (q : Nat) (p1 : Int32) (M : g_M) : Option (Int32 × g_M) := (if p1 < 0 then (some ((0 : Int32), M)) else (if (M q 7) ≤ p1 then (some ((0 : Int32), M)) else (some ((1 : Int32), M))))
set_option maxHeartbeats 4000000 in
set_option maxRecDepth 100000 in
theorem z_X2_hasRamp {X : g_X} (hok : g_ok X) {q : Nat} (hq : g_isH q) {p1 : Int32} {M : g_M} {r : Int32 × g_M} (h : x_X2_hasRamp q p1 M = some r) : g_Con X yX2_hasRamp cX2_hasRamp 2 (some .boolean) 0 0 [.inr q, .inl p1] M r := by
  rw [x_X2_hasRamp] at h
  refine g_con hok (plainFor_of_name (by decide +kernel)) (Nat.le_of_ble_eq_true rfl) (go_to (lv2 := [some (.inr q), some (.inl p1)]) (own := RX2) ?_ (And.intro rfl (And.intro rfl trivial)))
  refine go_iload_n (pc := 0) dX2_hasRamp_0 rfl ?_
  refine go_if_lt (pc := 1) (tgt := 16) dX2_hasRamp_1 (by decide) (fun e2 => ?_) (fun e2 => ?_)
  · replace h := (if_pos e2).symm.trans h
    refine go_iconst (pc := 16) (v := (0 : Int32)) dX2_hasRamp_16 (by decide) ?_
    exact go_iret (pc := 17) (Option.some.inj h).symm rfl dX2_hasRamp_17 rfl
  · replace h := (if_neg e2).symm.trans h
    refine go_iload_n (pc := 4) dX2_hasRamp_4 rfl ?_
    refine go_aload_n (pc := 5) dX2_hasRamp_5 rfl ?_
    refine gf_2_34 (pc := 6) hq dX2_hasRamp_6 ?_
    refine go_icmp_ge (pc := 9) (tgt := 16) dX2_hasRamp_9 (by decide) (fun e1 => ?_) (fun e1 => ?_)
    · replace h := (if_pos e1).symm.trans h
      refine go_iconst (pc := 16) (v := (0 : Int32)) dX2_hasRamp_16 (by decide) ?_
      exact go_iret (pc := 17) (Option.some.inj h).symm rfl dX2_hasRamp_17 rfl
    · replace h := (if_neg e1).symm.trans h
      refine go_iconst (pc := 12) (v := (1 : Int32)) dX2_hasRamp_12 (by decide) ?_
      refine go_goto (pc := 13) (tgt := 17) dX2_hasRamp_13 (by decide) ?_
      exact go_iret (pc := 17) (Option.some.inj h).symm rfl dX2_hasRamp_17 rfl
def x_X2_ringCell (q : Nat) (p1 p2 : Int32) (M : g_M) : Option (Int32 × g_M) := (((x_X2_cellAt (q + 3) 12 ((p1 * (2 : Int32)) + p2) M).bind fun u1 => some (u1.1, u1.2)))
set_option maxHeartbeats 4000000 in
set_option maxRecDepth 100000 in
theorem z_X2_ringCell {X : g_X} (hok : g_ok X) {q : Nat} (hq : g_isH q) {p1 p2 : Int32} {M : g_M} {r : Int32 × g_M} (h : x_X2_ringCell q p1 p2 M = some r) : g_Con X yX2_ringCell cX2_ringCell 3 (some .int) 1 21 [.inr q, .inl p1, .inl p2] M r := by
  rw [x_X2_ringCell] at h
  refine g_con hok (plainFor_of_name (by decide +kernel)) (Nat.le_of_ble_eq_true rfl) (go_to (lv2 := [some (.inr q), some (.inl p1), some (.inl p2)]) (own := RX2) ?_ (And.intro rfl (And.intro rfl (And.intro rfl trivial))))
  refine go_aload_n (pc := 0) dX2_ringCell_0 rfl ?_
  refine gf_2_18 (pc := 1) hq dX2_ringCell_1 ?_
  refine go_iload_n (pc := 4) dX2_ringCell_4 rfl ?_
  refine go_iconst (pc := 5) (v := (2 : Int32)) dX2_ringCell_5 (by decide) ?_
  refine go_imul (pc := 6) dX2_ringCell_6 ?_
  refine go_iload_n (pc := 7) dX2_ringCell_7 rfl ?_
  refine go_iadd (pc := 8) dX2_ringCell_8 ?_
  obtain ⟨u1, c2, h⟩ := g_bd h
  refine go_callS (pc := 9) (as := [.inr (q + 3), .inl ((p1 * (2 : Int32)) + p2)]) (st := []) (r := u1.1) (M1 := u1.2) (z_X2_cellAt hok hq.2.2.2.1 c2) cw_X2_cellAt ml_X2_71 (by decide) (Nat.le_of_ble_eq_true rfl) rfl dX2_ringCell_9 ?_
  exact go_iret (pc := 12) (Option.some.inj h).symm rfl dX2_ringCell_12 rfl
def x_X2_boatCell (q : Nat) (p1 p2 : Int32) (M : g_M) : Option (Int32 × g_M) := (((x_X2_cellAt (q + 4) 35 ((p1 * (7 : Int32)) + p2) M).bind fun u1 => some (u1.1, u1.2)))
set_option maxHeartbeats 4000000 in
set_option maxRecDepth 100000 in
theorem z_X2_boatCell {X : g_X} (hok : g_ok X) {q : Nat} (hq : g_isH q) {p1 p2 : Int32} {M : g_M} {r : Int32 × g_M} (h : x_X2_boatCell q p1 p2 M = some r) : g_Con X yX2_boatCell cX2_boatCell 3 (some .int) 1 21 [.inr q, .inl p1, .inl p2] M r := by
  rw [x_X2_boatCell] at h
  refine g_con hok (plainFor_of_name (by decide +kernel)) (Nat.le_of_ble_eq_true rfl) (go_to (lv2 := [some (.inr q), some (.inl p1), some (.inl p2)]) (own := RX2) ?_ (And.intro rfl (And.intro rfl (And.intro rfl trivial))))
  refine go_aload_n (pc := 0) dX2_boatCell_0 rfl ?_
  refine gf_2_21 (pc := 1) hq dX2_boatCell_1 ?_
  refine go_iload_n (pc := 4) dX2_boatCell_4 rfl ?_
  refine go_bipush (pc := 5) (v := (7 : Int32)) dX2_boatCell_5 (by decide) ?_
  refine go_imul (pc := 7) dX2_boatCell_7 ?_
  refine go_iload_n (pc := 8) dX2_boatCell_8 rfl ?_
  refine go_iadd (pc := 9) dX2_boatCell_9 ?_
  obtain ⟨u1, c2, h⟩ := g_bd h
  refine go_callS (pc := 10) (as := [.inr (q + 4), .inl ((p1 * (7 : Int32)) + p2)]) (st := []) (r := u1.1) (M1 := u1.2) (z_X2_cellAt hok hq.2.2.2.2.1 c2) cw_X2_cellAt ml_X2_71 (by decide) (Nat.le_of_ble_eq_true rfl) rfl dX2_boatCell_10 ?_
  exact go_iret (pc := 13) (Option.some.inj h).symm rfl dX2_boatCell_13 rfl
def x_X2_setBoatCell (q : Nat) (p1 p2 p3 : Int32) (M : g_M) : Option (Int32 × g_M) := (((x_X2_setCell (q + 4) 35 ((p1 * (7 : Int32)) + p2) p3 M).bind fun u1 => some (0, u1.2)))
set_option maxHeartbeats 4000000 in
set_option maxRecDepth 100000 in
theorem z_X2_setBoatCell {X : g_X} (hok : g_ok X) {q : Nat} (hq : g_isH q) {p1 p2 p3 : Int32} {M : g_M} {r : Int32 × g_M} (h : x_X2_setBoatCell q p1 p2 p3 M = some r) : g_Con X yX2_setBoatCell cX2_setBoatCell 4 none 1 22 [.inr q, .inl p1, .inl p2, .inl p3] M r := by
  rw [x_X2_setBoatCell] at h
  refine g_con hok (plainFor_of_name (by decide +kernel)) (Nat.le_of_ble_eq_true rfl) (go_to (lv2 := [some (.inr q), some (.inl p1), some (.inl p2), some (.inl p3)]) (own := RX2) ?_ (And.intro rfl (And.intro rfl (And.intro rfl (And.intro rfl trivial)))))
  refine go_aload_n (pc := 0) dX2_setBoatCell_0 rfl ?_
  refine gf_2_21 (pc := 1) hq dX2_setBoatCell_1 ?_
  refine go_iload_n (pc := 4) dX2_setBoatCell_4 rfl ?_
  refine go_bipush (pc := 5) (v := (7 : Int32)) dX2_setBoatCell_5 (by decide) ?_
  refine go_imul (pc := 7) dX2_setBoatCell_7 ?_
  refine go_iload_n (pc := 8) dX2_setBoatCell_8 rfl ?_
  refine go_iadd (pc := 9) dX2_setBoatCell_9 ?_
  refine go_iload_n (pc := 10) dX2_setBoatCell_10 rfl ?_
  obtain ⟨u1, c2, h⟩ := g_bd h
  refine go_callS (pc := 11) (as := [.inr (q + 4), .inl ((p1 * (7 : Int32)) + p2), .inl p3]) (st := []) (r := u1.1) (M1 := u1.2) (z_X2_setCell hok hq.2.2.2.2.1 c2) cw_X2_setCell ml_X2_75 (by decide) (Nat.le_of_ble_eq_true rfl) rfl dX2_setBoatCell_11 ?_
  exact go_vret (pc := 14) (Option.some.inj h).symm rfl dX2_setBoatCell_14
def x_X2_rampCell (q : Nat) (p1 p2 : Int32) (M : g_M) : Option (Int32 × g_M) := (((x_X2_cellAt (q + 5) 6 ((p1 * (2 : Int32)) + p2) M).bind fun u1 => some (u1.1, u1.2)))
set_option maxHeartbeats 4000000 in
set_option maxRecDepth 100000 in
theorem z_X2_rampCell {X : g_X} (hok : g_ok X) {q : Nat} (hq : g_isH q) {p1 p2 : Int32} {M : g_M} {r : Int32 × g_M} (h : x_X2_rampCell q p1 p2 M = some r) : g_Con X yX2_rampCell cX2_rampCell 3 (some .int) 1 21 [.inr q, .inl p1, .inl p2] M r := by
  rw [x_X2_rampCell] at h
  refine g_con hok (plainFor_of_name (by decide +kernel)) (Nat.le_of_ble_eq_true rfl) (go_to (lv2 := [some (.inr q), some (.inl p1), some (.inl p2)]) (own := RX2) ?_ (And.intro rfl (And.intro rfl (And.intro rfl trivial))))
  refine go_aload_n (pc := 0) dX2_rampCell_0 rfl ?_
  refine gf_2_24 (pc := 1) hq dX2_rampCell_1 ?_
  refine go_iload_n (pc := 4) dX2_rampCell_4 rfl ?_
  refine go_iconst (pc := 5) (v := (2 : Int32)) dX2_rampCell_5 (by decide) ?_
  refine go_imul (pc := 6) dX2_rampCell_6 ?_
  refine go_iload_n (pc := 7) dX2_rampCell_7 rfl ?_
  refine go_iadd (pc := 8) dX2_rampCell_8 ?_
  obtain ⟨u1, c2, h⟩ := g_bd h
  refine go_callS (pc := 9) (as := [.inr (q + 5), .inl ((p1 * (2 : Int32)) + p2)]) (st := []) (r := u1.1) (M1 := u1.2) (z_X2_cellAt hok hq.2.2.2.2.2 c2) cw_X2_cellAt ml_X2_71 (by decide) (Nat.le_of_ble_eq_true rfl) rfl dX2_rampCell_9 ?_
  exact go_iret (pc := 12) (Option.some.inj h).symm rfl dX2_rampCell_12 rfl
def x_X2_addRing (q : Nat) (p1 p2 : Int32) (M : g_M) : Option (Int32 × g_M) := (((x_X2_setCell (q + 3) 12 (((M q 5) * (2 : Int32)) + (0 : Int32)) p1 M).bind fun u1 => ((x_X2_setCell (q + 3) 12 (((u1.2 q 5) * (2 : Int32)) + (1 : Int32)) p2 u1.2).bind fun u3 => some (0, (g_upd u3.2 q 5 ((u3.2 q 5) + (1 : Int32)))))))
set_option maxHeartbeats 4000000 in
set_option maxRecDepth 100000 in
theorem z_X2_addRing {X : g_X} (hok : g_ok X) {q : Nat} (hq : g_isH q) {p1 p2 : Int32} {M : g_M} {r : Int32 × g_M} (h : x_X2_addRing q p1 p2 M = some r) : g_Con X yX2_addRing cX2_addRing 3 none 1 22 [.inr q, .inl p1, .inl p2] M r := by
  rw [x_X2_addRing] at h
  refine g_con hok (plainFor_of_name (by decide +kernel)) (Nat.le_of_ble_eq_true rfl) (go_to (lv2 := [some (.inr q), some (.inl p1), some (.inl p2)]) (own := RX2) ?_ (And.intro rfl (And.intro rfl (And.intro rfl trivial))))
  refine go_aload_n (pc := 0) dX2_addRing_0 rfl ?_
  refine gf_2_18 (pc := 1) hq dX2_addRing_1 ?_
  refine go_aload_n (pc := 4) dX2_addRing_4 rfl ?_
  refine gf_2_27 (pc := 5) hq dX2_addRing_5 ?_
  refine go_iconst (pc := 8) (v := (2 : Int32)) dX2_addRing_8 (by decide) ?_
  refine go_imul (pc := 9) dX2_addRing_9 ?_
  refine go_iconst (pc := 10) (v := (0 : Int32)) dX2_addRing_10 (by decide) ?_
  refine go_iadd (pc := 11) dX2_addRing_11 ?_
  refine go_iload_n (pc := 12) dX2_addRing_12 rfl ?_
  obtain ⟨u1, c2, h⟩ := g_bd h
  refine go_callS (pc := 13) (as := [.inr (q + 3), .inl (((M q 5) * (2 : Int32)) + (0 : Int32)), .inl p1]) (st := []) (r := u1.1) (M1 := u1.2) (z_X2_setCell hok hq.2.2.2.1 c2) cw_X2_setCell ml_X2_75 (by decide) (Nat.le_of_ble_eq_true rfl) rfl dX2_addRing_13 ?_
  refine go_aload_n (pc := 16) dX2_addRing_16 rfl ?_
  refine gf_2_18 (pc := 17) hq dX2_addRing_17 ?_
  refine go_aload_n (pc := 20) dX2_addRing_20 rfl ?_
  refine gf_2_27 (pc := 21) hq dX2_addRing_21 ?_
  refine go_iconst (pc := 24) (v := (2 : Int32)) dX2_addRing_24 (by decide) ?_
  refine go_imul (pc := 25) dX2_addRing_25 ?_
  refine go_iconst (pc := 26) (v := (1 : Int32)) dX2_addRing_26 (by decide) ?_
  refine go_iadd (pc := 27) dX2_addRing_27 ?_
  refine go_iload_n (pc := 28) dX2_addRing_28 rfl ?_
  obtain ⟨u3, c4, h⟩ := g_bd h
  refine go_callS (pc := 29) (as := [.inr (q + 3), .inl (((u1.2 q 5) * (2 : Int32)) + (1 : Int32)), .inl p2]) (st := []) (r := u3.1) (M1 := u3.2) (z_X2_setCell hok hq.2.2.2.1 c4) cw_X2_setCell ml_X2_75 (by decide) (Nat.le_of_ble_eq_true rfl) rfl dX2_addRing_29 ?_
  refine go_aload_n (pc := 32) dX2_addRing_32 rfl ?_
  refine go_dup (pc := 33) dX2_addRing_33 ?_
  refine gf_2_27 (pc := 34) hq dX2_addRing_34 ?_
  refine go_iconst (pc := 37) (v := (1 : Int32)) dX2_addRing_37 (by decide) ?_
  refine go_iadd (pc := 38) dX2_addRing_38 ?_
  refine gp_2_27 (pc := 39) hq dX2_addRing_39 ?_
  exact go_vret (pc := 42) (Option.some.inj h).symm rfl dX2_addRing_42
def x_X2_addRamp (q : Nat) (p1 p2 : Int32) (M : g_M) : Option (Int32 × g_M) := (((x_X2_setCell (q + 5) 6 (((M q 7) * (2 : Int32)) + (0 : Int32)) p1 M).bind fun u1 => ((x_X2_setCell (q + 5) 6 (((u1.2 q 7) * (2 : Int32)) + (1 : Int32)) p2 u1.2).bind fun u3 => some (0, (g_upd u3.2 q 7 ((u3.2 q 7) + (1 : Int32)))))))
set_option maxHeartbeats 4000000 in
set_option maxRecDepth 100000 in
theorem z_X2_addRamp {X : g_X} (hok : g_ok X) {q : Nat} (hq : g_isH q) {p1 p2 : Int32} {M : g_M} {r : Int32 × g_M} (h : x_X2_addRamp q p1 p2 M = some r) : g_Con X yX2_addRamp cX2_addRamp 3 none 1 22 [.inr q, .inl p1, .inl p2] M r := by
  rw [x_X2_addRamp] at h
  refine g_con hok (plainFor_of_name (by decide +kernel)) (Nat.le_of_ble_eq_true rfl) (go_to (lv2 := [some (.inr q), some (.inl p1), some (.inl p2)]) (own := RX2) ?_ (And.intro rfl (And.intro rfl (And.intro rfl trivial))))
  refine go_aload_n (pc := 0) dX2_addRamp_0 rfl ?_
  refine gf_2_24 (pc := 1) hq dX2_addRamp_1 ?_
  refine go_aload_n (pc := 4) dX2_addRamp_4 rfl ?_
  refine gf_2_34 (pc := 5) hq dX2_addRamp_5 ?_
  refine go_iconst (pc := 8) (v := (2 : Int32)) dX2_addRamp_8 (by decide) ?_
  refine go_imul (pc := 9) dX2_addRamp_9 ?_
  refine go_iconst (pc := 10) (v := (0 : Int32)) dX2_addRamp_10 (by decide) ?_
  refine go_iadd (pc := 11) dX2_addRamp_11 ?_
  refine go_iload_n (pc := 12) dX2_addRamp_12 rfl ?_
  obtain ⟨u1, c2, h⟩ := g_bd h
  refine go_callS (pc := 13) (as := [.inr (q + 5), .inl (((M q 7) * (2 : Int32)) + (0 : Int32)), .inl p1]) (st := []) (r := u1.1) (M1 := u1.2) (z_X2_setCell hok hq.2.2.2.2.2 c2) cw_X2_setCell ml_X2_75 (by decide) (Nat.le_of_ble_eq_true rfl) rfl dX2_addRamp_13 ?_
  refine go_aload_n (pc := 16) dX2_addRamp_16 rfl ?_
  refine gf_2_24 (pc := 17) hq dX2_addRamp_17 ?_
  refine go_aload_n (pc := 20) dX2_addRamp_20 rfl ?_
  refine gf_2_34 (pc := 21) hq dX2_addRamp_21 ?_
  refine go_iconst (pc := 24) (v := (2 : Int32)) dX2_addRamp_24 (by decide) ?_
  refine go_imul (pc := 25) dX2_addRamp_25 ?_
  refine go_iconst (pc := 26) (v := (1 : Int32)) dX2_addRamp_26 (by decide) ?_
  refine go_iadd (pc := 27) dX2_addRamp_27 ?_
  refine go_iload_n (pc := 28) dX2_addRamp_28 rfl ?_
  obtain ⟨u3, c4, h⟩ := g_bd h
  refine go_callS (pc := 29) (as := [.inr (q + 5), .inl (((u1.2 q 7) * (2 : Int32)) + (1 : Int32)), .inl p2]) (st := []) (r := u3.1) (M1 := u3.2) (z_X2_setCell hok hq.2.2.2.2.2 c4) cw_X2_setCell ml_X2_75 (by decide) (Nat.le_of_ble_eq_true rfl) rfl dX2_addRamp_29 ?_
  refine go_aload_n (pc := 32) dX2_addRamp_32 rfl ?_
  refine go_dup (pc := 33) dX2_addRamp_33 ?_
  refine gf_2_34 (pc := 34) hq dX2_addRamp_34 ?_
  refine go_iconst (pc := 37) (v := (1 : Int32)) dX2_addRamp_37 (by decide) ?_
  refine go_iadd (pc := 38) dX2_addRamp_38 ?_
  refine gp_2_34 (pc := 39) hq dX2_addRamp_39 ?_
  exact go_vret (pc := 42) (Option.some.inj h).symm rfl dX2_addRamp_42
def x_X2_hoursUnder_L4 (q : Nat)  : Nat → Int32 → Int32 → g_M → Option (Int32 × g_M)
  | 0, _, _, _ => none
  | n + 1, v1, v2, M => (if (12 : Int32) ≤ v2 then (some (v1, M)) else ((if g_inb v2 12 = true then (if ((M (q + 1) v2.toNatClampNeg) + (M q 9)) ≤ (M q 8) then (x_X2_hoursUnder_L4 q  n v1 (v2 + (1 : Int32)) M) else (x_X2_hoursUnder_L4 q  n (v1 ||| ((1 : Int32) <<< (v2 &&& 31))) (v2 + (1 : Int32)) M)) else none)))
set_option maxHeartbeats 4000000 in
set_option maxRecDepth 100000 in
theorem z_X2_hoursUnder_L4 {X : g_X} (hok : g_ok X) {q : Nat} (hq : g_isH q) {r : Int32 × g_M}  : ∀ (n : Nat) (v1 : Int32) (v2 : Int32) (M : g_M), x_X2_hoursUnder_L4 q  n v1 v2 M = some r → g_Go X cX2_hoursUnder RX2 3 (some .int) 0 0 r 4 [some (.inr q), some (.inl v1), some (.inl v2)] [] M := by
  intro n
  induction n with
  | zero =>
    intro v1 v2 M h
    rw [x_X2_hoursUnder_L4] at h
    cases h
  | succ n ih =>
    intro v1 v2 M h
    rw [x_X2_hoursUnder_L4] at h
    refine go_iload_n (pc := 4) dX2_hoursUnder_4 rfl ?_
    refine go_aload_n (pc := 5) dX2_hoursUnder_5 rfl ?_
    refine gf_2_9 (pc := 6) hq dX2_hoursUnder_6 ?_
    refine go_alen (pc := 9) (n := 12) (v := (12 : Int32)) hq.2.1 (by decide) dX2_hoursUnder_9 ?_
    refine go_icmp_ge (pc := 10) (tgt := 43) dX2_hoursUnder_10 (by decide) (fun e3 => ?_) (fun e3 => ?_)
    · replace h := (if_pos e3).symm.trans h
      refine go_iload_n (pc := 43) dX2_hoursUnder_43 rfl ?_
      exact go_iret (pc := 44) (Option.some.inj h).symm rfl dX2_hoursUnder_44 rfl
    · replace h := (if_neg e3).symm.trans h
      refine go_aload_n (pc := 13) dX2_hoursUnder_13 rfl ?_
      refine gf_2_9 (pc := 14) hq dX2_hoursUnder_14 ?_
      refine go_iload_n (pc := 17) dX2_hoursUnder_17 rfl ?_
      obtain ⟨i1, h⟩ := g_gd h
      refine go_iald (pc := 18) (n := 12) hq.2.1 (g_inb_ok i1) dX2_hoursUnder_18 ?_
      refine go_aload_n (pc := 19) dX2_hoursUnder_19 rfl ?_
      refine gf_2_40 (pc := 20) hq dX2_hoursUnder_20 ?_
      refine go_iadd (pc := 23) dX2_hoursUnder_23 ?_
      refine go_aload_n (pc := 24) dX2_hoursUnder_24 rfl ?_
      refine gf_2_37 (pc := 25) hq dX2_hoursUnder_25 ?_
      refine go_icmp_le (pc := 28) (tgt := 37) dX2_hoursUnder_28 (by decide) (fun e2 => ?_) (fun e2 => ?_)
      · replace h := (if_pos e2).symm.trans h
        refine go_iinc (pc := 37) (v := (1 : Int32)) (lv' := [some (.inr q), some (.inl v1), some (.inl (v2 + (1 : Int32)))]) dX2_hoursUnder_37 rfl (by decide) (by decide) rfl ?_
        refine go_goto (pc := 40) (tgt := 4) dX2_hoursUnder_40 (by decide) ?_
        exact go_to (ih _ _ _ h) (And.intro rfl (And.intro rfl (And.intro rfl trivial)))
      · replace h := (if_neg e2).symm.trans h
        refine go_iload_n (pc := 31) dX2_hoursUnder_31 rfl ?_
        refine go_iconst (pc := 32) (v := (1 : Int32)) dX2_hoursUnder_32 (by decide) ?_
        refine go_iload_n (pc := 33) dX2_hoursUnder_33 rfl ?_
        refine go_ishl (pc := 34) dX2_hoursUnder_34 ?_
        refine go_ior (pc := 35) dX2_hoursUnder_35 ?_
        refine go_istore_n (pc := 36) (lv' := [some (.inr q), some (.inl (v1 ||| ((1 : Int32) <<< (v2 &&& 31)))), some (.inl v2)]) dX2_hoursUnder_36 (by decide) rfl ?_
        refine go_iinc (pc := 37) (v := (1 : Int32)) (lv' := [some (.inr q), some (.inl (v1 ||| ((1 : Int32) <<< (v2 &&& 31)))), some (.inl (v2 + (1 : Int32)))]) dX2_hoursUnder_37 rfl (by decide) (by decide) rfl ?_
        refine go_goto (pc := 40) (tgt := 4) dX2_hoursUnder_40 (by decide) ?_
        exact go_to (ih _ _ _ h) (And.intro rfl (And.intro rfl (And.intro rfl trivial)))
def x_X2_hoursUnder (q : Nat) (M : g_M) : Option (Int32 × g_M) := (x_X2_hoursUnder_L4 q  g_F (0 : Int32) (0 : Int32) M)
set_option maxHeartbeats 4000000 in
set_option maxRecDepth 100000 in
theorem z_X2_hoursUnder {X : g_X} (hok : g_ok X) {q : Nat} (hq : g_isH q) {M : g_M} {r : Int32 × g_M} (h : x_X2_hoursUnder q M = some r) : g_Con X yX2_hoursUnder cX2_hoursUnder 3 (some .int) 0 0 [.inr q] M r := by
  rw [x_X2_hoursUnder] at h
  refine g_con hok (plainFor_of_name (by decide +kernel)) (Nat.le_of_ble_eq_true rfl) (go_to (lv2 := [some (.inr q), none, none]) (own := RX2) ?_ (And.intro rfl trivial))
  refine go_iconst (pc := 0) (v := (0 : Int32)) dX2_hoursUnder_0 (by decide) ?_
  refine go_istore_n (pc := 1) (lv' := [some (.inr q), some (.inl (0 : Int32)), none]) dX2_hoursUnder_1 (by decide) rfl ?_
  refine go_iconst (pc := 2) (v := (0 : Int32)) dX2_hoursUnder_2 (by decide) ?_
  refine go_istore_n (pc := 3) (lv' := [some (.inr q), some (.inl (0 : Int32)), some (.inl (0 : Int32))]) dX2_hoursUnder_3 (by decide) rfl ?_
  exact go_to (z_X2_hoursUnder_L4 hok hq  g_F _ _ _ h) (And.intro rfl (And.intro rfl (And.intro rfl trivial)))
def x_J9_floorMod_7cf53  (p0 p1 : Int32) (M : g_M) : Option (Int32 × g_M) := ((if p1 = 0 then none else if 0 ≤ (p0 ^^^ p1) then (some ((p0 - p0 / p1 * p1), M)) else (if (p0 - p0 / p1 * p1) = 0 then (some ((p0 - p0 / p1 * p1), M)) else (some (((p0 - p0 / p1 * p1) + p1), M)))))
set_option maxHeartbeats 4000000 in
set_option maxRecDepth 100000 in
theorem z_J9_floorMod_7cf53 {X : g_X} (hok : g_ok X)  {p0 p1 : Int32} {M : g_M} {r : Int32 × g_M} (h : x_J9_floorMod_7cf53 p0 p1 M = some r) : g_Con X yJ9_floorMod_7cf53 cJ9_floorMod_7cf53 3 (some .int) 0 0 [.inl p0, .inl p1] M r := by
  rw [x_J9_floorMod_7cf53] at h
  refine g_con hok (by decide +kernel) (Nat.le_of_ble_eq_true rfl) (go_to (lv2 := [some (.inl p0), some (.inl p1), none]) (own := RJ9) ?_ (And.intro rfl (And.intro rfl trivial)))
  refine go_iload_n (pc := 0) dJ9_floorMod_7cf53_0 rfl ?_
  refine go_iload_n (pc := 1) dJ9_floorMod_7cf53_1 rfl ?_
  obtain ⟨z1, h⟩ := g_nz h
  refine go_irem (pc := 2) dJ9_floorMod_7cf53_2 z1 ?_
  refine go_istore_n (pc := 3) (lv' := [some (.inl p0), some (.inl p1), some (.inl (p0 - p0 / p1 * p1))]) dJ9_floorMod_7cf53_3 (by decide) rfl ?_
  refine go_iload_n (pc := 4) dJ9_floorMod_7cf53_4 rfl ?_
  refine go_iload_n (pc := 5) dJ9_floorMod_7cf53_5 rfl ?_
  refine go_ixor (pc := 6) dJ9_floorMod_7cf53_6 ?_
  refine go_if_ge (pc := 7) (tgt := 18) dJ9_floorMod_7cf53_7 (by decide) (fun e3 => ?_) (fun e3 => ?_)
  · replace h := (if_pos e3).symm.trans h
    refine go_iload_n (pc := 18) dJ9_floorMod_7cf53_18 rfl ?_
    exact go_iret (pc := 19) (Option.some.inj h).symm rfl dJ9_floorMod_7cf53_19 rfl
  · replace h := (if_neg e3).symm.trans h
    refine go_iload_n (pc := 10) dJ9_floorMod_7cf53_10 rfl ?_
    refine go_if_eq (pc := 11) (tgt := 18) dJ9_floorMod_7cf53_11 (by decide) (fun e2 => ?_) (fun e2 => ?_)
    · replace h := (if_pos e2).symm.trans h
      refine go_iload_n (pc := 18) dJ9_floorMod_7cf53_18 rfl ?_
      exact go_iret (pc := 19) (Option.some.inj h).symm rfl dJ9_floorMod_7cf53_19 rfl
    · replace h := (if_neg e2).symm.trans h
      refine go_iload_n (pc := 14) dJ9_floorMod_7cf53_14 rfl ?_
      refine go_iload_n (pc := 15) dJ9_floorMod_7cf53_15 rfl ?_
      refine go_iadd (pc := 16) dJ9_floorMod_7cf53_16 ?_
      exact go_iret (pc := 17) (Option.some.inj h).symm rfl dJ9_floorMod_7cf53_17 rfl
def x_X2_firstHourWith_L2 (q : Nat)  : Nat → Int32 → Int32 → Int32 → g_M → Option (Int32 × g_M)
  | 0, _, _, _, _ => none
  | n + 1, v1, v2, v3, M => (if (12 : Int32) ≤ v3 then (some ((-9 : Int32), M)) else (((x_J9_floorMod_7cf53 (v2 + v3) (12 : Int32) M).bind fun u1 => ((x_X2_tideAt q u1.1 u1.2).bind fun u3 => if u3.1 < v1 then (x_X2_firstHourWith_L2 q  n v1 v2 (v3 + (1 : Int32)) u3.2) else (some (u1.1, u3.2))))))
set_option maxHeartbeats 4000000 in
set_option maxRecDepth 100000 in
theorem z_X2_firstHourWith_L2 {X : g_X} (hok : g_ok X) {q : Nat} (hq : g_isH q) {r : Int32 × g_M}  : ∀ (n : Nat) (v1 : Int32) (v2 : Int32) (v3 : Int32) (M : g_M), x_X2_firstHourWith_L2 q  n v1 v2 v3 M = some r → g_Go X cX2_firstHourWith RX2 5 (some .int) 2 42 r 2 [some (.inr q), some (.inl v1), some (.inl v2), some (.inl v3), none] [] M := by
  intro n
  induction n with
  | zero =>
    intro v1 v2 v3 M h
    rw [x_X2_firstHourWith_L2] at h
    cases h
  | succ n ih =>
    intro v1 v2 v3 M h
    rw [x_X2_firstHourWith_L2] at h
    refine go_iload_n (pc := 2) dX2_firstHourWith_2 rfl ?_
    refine go_bipush (pc := 3) (v := (12 : Int32)) dX2_firstHourWith_3 (by decide) ?_
    refine go_icmp_ge (pc := 5) (tgt := 37) dX2_firstHourWith_5 (by decide) (fun e6 => ?_) (fun e6 => ?_)
    · replace h := (if_pos e6).symm.trans h
      refine go_bipush (pc := 37) (v := (-9 : Int32)) dX2_firstHourWith_37 (by decide) ?_
      exact go_iret (pc := 39) (Option.some.inj h).symm rfl dX2_firstHourWith_39 rfl
    · replace h := (if_neg e6).symm.trans h
      refine go_iload_n (pc := 8) dX2_firstHourWith_8 rfl ?_
      refine go_iload_n (pc := 9) dX2_firstHourWith_9 rfl ?_
      refine go_iadd (pc := 10) dX2_firstHourWith_10 ?_
      refine go_bipush (pc := 11) (v := (12 : Int32)) dX2_firstHourWith_11 (by decide) ?_
      obtain ⟨u1, c2, h⟩ := g_bd h
      refine go_callS (pc := 13) (as := [.inl (v2 + v3), .inl (12 : Int32)]) (st := []) (r := u1.1) (M1 := u1.2) (z_J9_floorMod_7cf53 hok  c2) cw_J9_floorMod_7cf53 ml_X2_79 (by decide) (Nat.le_of_ble_eq_true rfl) rfl dX2_firstHourWith_13 ?_
      refine go_istore (pc := 16) (lv' := [some (.inr q), some (.inl v1), some (.inl v2), some (.inl v3), some (.inl u1.1)]) dX2_firstHourWith_16 (by decide) rfl ?_
      refine go_aload_n (pc := 18) dX2_firstHourWith_18 rfl ?_
      refine go_iload (pc := 19) dX2_firstHourWith_19 rfl ?_
      obtain ⟨u3, c4, h⟩ := g_bd h
      refine go_callV (pc := 21) (as := [.inl u1.1]) (st := []) (r := u3.1) (M1 := u3.2) (z_X2_tideAt hok hq c4) cw_X2_tideAt ml_X2_82 hq.1 rfl rfl (by decide) (Nat.le_of_ble_eq_true rfl) rfl dX2_firstHourWith_21 ?_
      refine go_iload_n (pc := 24) dX2_firstHourWith_24 rfl ?_
      refine go_icmp_lt (pc := 25) (tgt := 31) dX2_firstHourWith_25 (by decide) (fun e5 => ?_) (fun e5 => ?_)
      · replace h := (if_pos e5).symm.trans h
        refine go_iinc (pc := 31) (v := (1 : Int32)) (lv' := [some (.inr q), some (.inl v1), some (.inl v2), some (.inl (v3 + (1 : Int32))), some (.inl u1.1)]) dX2_firstHourWith_31 rfl (by decide) (by decide) rfl ?_
        refine go_goto (pc := 34) (tgt := 2) dX2_firstHourWith_34 (by decide) ?_
        exact go_to (ih _ _ _ _ h) (And.intro rfl (And.intro rfl (And.intro rfl (And.intro rfl trivial))))
      · replace h := (if_neg e5).symm.trans h
        refine go_iload (pc := 28) dX2_firstHourWith_28 rfl ?_
        exact go_iret (pc := 30) (Option.some.inj h).symm rfl dX2_firstHourWith_30 rfl
def x_X2_firstHourWith (q : Nat) (p1 p2 : Int32) (M : g_M) : Option (Int32 × g_M) := (x_X2_firstHourWith_L2 q  g_F p1 p2 (0 : Int32) M)
set_option maxHeartbeats 4000000 in
set_option maxRecDepth 100000 in
theorem z_X2_firstHourWith {X : g_X} (hok : g_ok X) {q : Nat} (hq : g_isH q) {p1 p2 : Int32} {M : g_M} {r : Int32 × g_M} (h : x_X2_firstHourWith q p1 p2 M = some r) : g_Con X yX2_firstHourWith cX2_firstHourWith 5 (some .int) 2 42 [.inr q, .inl p1, .inl p2] M r := by
  rw [x_X2_firstHourWith] at h
  refine g_con hok (plainFor_of_name (by decide +kernel)) (Nat.le_of_ble_eq_true rfl) (go_to (lv2 := [some (.inr q), some (.inl p1), some (.inl p2), none, none]) (own := RX2) ?_ (And.intro rfl (And.intro rfl (And.intro rfl trivial))))
  refine go_iconst (pc := 0) (v := (0 : Int32)) dX2_firstHourWith_0 (by decide) ?_
  refine go_istore_n (pc := 1) (lv' := [some (.inr q), some (.inl p1), some (.inl p2), some (.inl (0 : Int32)), none]) dX2_firstHourWith_1 (by decide) rfl ?_
  exact go_to (z_X2_firstHourWith_L2 hok hq  g_F _ _ _ _ h) (And.intro rfl (And.intro rfl (And.intro rfl (And.intro rfl trivial))))
def x_X2_tideOn (q : Nat) (p1 p2 : Int32) (M : g_M) : Option (Int32 × g_M) := (((x_X2_tideAt q p1 M).bind fun u1 => if u1.1 ≤ (20 : Int32) then (if (20 : Int32) ≤ u1.1 then (some (u1.1, u1.2)) else (some ((g_max (0 : Int32) (u1.1 - (((u1.2 q 11) * (g_abs (p2 - (7 : Int32)))) / (7 : Int32)))), u1.2))) else (some ((g_min (40 : Int32) (u1.1 + (((u1.2 q 11) * (g_abs (p2 - (7 : Int32)))) / (7 : Int32)))), u1.2))))
set_option maxHeartbeats 4000000 in
set_option maxRecDepth 100000 in
theorem z_X2_tideOn {X : g_X} (hok : g_ok X) {q : Nat} (hq : g_isH q) {p1 p2 : Int32} {M : g_M} {r : Int32 × g_M} (h : x_X2_tideOn q p1 p2 M = some r) : g_Con X yX2_tideOn cX2_tideOn 5 (some .int) 2 42 [.inr q, .inl p1, .inl p2] M r := by
  rw [x_X2_tideOn] at h
  refine g_con hok (plainFor_of_name (by decide +kernel)) (Nat.le_of_ble_eq_true rfl) (go_to (lv2 := [some (.inr q), some (.inl p1), some (.inl p2), none, none]) (own := RX2) ?_ (And.intro rfl (And.intro rfl (And.intro rfl trivial))))
  refine go_aload_n (pc := 0) dX2_tideOn_0 rfl ?_
  refine go_iload_n (pc := 1) dX2_tideOn_1 rfl ?_
  obtain ⟨u1, c2, h⟩ := g_bd h
  refine go_callV (pc := 2) (as := [.inl p1]) (st := []) (r := u1.1) (M1 := u1.2) (z_X2_tideAt hok hq c2) cw_X2_tideAt ml_X2_82 hq.1 rfl rfl (by decide) (Nat.le_of_ble_eq_true rfl) rfl dX2_tideOn_2 ?_
  refine go_istore_n (pc := 5) (lv' := [some (.inr q), some (.inl p1), some (.inl p2), some (.inl u1.1), none]) dX2_tideOn_5 (by decide) rfl ?_
  refine go_aload_n (pc := 6) dX2_tideOn_6 rfl ?_
  refine gf_2_46 (pc := 7) hq dX2_tideOn_7 ?_
  refine go_iload_n (pc := 10) dX2_tideOn_10 rfl ?_
  refine go_bipush (pc := 11) (v := (7 : Int32)) dX2_tideOn_11 (by decide) ?_
  refine go_isub (pc := 13) dX2_tideOn_13 ?_
  refine go_mabs (pc := 14) ml_X2_86 lm_abs_s lm_i lm_abs_c (by decide) (Nat.le_of_ble_eq_true rfl) dX2_tideOn_14 ?_
  refine go_imul (pc := 17) dX2_tideOn_17 ?_
  refine go_bipush (pc := 18) (v := (7 : Int32)) dX2_tideOn_18 (by decide) ?_
  refine go_idiv (pc := 20) dX2_tideOn_20 (by decide) ?_
  refine go_istore (pc := 21) (lv' := [some (.inr q), some (.inl p1), some (.inl p2), some (.inl u1.1), some (.inl (((u1.2 q 11) * (g_abs (p2 - (7 : Int32)))) / (7 : Int32)))]) dX2_tideOn_21 (by decide) rfl ?_
  refine go_iload_n (pc := 23) dX2_tideOn_23 rfl ?_
  refine go_bipush (pc := 24) (v := (20 : Int32)) dX2_tideOn_24 (by decide) ?_
  refine go_icmp_le (pc := 26) (tgt := 39) dX2_tideOn_26 (by decide) (fun e4 => ?_) (fun e4 => ?_)
  · replace h := (if_pos e4).symm.trans h
    refine go_iload_n (pc := 39) dX2_tideOn_39 rfl ?_
    refine go_bipush (pc := 40) (v := (20 : Int32)) dX2_tideOn_40 (by decide) ?_
    refine go_icmp_ge (pc := 42) (tgt := 56) dX2_tideOn_42 (by decide) (fun e3 => ?_) (fun e3 => ?_)
    · replace h := (if_pos e3).symm.trans h
      refine go_iload_n (pc := 56) dX2_tideOn_56 rfl ?_
      exact go_iret (pc := 57) (Option.some.inj h).symm rfl dX2_tideOn_57 rfl
    · replace h := (if_neg e3).symm.trans h
      refine go_iconst (pc := 45) (v := (0 : Int32)) dX2_tideOn_45 (by decide) ?_
      refine go_iload_n (pc := 46) dX2_tideOn_46 rfl ?_
      refine go_iload (pc := 47) dX2_tideOn_47 rfl ?_
      refine go_isub (pc := 49) dX2_tideOn_49 ?_
      refine go_mmax (pc := 50) ml_X2_89 lm_max_s lm_i lm_max_c (by decide) (Nat.le_of_ble_eq_true rfl) dX2_tideOn_50 ?_
      refine go_goto (pc := 53) (tgt := 57) dX2_tideOn_53 (by decide) ?_
      exact go_iret (pc := 57) (Option.some.inj h).symm rfl dX2_tideOn_57 rfl
  · replace h := (if_neg e4).symm.trans h
    refine go_bipush (pc := 29) (v := (40 : Int32)) dX2_tideOn_29 (by decide) ?_
    refine go_iload_n (pc := 31) dX2_tideOn_31 rfl ?_
    refine go_iload (pc := 32) dX2_tideOn_32 rfl ?_
    refine go_iadd (pc := 34) dX2_tideOn_34 ?_
    refine go_mmin (pc := 35) ml_X2_59 lm_min_s lm_i lm_min_c (by decide) (Nat.le_of_ble_eq_true rfl) dX2_tideOn_35 ?_
    exact go_iret (pc := 38) (Option.some.inj h).symm rfl dX2_tideOn_38 rfl
def x_X2_slopeOf (q : Nat) (p1 p2 p3 : Int32) (M : g_M) : Option (Int32 × g_M) := (if (1 : Int32) ≤ p2 then (((x_X2_tideAt q p3 M).bind fun u1 => (if p2 = 0 then none else some ((((100 : Int32) * (g_abs (u1.1 - p1))) / p2), u1.2)))) else (some ((0 : Int32), M)))
set_option maxHeartbeats 4000000 in
set_option maxRecDepth 100000 in
theorem z_X2_slopeOf {X : g_X} (hok : g_ok X) {q : Nat} (hq : g_isH q) {p1 p2 p3 : Int32} {M : g_M} {r : Int32 × g_M} (h : x_X2_slopeOf q p1 p2 p3 M = some r) : g_Con X yX2_slopeOf cX2_slopeOf 4 (some .int) 2 42 [.inr q, .inl p1, .inl p2, .inl p3] M r := by
  rw [x_X2_slopeOf] at h
  refine g_con hok (plainFor_of_name (by decide +kernel)) (Nat.le_of_ble_eq_true rfl) (go_to (lv2 := [some (.inr q), some (.inl p1), some (.inl p2), some (.inl p3)]) (own := RX2) ?_ (And.intro rfl (And.intro rfl (And.intro rfl (And.intro rfl trivial)))))
  refine go_iload_n (pc := 0) dX2_slopeOf_0 rfl ?_
  refine go_iconst (pc := 1) (v := (1 : Int32)) dX2_slopeOf_1 (by decide) ?_
  refine go_icmp_ge (pc := 2) (tgt := 9) dX2_slopeOf_2 (by decide) (fun e4 => ?_) (fun e4 => ?_)
  · replace h := (if_pos e4).symm.trans h
    refine go_bipush (pc := 9) (v := (100 : Int32)) dX2_slopeOf_9 (by decide) ?_
    refine go_aload_n (pc := 11) dX2_slopeOf_11 rfl ?_
    refine go_iload_n (pc := 12) dX2_slopeOf_12 rfl ?_
    obtain ⟨u1, c2, h⟩ := g_bd h
    refine go_callV (pc := 13) (as := [.inl p3]) (st := [.inl (100 : Int32)]) (r := u1.1) (M1 := u1.2) (z_X2_tideAt hok hq c2) cw_X2_tideAt ml_X2_82 hq.1 rfl rfl (by decide) (Nat.le_of_ble_eq_true rfl) rfl dX2_slopeOf_13 ?_
    refine go_iload_n (pc := 16) dX2_slopeOf_16 rfl ?_
    refine go_isub (pc := 17) dX2_slopeOf_17 ?_
    refine go_mabs (pc := 18) ml_X2_86 lm_abs_s lm_i lm_abs_c (by decide) (Nat.le_of_ble_eq_true rfl) dX2_slopeOf_18 ?_
    refine go_imul (pc := 21) dX2_slopeOf_21 ?_
    refine go_iload_n (pc := 22) dX2_slopeOf_22 rfl ?_
    obtain ⟨z3, h⟩ := g_nz h
    refine go_idiv (pc := 23) dX2_slopeOf_23 z3 ?_
    exact go_iret (pc := 24) (Option.some.inj h).symm rfl dX2_slopeOf_24 rfl
  · replace h := (if_neg e4).symm.trans h
    refine go_iconst (pc := 5) (v := (0 : Int32)) dX2_slopeOf_5 (by decide) ?_
    refine go_goto (pc := 6) (tgt := 24) dX2_slopeOf_6 (by decide) ?_
    exact go_iret (pc := 24) (Option.some.inj h).symm rfl dX2_slopeOf_24 rfl
def x_X2_hoursOpen_L6 (q : Nat)  : Nat → Int32 → Int32 → Int32 → Int32 → Int32 → g_M → Option (Int32 × g_M)
  | 0, _, _, _, _, _, _ => none
  | n + 1, v1, v2, v3, v4, v5, M => (if (12 : Int32) ≤ v5 then (some (v4, M)) else (((x_X2_slopeOf q v1 v2 v5 M).bind fun u1 => if v3 < u1.1 then (x_X2_hoursOpen_L6 q  n v1 v2 v3 v4 (v5 + (1 : Int32)) u1.2) else (x_X2_hoursOpen_L6 q  n v1 v2 v3 (v4 ||| ((1 : Int32) <<< (v5 &&& 31))) (v5 + (1 : Int32)) u1.2))))
set_option maxHeartbeats 4000000 in
set_option maxRecDepth 100000 in
theorem z_X2_hoursOpen_L6 {X : g_X} (hok : g_ok X) {q : Nat} (hq : g_isH q) {r : Int32 × g_M}  : ∀ (n : Nat) (v1 : Int32) (v2 : Int32) (v3 : Int32) (v4 : Int32) (v5 : Int32) (M : g_M), x_X2_hoursOpen_L6 q  n v1 v2 v3 v4 v5 M = some r → g_Go X cX2_hoursOpen RX2 6 (some .int) 3 65 r 6 [some (.inr q), some (.inl v1), some (.inl v2), some (.inl v3), some (.inl v4), some (.inl v5)] [] M := by
  intro n
  induction n with
  | zero =>
    intro v1 v2 v3 v4 v5 M h
    rw [x_X2_hoursOpen_L6] at h
    cases h
  | succ n ih =>
    intro v1 v2 v3 v4 v5 M h
    rw [x_X2_hoursOpen_L6] at h
    refine go_iload (pc := 6) dX2_hoursOpen_6 rfl ?_
    refine go_bipush (pc := 8) (v := (12 : Int32)) dX2_hoursOpen_8 (by decide) ?_
    refine go_icmp_ge (pc := 10) (tgt := 40) dX2_hoursOpen_10 (by decide) (fun e4 => ?_) (fun e4 => ?_)
    · replace h := (if_pos e4).symm.trans h
      refine go_iload (pc := 40) dX2_hoursOpen_40 rfl ?_
      exact go_iret (pc := 42) (Option.some.inj h).symm rfl dX2_hoursOpen_42 rfl
    · replace h := (if_neg e4).symm.trans h
      refine go_aload_n (pc := 13) dX2_hoursOpen_13 rfl ?_
      refine go_iload_n (pc := 14) dX2_hoursOpen_14 rfl ?_
      refine go_iload_n (pc := 15) dX2_hoursOpen_15 rfl ?_
      refine go_iload (pc := 16) dX2_hoursOpen_16 rfl ?_
      obtain ⟨u1, c2, h⟩ := g_bd h
      refine go_callV (pc := 18) (as := [.inl v1, .inl v2, .inl v5]) (st := []) (r := u1.1) (M1 := u1.2) (z_X2_slopeOf hok hq c2) cw_X2_slopeOf ml_X2_92 hq.1 rfl rfl (by decide) (Nat.le_of_ble_eq_true rfl) rfl dX2_hoursOpen_18 ?_
      refine go_iload_n (pc := 21) dX2_hoursOpen_21 rfl ?_
      refine go_icmp_gt (pc := 22) (tgt := 34) dX2_hoursOpen_22 (by decide) (fun e3 => ?_) (fun e3 => ?_)
      · replace h := (if_pos e3).symm.trans h
        refine go_iinc (pc := 34) (v := (1 : Int32)) (lv' := [some (.inr q), some (.inl v1), some (.inl v2), some (.inl v3), some (.inl v4), some (.inl (v5 + (1 : Int32)))]) dX2_hoursOpen_34 rfl (by decide) (by decide) rfl ?_
        refine go_goto (pc := 37) (tgt := 6) dX2_hoursOpen_37 (by decide) ?_
        exact go_to (ih _ _ _ _ _ _ h) (And.intro rfl (And.intro rfl (And.intro rfl (And.intro rfl (And.intro rfl (And.intro rfl trivial))))))
      · replace h := (if_neg e3).symm.trans h
        refine go_iload (pc := 25) dX2_hoursOpen_25 rfl ?_
        refine go_iconst (pc := 27) (v := (1 : Int32)) dX2_hoursOpen_27 (by decide) ?_
        refine go_iload (pc := 28) dX2_hoursOpen_28 rfl ?_
        refine go_ishl (pc := 30) dX2_hoursOpen_30 ?_
        refine go_ior (pc := 31) dX2_hoursOpen_31 ?_
        refine go_istore (pc := 32) (lv' := [some (.inr q), some (.inl v1), some (.inl v2), some (.inl v3), some (.inl (v4 ||| ((1 : Int32) <<< (v5 &&& 31)))), some (.inl v5)]) dX2_hoursOpen_32 (by decide) rfl ?_
        refine go_iinc (pc := 34) (v := (1 : Int32)) (lv' := [some (.inr q), some (.inl v1), some (.inl v2), some (.inl v3), some (.inl (v4 ||| ((1 : Int32) <<< (v5 &&& 31)))), some (.inl (v5 + (1 : Int32)))]) dX2_hoursOpen_34 rfl (by decide) (by decide) rfl ?_
        refine go_goto (pc := 37) (tgt := 6) dX2_hoursOpen_37 (by decide) ?_
        exact go_to (ih _ _ _ _ _ _ h) (And.intro rfl (And.intro rfl (And.intro rfl (And.intro rfl (And.intro rfl (And.intro rfl trivial))))))
def x_X2_hoursOpen (q : Nat) (p1 p2 p3 : Int32) (M : g_M) : Option (Int32 × g_M) := (x_X2_hoursOpen_L6 q  g_F p1 p2 p3 (0 : Int32) (0 : Int32) M)
set_option maxHeartbeats 4000000 in
set_option maxRecDepth 100000 in
theorem z_X2_hoursOpen {X : g_X} (hok : g_ok X) {q : Nat} (hq : g_isH q) {p1 p2 p3 : Int32} {M : g_M} {r : Int32 × g_M} (h : x_X2_hoursOpen q p1 p2 p3 M = some r) : g_Con X yX2_hoursOpen cX2_hoursOpen 6 (some .int) 3 65 [.inr q, .inl p1, .inl p2, .inl p3] M r := by
  rw [x_X2_hoursOpen] at h
  refine g_con hok (plainFor_of_name (by decide +kernel)) (Nat.le_of_ble_eq_true rfl) (go_to (lv2 := [some (.inr q), some (.inl p1), some (.inl p2), some (.inl p3), none, none]) (own := RX2) ?_ (And.intro rfl (And.intro rfl (And.intro rfl (And.intro rfl trivial)))))
  refine go_iconst (pc := 0) (v := (0 : Int32)) dX2_hoursOpen_0 (by decide) ?_
  refine go_istore (pc := 1) (lv' := [some (.inr q), some (.inl p1), some (.inl p2), some (.inl p3), some (.inl (0 : Int32)), none]) dX2_hoursOpen_1 (by decide) rfl ?_
  refine go_iconst (pc := 3) (v := (0 : Int32)) dX2_hoursOpen_3 (by decide) ?_
  refine go_istore (pc := 4) (lv' := [some (.inr q), some (.inl p1), some (.inl p2), some (.inl p3), some (.inl (0 : Int32)), some (.inl (0 : Int32))]) dX2_hoursOpen_4 (by decide) rfl ?_
  exact go_to (z_X2_hoursOpen_L6 hok hq  g_F _ _ _ _ _ _ h) (And.intro rfl (And.intro rfl (And.intro rfl (And.intro rfl (And.intro rfl (And.intro rfl trivial))))))
def x_X3_append  (p1 : Int32) (M : g_M) : Option (Int32 × g_M) := (if (M 19 1) < 0 then (some (0, M)) else (if (96 : Int32) ≤ (M 19 1) then (some (0, M)) else ((if g_inb (M 19 1) 96 = true then (some (0, (g_upd (g_upd M 20 (M 19 1).toNatClampNeg p1) 19 1 (((g_upd M 20 (M 19 1).toNatClampNeg p1) 19 1) + (1 : Int32))))) else none))))
set_option maxHeartbeats 4000000 in
set_option maxRecDepth 100000 in
theorem z_X3_append {X : g_X} (hok : g_ok X)  {p1 : Int32} {M : g_M} {r : Int32 × g_M} (h : x_X3_append p1 M = some r) : g_Con X yX3_append cX3_append 2 none 0 0 [.inr 19, .inl p1] M r := by
  rw [x_X3_append] at h
  refine g_con hok (plainFor_of_name (by decide +kernel)) (Nat.le_of_ble_eq_true rfl) (go_to (lv2 := [some (.inr 19), some (.inl p1)]) (own := RX3) ?_ (And.intro rfl (And.intro rfl trivial)))
  refine go_aload_n (pc := 0) dX3_append_0 rfl ?_
  refine gf_3_15 (pc := 1) dX3_append_1 ?_
  refine go_if_lt (pc := 4) (tgt := 39) dX3_append_4 (by decide) (fun e3 => ?_) (fun e3 => ?_)
  · replace h := (if_pos e3).symm.trans h
    exact go_vret (pc := 39) (Option.some.inj h).symm rfl dX3_append_39
  · replace h := (if_neg e3).symm.trans h
    refine go_aload_n (pc := 7) dX3_append_7 rfl ?_
    refine gf_3_15 (pc := 8) dX3_append_8 ?_
    refine go_aload_n (pc := 11) dX3_append_11 rfl ?_
    refine gf_3_9 (pc := 12) dX3_append_12 ?_
    refine go_alen (pc := 15) (n := 96) (v := (96 : Int32)) rfl (by decide) dX3_append_15 ?_
    refine go_icmp_ge (pc := 16) (tgt := 39) dX3_append_16 (by decide) (fun e2 => ?_) (fun e2 => ?_)
    · replace h := (if_pos e2).symm.trans h
      exact go_vret (pc := 39) (Option.some.inj h).symm rfl dX3_append_39
    · replace h := (if_neg e2).symm.trans h
      refine go_aload_n (pc := 19) dX3_append_19 rfl ?_
      refine gf_3_9 (pc := 20) dX3_append_20 ?_
      refine go_aload_n (pc := 23) dX3_append_23 rfl ?_
      refine gf_3_15 (pc := 24) dX3_append_24 ?_
      refine go_iload_n (pc := 27) dX3_append_27 rfl ?_
      obtain ⟨i1, h⟩ := g_gd h
      refine go_iast (pc := 28) (n := 96) rfl (g_inb_ok i1) dX3_append_28 ?_
      refine go_aload_n (pc := 29) dX3_append_29 rfl ?_
      refine go_dup (pc := 30) dX3_append_30 ?_
      refine gf_3_15 (pc := 31) dX3_append_31 ?_
      refine go_iconst (pc := 34) (v := (1 : Int32)) dX3_append_34 (by decide) ?_
      refine go_iadd (pc := 35) dX3_append_35 ?_
      refine gp_3_15 (pc := 36) dX3_append_36 ?_
      exact go_vret (pc := 39) (Option.some.inj h).symm rfl dX3_append_39
def x_X3_letterAt  (p1 : Int32) (M : g_M) : Option (Int32 × g_M) := (if p1 < 0 then (some ((0 : Int32), M)) else (if (M 19 1) ≤ p1 then (some ((0 : Int32), M)) else (if (96 : Int32) ≤ p1 then (some ((0 : Int32), M)) else ((if g_inb p1 96 = true then (some ((M 20 p1.toNatClampNeg), M)) else none)))))
set_option maxHeartbeats 4000000 in
set_option maxRecDepth 100000 in
theorem z_X3_letterAt {X : g_X} (hok : g_ok X)  {p1 : Int32} {M : g_M} {r : Int32 × g_M} (h : x_X3_letterAt p1 M = some r) : g_Con X yX3_letterAt cX3_letterAt 2 (some .int) 0 0 [.inr 19, .inl p1] M r := by
  rw [x_X3_letterAt] at h
  refine g_con hok (plainFor_of_name (by decide +kernel)) (Nat.le_of_ble_eq_true rfl) (go_to (lv2 := [some (.inr 19), some (.inl p1)]) (own := RX3) ?_ (And.intro rfl (And.intro rfl trivial)))
  refine go_iload_n (pc := 0) dX3_letterAt_0 rfl ?_
  refine go_if_lt (pc := 1) (tgt := 30) dX3_letterAt_1 (by decide) (fun e4 => ?_) (fun e4 => ?_)
  · replace h := (if_pos e4).symm.trans h
    refine go_iconst (pc := 30) (v := (0 : Int32)) dX3_letterAt_30 (by decide) ?_
    exact go_iret (pc := 31) (Option.some.inj h).symm rfl dX3_letterAt_31 rfl
  · replace h := (if_neg e4).symm.trans h
    refine go_iload_n (pc := 4) dX3_letterAt_4 rfl ?_
    refine go_aload_n (pc := 5) dX3_letterAt_5 rfl ?_
    refine gf_3_15 (pc := 6) dX3_letterAt_6 ?_
    refine go_icmp_ge (pc := 9) (tgt := 30) dX3_letterAt_9 (by decide) (fun e3 => ?_) (fun e3 => ?_)
    · replace h := (if_pos e3).symm.trans h
      refine go_iconst (pc := 30) (v := (0 : Int32)) dX3_letterAt_30 (by decide) ?_
      exact go_iret (pc := 31) (Option.some.inj h).symm rfl dX3_letterAt_31 rfl
    · replace h := (if_neg e3).symm.trans h
      refine go_iload_n (pc := 12) dX3_letterAt_12 rfl ?_
      refine go_aload_n (pc := 13) dX3_letterAt_13 rfl ?_
      refine gf_3_9 (pc := 14) dX3_letterAt_14 ?_
      refine go_alen (pc := 17) (n := 96) (v := (96 : Int32)) rfl (by decide) dX3_letterAt_17 ?_
      refine go_icmp_ge (pc := 18) (tgt := 30) dX3_letterAt_18 (by decide) (fun e2 => ?_) (fun e2 => ?_)
      · replace h := (if_pos e2).symm.trans h
        refine go_iconst (pc := 30) (v := (0 : Int32)) dX3_letterAt_30 (by decide) ?_
        exact go_iret (pc := 31) (Option.some.inj h).symm rfl dX3_letterAt_31 rfl
      · replace h := (if_neg e2).symm.trans h
        refine go_aload_n (pc := 21) dX3_letterAt_21 rfl ?_
        refine gf_3_9 (pc := 22) dX3_letterAt_22 ?_
        refine go_iload_n (pc := 25) dX3_letterAt_25 rfl ?_
        obtain ⟨i1, h⟩ := g_gd h
        refine go_iald (pc := 26) (n := 96) rfl (g_inb_ok i1) dX3_letterAt_26 ?_
        refine go_goto (pc := 27) (tgt := 31) dX3_letterAt_27 (by decide) ?_
        exact go_iret (pc := 31) (Option.some.inj h).symm rfl dX3_letterAt_31 rfl
def x_X3_shapeOf  (p0 : Int32) (M : g_M) : Option (Int32 × g_M) := (if p0 = (98 : Int32) then (some ((2 : Int32), M)) else if p0 = (101 : Int32) then (some ((4 : Int32), M)) else if p0 = (108 : Int32) then (some ((3 : Int32), M)) else if p0 = (114 : Int32) then (some ((0 : Int32), M)) else if p0 = (116 : Int32) then (some ((0 : Int32), M)) else if p0 = (119 : Int32) then (some ((1 : Int32), M)) else (some ((5 : Int32), M)))
set_option maxHeartbeats 4000000 in
set_option maxRecDepth 100000 in
theorem z_X3_shapeOf {X : g_X} (hok : g_ok X)  {p0 : Int32} {M : g_M} {r : Int32 × g_M} (h : x_X3_shapeOf p0 M = some r) : g_Con X yX3_shapeOf cX3_shapeOf 1 (some (.object "java/lang/String")) 0 0 [.inl p0] M r := by
  rw [x_X3_shapeOf] at h
  refine g_con hok (plainFor_of_name (by decide +kernel)) (Nat.le_of_ble_eq_true rfl) (go_to (lv2 := [some (.inl p0)]) (own := RX3) ?_ (And.intro rfl trivial))
  refine go_iload_n (pc := 0) dX3_shapeOf_0 rfl ?_
  by_cases e1 : p0 = (98 : Int32)
  · replace h := (if_pos e1).symm.trans h
    refine go_look (pc := 1) (off := 65) (tgt := 66) dX3_shapeOf_1 (by decide) (by rw [e1]; decide) (by decide) ?_
    refine go_ldcs (pc := 66) (i := 2) rfl rfl dX3_shapeOf_66 ?_
    exact go_aret (pc := 68) (v := (2 : Int32)) (Option.some.inj h).symm rfl dX3_shapeOf_68
  · replace h := (if_neg e1).symm.trans h
    by_cases e2 : p0 = (101 : Int32)
    · replace h := (if_pos e2).symm.trans h
      refine go_look (pc := 1) (off := 71) (tgt := 72) dX3_shapeOf_1 (by decide) (by rw [e2]; decide) (by decide) ?_
      refine go_ldcs (pc := 72) (i := 4) rfl rfl dX3_shapeOf_72 ?_
      exact go_aret (pc := 74) (v := (4 : Int32)) (Option.some.inj h).symm rfl dX3_shapeOf_74
    · replace h := (if_neg e2).symm.trans h
      by_cases e3 : p0 = (108 : Int32)
      · replace h := (if_pos e3).symm.trans h
        refine go_look (pc := 1) (off := 68) (tgt := 69) dX3_shapeOf_1 (by decide) (by rw [e3]; decide) (by decide) ?_
        refine go_ldcs (pc := 69) (i := 3) rfl rfl dX3_shapeOf_69 ?_
        exact go_aret (pc := 71) (v := (3 : Int32)) (Option.some.inj h).symm rfl dX3_shapeOf_71
      · replace h := (if_neg e3).symm.trans h
        by_cases e4 : p0 = (114 : Int32)
        · replace h := (if_pos e4).symm.trans h
          refine go_look (pc := 1) (off := 59) (tgt := 60) dX3_shapeOf_1 (by decide) (by rw [e4]; decide) (by decide) ?_
          refine go_ldcs (pc := 60) (i := 0) rfl rfl dX3_shapeOf_60 ?_
          exact go_aret (pc := 62) (v := (0 : Int32)) (Option.some.inj h).symm rfl dX3_shapeOf_62
        · replace h := (if_neg e4).symm.trans h
          by_cases e5 : p0 = (116 : Int32)
          · replace h := (if_pos e5).symm.trans h
            refine go_look (pc := 1) (off := 59) (tgt := 60) dX3_shapeOf_1 (by decide) (by rw [e5]; decide) (by decide) ?_
            refine go_ldcs (pc := 60) (i := 0) rfl rfl dX3_shapeOf_60 ?_
            exact go_aret (pc := 62) (v := (0 : Int32)) (Option.some.inj h).symm rfl dX3_shapeOf_62
          · replace h := (if_neg e5).symm.trans h
            by_cases e6 : p0 = (119 : Int32)
            · replace h := (if_pos e6).symm.trans h
              refine go_look (pc := 1) (off := 62) (tgt := 63) dX3_shapeOf_1 (by decide) (by rw [e6]; decide) (by decide) ?_
              refine go_ldcs (pc := 63) (i := 1) rfl rfl dX3_shapeOf_63 ?_
              exact go_aret (pc := 65) (v := (1 : Int32)) (Option.some.inj h).symm rfl dX3_shapeOf_65
            · replace h := (if_neg e6).symm.trans h
              refine go_look (pc := 1) (off := 74) (tgt := 75) dX3_shapeOf_1 (by decide) (by rw [show (#[(98, 65), (101, 71), (108, 68), (114, 59), (116, 59), (119, 62)] : Array (Int × Int)).toList = [(98, 65), (101, 71), (108, 68), (114, 59), (116, 59), (119, 62)] from rfl, lv_osw (k := (98 : Int32)) e1 (by decide), lv_osw (k := (101 : Int32)) e2 (by decide), lv_osw (k := (108 : Int32)) e3 (by decide), lv_osw (k := (114 : Int32)) e4 (by decide), lv_osw (k := (116 : Int32)) e5 (by decide), lv_osw (k := (119 : Int32)) e6 (by decide)]; rfl) (by decide) ?_
              refine go_ldcs (pc := 75) (i := 5) rfl rfl dX3_shapeOf_75 ?_
              exact go_aret (pc := 77) (v := (5 : Int32)) (Option.some.inj h).symm rfl dX3_shapeOf_77
def x_X3_fits (w0 : Nat) (p1 p2 : Int32) (M : g_M) : Option (Int32 × g_M) := (if p1 < 0 then (some ((0 : Int32), M)) else ((if decide (w0 < 6) = true then (if p1 < (nI (g_sl w0)) then ((if decide (w0 < 6) = true then ((if g_inb p1 (g_sl w0) = true then (if (g_sc w0 p1.toNatClampNeg) = (35 : Int32) then (if p2 < (48 : Int32) then (some ((0 : Int32), M)) else (if (57 : Int32) < p2 then (some ((0 : Int32), M)) else (some ((1 : Int32), M)))) else (if (g_sc w0 p1.toNatClampNeg) = (43 : Int32) then (if p2 = (43 : Int32) then (some ((1 : Int32), M)) else (if p2 = (45 : Int32) then (some ((1 : Int32), M)) else (some ((0 : Int32), M)))) else (if p2 = (g_sc w0 p1.toNatClampNeg) then (some ((1 : Int32), M)) else (some ((0 : Int32), M))))) else none)) else none)) else (some ((0 : Int32), M))) else none)))
set_option maxHeartbeats 4000000 in
set_option maxRecDepth 100000 in
theorem z_X3_fits {X : g_X} (hok : g_ok X) {w0 : Nat} {p1 p2 : Int32} {M : g_M} {r : Int32 × g_M} (h : x_X3_fits w0 p1 p2 M = some r) : g_Con X yX3_fits cX3_fits 4 (some .boolean) 4 111 [.inr (1000 + w0), .inl p1, .inl p2] M r := by
  rw [x_X3_fits] at h
  refine g_con hok (plainFor_of_name (by decide +kernel)) (Nat.le_of_ble_eq_true rfl) (go_to (lv2 := [some (.inr (1000 + w0)), some (.inl p1), some (.inl p2), none]) (own := RX3) ?_ (And.intro rfl (And.intro rfl (And.intro rfl trivial))))
  refine go_iload_n (pc := 0) dX3_fits_0 rfl ?_
  refine go_if_lt (pc := 1) (tgt := 12) dX3_fits_1 (by decide) (fun e12 => ?_) (fun e12 => ?_)
  · replace h := (if_pos e12).symm.trans h
    refine go_iconst (pc := 12) (v := (0 : Int32)) dX3_fits_12 (by decide) ?_
    exact go_iret (pc := 13) (Option.some.inj h).symm rfl dX3_fits_13 rfl
  · replace h := (if_neg e12).symm.trans h
    refine go_iload_n (pc := 4) dX3_fits_4 rfl ?_
    refine go_aload_n (pc := 5) dX3_fits_5 rfl ?_
    obtain ⟨i1, h⟩ := g_gd h
    refine go_callVS (pc := 6) (k := w0) (as := []) (st := [.inl p1]) (r := (nI (g_sl w0))) (M1 := M) (of_decide_eq_true i1) (z_J0_length_8abf5 hok (of_decide_eq_true i1)) cw_J0_length_8abf5 ml_X3_31 rfl (by decide) (Nat.le_of_ble_eq_true rfl) rfl dX3_fits_6 ?_
    refine go_icmp_lt (pc := 9) (tgt := 14) dX3_fits_9 (by decide) (fun e11 => ?_) (fun e11 => ?_)
    · replace h := (if_pos e11).symm.trans h
      refine go_aload_n (pc := 14) dX3_fits_14 rfl ?_
      refine go_iload_n (pc := 15) dX3_fits_15 rfl ?_
      obtain ⟨i2, h⟩ := g_gd h
      obtain ⟨i3, h⟩ := g_gd h
      refine go_callVS (pc := 16) (k := w0) (as := [.inl p1]) (st := []) (r := (g_sc w0 p1.toNatClampNeg)) (M1 := M) (of_decide_eq_true i2) (z_J0_charAt_5068e hok (of_decide_eq_true i2) (g_inb_ok i3)) cw_J0_charAt_5068e ml_X3_37 rfl (by decide) (Nat.le_of_ble_eq_true rfl) rfl dX3_fits_16 ?_
      refine go_istore_n (pc := 19) (lv' := [some (.inr (1000 + w0)), some (.inl p1), some (.inl p2), some (.inl (g_sc w0 p1.toNatClampNeg))]) dX3_fits_19 (by decide) rfl ?_
      refine go_iload_n (pc := 20) dX3_fits_20 rfl ?_
      refine go_bipush (pc := 21) (v := (35 : Int32)) dX3_fits_21 (by decide) ?_
      refine go_icmp_ne (pc := 23) (tgt := 44) dX3_fits_23 (by decide) (fun e10 => ?_) (fun e10 => ?_)
      · replace h := (if_neg e10).symm.trans h
        refine go_iload_n (pc := 44) dX3_fits_44 rfl ?_
        refine go_bipush (pc := 45) (v := (43 : Int32)) dX3_fits_45 (by decide) ?_
        refine go_icmp_ne (pc := 47) (tgt := 70) dX3_fits_47 (by decide) (fun e7 => ?_) (fun e7 => ?_)
        · replace h := (if_neg e7).symm.trans h
          refine go_iload_n (pc := 70) dX3_fits_70 rfl ?_
          refine go_iload_n (pc := 71) dX3_fits_71 rfl ?_
          refine go_icmp_ne (pc := 72) (tgt := 79) dX3_fits_72 (by decide) (fun e4 => ?_) (fun e4 => ?_)
          · replace h := (if_neg e4).symm.trans h
            refine go_iconst (pc := 79) (v := (0 : Int32)) dX3_fits_79 (by decide) ?_
            exact go_iret (pc := 80) (Option.some.inj h).symm rfl dX3_fits_80 rfl
          · replace h := (if_pos e4).symm.trans h
            refine go_iconst (pc := 75) (v := (1 : Int32)) dX3_fits_75 (by decide) ?_
            refine go_goto (pc := 76) (tgt := 80) dX3_fits_76 (by decide) ?_
            exact go_iret (pc := 80) (Option.some.inj h).symm rfl dX3_fits_80 rfl
        · replace h := (if_pos e7).symm.trans h
          refine go_iload_n (pc := 50) dX3_fits_50 rfl ?_
          refine go_bipush (pc := 51) (v := (43 : Int32)) dX3_fits_51 (by decide) ?_
          refine go_icmp_eq (pc := 53) (tgt := 62) dX3_fits_53 (by decide) (fun e6 => ?_) (fun e6 => ?_)
          · replace h := (if_pos e6).symm.trans h
            refine go_iconst (pc := 62) (v := (1 : Int32)) dX3_fits_62 (by decide) ?_
            refine go_goto (pc := 63) (tgt := 80) dX3_fits_63 (by decide) ?_
            exact go_iret (pc := 80) (Option.some.inj h).symm rfl dX3_fits_80 rfl
          · replace h := (if_neg e6).symm.trans h
            refine go_iload_n (pc := 56) dX3_fits_56 rfl ?_
            refine go_bipush (pc := 57) (v := (45 : Int32)) dX3_fits_57 (by decide) ?_
            refine go_icmp_ne (pc := 59) (tgt := 66) dX3_fits_59 (by decide) (fun e5 => ?_) (fun e5 => ?_)
            · replace h := (if_neg e5).symm.trans h
              refine go_iconst (pc := 66) (v := (0 : Int32)) dX3_fits_66 (by decide) ?_
              refine go_goto (pc := 67) (tgt := 80) dX3_fits_67 (by decide) ?_
              exact go_iret (pc := 80) (Option.some.inj h).symm rfl dX3_fits_80 rfl
            · replace h := (if_pos e5).symm.trans h
              refine go_iconst (pc := 62) (v := (1 : Int32)) dX3_fits_62 (by decide) ?_
              refine go_goto (pc := 63) (tgt := 80) dX3_fits_63 (by decide) ?_
              exact go_iret (pc := 80) (Option.some.inj h).symm rfl dX3_fits_80 rfl
      · replace h := (if_pos e10).symm.trans h
        refine go_iload_n (pc := 26) dX3_fits_26 rfl ?_
        refine go_bipush (pc := 27) (v := (48 : Int32)) dX3_fits_27 (by decide) ?_
        refine go_icmp_lt (pc := 29) (tgt := 42) dX3_fits_29 (by decide) (fun e9 => ?_) (fun e9 => ?_)
        · replace h := (if_pos e9).symm.trans h
          refine go_iconst (pc := 42) (v := (0 : Int32)) dX3_fits_42 (by decide) ?_
          exact go_iret (pc := 43) (Option.some.inj h).symm rfl dX3_fits_43 rfl
        · replace h := (if_neg e9).symm.trans h
          refine go_iload_n (pc := 32) dX3_fits_32 rfl ?_
          refine go_bipush (pc := 33) (v := (57 : Int32)) dX3_fits_33 (by decide) ?_
          refine go_icmp_gt (pc := 35) (tgt := 42) dX3_fits_35 (by decide) (fun e8 => ?_) (fun e8 => ?_)
          · replace h := (if_pos e8).symm.trans h
            refine go_iconst (pc := 42) (v := (0 : Int32)) dX3_fits_42 (by decide) ?_
            exact go_iret (pc := 43) (Option.some.inj h).symm rfl dX3_fits_43 rfl
          · replace h := (if_neg e8).symm.trans h
            refine go_iconst (pc := 38) (v := (1 : Int32)) dX3_fits_38 (by decide) ?_
            refine go_goto (pc := 39) (tgt := 43) dX3_fits_39 (by decide) ?_
            exact go_iret (pc := 43) (Option.some.inj h).symm rfl dX3_fits_43 rfl
    · replace h := (if_neg e11).symm.trans h
      refine go_iconst (pc := 12) (v := (0 : Int32)) dX3_fits_12 (by decide) ?_
      exact go_iret (pc := 13) (Option.some.inj h).symm rfl dX3_fits_13 rfl
def x_X3_strangePlace_L55  (k4 : Int32 → Int32 → g_M → Option (Int32 × g_M)) (v1 : Int32) (v2 : Int32) (y3 : Nat) (s0 : Int32) (M : g_M) : Option (Int32 × g_M) := (if s0 = 0 then (some (v2, M)) else ((if decide (y3 < 6) = true then (if (v2 - v1) = (nI (g_sl y3)) then (k4 (v2 + (1 : Int32)) (v2 + (1 : Int32)) M) else (k4 v1 (v2 + (1 : Int32)) M)) else none)))
set_option maxHeartbeats 4000000 in
set_option maxRecDepth 100000 in
theorem z_X3_strangePlace_L55 {X : g_X} (hok : g_ok X)  {r : Int32 × g_M} {k4 : Int32 → Int32 → g_M → Option (Int32 × g_M)} (hk4 : ∀ (v1 : Int32) (v2 : Int32) (M : g_M), k4 v1 v2 M = some r → g_Go X cX3_strangePlace RX3 5 (some .int) 5 134 r 4 [some (.inr 19), some (.inl v1), some (.inl v2), none, none] [] M) {v1 : Int32} {v2 : Int32} {y3 : Nat} {s0 : Int32} {M : g_M} (h : x_X3_strangePlace_L55  k4 v1 v2 y3 s0 M = some r) : g_Go X cX3_strangePlace RX3 5 (some .int) 5 134 r 55 [some (.inr 19), some (.inl v1), some (.inl v2), some (.inr (1000 + y3)), none] [.inl s0] M := by
  rw [x_X3_strangePlace_L55] at h
  refine go_istore (pc := 55) (lv' := [some (.inr 19), some (.inl v1), some (.inl v2), some (.inr (1000 + y3)), some (.inl s0)]) dX3_strangePlace_55 (by decide) rfl ?_
  refine go_iload (pc := 57) dX3_strangePlace_57 rfl ?_
  refine go_if_ne (pc := 59) (tgt := 64) dX3_strangePlace_59 (by decide) (fun e3 => ?_) (fun e3 => ?_)
  · replace h := (if_neg e3).symm.trans h
    refine go_iload_n (pc := 64) dX3_strangePlace_64 rfl ?_
    refine go_iload_n (pc := 65) dX3_strangePlace_65 rfl ?_
    refine go_isub (pc := 66) dX3_strangePlace_66 ?_
    refine go_aload_n (pc := 67) dX3_strangePlace_67 rfl ?_
    obtain ⟨i1, h⟩ := g_gd h
    refine go_callVS (pc := 68) (k := y3) (as := []) (st := [.inl (v2 - v1)]) (r := (nI (g_sl y3))) (M1 := M) (of_decide_eq_true i1) (z_J0_length_8abf5 hok (of_decide_eq_true i1)) cw_J0_length_8abf5 ml_X3_31 rfl (by decide) (Nat.le_of_ble_eq_true rfl) rfl dX3_strangePlace_68 ?_
    refine go_icmp_ne (pc := 71) (tgt := 78) dX3_strangePlace_71 (by decide) (fun e2 => ?_) (fun e2 => ?_)
    · replace h := (if_neg e2).symm.trans h
      refine go_iinc (pc := 78) (v := (1 : Int32)) (lv' := [some (.inr 19), some (.inl v1), some (.inl (v2 + (1 : Int32))), some (.inr (1000 + y3)), some (.inl s0)]) dX3_strangePlace_78 rfl (by decide) (by decide) rfl ?_
      refine go_goto (pc := 81) (tgt := 4) dX3_strangePlace_81 (by decide) ?_
      exact go_to (hk4 _ _ _ h) (And.intro rfl (And.intro rfl (And.intro rfl trivial)))
    · replace h := (if_pos e2).symm.trans h
      refine go_iload_n (pc := 74) dX3_strangePlace_74 rfl ?_
      refine go_iconst (pc := 75) (v := (1 : Int32)) dX3_strangePlace_75 (by decide) ?_
      refine go_iadd (pc := 76) dX3_strangePlace_76 ?_
      refine go_istore_n (pc := 77) (lv' := [some (.inr 19), some (.inl (v2 + (1 : Int32))), some (.inl v2), some (.inr (1000 + y3)), some (.inl s0)]) dX3_strangePlace_77 (by decide) rfl ?_
      refine go_iinc (pc := 78) (v := (1 : Int32)) (lv' := [some (.inr 19), some (.inl (v2 + (1 : Int32))), some (.inl (v2 + (1 : Int32))), some (.inr (1000 + y3)), some (.inl s0)]) dX3_strangePlace_78 rfl (by decide) (by decide) rfl ?_
      refine go_goto (pc := 81) (tgt := 4) dX3_strangePlace_81 (by decide) ?_
      exact go_to (hk4 _ _ _ h) (And.intro rfl (And.intro rfl (And.intro rfl trivial)))
  · replace h := (if_pos e3).symm.trans h
    refine go_iload_n (pc := 62) dX3_strangePlace_62 rfl ?_
    exact go_iret (pc := 63) (Option.some.inj h).symm rfl dX3_strangePlace_63 rfl
def x_X3_strangePlace_L4   : Nat → Int32 → Int32 → g_M → Option (Int32 × g_M)
  | 0, _, _, _ => none
  | n + 1, v1, v2, M => (if (M 19 1) ≤ v2 then (if (M 19 1) = 0 then (some ((M 19 1), M)) else (if (M 19 1) ≤ v1 then (some ((-9 : Int32), M)) else (some ((M 19 1), M)))) else (((x_X3_letterAt v1 M).bind fun u6 => ((x_X3_shapeOf u6.1 u6.2).bind fun u8 => if v2 = v1 then ((if decide (u8.1.toNatClampNeg < 6) = true then (if (g_se u8.1.toNatClampNeg) = 0 then (x_X3_strangePlace_L55  (x_X3_strangePlace_L4   n) v1 v2 u8.1.toNatClampNeg (1 : Int32) u8.2) else (x_X3_strangePlace_L55  (x_X3_strangePlace_L4   n) v1 v2 u8.1.toNatClampNeg (0 : Int32) u8.2)) else none)) else (((x_X3_letterAt v2 u8.2).bind fun u10 => ((x_X3_fits u8.1.toNatClampNeg ((v2 - v1) - (1 : Int32)) u10.1 u10.2).bind fun u12 => x_X3_strangePlace_L55  (x_X3_strangePlace_L4   n) v1 v2 u8.1.toNatClampNeg u12.1 u12.2)))))))
set_option maxHeartbeats 4000000 in
set_option maxRecDepth 100000 in
theorem z_X3_strangePlace_L4 {X : g_X} (hok : g_ok X)  {r : Int32 × g_M}  : ∀ (n : Nat) (v1 : Int32) (v2 : Int32) (M : g_M), x_X3_strangePlace_L4   n v1 v2 M = some r → g_Go X cX3_strangePlace RX3 5 (some .int) 5 134 r 4 [some (.inr 19), some (.inl v1), some (.inl v2), none, none] [] M := by
  intro n
  induction n with
  | zero =>
    intro v1 v2 M h
    rw [x_X3_strangePlace_L4] at h
    cases h
  | succ n ih =>
    intro v1 v2 M h
    rw [x_X3_strangePlace_L4] at h
    refine go_iload_n (pc := 4) dX3_strangePlace_4 rfl ?_
    refine go_aload_n (pc := 5) dX3_strangePlace_5 rfl ?_
    refine gf_3_15 (pc := 6) dX3_strangePlace_6 ?_
    refine go_icmp_ge (pc := 9) (tgt := 84) dX3_strangePlace_9 (by decide) (fun e17 => ?_) (fun e17 => ?_)
    · replace h := (if_pos e17).symm.trans h
      refine go_aload_n (pc := 84) dX3_strangePlace_84 rfl ?_
      refine gf_3_15 (pc := 85) dX3_strangePlace_85 ?_
      refine go_if_eq (pc := 88) (tgt := 99) dX3_strangePlace_88 (by decide) (fun e5 => ?_) (fun e5 => ?_)
      · replace h := (if_pos e5).symm.trans h
        refine go_aload_n (pc := 99) dX3_strangePlace_99 rfl ?_
        refine gf_3_15 (pc := 100) dX3_strangePlace_100 ?_
        refine go_goto (pc := 103) (tgt := 108) dX3_strangePlace_103 (by decide) ?_
        exact go_iret (pc := 108) (Option.some.inj h).symm rfl dX3_strangePlace_108 rfl
      · replace h := (if_neg e5).symm.trans h
        refine go_iload_n (pc := 91) dX3_strangePlace_91 rfl ?_
        refine go_aload_n (pc := 92) dX3_strangePlace_92 rfl ?_
        refine gf_3_15 (pc := 93) dX3_strangePlace_93 ?_
        refine go_icmp_ge (pc := 96) (tgt := 106) dX3_strangePlace_96 (by decide) (fun e4 => ?_) (fun e4 => ?_)
        · replace h := (if_pos e4).symm.trans h
          refine go_bipush (pc := 106) (v := (-9 : Int32)) dX3_strangePlace_106 (by decide) ?_
          exact go_iret (pc := 108) (Option.some.inj h).symm rfl dX3_strangePlace_108 rfl
        · replace h := (if_neg e4).symm.trans h
          refine go_aload_n (pc := 99) dX3_strangePlace_99 rfl ?_
          refine gf_3_15 (pc := 100) dX3_strangePlace_100 ?_
          refine go_goto (pc := 103) (tgt := 108) dX3_strangePlace_103 (by decide) ?_
          exact go_iret (pc := 108) (Option.some.inj h).symm rfl dX3_strangePlace_108 rfl
    · replace h := (if_neg e17).symm.trans h
      refine go_aload_n (pc := 12) dX3_strangePlace_12 rfl ?_
      refine go_iload_n (pc := 13) dX3_strangePlace_13 rfl ?_
      obtain ⟨u6, c7, h⟩ := g_bd h
      refine go_callV (pc := 14) (as := [.inl v1]) (st := []) (r := u6.1) (M1 := u6.2) (z_X3_letterAt hok  c7) cw_X3_letterAt ml_X3_41 (show g_lay[19]? = some _ from rfl) rfl rfl (by decide) (Nat.le_of_ble_eq_true rfl) rfl dX3_strangePlace_14 ?_
      obtain ⟨u8, c9, h⟩ := g_bd h
      refine go_callS (pc := 17) (as := [.inl u6.1]) (st := []) (r := u8.1) (M1 := u8.2) (z_X3_shapeOf hok  c9) cw_X3_shapeOf ml_X3_45 (by decide) (Nat.le_of_ble_eq_true rfl) rfl dX3_strangePlace_17 ?_
      refine go_astore_n (pc := 20) (lv' := [some (.inr 19), some (.inl v1), some (.inl v2), some (.inr (1000 + u8.1.toNatClampNeg)), none]) dX3_strangePlace_20 (by decide) rfl ?_
      refine go_iload_n (pc := 21) dX3_strangePlace_21 rfl ?_
      refine go_iload_n (pc := 22) dX3_strangePlace_22 rfl ?_
      refine go_icmp_ne (pc := 23) (tgt := 41) dX3_strangePlace_23 (by decide) (fun e16 => ?_) (fun e16 => ?_)
      · replace h := (if_neg e16).symm.trans h
        refine go_aload_n (pc := 41) dX3_strangePlace_41 rfl ?_
        refine go_iload_n (pc := 42) dX3_strangePlace_42 rfl ?_
        refine go_iload_n (pc := 43) dX3_strangePlace_43 rfl ?_
        refine go_isub (pc := 44) dX3_strangePlace_44 ?_
        refine go_iconst (pc := 45) (v := (1 : Int32)) dX3_strangePlace_45 (by decide) ?_
        refine go_isub (pc := 46) dX3_strangePlace_46 ?_
        refine go_aload_n (pc := 47) dX3_strangePlace_47 rfl ?_
        refine go_iload_n (pc := 48) dX3_strangePlace_48 rfl ?_
        obtain ⟨u10, c11, h⟩ := g_bd h
        refine go_callV (pc := 49) (as := [.inl v2]) (st := [.inl ((v2 - v1) - (1 : Int32)), .inr (1000 + u8.1.toNatClampNeg)]) (r := u10.1) (M1 := u10.2) (z_X3_letterAt hok  c11) cw_X3_letterAt ml_X3_41 (show g_lay[19]? = some _ from rfl) rfl rfl (by decide) (Nat.le_of_ble_eq_true rfl) rfl dX3_strangePlace_49 ?_
        obtain ⟨u12, c13, h⟩ := g_bd h
        refine go_callS (pc := 52) (as := [.inr (1000 + u8.1.toNatClampNeg), .inl ((v2 - v1) - (1 : Int32)), .inl u10.1]) (st := []) (r := u12.1) (M1 := u12.2) (z_X3_fits hok  c13) cw_X3_fits ml_X3_53 (by decide) (Nat.le_of_ble_eq_true rfl) rfl dX3_strangePlace_52 ?_
        exact go_to (z_X3_strangePlace_L55 hok  (ih) h) (And.intro rfl (And.intro rfl (And.intro rfl (And.intro rfl trivial))))
      · replace h := (if_pos e16).symm.trans h
        refine go_aload_n (pc := 26) dX3_strangePlace_26 rfl ?_
        obtain ⟨i14, h⟩ := g_gd h
        refine go_callVS (pc := 27) (k := u8.1.toNatClampNeg) (as := []) (st := []) (r := (g_se u8.1.toNatClampNeg)) (M1 := u8.2) (of_decide_eq_true i14) (z_J0_isEmpty_aae02 hok (of_decide_eq_true i14)) cw_J0_isEmpty_aae02 ml_X3_49 rfl (by decide) (Nat.le_of_ble_eq_true rfl) rfl dX3_strangePlace_27 ?_
        refine go_if_ne (pc := 30) (tgt := 37) dX3_strangePlace_30 (by decide) (fun e15 => ?_) (fun e15 => ?_)
        · replace h := (if_neg e15).symm.trans h
          refine go_iconst (pc := 37) (v := (0 : Int32)) dX3_strangePlace_37 (by decide) ?_
          refine go_goto (pc := 38) (tgt := 55) dX3_strangePlace_38 (by decide) ?_
          exact go_to (z_X3_strangePlace_L55 hok  (ih) h) (And.intro rfl (And.intro rfl (And.intro rfl (And.intro rfl trivial))))
        · replace h := (if_pos e15).symm.trans h
          refine go_iconst (pc := 33) (v := (1 : Int32)) dX3_strangePlace_33 (by decide) ?_
          refine go_goto (pc := 34) (tgt := 55) dX3_strangePlace_34 (by decide) ?_
          exact go_to (z_X3_strangePlace_L55 hok  (ih) h) (And.intro rfl (And.intro rfl (And.intro rfl (And.intro rfl trivial))))
def x_X3_strangePlace  (M : g_M) : Option (Int32 × g_M) := (x_X3_strangePlace_L4   g_F (0 : Int32) (0 : Int32) M)
set_option maxHeartbeats 4000000 in
set_option maxRecDepth 100000 in
theorem z_X3_strangePlace {X : g_X} (hok : g_ok X)  {M : g_M} {r : Int32 × g_M} (h : x_X3_strangePlace  M = some r) : g_Con X yX3_strangePlace cX3_strangePlace 5 (some .int) 5 134 [.inr 19] M r := by
  rw [x_X3_strangePlace] at h
  refine g_con hok (plainFor_of_name (by decide +kernel)) (Nat.le_of_ble_eq_true rfl) (go_to (lv2 := [some (.inr 19), none, none, none, none]) (own := RX3) ?_ (And.intro rfl trivial))
  refine go_iconst (pc := 0) (v := (0 : Int32)) dX3_strangePlace_0 (by decide) ?_
  refine go_istore_n (pc := 1) (lv' := [some (.inr 19), some (.inl (0 : Int32)), none, none, none]) dX3_strangePlace_1 (by decide) rfl ?_
  refine go_iconst (pc := 2) (v := (0 : Int32)) dX3_strangePlace_2 (by decide) ?_
  refine go_istore_n (pc := 3) (lv' := [some (.inr 19), some (.inl (0 : Int32)), some (.inl (0 : Int32)), none, none]) dX3_strangePlace_3 (by decide) rfl ?_
  exact go_to (z_X3_strangePlace_L4 hok   g_F _ _ _ h) (And.intro rfl (And.intro rfl (And.intro rfl trivial)))
def x_X3_statementSize  (p1 : Int32) (M : g_M) : Option (Int32 × g_M) := (((x_X3_letterAt p1 M).bind fun u1 => ((x_X3_shapeOf u1.1 u1.2).bind fun u3 => (if decide (u3.1.toNatClampNeg < 6) = true then (some (((1 : Int32) + (nI (g_sl u3.1.toNatClampNeg))), u3.2)) else none))))
set_option maxHeartbeats 4000000 in
set_option maxRecDepth 100000 in
theorem z_X3_statementSize {X : g_X} (hok : g_ok X)  {p1 : Int32} {M : g_M} {r : Int32 × g_M} (h : x_X3_statementSize p1 M = some r) : g_Con X yX3_statementSize cX3_statementSize 2 (some .int) 2 40 [.inr 19, .inl p1] M r := by
  rw [x_X3_statementSize] at h
  refine g_con hok (plainFor_of_name (by decide +kernel)) (Nat.le_of_ble_eq_true rfl) (go_to (lv2 := [some (.inr 19), some (.inl p1)]) (own := RX3) ?_ (And.intro rfl (And.intro rfl trivial)))
  refine go_iconst (pc := 0) (v := (1 : Int32)) dX3_statementSize_0 (by decide) ?_
  refine go_aload_n (pc := 1) dX3_statementSize_1 rfl ?_
  refine go_iload_n (pc := 2) dX3_statementSize_2 rfl ?_
  obtain ⟨u1, c2, h⟩ := g_bd h
  refine go_callV (pc := 3) (as := [.inl p1]) (st := [.inl (1 : Int32)]) (r := u1.1) (M1 := u1.2) (z_X3_letterAt hok  c2) cw_X3_letterAt ml_X3_41 (show g_lay[19]? = some _ from rfl) rfl rfl (by decide) (Nat.le_of_ble_eq_true rfl) rfl dX3_statementSize_3 ?_
  obtain ⟨u3, c4, h⟩ := g_bd h
  refine go_callS (pc := 6) (as := [.inl u1.1]) (st := [.inl (1 : Int32)]) (r := u3.1) (M1 := u3.2) (z_X3_shapeOf hok  c4) cw_X3_shapeOf ml_X3_45 (by decide) (Nat.le_of_ble_eq_true rfl) rfl dX3_statementSize_6 ?_
  obtain ⟨i5, h⟩ := g_gd h
  refine go_callVS (pc := 9) (k := u3.1.toNatClampNeg) (as := []) (st := [.inl (1 : Int32)]) (r := (nI (g_sl u3.1.toNatClampNeg))) (M1 := u3.2) (of_decide_eq_true i5) (z_J0_length_8abf5 hok (of_decide_eq_true i5)) cw_J0_length_8abf5 ml_X3_31 rfl (by decide) (Nat.le_of_ble_eq_true rfl) rfl dX3_statementSize_9 ?_
  refine go_iadd (pc := 12) dX3_statementSize_12 ?_
  exact go_iret (pc := 13) (Option.some.inj h).symm rfl dX3_statementSize_13 rfl
def x_X3_numberAt_L5   : Nat → Int32 → Int32 → Int32 → Int32 → g_M → Option (Int32 × g_M)
  | 0, _, _, _, _, _ => none
  | n + 1, v1, v2, v3, v4, M => (if v2 ≤ v4 then (some (v3, M)) else (((x_X3_letterAt (v1 + v4) M).bind fun u1 => x_X3_numberAt_L5   n v1 v2 (((v3 * (10 : Int32)) + u1.1) - (48 : Int32)) (v4 + (1 : Int32)) u1.2)))
set_option maxHeartbeats 4000000 in
set_option maxRecDepth 100000 in
theorem z_X3_numberAt_L5 {X : g_X} (hok : g_ok X)  {r : Int32 × g_M}  : ∀ (n : Nat) (v1 : Int32) (v2 : Int32) (v3 : Int32) (v4 : Int32) (M : g_M), x_X3_numberAt_L5   n v1 v2 v3 v4 M = some r → g_Go X cX3_numberAt RX3 5 (some .int) 1 21 r 5 [some (.inr 19), some (.inl v1), some (.inl v2), some (.inl v3), some (.inl v4)] [] M := by
  intro n
  induction n with
  | zero =>
    intro v1 v2 v3 v4 M h
    rw [x_X3_numberAt_L5] at h
    cases h
  | succ n ih =>
    intro v1 v2 v3 v4 M h
    rw [x_X3_numberAt_L5] at h
    refine go_iload (pc := 5) dX3_numberAt_5 rfl ?_
    refine go_iload_n (pc := 7) dX3_numberAt_7 rfl ?_
    refine go_icmp_ge (pc := 8) (tgt := 34) dX3_numberAt_8 (by decide) (fun e3 => ?_) (fun e3 => ?_)
    · replace h := (if_pos e3).symm.trans h
      refine go_iload_n (pc := 34) dX3_numberAt_34 rfl ?_
      exact go_iret (pc := 35) (Option.some.inj h).symm rfl dX3_numberAt_35 rfl
    · replace h := (if_neg e3).symm.trans h
      refine go_iload_n (pc := 11) dX3_numberAt_11 rfl ?_
      refine go_bipush (pc := 12) (v := (10 : Int32)) dX3_numberAt_12 (by decide) ?_
      refine go_imul (pc := 14) dX3_numberAt_14 ?_
      refine go_aload_n (pc := 15) dX3_numberAt_15 rfl ?_
      refine go_iload_n (pc := 16) dX3_numberAt_16 rfl ?_
      refine go_iload (pc := 17) dX3_numberAt_17 rfl ?_
      refine go_iadd (pc := 19) dX3_numberAt_19 ?_
      obtain ⟨u1, c2, h⟩ := g_bd h
      refine go_callV (pc := 20) (as := [.inl (v1 + v4)]) (st := [.inl (v3 * (10 : Int32))]) (r := u1.1) (M1 := u1.2) (z_X3_letterAt hok  c2) cw_X3_letterAt ml_X3_41 (show g_lay[19]? = some _ from rfl) rfl rfl (by decide) (Nat.le_of_ble_eq_true rfl) rfl dX3_numberAt_20 ?_
      refine go_iadd (pc := 23) dX3_numberAt_23 ?_
      refine go_bipush (pc := 24) (v := (48 : Int32)) dX3_numberAt_24 (by decide) ?_
      refine go_isub (pc := 26) dX3_numberAt_26 ?_
      refine go_istore_n (pc := 27) (lv' := [some (.inr 19), some (.inl v1), some (.inl v2), some (.inl (((v3 * (10 : Int32)) + u1.1) - (48 : Int32))), some (.inl v4)]) dX3_numberAt_27 (by decide) rfl ?_
      refine go_iinc (pc := 28) (v := (1 : Int32)) (lv' := [some (.inr 19), some (.inl v1), some (.inl v2), some (.inl (((v3 * (10 : Int32)) + u1.1) - (48 : Int32))), some (.inl (v4 + (1 : Int32)))]) dX3_numberAt_28 rfl (by decide) (by decide) rfl ?_
      refine go_goto (pc := 31) (tgt := 5) dX3_numberAt_31 (by decide) ?_
      exact go_to (ih _ _ _ _ _ h) (And.intro rfl (And.intro rfl (And.intro rfl (And.intro rfl (And.intro rfl trivial)))))
def x_X3_numberAt  (p1 p2 : Int32) (M : g_M) : Option (Int32 × g_M) := (x_X3_numberAt_L5   g_F p1 p2 (0 : Int32) (0 : Int32) M)
set_option maxHeartbeats 4000000 in
set_option maxRecDepth 100000 in
theorem z_X3_numberAt {X : g_X} (hok : g_ok X)  {p1 p2 : Int32} {M : g_M} {r : Int32 × g_M} (h : x_X3_numberAt p1 p2 M = some r) : g_Con X yX3_numberAt cX3_numberAt 5 (some .int) 1 21 [.inr 19, .inl p1, .inl p2] M r := by
  rw [x_X3_numberAt] at h
  refine g_con hok (plainFor_of_name (by decide +kernel)) (Nat.le_of_ble_eq_true rfl) (go_to (lv2 := [some (.inr 19), some (.inl p1), some (.inl p2), none, none]) (own := RX3) ?_ (And.intro rfl (And.intro rfl (And.intro rfl trivial))))
  refine go_iconst (pc := 0) (v := (0 : Int32)) dX3_numberAt_0 (by decide) ?_
  refine go_istore_n (pc := 1) (lv' := [some (.inr 19), some (.inl p1), some (.inl p2), some (.inl (0 : Int32)), none]) dX3_numberAt_1 (by decide) rfl ?_
  refine go_iconst (pc := 2) (v := (0 : Int32)) dX3_numberAt_2 (by decide) ?_
  refine go_istore (pc := 3) (lv' := [some (.inr 19), some (.inl p1), some (.inl p2), some (.inl (0 : Int32)), some (.inl (0 : Int32))]) dX3_numberAt_3 (by decide) rfl ?_
  exact go_to (z_X3_numberAt_L5 hok   g_F _ _ _ _ _ h) (And.intro rfl (And.intro rfl (And.intro rfl (And.intro rfl (And.intro rfl trivial)))))
def x_X8_isHour  (p0 : Int32) (M : g_M) : Option (Int32 × g_M) := (if p0 < 0 then (some ((0 : Int32), M)) else (if (12 : Int32) ≤ p0 then (some ((0 : Int32), M)) else (some ((1 : Int32), M))))
set_option maxHeartbeats 4000000 in
set_option maxRecDepth 100000 in
theorem z_X8_isHour {X : g_X} (hok : g_ok X)  {p0 : Int32} {M : g_M} {r : Int32 × g_M} (h : x_X8_isHour p0 M = some r) : g_Con X yX8_isHour cX8_isHour 1 (some .boolean) 0 0 [.inl p0] M r := by
  rw [x_X8_isHour] at h
  refine g_con hok (plainFor_of_name (by decide +kernel)) (Nat.le_of_ble_eq_true rfl) (go_to (lv2 := [some (.inl p0)]) (own := RX8) ?_ (And.intro rfl trivial))
  refine go_iload_n (pc := 0) dX8_isHour_0 rfl ?_
  refine go_if_lt (pc := 1) (tgt := 14) dX8_isHour_1 (by decide) (fun e2 => ?_) (fun e2 => ?_)
  · replace h := (if_pos e2).symm.trans h
    refine go_iconst (pc := 14) (v := (0 : Int32)) dX8_isHour_14 (by decide) ?_
    exact go_iret (pc := 15) (Option.some.inj h).symm rfl dX8_isHour_15 rfl
  · replace h := (if_neg e2).symm.trans h
    refine go_iload_n (pc := 4) dX8_isHour_4 rfl ?_
    refine go_bipush (pc := 5) (v := (12 : Int32)) dX8_isHour_5 (by decide) ?_
    refine go_icmp_ge (pc := 7) (tgt := 14) dX8_isHour_7 (by decide) (fun e1 => ?_) (fun e1 => ?_)
    · replace h := (if_pos e1).symm.trans h
      refine go_iconst (pc := 14) (v := (0 : Int32)) dX8_isHour_14 (by decide) ?_
      exact go_iret (pc := 15) (Option.some.inj h).symm rfl dX8_isHour_15 rfl
    · replace h := (if_neg e1).symm.trans h
      refine go_iconst (pc := 10) (v := (1 : Int32)) dX8_isHour_10 (by decide) ?_
      refine go_goto (pc := 11) (tgt := 15) dX8_isHour_11 (by decide) ?_
      exact go_iret (pc := 15) (Option.some.inj h).symm rfl dX8_isHour_15 rfl
def x_X3_tellTide (q2 : Nat) (p1 : Int32) (M : g_M) : Option (Int32 × g_M) := (((x_X3_numberAt p1 (2 : Int32) M).bind fun u1 => ((x_X3_numberAt (p1 + (2 : Int32)) (2 : Int32) u1.2).bind fun u3 => ((x_X8_isHour u1.1 u3.2).bind fun u5 => if u5.1 = 0 then (some ((0 : Int32), u5.2)) else (if u3.1 ≤ (40 : Int32) then (((x_X2_setTide q2 u1.1 u3.1 u5.2).bind fun u7 => some ((1 : Int32), u7.2))) else (some ((0 : Int32), u5.2)))))))
set_option maxHeartbeats 4000000 in
set_option maxRecDepth 100000 in
theorem z_X3_tellTide {X : g_X} (hok : g_ok X) {q2 : Nat} (hq2 : g_isH q2) {p1 : Int32} {M : g_M} {r : Int32 × g_M} (h : x_X3_tellTide q2 p1 M = some r) : g_Con X yX3_tellTide cX3_tellTide 5 (some .boolean) 2 45 [.inr 19, .inl p1, .inr q2] M r := by
  rw [x_X3_tellTide] at h
  refine g_con hok (plainFor_of_name (by decide +kernel)) (Nat.le_of_ble_eq_true rfl) (go_to (lv2 := [some (.inr 19), some (.inl p1), some (.inr q2), none, none]) (own := RX3) ?_ (And.intro rfl (And.intro rfl (And.intro rfl trivial))))
  refine go_aload_n (pc := 0) dX3_tellTide_0 rfl ?_
  refine go_iload_n (pc := 1) dX3_tellTide_1 rfl ?_
  refine go_iconst (pc := 2) (v := (2 : Int32)) dX3_tellTide_2 (by decide) ?_
  obtain ⟨u1, c2, h⟩ := g_bd h
  refine go_callV (pc := 3) (as := [.inl p1, .inl (2 : Int32)]) (st := []) (r := u1.1) (M1 := u1.2) (z_X3_numberAt hok  c2) cw_X3_numberAt ml_X3_76 (show g_lay[19]? = some _ from rfl) rfl rfl (by decide) (Nat.le_of_ble_eq_true rfl) rfl dX3_tellTide_3 ?_
  refine go_istore_n (pc := 6) (lv' := [some (.inr 19), some (.inl p1), some (.inr q2), some (.inl u1.1), none]) dX3_tellTide_6 (by decide) rfl ?_
  refine go_aload_n (pc := 7) dX3_tellTide_7 rfl ?_
  refine go_iload_n (pc := 8) dX3_tellTide_8 rfl ?_
  refine go_iconst (pc := 9) (v := (2 : Int32)) dX3_tellTide_9 (by decide) ?_
  refine go_iadd (pc := 10) dX3_tellTide_10 ?_
  refine go_iconst (pc := 11) (v := (2 : Int32)) dX3_tellTide_11 (by decide) ?_
  obtain ⟨u3, c4, h⟩ := g_bd h
  refine go_callV (pc := 12) (as := [.inl (p1 + (2 : Int32)), .inl (2 : Int32)]) (st := []) (r := u3.1) (M1 := u3.2) (z_X3_numberAt hok  c4) cw_X3_numberAt ml_X3_76 (show g_lay[19]? = some _ from rfl) rfl rfl (by decide) (Nat.le_of_ble_eq_true rfl) rfl dX3_tellTide_12 ?_
  refine go_istore (pc := 15) (lv' := [some (.inr 19), some (.inl p1), some (.inr q2), some (.inl u1.1), some (.inl u3.1)]) dX3_tellTide_15 (by decide) rfl ?_
  refine go_iload_n (pc := 17) dX3_tellTide_17 rfl ?_
  obtain ⟨u5, c6, h⟩ := g_bd h
  refine go_callSN (pc := 18) (as := [.inl u1.1]) (st := []) (r := u5.1) (M1 := u5.2) (z_X8_isHour hok  c6) cw_X8_isHour ml_X3_80 (by decide) (Nat.le_of_ble_eq_true rfl) rfl dX3_tellTide_18 ?_
  refine go_if_eq (pc := 21) (tgt := 31) dX3_tellTide_21 (by decide) (fun e10 => ?_) (fun e10 => ?_)
  · replace h := (if_pos e10).symm.trans h
    refine go_iconst (pc := 31) (v := (0 : Int32)) dX3_tellTide_31 (by decide) ?_
    exact go_iret (pc := 32) (Option.some.inj h).symm rfl dX3_tellTide_32 rfl
  · replace h := (if_neg e10).symm.trans h
    refine go_iload (pc := 24) dX3_tellTide_24 rfl ?_
    refine go_bipush (pc := 26) (v := (40 : Int32)) dX3_tellTide_26 (by decide) ?_
    refine go_icmp_le (pc := 28) (tgt := 33) dX3_tellTide_28 (by decide) (fun e9 => ?_) (fun e9 => ?_)
    · replace h := (if_pos e9).symm.trans h
      refine go_aload_n (pc := 33) dX3_tellTide_33 rfl ?_
      refine go_iload_n (pc := 34) dX3_tellTide_34 rfl ?_
      refine go_iload (pc := 35) dX3_tellTide_35 rfl ?_
      obtain ⟨u7, c8, h⟩ := g_bd h
      refine go_callV (pc := 37) (as := [.inl u1.1, .inl u3.1]) (st := []) (r := u7.1) (M1 := u7.2) (z_X2_setTide hok hq2 c8) cw_X2_setTide ml_X3_84 hq2.1 rfl rfl (by decide) (Nat.le_of_ble_eq_true rfl) rfl dX3_tellTide_37 ?_
      refine go_iconst (pc := 40) (v := (1 : Int32)) dX3_tellTide_40 (by decide) ?_
      exact go_iret (pc := 41) (Option.some.inj h).symm rfl dX3_tellTide_41 rfl
    · replace h := (if_neg e9).symm.trans h
      refine go_iconst (pc := 31) (v := (0 : Int32)) dX3_tellTide_31 (by decide) ?_
      exact go_iret (pc := 32) (Option.some.inj h).symm rfl dX3_tellTide_32 rfl
def x_X3_tellWind (q2 : Nat) (p1 : Int32) (M : g_M) : Option (Int32 × g_M) := (((x_X3_numberAt p1 (2 : Int32) M).bind fun u1 => ((x_X3_numberAt (p1 + (3 : Int32)) (1 : Int32) u1.2).bind fun u3 => ((x_X8_isHour u1.1 u3.2).bind fun u5 => if u5.1 = 0 then (some ((0 : Int32), u5.2)) else (((x_X3_letterAt (p1 + (2 : Int32)) u5.2).bind fun u7 => if u7.1 = (45 : Int32) then (((x_X2_setWind q2 u1.1 (-u3.1) u7.2).bind fun u11 => some ((1 : Int32), u11.2))) else (((x_X2_setWind q2 u1.1 u3.1 u7.2).bind fun u9 => some ((1 : Int32), u9.2)))))))))
set_option maxHeartbeats 4000000 in
set_option maxRecDepth 100000 in
theorem z_X3_tellWind {X : g_X} (hok : g_ok X) {q2 : Nat} (hq2 : g_isH q2) {p1 : Int32} {M : g_M} {r : Int32 × g_M} (h : x_X3_tellWind q2 p1 M = some r) : g_Con X yX3_tellWind cX3_tellWind 5 (some .boolean) 2 45 [.inr 19, .inl p1, .inr q2] M r := by
  rw [x_X3_tellWind] at h
  refine g_con hok (plainFor_of_name (by decide +kernel)) (Nat.le_of_ble_eq_true rfl) (go_to (lv2 := [some (.inr 19), some (.inl p1), some (.inr q2), none, none]) (own := RX3) ?_ (And.intro rfl (And.intro rfl (And.intro rfl trivial))))
  refine go_aload_n (pc := 0) dX3_tellWind_0 rfl ?_
  refine go_iload_n (pc := 1) dX3_tellWind_1 rfl ?_
  refine go_iconst (pc := 2) (v := (2 : Int32)) dX3_tellWind_2 (by decide) ?_
  obtain ⟨u1, c2, h⟩ := g_bd h
  refine go_callV (pc := 3) (as := [.inl p1, .inl (2 : Int32)]) (st := []) (r := u1.1) (M1 := u1.2) (z_X3_numberAt hok  c2) cw_X3_numberAt ml_X3_76 (show g_lay[19]? = some _ from rfl) rfl rfl (by decide) (Nat.le_of_ble_eq_true rfl) rfl dX3_tellWind_3 ?_
  refine go_istore_n (pc := 6) (lv' := [some (.inr 19), some (.inl p1), some (.inr q2), some (.inl u1.1), none]) dX3_tellWind_6 (by decide) rfl ?_
  refine go_aload_n (pc := 7) dX3_tellWind_7 rfl ?_
  refine go_iload_n (pc := 8) dX3_tellWind_8 rfl ?_
  refine go_iconst (pc := 9) (v := (3 : Int32)) dX3_tellWind_9 (by decide) ?_
  refine go_iadd (pc := 10) dX3_tellWind_10 ?_
  refine go_iconst (pc := 11) (v := (1 : Int32)) dX3_tellWind_11 (by decide) ?_
  obtain ⟨u3, c4, h⟩ := g_bd h
  refine go_callV (pc := 12) (as := [.inl (p1 + (3 : Int32)), .inl (1 : Int32)]) (st := []) (r := u3.1) (M1 := u3.2) (z_X3_numberAt hok  c4) cw_X3_numberAt ml_X3_76 (show g_lay[19]? = some _ from rfl) rfl rfl (by decide) (Nat.le_of_ble_eq_true rfl) rfl dX3_tellWind_12 ?_
  refine go_istore (pc := 15) (lv' := [some (.inr 19), some (.inl p1), some (.inr q2), some (.inl u1.1), some (.inl u3.1)]) dX3_tellWind_15 (by decide) rfl ?_
  refine go_iload_n (pc := 17) dX3_tellWind_17 rfl ?_
  obtain ⟨u5, c6, h⟩ := g_bd h
  refine go_callSN (pc := 18) (as := [.inl u1.1]) (st := []) (r := u5.1) (M1 := u5.2) (z_X8_isHour hok  c6) cw_X8_isHour ml_X3_80 (by decide) (Nat.le_of_ble_eq_true rfl) rfl dX3_tellWind_18 ?_
  refine go_if_ne (pc := 21) (tgt := 26) dX3_tellWind_21 (by decide) (fun e14 => ?_) (fun e14 => ?_)
  · replace h := (if_neg e14).symm.trans h
    refine go_aload_n (pc := 26) dX3_tellWind_26 rfl ?_
    refine go_iload_n (pc := 27) dX3_tellWind_27 rfl ?_
    refine go_aload_n (pc := 28) dX3_tellWind_28 rfl ?_
    refine go_iload_n (pc := 29) dX3_tellWind_29 rfl ?_
    refine go_iconst (pc := 30) (v := (2 : Int32)) dX3_tellWind_30 (by decide) ?_
    refine go_iadd (pc := 31) dX3_tellWind_31 ?_
    obtain ⟨u7, c8, h⟩ := g_bd h
    refine go_callV (pc := 32) (as := [.inl (p1 + (2 : Int32))]) (st := [.inl u1.1, .inr q2]) (r := u7.1) (M1 := u7.2) (z_X3_letterAt hok  c8) cw_X3_letterAt ml_X3_41 (show g_lay[19]? = some _ from rfl) rfl rfl (by decide) (Nat.le_of_ble_eq_true rfl) rfl dX3_tellWind_32 ?_
    refine go_bipush (pc := 35) (v := (45 : Int32)) dX3_tellWind_35 (by decide) ?_
    refine go_icmp_ne (pc := 37) (tgt := 46) dX3_tellWind_37 (by decide) (fun e13 => ?_) (fun e13 => ?_)
    · replace h := (if_neg e13).symm.trans h
      refine go_iload (pc := 46) dX3_tellWind_46 rfl ?_
      obtain ⟨u9, c10, h⟩ := g_bd h
      refine go_callV (pc := 48) (as := [.inl u1.1, .inl u3.1]) (st := []) (r := u9.1) (M1 := u9.2) (z_X2_setWind hok hq2 c10) cw_X2_setWind ml_X3_90 hq2.1 rfl rfl (by decide) (Nat.le_of_ble_eq_true rfl) rfl dX3_tellWind_48 ?_
      refine go_iconst (pc := 51) (v := (1 : Int32)) dX3_tellWind_51 (by decide) ?_
      exact go_iret (pc := 52) (Option.some.inj h).symm rfl dX3_tellWind_52 rfl
    · replace h := (if_pos e13).symm.trans h
      refine go_iload (pc := 40) dX3_tellWind_40 rfl ?_
      refine go_ineg (pc := 42) dX3_tellWind_42 ?_
      refine go_goto (pc := 43) (tgt := 48) dX3_tellWind_43 (by decide) ?_
      obtain ⟨u11, c12, h⟩ := g_bd h
      refine go_callV (pc := 48) (as := [.inl u1.1, .inl (-u3.1)]) (st := []) (r := u11.1) (M1 := u11.2) (z_X2_setWind hok hq2 c12) cw_X2_setWind ml_X3_90 hq2.1 rfl rfl (by decide) (Nat.le_of_ble_eq_true rfl) rfl dX3_tellWind_48 ?_
      refine go_iconst (pc := 51) (v := (1 : Int32)) dX3_tellWind_51 (by decide) ?_
      exact go_iret (pc := 52) (Option.some.inj h).symm rfl dX3_tellWind_52 rfl
  · replace h := (if_pos e14).symm.trans h
    refine go_iconst (pc := 24) (v := (0 : Int32)) dX3_tellWind_24 (by decide) ?_
    exact go_iret (pc := 25) (Option.some.inj h).symm rfl dX3_tellWind_25 rfl
def x_X3_tellRing (q2 : Nat) (p1 : Int32) (M : g_M) : Option (Int32 × g_M) := (((x_X3_numberAt (p1 + (2 : Int32)) (2 : Int32) M).bind fun u1 => if (6 : Int32) ≤ (u1.2 q2 5) then (some ((0 : Int32), u1.2)) else (if u1.1 ≤ (60 : Int32) then (((x_X3_numberAt p1 (2 : Int32) u1.2).bind fun u3 => ((x_X2_addRing q2 u3.1 u1.1 u3.2).bind fun u5 => some ((1 : Int32), u5.2)))) else (some ((0 : Int32), u1.2)))))
set_option maxHeartbeats 4000000 in
set_option maxRecDepth 100000 in
theorem z_X3_tellRing {X : g_X} (hok : g_ok X) {q2 : Nat} (hq2 : g_isH q2) {p1 : Int32} {M : g_M} {r : Int32 × g_M} (h : x_X3_tellRing q2 p1 M = some r) : g_Con X yX3_tellRing cX3_tellRing 4 (some .boolean) 2 45 [.inr 19, .inl p1, .inr q2] M r := by
  rw [x_X3_tellRing] at h
  refine g_con hok (plainFor_of_name (by decide +kernel)) (Nat.le_of_ble_eq_true rfl) (go_to (lv2 := [some (.inr 19), some (.inl p1), some (.inr q2), none]) (own := RX3) ?_ (And.intro rfl (And.intro rfl (And.intro rfl trivial))))
  refine go_aload_n (pc := 0) dX3_tellRing_0 rfl ?_
  refine go_iload_n (pc := 1) dX3_tellRing_1 rfl ?_
  refine go_iconst (pc := 2) (v := (2 : Int32)) dX3_tellRing_2 (by decide) ?_
  refine go_iadd (pc := 3) dX3_tellRing_3 ?_
  refine go_iconst (pc := 4) (v := (2 : Int32)) dX3_tellRing_4 (by decide) ?_
  obtain ⟨u1, c2, h⟩ := g_bd h
  refine go_callV (pc := 5) (as := [.inl (p1 + (2 : Int32)), .inl (2 : Int32)]) (st := []) (r := u1.1) (M1 := u1.2) (z_X3_numberAt hok  c2) cw_X3_numberAt ml_X3_76 (show g_lay[19]? = some _ from rfl) rfl rfl (by decide) (Nat.le_of_ble_eq_true rfl) rfl dX3_tellRing_5 ?_
  refine go_istore_n (pc := 8) (lv' := [some (.inr 19), some (.inl p1), some (.inr q2), some (.inl u1.1)]) dX3_tellRing_8 (by decide) rfl ?_
  refine go_aload_n (pc := 9) dX3_tellRing_9 rfl ?_
  refine gf_3_93 (pc := 10) hq2 dX3_tellRing_10 ?_
  refine go_bipush (pc := 13) (v := (6 : Int32)) dX3_tellRing_13 (by decide) ?_
  refine go_icmp_ge (pc := 15) (tgt := 24) dX3_tellRing_15 (by decide) (fun e8 => ?_) (fun e8 => ?_)
  · replace h := (if_pos e8).symm.trans h
    refine go_iconst (pc := 24) (v := (0 : Int32)) dX3_tellRing_24 (by decide) ?_
    exact go_iret (pc := 25) (Option.some.inj h).symm rfl dX3_tellRing_25 rfl
  · replace h := (if_neg e8).symm.trans h
    refine go_iload_n (pc := 18) dX3_tellRing_18 rfl ?_
    refine go_bipush (pc := 19) (v := (60 : Int32)) dX3_tellRing_19 (by decide) ?_
    refine go_icmp_le (pc := 21) (tgt := 26) dX3_tellRing_21 (by decide) (fun e7 => ?_) (fun e7 => ?_)
    · replace h := (if_pos e7).symm.trans h
      refine go_aload_n (pc := 26) dX3_tellRing_26 rfl ?_
      refine go_aload_n (pc := 27) dX3_tellRing_27 rfl ?_
      refine go_iload_n (pc := 28) dX3_tellRing_28 rfl ?_
      refine go_iconst (pc := 29) (v := (2 : Int32)) dX3_tellRing_29 (by decide) ?_
      obtain ⟨u3, c4, h⟩ := g_bd h
      refine go_callV (pc := 30) (as := [.inl p1, .inl (2 : Int32)]) (st := [.inr q2]) (r := u3.1) (M1 := u3.2) (z_X3_numberAt hok  c4) cw_X3_numberAt ml_X3_76 (show g_lay[19]? = some _ from rfl) rfl rfl (by decide) (Nat.le_of_ble_eq_true rfl) rfl dX3_tellRing_30 ?_
      refine go_iload_n (pc := 33) dX3_tellRing_33 rfl ?_
      obtain ⟨u5, c6, h⟩ := g_bd h
      refine go_callV (pc := 34) (as := [.inl u3.1, .inl u1.1]) (st := []) (r := u5.1) (M1 := u5.2) (z_X2_addRing hok hq2 c6) cw_X2_addRing ml_X3_96 hq2.1 rfl rfl (by decide) (Nat.le_of_ble_eq_true rfl) rfl dX3_tellRing_34 ?_
      refine go_iconst (pc := 37) (v := (1 : Int32)) dX3_tellRing_37 (by decide) ?_
      exact go_iret (pc := 38) (Option.some.inj h).symm rfl dX3_tellRing_38 rfl
    · replace h := (if_neg e7).symm.trans h
      refine go_iconst (pc := 24) (v := (0 : Int32)) dX3_tellRing_24 (by decide) ?_
      exact go_iret (pc := 25) (Option.some.inj h).symm rfl dX3_tellRing_25 rfl
def x_X3_tellBoat (q2 : Nat) (p1 : Int32) (M : g_M) : Option (Int32 × g_M) := (((x_X3_numberAt p1 (1 : Int32) M).bind fun u1 => ((x_X3_numberAt (p1 + (2 : Int32)) (1 : Int32) u1.2).bind fun u3 => ((x_X3_numberAt (p1 + (3 : Int32)) (1 : Int32) u3.2).bind fun u5 => ((x_X3_numberAt (p1 + (6 : Int32)) (2 : Int32) u5.2).bind fun u7 => if (5 : Int32) ≤ (u7.2 q2 6) then (some ((0 : Int32), u7.2)) else (if (6 : Int32) ≤ u1.1 then (some ((0 : Int32), u7.2)) else (((x_X2_hasRing q2 u3.1 u7.2).bind fun u9 => if u9.1 = 0 then (some ((0 : Int32), u9.2)) else (((x_X2_hasRing q2 u5.1 u9.2).bind fun u11 => if u11.1 = 0 then (some ((0 : Int32), u11.2)) else (if u7.1 < (1 : Int32) then (some ((0 : Int32), u11.2)) else (if u7.1 ≤ (20 : Int32) then (((x_X2_setBoatCell q2 (u11.2 q2 6) (0 : Int32) u1.1 (g_upd u11.2 q2 6 ((u11.2 q2 6) + (1 : Int32)))).bind fun u13 => ((x_X3_numberAt (p1 + (1 : Int32)) (1 : Int32) u13.2).bind fun u15 => ((x_X2_setBoatCell q2 (u11.2 q2 6) (1 : Int32) u15.1 u15.2).bind fun u17 => ((x_X2_setBoatCell q2 (u11.2 q2 6) (2 : Int32) u3.1 u17.2).bind fun u19 => ((x_X2_setBoatCell q2 (u11.2 q2 6) (3 : Int32) u5.1 u19.2).bind fun u21 => ((x_X3_numberAt (p1 + (4 : Int32)) (2 : Int32) u21.2).bind fun u23 => ((x_X2_setBoatCell q2 (u11.2 q2 6) (4 : Int32) u23.1 u23.2).bind fun u25 => ((x_X2_setBoatCell q2 (u11.2 q2 6) (5 : Int32) u7.1 u25.2).bind fun u27 => ((x_X3_numberAt (p1 + (8 : Int32)) (2 : Int32) u27.2).bind fun u29 => ((x_X2_setBoatCell q2 (u11.2 q2 6) (6 : Int32) u29.1 u29.2).bind fun u31 => some ((1 : Int32), u31.2)))))))))))) else (some ((0 : Int32), u11.2))))))))))))))
set_option maxHeartbeats 4000000 in
set_option maxRecDepth 100000 in
theorem z_X3_tellBoat {X : g_X} (hok : g_ok X) {q2 : Nat} (hq2 : g_isH q2) {p1 : Int32} {M : g_M} {r : Int32 × g_M} (h : x_X3_tellBoat q2 p1 M = some r) : g_Con X yX3_tellBoat cX3_tellBoat 8 (some .boolean) 2 45 [.inr 19, .inl p1, .inr q2] M r := by
  rw [x_X3_tellBoat] at h
  refine g_con hok (plainFor_of_name (by decide +kernel)) (Nat.le_of_ble_eq_true rfl) (go_to (lv2 := [some (.inr 19), some (.inl p1), some (.inr q2), none, none, none, none, none]) (own := RX3) ?_ (And.intro rfl (And.intro rfl (And.intro rfl trivial))))
  refine go_aload_n (pc := 0) dX3_tellBoat_0 rfl ?_
  refine go_iload_n (pc := 1) dX3_tellBoat_1 rfl ?_
  refine go_iconst (pc := 2) (v := (1 : Int32)) dX3_tellBoat_2 (by decide) ?_
  obtain ⟨u1, c2, h⟩ := g_bd h
  refine go_callV (pc := 3) (as := [.inl p1, .inl (1 : Int32)]) (st := []) (r := u1.1) (M1 := u1.2) (z_X3_numberAt hok  c2) cw_X3_numberAt ml_X3_76 (show g_lay[19]? = some _ from rfl) rfl rfl (by decide) (Nat.le_of_ble_eq_true rfl) rfl dX3_tellBoat_3 ?_
  refine go_istore_n (pc := 6) (lv' := [some (.inr 19), some (.inl p1), some (.inr q2), some (.inl u1.1), none, none, none, none]) dX3_tellBoat_6 (by decide) rfl ?_
  refine go_aload_n (pc := 7) dX3_tellBoat_7 rfl ?_
  refine go_iload_n (pc := 8) dX3_tellBoat_8 rfl ?_
  refine go_iconst (pc := 9) (v := (2 : Int32)) dX3_tellBoat_9 (by decide) ?_
  refine go_iadd (pc := 10) dX3_tellBoat_10 ?_
  refine go_iconst (pc := 11) (v := (1 : Int32)) dX3_tellBoat_11 (by decide) ?_
  obtain ⟨u3, c4, h⟩ := g_bd h
  refine go_callV (pc := 12) (as := [.inl (p1 + (2 : Int32)), .inl (1 : Int32)]) (st := []) (r := u3.1) (M1 := u3.2) (z_X3_numberAt hok  c4) cw_X3_numberAt ml_X3_76 (show g_lay[19]? = some _ from rfl) rfl rfl (by decide) (Nat.le_of_ble_eq_true rfl) rfl dX3_tellBoat_12 ?_
  refine go_istore (pc := 15) (lv' := [some (.inr 19), some (.inl p1), some (.inr q2), some (.inl u1.1), some (.inl u3.1), none, none, none]) dX3_tellBoat_15 (by decide) rfl ?_
  refine go_aload_n (pc := 17) dX3_tellBoat_17 rfl ?_
  refine go_iload_n (pc := 18) dX3_tellBoat_18 rfl ?_
  refine go_iconst (pc := 19) (v := (3 : Int32)) dX3_tellBoat_19 (by decide) ?_
  refine go_iadd (pc := 20) dX3_tellBoat_20 ?_
  refine go_iconst (pc := 21) (v := (1 : Int32)) dX3_tellBoat_21 (by decide) ?_
  obtain ⟨u5, c6, h⟩ := g_bd h
  refine go_callV (pc := 22) (as := [.inl (p1 + (3 : Int32)), .inl (1 : Int32)]) (st := []) (r := u5.1) (M1 := u5.2) (z_X3_numberAt hok  c6) cw_X3_numberAt ml_X3_76 (show g_lay[19]? = some _ from rfl) rfl rfl (by decide) (Nat.le_of_ble_eq_true rfl) rfl dX3_tellBoat_22 ?_
  refine go_istore (pc := 25) (lv' := [some (.inr 19), some (.inl p1), some (.inr q2), some (.inl u1.1), some (.inl u3.1), some (.inl u5.1), none, none]) dX3_tellBoat_25 (by decide) rfl ?_
  refine go_aload_n (pc := 27) dX3_tellBoat_27 rfl ?_
  refine go_iload_n (pc := 28) dX3_tellBoat_28 rfl ?_
  refine go_bipush (pc := 29) (v := (6 : Int32)) dX3_tellBoat_29 (by decide) ?_
  refine go_iadd (pc := 31) dX3_tellBoat_31 ?_
  refine go_iconst (pc := 32) (v := (2 : Int32)) dX3_tellBoat_32 (by decide) ?_
  obtain ⟨u7, c8, h⟩ := g_bd h
  refine go_callV (pc := 33) (as := [.inl (p1 + (6 : Int32)), .inl (2 : Int32)]) (st := []) (r := u7.1) (M1 := u7.2) (z_X3_numberAt hok  c8) cw_X3_numberAt ml_X3_76 (show g_lay[19]? = some _ from rfl) rfl rfl (by decide) (Nat.le_of_ble_eq_true rfl) rfl dX3_tellBoat_33 ?_
  refine go_istore (pc := 36) (lv' := [some (.inr 19), some (.inl p1), some (.inr q2), some (.inl u1.1), some (.inl u3.1), some (.inl u5.1), some (.inl u7.1), none]) dX3_tellBoat_36 (by decide) rfl ?_
  refine go_aload_n (pc := 38) dX3_tellBoat_38 rfl ?_
  refine gf_3_99 (pc := 39) hq2 dX3_tellBoat_39 ?_
  refine go_iconst (pc := 42) (v := (5 : Int32)) dX3_tellBoat_42 (by decide) ?_
  refine go_icmp_ge (pc := 43) (tgt := 83) dX3_tellBoat_43 (by decide) (fun e38 => ?_) (fun e38 => ?_)
  · replace h := (if_pos e38).symm.trans h
    refine go_iconst (pc := 83) (v := (0 : Int32)) dX3_tellBoat_83 (by decide) ?_
    exact go_iret (pc := 84) (Option.some.inj h).symm rfl dX3_tellBoat_84 rfl
  · replace h := (if_neg e38).symm.trans h
    refine go_iload_n (pc := 46) dX3_tellBoat_46 rfl ?_
    refine go_bipush (pc := 47) (v := (6 : Int32)) dX3_tellBoat_47 (by decide) ?_
    refine go_icmp_ge (pc := 49) (tgt := 83) dX3_tellBoat_49 (by decide) (fun e37 => ?_) (fun e37 => ?_)
    · replace h := (if_pos e37).symm.trans h
      refine go_iconst (pc := 83) (v := (0 : Int32)) dX3_tellBoat_83 (by decide) ?_
      exact go_iret (pc := 84) (Option.some.inj h).symm rfl dX3_tellBoat_84 rfl
    · replace h := (if_neg e37).symm.trans h
      refine go_aload_n (pc := 52) dX3_tellBoat_52 rfl ?_
      refine go_iload (pc := 53) dX3_tellBoat_53 rfl ?_
      obtain ⟨u9, c10, h⟩ := g_bd h
      refine go_callV (pc := 55) (as := [.inl u3.1]) (st := []) (r := u9.1) (M1 := u9.2) (z_X2_hasRing hok hq2 c10) cw_X2_hasRing ml_X3_102 hq2.1 rfl rfl (by decide) (Nat.le_of_ble_eq_true rfl) rfl dX3_tellBoat_55 ?_
      refine go_if_eq (pc := 58) (tgt := 83) dX3_tellBoat_58 (by decide) (fun e36 => ?_) (fun e36 => ?_)
      · replace h := (if_pos e36).symm.trans h
        refine go_iconst (pc := 83) (v := (0 : Int32)) dX3_tellBoat_83 (by decide) ?_
        exact go_iret (pc := 84) (Option.some.inj h).symm rfl dX3_tellBoat_84 rfl
      · replace h := (if_neg e36).symm.trans h
        refine go_aload_n (pc := 61) dX3_tellBoat_61 rfl ?_
        refine go_iload (pc := 62) dX3_tellBoat_62 rfl ?_
        obtain ⟨u11, c12, h⟩ := g_bd h
        refine go_callV (pc := 64) (as := [.inl u5.1]) (st := []) (r := u11.1) (M1 := u11.2) (z_X2_hasRing hok hq2 c12) cw_X2_hasRing ml_X3_102 hq2.1 rfl rfl (by decide) (Nat.le_of_ble_eq_true rfl) rfl dX3_tellBoat_64 ?_
        refine go_if_eq (pc := 67) (tgt := 83) dX3_tellBoat_67 (by decide) (fun e35 => ?_) (fun e35 => ?_)
        · replace h := (if_pos e35).symm.trans h
          refine go_iconst (pc := 83) (v := (0 : Int32)) dX3_tellBoat_83 (by decide) ?_
          exact go_iret (pc := 84) (Option.some.inj h).symm rfl dX3_tellBoat_84 rfl
        · replace h := (if_neg e35).symm.trans h
          refine go_iload (pc := 70) dX3_tellBoat_70 rfl ?_
          refine go_iconst (pc := 72) (v := (1 : Int32)) dX3_tellBoat_72 (by decide) ?_
          refine go_icmp_lt (pc := 73) (tgt := 83) dX3_tellBoat_73 (by decide) (fun e34 => ?_) (fun e34 => ?_)
          · replace h := (if_pos e34).symm.trans h
            refine go_iconst (pc := 83) (v := (0 : Int32)) dX3_tellBoat_83 (by decide) ?_
            exact go_iret (pc := 84) (Option.some.inj h).symm rfl dX3_tellBoat_84 rfl
          · replace h := (if_neg e34).symm.trans h
            refine go_iload (pc := 76) dX3_tellBoat_76 rfl ?_
            refine go_bipush (pc := 78) (v := (20 : Int32)) dX3_tellBoat_78 (by decide) ?_
            refine go_icmp_le (pc := 80) (tgt := 85) dX3_tellBoat_80 (by decide) (fun e33 => ?_) (fun e33 => ?_)
            · replace h := (if_pos e33).symm.trans h
              refine go_aload_n (pc := 85) dX3_tellBoat_85 rfl ?_
              refine gf_3_99 (pc := 86) hq2 dX3_tellBoat_86 ?_
              refine go_istore (pc := 89) (lv' := [some (.inr 19), some (.inl p1), some (.inr q2), some (.inl u1.1), some (.inl u3.1), some (.inl u5.1), some (.inl u7.1), some (.inl (u11.2 q2 6))]) dX3_tellBoat_89 (by decide) rfl ?_
              refine go_aload_n (pc := 91) dX3_tellBoat_91 rfl ?_
              refine go_dup (pc := 92) dX3_tellBoat_92 ?_
              refine gf_3_99 (pc := 93) hq2 dX3_tellBoat_93 ?_
              refine go_iconst (pc := 96) (v := (1 : Int32)) dX3_tellBoat_96 (by decide) ?_
              refine go_iadd (pc := 97) dX3_tellBoat_97 ?_
              refine gp_3_99 (pc := 98) hq2 dX3_tellBoat_98 ?_
              refine go_aload_n (pc := 101) dX3_tellBoat_101 rfl ?_
              refine go_iload (pc := 102) dX3_tellBoat_102 rfl ?_
              refine go_iconst (pc := 104) (v := (0 : Int32)) dX3_tellBoat_104 (by decide) ?_
              refine go_iload_n (pc := 105) dX3_tellBoat_105 rfl ?_
              obtain ⟨u13, c14, h⟩ := g_bd h
              refine go_callV (pc := 106) (as := [.inl (u11.2 q2 6), .inl (0 : Int32), .inl u1.1]) (st := []) (r := u13.1) (M1 := u13.2) (z_X2_setBoatCell hok hq2 c14) cw_X2_setBoatCell ml_X3_105 hq2.1 rfl rfl (by decide) (Nat.le_of_ble_eq_true rfl) rfl dX3_tellBoat_106 ?_
              refine go_aload_n (pc := 109) dX3_tellBoat_109 rfl ?_
              refine go_iload (pc := 110) dX3_tellBoat_110 rfl ?_
              refine go_iconst (pc := 112) (v := (1 : Int32)) dX3_tellBoat_112 (by decide) ?_
              refine go_aload_n (pc := 113) dX3_tellBoat_113 rfl ?_
              refine go_iload_n (pc := 114) dX3_tellBoat_114 rfl ?_
              refine go_iconst (pc := 115) (v := (1 : Int32)) dX3_tellBoat_115 (by decide) ?_
              refine go_iadd (pc := 116) dX3_tellBoat_116 ?_
              refine go_iconst (pc := 117) (v := (1 : Int32)) dX3_tellBoat_117 (by decide) ?_
              obtain ⟨u15, c16, h⟩ := g_bd h
              refine go_callV (pc := 118) (as := [.inl (p1 + (1 : Int32)), .inl (1 : Int32)]) (st := [.inl (1 : Int32), .inl (u11.2 q2 6), .inr q2]) (r := u15.1) (M1 := u15.2) (z_X3_numberAt hok  c16) cw_X3_numberAt ml_X3_76 (show g_lay[19]? = some _ from rfl) rfl rfl (by decide) (Nat.le_of_ble_eq_true rfl) rfl dX3_tellBoat_118 ?_
              obtain ⟨u17, c18, h⟩ := g_bd h
              refine go_callV (pc := 121) (as := [.inl (u11.2 q2 6), .inl (1 : Int32), .inl u15.1]) (st := []) (r := u17.1) (M1 := u17.2) (z_X2_setBoatCell hok hq2 c18) cw_X2_setBoatCell ml_X3_105 hq2.1 rfl rfl (by decide) (Nat.le_of_ble_eq_true rfl) rfl dX3_tellBoat_121 ?_
              refine go_aload_n (pc := 124) dX3_tellBoat_124 rfl ?_
              refine go_iload (pc := 125) dX3_tellBoat_125 rfl ?_
              refine go_iconst (pc := 127) (v := (2 : Int32)) dX3_tellBoat_127 (by decide) ?_
              refine go_iload (pc := 128) dX3_tellBoat_128 rfl ?_
              obtain ⟨u19, c20, h⟩ := g_bd h
              refine go_callV (pc := 130) (as := [.inl (u11.2 q2 6), .inl (2 : Int32), .inl u3.1]) (st := []) (r := u19.1) (M1 := u19.2) (z_X2_setBoatCell hok hq2 c20) cw_X2_setBoatCell ml_X3_105 hq2.1 rfl rfl (by decide) (Nat.le_of_ble_eq_true rfl) rfl dX3_tellBoat_130 ?_
              refine go_aload_n (pc := 133) dX3_tellBoat_133 rfl ?_
              refine go_iload (pc := 134) dX3_tellBoat_134 rfl ?_
              refine go_iconst (pc := 136) (v := (3 : Int32)) dX3_tellBoat_136 (by decide) ?_
              refine go_iload (pc := 137) dX3_tellBoat_137 rfl ?_
              obtain ⟨u21, c22, h⟩ := g_bd h
              refine go_callV (pc := 139) (as := [.inl (u11.2 q2 6), .inl (3 : Int32), .inl u5.1]) (st := []) (r := u21.1) (M1 := u21.2) (z_X2_setBoatCell hok hq2 c22) cw_X2_setBoatCell ml_X3_105 hq2.1 rfl rfl (by decide) (Nat.le_of_ble_eq_true rfl) rfl dX3_tellBoat_139 ?_
              refine go_aload_n (pc := 142) dX3_tellBoat_142 rfl ?_
              refine go_iload (pc := 143) dX3_tellBoat_143 rfl ?_
              refine go_iconst (pc := 145) (v := (4 : Int32)) dX3_tellBoat_145 (by decide) ?_
              refine go_aload_n (pc := 146) dX3_tellBoat_146 rfl ?_
              refine go_iload_n (pc := 147) dX3_tellBoat_147 rfl ?_
              refine go_iconst (pc := 148) (v := (4 : Int32)) dX3_tellBoat_148 (by decide) ?_
              refine go_iadd (pc := 149) dX3_tellBoat_149 ?_
              refine go_iconst (pc := 150) (v := (2 : Int32)) dX3_tellBoat_150 (by decide) ?_
              obtain ⟨u23, c24, h⟩ := g_bd h
              refine go_callV (pc := 151) (as := [.inl (p1 + (4 : Int32)), .inl (2 : Int32)]) (st := [.inl (4 : Int32), .inl (u11.2 q2 6), .inr q2]) (r := u23.1) (M1 := u23.2) (z_X3_numberAt hok  c24) cw_X3_numberAt ml_X3_76 (show g_lay[19]? = some _ from rfl) rfl rfl (by decide) (Nat.le_of_ble_eq_true rfl) rfl dX3_tellBoat_151 ?_
              obtain ⟨u25, c26, h⟩ := g_bd h
              refine go_callV (pc := 154) (as := [.inl (u11.2 q2 6), .inl (4 : Int32), .inl u23.1]) (st := []) (r := u25.1) (M1 := u25.2) (z_X2_setBoatCell hok hq2 c26) cw_X2_setBoatCell ml_X3_105 hq2.1 rfl rfl (by decide) (Nat.le_of_ble_eq_true rfl) rfl dX3_tellBoat_154 ?_
              refine go_aload_n (pc := 157) dX3_tellBoat_157 rfl ?_
              refine go_iload (pc := 158) dX3_tellBoat_158 rfl ?_
              refine go_iconst (pc := 160) (v := (5 : Int32)) dX3_tellBoat_160 (by decide) ?_
              refine go_iload (pc := 161) dX3_tellBoat_161 rfl ?_
              obtain ⟨u27, c28, h⟩ := g_bd h
              refine go_callV (pc := 163) (as := [.inl (u11.2 q2 6), .inl (5 : Int32), .inl u7.1]) (st := []) (r := u27.1) (M1 := u27.2) (z_X2_setBoatCell hok hq2 c28) cw_X2_setBoatCell ml_X3_105 hq2.1 rfl rfl (by decide) (Nat.le_of_ble_eq_true rfl) rfl dX3_tellBoat_163 ?_
              refine go_aload_n (pc := 166) dX3_tellBoat_166 rfl ?_
              refine go_iload (pc := 167) dX3_tellBoat_167 rfl ?_
              refine go_bipush (pc := 169) (v := (6 : Int32)) dX3_tellBoat_169 (by decide) ?_
              refine go_aload_n (pc := 171) dX3_tellBoat_171 rfl ?_
              refine go_iload_n (pc := 172) dX3_tellBoat_172 rfl ?_
              refine go_bipush (pc := 173) (v := (8 : Int32)) dX3_tellBoat_173 (by decide) ?_
              refine go_iadd (pc := 175) dX3_tellBoat_175 ?_
              refine go_iconst (pc := 176) (v := (2 : Int32)) dX3_tellBoat_176 (by decide) ?_
              obtain ⟨u29, c30, h⟩ := g_bd h
              refine go_callV (pc := 177) (as := [.inl (p1 + (8 : Int32)), .inl (2 : Int32)]) (st := [.inl (6 : Int32), .inl (u11.2 q2 6), .inr q2]) (r := u29.1) (M1 := u29.2) (z_X3_numberAt hok  c30) cw_X3_numberAt ml_X3_76 (show g_lay[19]? = some _ from rfl) rfl rfl (by decide) (Nat.le_of_ble_eq_true rfl) rfl dX3_tellBoat_177 ?_
              obtain ⟨u31, c32, h⟩ := g_bd h
              refine go_callV (pc := 180) (as := [.inl (u11.2 q2 6), .inl (6 : Int32), .inl u29.1]) (st := []) (r := u31.1) (M1 := u31.2) (z_X2_setBoatCell hok hq2 c32) cw_X2_setBoatCell ml_X3_105 hq2.1 rfl rfl (by decide) (Nat.le_of_ble_eq_true rfl) rfl dX3_tellBoat_180 ?_
              refine go_iconst (pc := 183) (v := (1 : Int32)) dX3_tellBoat_183 (by decide) ?_
              exact go_iret (pc := 184) (Option.some.inj h).symm rfl dX3_tellBoat_184 rfl
            · replace h := (if_neg e33).symm.trans h
              refine go_iconst (pc := 83) (v := (0 : Int32)) dX3_tellBoat_83 (by decide) ?_
              exact go_iret (pc := 84) (Option.some.inj h).symm rfl dX3_tellBoat_84 rfl
def x_X3_tellLength (q2 : Nat) (p1 : Int32) (M : g_M) : Option (Int32 × g_M) := (((x_X3_numberAt p1 (1 : Int32) M).bind fun u1 => ((x_X2_hasBoat q2 u1.1 u1.2).bind fun u3 => if u3.1 = 0 then (some ((0 : Int32), u3.2)) else (((x_X3_numberAt (p1 + (1 : Int32)) (2 : Int32) u3.2).bind fun u5 => ((x_X2_setBoatCell q2 u1.1 (4 : Int32) u5.1 u5.2).bind fun u7 => some ((1 : Int32), u7.2)))))))
set_option maxHeartbeats 4000000 in
set_option maxRecDepth 100000 in
theorem z_X3_tellLength {X : g_X} (hok : g_ok X) {q2 : Nat} (hq2 : g_isH q2) {p1 : Int32} {M : g_M} {r : Int32 × g_M} (h : x_X3_tellLength q2 p1 M = some r) : g_Con X yX3_tellLength cX3_tellLength 4 (some .boolean) 2 45 [.inr 19, .inl p1, .inr q2] M r := by
  rw [x_X3_tellLength] at h
  refine g_con hok (plainFor_of_name (by decide +kernel)) (Nat.le_of_ble_eq_true rfl) (go_to (lv2 := [some (.inr 19), some (.inl p1), some (.inr q2), none]) (own := RX3) ?_ (And.intro rfl (And.intro rfl (And.intro rfl trivial))))
  refine go_aload_n (pc := 0) dX3_tellLength_0 rfl ?_
  refine go_iload_n (pc := 1) dX3_tellLength_1 rfl ?_
  refine go_iconst (pc := 2) (v := (1 : Int32)) dX3_tellLength_2 (by decide) ?_
  obtain ⟨u1, c2, h⟩ := g_bd h
  refine go_callV (pc := 3) (as := [.inl p1, .inl (1 : Int32)]) (st := []) (r := u1.1) (M1 := u1.2) (z_X3_numberAt hok  c2) cw_X3_numberAt ml_X3_76 (show g_lay[19]? = some _ from rfl) rfl rfl (by decide) (Nat.le_of_ble_eq_true rfl) rfl dX3_tellLength_3 ?_
  refine go_istore_n (pc := 6) (lv' := [some (.inr 19), some (.inl p1), some (.inr q2), some (.inl u1.1)]) dX3_tellLength_6 (by decide) rfl ?_
  refine go_aload_n (pc := 7) dX3_tellLength_7 rfl ?_
  refine go_iload_n (pc := 8) dX3_tellLength_8 rfl ?_
  obtain ⟨u3, c4, h⟩ := g_bd h
  refine go_callV (pc := 9) (as := [.inl u1.1]) (st := []) (r := u3.1) (M1 := u3.2) (z_X2_hasBoat hok hq2 c4) cw_X2_hasBoat ml_X3_109 hq2.1 rfl rfl (by decide) (Nat.le_of_ble_eq_true rfl) rfl dX3_tellLength_9 ?_
  refine go_if_ne (pc := 12) (tgt := 17) dX3_tellLength_12 (by decide) (fun e9 => ?_) (fun e9 => ?_)
  · replace h := (if_neg e9).symm.trans h
    refine go_aload_n (pc := 17) dX3_tellLength_17 rfl ?_
    refine go_iload_n (pc := 18) dX3_tellLength_18 rfl ?_
    refine go_iconst (pc := 19) (v := (4 : Int32)) dX3_tellLength_19 (by decide) ?_
    refine go_aload_n (pc := 20) dX3_tellLength_20 rfl ?_
    refine go_iload_n (pc := 21) dX3_tellLength_21 rfl ?_
    refine go_iconst (pc := 22) (v := (1 : Int32)) dX3_tellLength_22 (by decide) ?_
    refine go_iadd (pc := 23) dX3_tellLength_23 ?_
    refine go_iconst (pc := 24) (v := (2 : Int32)) dX3_tellLength_24 (by decide) ?_
    obtain ⟨u5, c6, h⟩ := g_bd h
    refine go_callV (pc := 25) (as := [.inl (p1 + (1 : Int32)), .inl (2 : Int32)]) (st := [.inl (4 : Int32), .inl u1.1, .inr q2]) (r := u5.1) (M1 := u5.2) (z_X3_numberAt hok  c6) cw_X3_numberAt ml_X3_76 (show g_lay[19]? = some _ from rfl) rfl rfl (by decide) (Nat.le_of_ble_eq_true rfl) rfl dX3_tellLength_25 ?_
    obtain ⟨u7, c8, h⟩ := g_bd h
    refine go_callV (pc := 28) (as := [.inl u1.1, .inl (4 : Int32), .inl u5.1]) (st := []) (r := u7.1) (M1 := u7.2) (z_X2_setBoatCell hok hq2 c8) cw_X2_setBoatCell ml_X3_105 hq2.1 rfl rfl (by decide) (Nat.le_of_ble_eq_true rfl) rfl dX3_tellLength_28 ?_
    refine go_iconst (pc := 31) (v := (1 : Int32)) dX3_tellLength_31 (by decide) ?_
    exact go_iret (pc := 32) (Option.some.inj h).symm rfl dX3_tellLength_32 rfl
  · replace h := (if_pos e9).symm.trans h
    refine go_iconst (pc := 15) (v := (0 : Int32)) dX3_tellLength_15 (by decide) ?_
    exact go_iret (pc := 16) (Option.some.inj h).symm rfl dX3_tellLength_16 rfl
def x_X3_tellEdge (q2 : Nat) (p1 : Int32) (M : g_M) : Option (Int32 × g_M) := (((x_X3_numberAt p1 (2 : Int32) M).bind fun u1 => if u1.1 ≤ (60 : Int32) then (some ((1 : Int32), (g_upd u1.2 q2 8 u1.1))) else (some ((0 : Int32), u1.2))))
set_option maxHeartbeats 4000000 in
set_option maxRecDepth 100000 in
theorem z_X3_tellEdge {X : g_X} (hok : g_ok X) {q2 : Nat} (hq2 : g_isH q2) {p1 : Int32} {M : g_M} {r : Int32 × g_M} (h : x_X3_tellEdge q2 p1 M = some r) : g_Con X yX3_tellEdge cX3_tellEdge 4 (some .boolean) 2 45 [.inr 19, .inl p1, .inr q2] M r := by
  rw [x_X3_tellEdge] at h
  refine g_con hok (plainFor_of_name (by decide +kernel)) (Nat.le_of_ble_eq_true rfl) (go_to (lv2 := [some (.inr 19), some (.inl p1), some (.inr q2), none]) (own := RX3) ?_ (And.intro rfl (And.intro rfl (And.intro rfl trivial))))
  refine go_aload_n (pc := 0) dX3_tellEdge_0 rfl ?_
  refine go_iload_n (pc := 1) dX3_tellEdge_1 rfl ?_
  refine go_iconst (pc := 2) (v := (2 : Int32)) dX3_tellEdge_2 (by decide) ?_
  obtain ⟨u1, c2, h⟩ := g_bd h
  refine go_callV (pc := 3) (as := [.inl p1, .inl (2 : Int32)]) (st := []) (r := u1.1) (M1 := u1.2) (z_X3_numberAt hok  c2) cw_X3_numberAt ml_X3_76 (show g_lay[19]? = some _ from rfl) rfl rfl (by decide) (Nat.le_of_ble_eq_true rfl) rfl dX3_tellEdge_3 ?_
  refine go_istore_n (pc := 6) (lv' := [some (.inr 19), some (.inl p1), some (.inr q2), some (.inl u1.1)]) dX3_tellEdge_6 (by decide) rfl ?_
  refine go_iload_n (pc := 7) dX3_tellEdge_7 rfl ?_
  refine go_bipush (pc := 8) (v := (60 : Int32)) dX3_tellEdge_8 (by decide) ?_
  refine go_icmp_le (pc := 10) (tgt := 15) dX3_tellEdge_10 (by decide) (fun e3 => ?_) (fun e3 => ?_)
  · replace h := (if_pos e3).symm.trans h
    refine go_aload_n (pc := 15) dX3_tellEdge_15 rfl ?_
    refine go_iload_n (pc := 16) dX3_tellEdge_16 rfl ?_
    refine gp_3_112 (pc := 17) hq2 dX3_tellEdge_17 ?_
    refine go_iconst (pc := 20) (v := (1 : Int32)) dX3_tellEdge_20 (by decide) ?_
    exact go_iret (pc := 21) (Option.some.inj h).symm rfl dX3_tellEdge_21 rfl
  · replace h := (if_neg e3).symm.trans h
    refine go_iconst (pc := 13) (v := (0 : Int32)) dX3_tellEdge_13 (by decide) ?_
    exact go_iret (pc := 14) (Option.some.inj h).symm rfl dX3_tellEdge_14 rfl
def x_X3_tellStatement (q2 : Nat) (p1 : Int32) (M : g_M) : Option (Int32 × g_M) := (((x_X3_letterAt p1 M).bind fun u1 => if u1.1 = (98 : Int32) then (((x_X3_tellBoat q2 (p1 + (1 : Int32)) u1.2).bind fun u3 => (if g_isb u3.1 = true then (some (u3.1, u3.2)) else none))) else if u1.1 = (108 : Int32) then (((x_X3_tellLength q2 (p1 + (1 : Int32)) u1.2).bind fun u6 => (if g_isb u6.1 = true then (some (u6.1, u6.2)) else none))) else if u1.1 = (114 : Int32) then (((x_X3_tellRing q2 (p1 + (1 : Int32)) u1.2).bind fun u9 => (if g_isb u9.1 = true then (some (u9.1, u9.2)) else none))) else if u1.1 = (116 : Int32) then (((x_X3_tellTide q2 (p1 + (1 : Int32)) u1.2).bind fun u12 => (if g_isb u12.1 = true then (some (u12.1, u12.2)) else none))) else if u1.1 = (119 : Int32) then (((x_X3_tellWind q2 (p1 + (1 : Int32)) u1.2).bind fun u15 => (if g_isb u15.1 = true then (some (u15.1, u15.2)) else none))) else (((x_X3_tellEdge q2 (p1 + (1 : Int32)) u1.2).bind fun u18 => (if g_isb u18.1 = true then (some (u18.1, u18.2)) else none)))))
set_option maxHeartbeats 4000000 in
set_option maxRecDepth 100000 in
theorem z_X3_tellStatement {X : g_X} (hok : g_ok X) {q2 : Nat} (hq2 : g_isH q2) {p1 : Int32} {M : g_M} {r : Int32 × g_M} (h : x_X3_tellStatement q2 p1 M = some r) : g_Con X yX3_tellStatement cX3_tellStatement 3 (some .boolean) 3 72 [.inr 19, .inl p1, .inr q2] M r := by
  rw [x_X3_tellStatement] at h
  refine g_con hok (plainFor_of_name (by decide +kernel)) (Nat.le_of_ble_eq_true rfl) (go_to (lv2 := [some (.inr 19), some (.inl p1), some (.inr q2)]) (own := RX3) ?_ (And.intro rfl (And.intro rfl (And.intro rfl trivial))))
  refine go_aload_n (pc := 0) dX3_tellStatement_0 rfl ?_
  refine go_iload_n (pc := 1) dX3_tellStatement_1 rfl ?_
  obtain ⟨u1, c2, h⟩ := g_bd h
  refine go_callV (pc := 2) (as := [.inl p1]) (st := []) (r := u1.1) (M1 := u1.2) (z_X3_letterAt hok  c2) cw_X3_letterAt ml_X3_41 (show g_lay[19]? = some _ from rfl) rfl rfl (by decide) (Nat.le_of_ble_eq_true rfl) rfl dX3_tellStatement_2 ?_
  by_cases e21 : u1.1 = (98 : Int32)
  · replace h := (if_pos e21).symm.trans h
    refine go_look (pc := 5) (off := 78) (tgt := 83) dX3_tellStatement_5 (by decide) (by rw [e21]; decide) (by decide) ?_
    refine go_aload_n (pc := 83) dX3_tellStatement_83 rfl ?_
    refine go_iload_n (pc := 84) dX3_tellStatement_84 rfl ?_
    refine go_iconst (pc := 85) (v := (1 : Int32)) dX3_tellStatement_85 (by decide) ?_
    refine go_iadd (pc := 86) dX3_tellStatement_86 ?_
    refine go_aload_n (pc := 87) dX3_tellStatement_87 rfl ?_
    obtain ⟨u3, c4, h⟩ := g_bd h
    refine go_callV (pc := 88) (as := [.inl (p1 + (1 : Int32)), .inr q2]) (st := []) (r := u3.1) (M1 := u3.2) (z_X3_tellBoat hok hq2 c4) cw_X3_tellBoat ml_X3_67 (show g_lay[19]? = some _ from rfl) rfl rfl (by decide) (Nat.le_of_ble_eq_true rfl) rfl dX3_tellStatement_88 ?_
    obtain ⟨i5, h⟩ := g_gd h
    exact go_iret (pc := 91) (Option.some.inj h).symm rfl dX3_tellStatement_91 (g_nb i5)
  · replace h := (if_neg e21).symm.trans h
    by_cases e22 : u1.1 = (108 : Int32)
    · replace h := (if_pos e22).symm.trans h
      refine go_look (pc := 5) (off := 87) (tgt := 92) dX3_tellStatement_5 (by decide) (by rw [e22]; decide) (by decide) ?_
      refine go_aload_n (pc := 92) dX3_tellStatement_92 rfl ?_
      refine go_iload_n (pc := 93) dX3_tellStatement_93 rfl ?_
      refine go_iconst (pc := 94) (v := (1 : Int32)) dX3_tellStatement_94 (by decide) ?_
      refine go_iadd (pc := 95) dX3_tellStatement_95 ?_
      refine go_aload_n (pc := 96) dX3_tellStatement_96 rfl ?_
      obtain ⟨u6, c7, h⟩ := g_bd h
      refine go_callV (pc := 97) (as := [.inl (p1 + (1 : Int32)), .inr q2]) (st := []) (r := u6.1) (M1 := u6.2) (z_X3_tellLength hok hq2 c7) cw_X3_tellLength ml_X3_70 (show g_lay[19]? = some _ from rfl) rfl rfl (by decide) (Nat.le_of_ble_eq_true rfl) rfl dX3_tellStatement_97 ?_
      obtain ⟨i8, h⟩ := g_gd h
      exact go_iret (pc := 100) (Option.some.inj h).symm rfl dX3_tellStatement_100 (g_nb i8)
    · replace h := (if_neg e22).symm.trans h
      by_cases e23 : u1.1 = (114 : Int32)
      · replace h := (if_pos e23).symm.trans h
        refine go_look (pc := 5) (off := 69) (tgt := 74) dX3_tellStatement_5 (by decide) (by rw [e23]; decide) (by decide) ?_
        refine go_aload_n (pc := 74) dX3_tellStatement_74 rfl ?_
        refine go_iload_n (pc := 75) dX3_tellStatement_75 rfl ?_
        refine go_iconst (pc := 76) (v := (1 : Int32)) dX3_tellStatement_76 (by decide) ?_
        refine go_iadd (pc := 77) dX3_tellStatement_77 ?_
        refine go_aload_n (pc := 78) dX3_tellStatement_78 rfl ?_
        obtain ⟨u9, c10, h⟩ := g_bd h
        refine go_callV (pc := 79) (as := [.inl (p1 + (1 : Int32)), .inr q2]) (st := []) (r := u9.1) (M1 := u9.2) (z_X3_tellRing hok hq2 c10) cw_X3_tellRing ml_X3_64 (show g_lay[19]? = some _ from rfl) rfl rfl (by decide) (Nat.le_of_ble_eq_true rfl) rfl dX3_tellStatement_79 ?_
        obtain ⟨i11, h⟩ := g_gd h
        exact go_iret (pc := 82) (Option.some.inj h).symm rfl dX3_tellStatement_82 (g_nb i11)
      · replace h := (if_neg e23).symm.trans h
        by_cases e24 : u1.1 = (116 : Int32)
        · replace h := (if_pos e24).symm.trans h
          refine go_look (pc := 5) (off := 51) (tgt := 56) dX3_tellStatement_5 (by decide) (by rw [e24]; decide) (by decide) ?_
          refine go_aload_n (pc := 56) dX3_tellStatement_56 rfl ?_
          refine go_iload_n (pc := 57) dX3_tellStatement_57 rfl ?_
          refine go_iconst (pc := 58) (v := (1 : Int32)) dX3_tellStatement_58 (by decide) ?_
          refine go_iadd (pc := 59) dX3_tellStatement_59 ?_
          refine go_aload_n (pc := 60) dX3_tellStatement_60 rfl ?_
          obtain ⟨u12, c13, h⟩ := g_bd h
          refine go_callV (pc := 61) (as := [.inl (p1 + (1 : Int32)), .inr q2]) (st := []) (r := u12.1) (M1 := u12.2) (z_X3_tellTide hok hq2 c13) cw_X3_tellTide ml_X3_57 (show g_lay[19]? = some _ from rfl) rfl rfl (by decide) (Nat.le_of_ble_eq_true rfl) rfl dX3_tellStatement_61 ?_
          obtain ⟨i14, h⟩ := g_gd h
          exact go_iret (pc := 64) (Option.some.inj h).symm rfl dX3_tellStatement_64 (g_nb i14)
        · replace h := (if_neg e24).symm.trans h
          by_cases e25 : u1.1 = (119 : Int32)
          · replace h := (if_pos e25).symm.trans h
            refine go_look (pc := 5) (off := 60) (tgt := 65) dX3_tellStatement_5 (by decide) (by rw [e25]; decide) (by decide) ?_
            refine go_aload_n (pc := 65) dX3_tellStatement_65 rfl ?_
            refine go_iload_n (pc := 66) dX3_tellStatement_66 rfl ?_
            refine go_iconst (pc := 67) (v := (1 : Int32)) dX3_tellStatement_67 (by decide) ?_
            refine go_iadd (pc := 68) dX3_tellStatement_68 ?_
            refine go_aload_n (pc := 69) dX3_tellStatement_69 rfl ?_
            obtain ⟨u15, c16, h⟩ := g_bd h
            refine go_callV (pc := 70) (as := [.inl (p1 + (1 : Int32)), .inr q2]) (st := []) (r := u15.1) (M1 := u15.2) (z_X3_tellWind hok hq2 c16) cw_X3_tellWind ml_X3_61 (show g_lay[19]? = some _ from rfl) rfl rfl (by decide) (Nat.le_of_ble_eq_true rfl) rfl dX3_tellStatement_70 ?_
            obtain ⟨i17, h⟩ := g_gd h
            exact go_iret (pc := 73) (Option.some.inj h).symm rfl dX3_tellStatement_73 (g_nb i17)
          · replace h := (if_neg e25).symm.trans h
            refine go_look (pc := 5) (off := 96) (tgt := 101) dX3_tellStatement_5 (by decide) (by rw [show (#[(98, 78), (108, 87), (114, 69), (116, 51), (119, 60)] : Array (Int × Int)).toList = [(98, 78), (108, 87), (114, 69), (116, 51), (119, 60)] from rfl, lv_osw (k := (98 : Int32)) e21 (by decide), lv_osw (k := (108 : Int32)) e22 (by decide), lv_osw (k := (114 : Int32)) e23 (by decide), lv_osw (k := (116 : Int32)) e24 (by decide), lv_osw (k := (119 : Int32)) e25 (by decide)]; rfl) (by decide) ?_
            refine go_aload_n (pc := 101) dX3_tellStatement_101 rfl ?_
            refine go_iload_n (pc := 102) dX3_tellStatement_102 rfl ?_
            refine go_iconst (pc := 103) (v := (1 : Int32)) dX3_tellStatement_103 (by decide) ?_
            refine go_iadd (pc := 104) dX3_tellStatement_104 ?_
            refine go_aload_n (pc := 105) dX3_tellStatement_105 rfl ?_
            obtain ⟨u18, c19, h⟩ := g_bd h
            refine go_callV (pc := 106) (as := [.inl (p1 + (1 : Int32)), .inr q2]) (st := []) (r := u18.1) (M1 := u18.2) (z_X3_tellEdge hok hq2 c19) cw_X3_tellEdge ml_X3_73 (show g_lay[19]? = some _ from rfl) rfl rfl (by decide) (Nat.le_of_ble_eq_true rfl) rfl dX3_tellStatement_106 ?_
            obtain ⟨i20, h⟩ := g_gd h
            exact go_iret (pc := 109) (Option.some.inj h).symm rfl dX3_tellStatement_109 (g_nb i20)
def x_X5_leastAt (q : Nat) (p1 : Int32) (M : g_M) : Option (Int32 × g_M) := (((x_X5_squareNeeded q p1 M).bind fun u1 => ((x_X8_rootWithin u1.1 u1.2).bind fun u3 => if u1.1 ≤ (u3.1 * u3.1) then (some (u3.1, u3.2)) else (some ((u3.1 + (1 : Int32)), u3.2)))))
set_option maxHeartbeats 4000000 in
set_option maxRecDepth 100000 in
theorem z_X5_leastAt {X : g_X} (hok : g_ok X) {q : Nat} (hq : g_isM q) {p1 : Int32} {M : g_M} {r : Int32 × g_M} (h : x_X5_leastAt q p1 M = some r) : g_Con X yX5_leastAt cX5_leastAt 4 (some .int) 2 44 [.inr q, .inl p1] M r := by
  rw [x_X5_leastAt] at h
  refine g_con hok (plainFor_of_name (by decide +kernel)) (Nat.le_of_ble_eq_true rfl) (go_to (lv2 := [some (.inr q), some (.inl p1), none, none]) (own := RX5) ?_ (And.intro rfl (And.intro rfl trivial)))
  refine go_aload_n (pc := 0) dX5_leastAt_0 rfl ?_
  refine go_iload_n (pc := 1) dX5_leastAt_1 rfl ?_
  obtain ⟨u1, c2, h⟩ := g_bd h
  refine go_callV (pc := 2) (as := [.inl p1]) (st := []) (r := u1.1) (M1 := u1.2) (z_X5_squareNeeded hok hq c2) cw_X5_squareNeeded ml_X5_63 hq rfl rfl (by decide) (Nat.le_of_ble_eq_true rfl) rfl dX5_leastAt_2 ?_
  refine go_istore_n (pc := 5) (lv' := [some (.inr q), some (.inl p1), some (.inl u1.1), none]) dX5_leastAt_5 (by decide) rfl ?_
  refine go_iload_n (pc := 6) dX5_leastAt_6 rfl ?_
  obtain ⟨u3, c4, h⟩ := g_bd h
  refine go_callSN (pc := 7) (as := [.inl u1.1]) (st := []) (r := u3.1) (M1 := u3.2) (z_X8_rootWithin hok  c4) cw_X8_rootWithin ml_X5_66 (by decide) (Nat.le_of_ble_eq_true rfl) rfl dX5_leastAt_7 ?_
  refine go_istore_n (pc := 10) (lv' := [some (.inr q), some (.inl p1), some (.inl u1.1), some (.inl u3.1)]) dX5_leastAt_10 (by decide) rfl ?_
  refine go_iload_n (pc := 11) dX5_leastAt_11 rfl ?_
  refine go_iload_n (pc := 12) dX5_leastAt_12 rfl ?_
  refine go_imul (pc := 13) dX5_leastAt_13 ?_
  refine go_iload_n (pc := 14) dX5_leastAt_14 rfl ?_
  refine go_icmp_ge (pc := 15) (tgt := 24) dX5_leastAt_15 (by decide) (fun e5 => ?_) (fun e5 => ?_)
  · replace h := (if_pos e5).symm.trans h
    refine go_iload_n (pc := 24) dX5_leastAt_24 rfl ?_
    exact go_iret (pc := 25) (Option.some.inj h).symm rfl dX5_leastAt_25 rfl
  · replace h := (if_neg e5).symm.trans h
    refine go_iload_n (pc := 18) dX5_leastAt_18 rfl ?_
    refine go_iconst (pc := 19) (v := (1 : Int32)) dX5_leastAt_19 (by decide) ?_
    refine go_iadd (pc := 20) dX5_leastAt_20 ?_
    refine go_goto (pc := 21) (tgt := 25) dX5_leastAt_21 (by decide) ?_
    exact go_iret (pc := 25) (Option.some.inj h).symm rfl dX5_leastAt_25 rfl
def x_X5_greatestAt_L5 (q : Nat)  : Nat → Int32 → Int32 → Int32 → g_M → Option (Int32 × g_M)
  | 0, _, _, _, _ => none
  | n + 1, v1, v2, v3, M => (if v3 ≤ 0 then (some (v2, M)) else (if (99 : Int32) < (v2 + v3) then (x_X5_greatestAt_L5 q  n v1 v2 (v3 / (2 : Int32)) M) else (((x_X5_reach q (v2 + v3) v1 M).bind fun u1 => if (u1.2 q 7) < u1.1 then (x_X5_greatestAt_L5 q  n v1 v2 (v3 / (2 : Int32)) u1.2) else (x_X5_greatestAt_L5 q  n v1 (v2 + v3) (v3 / (2 : Int32)) u1.2)))))
set_option maxHeartbeats 4000000 in
set_option maxRecDepth 100000 in
theorem z_X5_greatestAt_L5 {X : g_X} (hok : g_ok X) {q : Nat} (hq : g_isM q) {r : Int32 × g_M}  : ∀ (n : Nat) (v1 : Int32) (v2 : Int32) (v3 : Int32) (M : g_M), x_X5_greatestAt_L5 q  n v1 v2 v3 M = some r → g_Go X cX5_greatestAt RX5 5 (some .int) 3 68 r 5 [some (.inr q), some (.inl v1), some (.inl v2), some (.inl v3), none] [] M := by
  intro n
  induction n with
  | zero =>
    intro v1 v2 v3 M h
    rw [x_X5_greatestAt_L5] at h
    cases h
  | succ n ih =>
    intro v1 v2 v3 M h
    rw [x_X5_greatestAt_L5] at h
    refine go_iload_n (pc := 5) dX5_greatestAt_5 rfl ?_
    refine go_if_le (pc := 6) (tgt := 45) dX5_greatestAt_6 (by decide) (fun e5 => ?_) (fun e5 => ?_)
    · replace h := (if_pos e5).symm.trans h
      refine go_iload_n (pc := 45) dX5_greatestAt_45 rfl ?_
      exact go_iret (pc := 46) (Option.some.inj h).symm rfl dX5_greatestAt_46 rfl
    · replace h := (if_neg e5).symm.trans h
      refine go_iload_n (pc := 9) dX5_greatestAt_9 rfl ?_
      refine go_iload_n (pc := 10) dX5_greatestAt_10 rfl ?_
      refine go_iadd (pc := 11) dX5_greatestAt_11 ?_
      refine go_istore (pc := 12) (lv' := [some (.inr q), some (.inl v1), some (.inl v2), some (.inl v3), some (.inl (v2 + v3))]) dX5_greatestAt_12 (by decide) rfl ?_
      refine go_iload (pc := 14) dX5_greatestAt_14 rfl ?_
      refine go_bipush (pc := 16) (v := (99 : Int32)) dX5_greatestAt_16 (by decide) ?_
      refine go_icmp_gt (pc := 18) (tgt := 38) dX5_greatestAt_18 (by decide) (fun e4 => ?_) (fun e4 => ?_)
      · replace h := (if_pos e4).symm.trans h
        refine go_iload_n (pc := 38) dX5_greatestAt_38 rfl ?_
        refine go_iconst (pc := 39) (v := (2 : Int32)) dX5_greatestAt_39 (by decide) ?_
        refine go_idiv (pc := 40) dX5_greatestAt_40 (by decide) ?_
        refine go_istore_n (pc := 41) (lv' := [some (.inr q), some (.inl v1), some (.inl v2), some (.inl (v3 / (2 : Int32))), some (.inl (v2 + v3))]) dX5_greatestAt_41 (by decide) rfl ?_
        refine go_goto (pc := 42) (tgt := 5) dX5_greatestAt_42 (by decide) ?_
        exact go_to (ih _ _ _ _ h) (And.intro rfl (And.intro rfl (And.intro rfl (And.intro rfl trivial))))
      · replace h := (if_neg e4).symm.trans h
        refine go_aload_n (pc := 21) dX5_greatestAt_21 rfl ?_
        refine go_iload (pc := 22) dX5_greatestAt_22 rfl ?_
        refine go_iload_n (pc := 24) dX5_greatestAt_24 rfl ?_
        obtain ⟨u1, c2, h⟩ := g_bd h
        refine go_callV (pc := 25) (as := [.inl (v2 + v3), .inl v1]) (st := []) (r := u1.1) (M1 := u1.2) (z_X5_reach hok hq c2) cw_X5_reach ml_X5_83 hq rfl rfl (by decide) (Nat.le_of_ble_eq_true rfl) rfl dX5_greatestAt_25 ?_
        refine go_aload_n (pc := 28) dX5_greatestAt_28 rfl ?_
        refine gf_5_33 (pc := 29) hq dX5_greatestAt_29 ?_
        refine go_icmp_gt (pc := 32) (tgt := 38) dX5_greatestAt_32 (by decide) (fun e3 => ?_) (fun e3 => ?_)
        · replace h := (if_pos e3).symm.trans h
          refine go_iload_n (pc := 38) dX5_greatestAt_38 rfl ?_
          refine go_iconst (pc := 39) (v := (2 : Int32)) dX5_greatestAt_39 (by decide) ?_
          refine go_idiv (pc := 40) dX5_greatestAt_40 (by decide) ?_
          refine go_istore_n (pc := 41) (lv' := [some (.inr q), some (.inl v1), some (.inl v2), some (.inl (v3 / (2 : Int32))), some (.inl (v2 + v3))]) dX5_greatestAt_41 (by decide) rfl ?_
          refine go_goto (pc := 42) (tgt := 5) dX5_greatestAt_42 (by decide) ?_
          exact go_to (ih _ _ _ _ h) (And.intro rfl (And.intro rfl (And.intro rfl (And.intro rfl trivial))))
        · replace h := (if_neg e3).symm.trans h
          refine go_iload (pc := 35) dX5_greatestAt_35 rfl ?_
          refine go_istore_n (pc := 37) (lv' := [some (.inr q), some (.inl v1), some (.inl (v2 + v3)), some (.inl v3), some (.inl (v2 + v3))]) dX5_greatestAt_37 (by decide) rfl ?_
          refine go_iload_n (pc := 38) dX5_greatestAt_38 rfl ?_
          refine go_iconst (pc := 39) (v := (2 : Int32)) dX5_greatestAt_39 (by decide) ?_
          refine go_idiv (pc := 40) dX5_greatestAt_40 (by decide) ?_
          refine go_istore_n (pc := 41) (lv' := [some (.inr q), some (.inl v1), some (.inl (v2 + v3)), some (.inl (v3 / (2 : Int32))), some (.inl (v2 + v3))]) dX5_greatestAt_41 (by decide) rfl ?_
          refine go_goto (pc := 42) (tgt := 5) dX5_greatestAt_42 (by decide) ?_
          exact go_to (ih _ _ _ _ h) (And.intro rfl (And.intro rfl (And.intro rfl (And.intro rfl trivial))))
def x_X5_greatestAt (q : Nat) (p1 : Int32) (M : g_M) : Option (Int32 × g_M) := (x_X5_greatestAt_L5 q  g_F p1 (0 : Int32) (64 : Int32) M)
set_option maxHeartbeats 4000000 in
set_option maxRecDepth 100000 in
theorem z_X5_greatestAt {X : g_X} (hok : g_ok X) {q : Nat} (hq : g_isM q) {p1 : Int32} {M : g_M} {r : Int32 × g_M} (h : x_X5_greatestAt q p1 M = some r) : g_Con X yX5_greatestAt cX5_greatestAt 5 (some .int) 3 68 [.inr q, .inl p1] M r := by
  rw [x_X5_greatestAt] at h
  refine g_con hok (plainFor_of_name (by decide +kernel)) (Nat.le_of_ble_eq_true rfl) (go_to (lv2 := [some (.inr q), some (.inl p1), none, none, none]) (own := RX5) ?_ (And.intro rfl (And.intro rfl trivial)))
  refine go_iconst (pc := 0) (v := (0 : Int32)) dX5_greatestAt_0 (by decide) ?_
  refine go_istore_n (pc := 1) (lv' := [some (.inr q), some (.inl p1), some (.inl (0 : Int32)), none, none]) dX5_greatestAt_1 (by decide) rfl ?_
  refine go_bipush (pc := 2) (v := (64 : Int32)) dX5_greatestAt_2 (by decide) ?_
  refine go_istore_n (pc := 4) (lv' := [some (.inr q), some (.inl p1), some (.inl (0 : Int32)), some (.inl (64 : Int32)), none]) dX5_greatestAt_4 (by decide) rfl ?_
  exact go_to (z_X5_greatestAt_L5 hok hq  g_F _ _ _ _ h) (And.intro rfl (And.intro rfl (And.intro rfl (And.intro rfl trivial))))
def x_X4_measure_L2 (q1 : Nat) (a2 n2 : Nat)  : Nat → Int32 → g_M → Option (Int32 × g_M)
  | 0, _, _ => none
  | n + 1, v3, M => (if (12 : Int32) ≤ v3 then (some (0, M)) else (if (Int32.ofNat n2) ≤ v3 then (some (0, M)) else ((if g_inb v3 n2 = true then (((x_X5_leastAt q1 (M a2 v3.toNatClampNeg) M).bind fun u2 => (if g_inb v3 12 = true then ((if g_inb v3 n2 = true then (((x_X5_greatestAt q1 ((g_upd u2.2 30 v3.toNatClampNeg u2.1) a2 v3.toNatClampNeg) (g_upd u2.2 30 v3.toNatClampNeg u2.1)).bind fun u6 => (if g_inb v3 12 = true then (x_X4_measure_L2 q1 a2 n2  n (v3 + (1 : Int32)) (g_upd u6.2 31 v3.toNatClampNeg u6.1)) else none))) else none)) else none))) else none))))
set_option maxHeartbeats 4000000 in
set_option maxRecDepth 100000 in
theorem z_X4_measure_L2 {X : g_X} (hok : g_ok X) {q1 : Nat} (hq1 : g_isM q1) {a2 n2 : Nat} (ha2 : g_lay[a2]? = some (.inl n2)) {r : Int32 × g_M}  : ∀ (n : Nat) (v3 : Int32) (M : g_M), x_X4_measure_L2 q1 a2 n2  n v3 M = some r → g_Go X cX4_measure RX4 4 none 4 92 r 2 [some (.inr 29), some (.inr q1), some (.inr a2), some (.inl v3)] [] M := by
  intro n
  induction n with
  | zero =>
    intro v3 M h
    rw [x_X4_measure_L2] at h
    cases h
  | succ n ih =>
    intro v3 M h
    rw [x_X4_measure_L2] at h
    refine go_iload_n (pc := 2) dX4_measure_2 rfl ?_
    refine go_bipush (pc := 3) (v := (12 : Int32)) dX4_measure_3 (by decide) ?_
    refine go_icmp_ge (pc := 5) (tgt := 46) dX4_measure_5 (by decide) (fun e10 => ?_) (fun e10 => ?_)
    · replace h := (if_pos e10).symm.trans h
      exact go_vret (pc := 46) (Option.some.inj h).symm rfl dX4_measure_46
    · replace h := (if_neg e10).symm.trans h
      refine go_iload_n (pc := 8) dX4_measure_8 rfl ?_
      refine go_aload_n (pc := 9) dX4_measure_9 rfl ?_
      refine go_alen (pc := 10) (n := n2) (v := (Int32.ofNat n2)) ha2 rfl dX4_measure_10 ?_
      refine go_icmp_ge (pc := 11) (tgt := 46) dX4_measure_11 (by decide) (fun e9 => ?_) (fun e9 => ?_)
      · replace h := (if_pos e9).symm.trans h
        exact go_vret (pc := 46) (Option.some.inj h).symm rfl dX4_measure_46
      · replace h := (if_neg e9).symm.trans h
        refine go_aload_n (pc := 14) dX4_measure_14 rfl ?_
        refine gf_4_9 (pc := 15) dX4_measure_15 ?_
        refine go_iload_n (pc := 18) dX4_measure_18 rfl ?_
        refine go_aload_n (pc := 19) dX4_measure_19 rfl ?_
        refine go_aload_n (pc := 20) dX4_measure_20 rfl ?_
        refine go_iload_n (pc := 21) dX4_measure_21 rfl ?_
        obtain ⟨i1, h⟩ := g_gd h
        refine go_iald (pc := 22) (n := n2) ha2 (g_inb_ok i1) dX4_measure_22 ?_
        obtain ⟨u2, c3, h⟩ := g_bd h
        refine go_callV (pc := 23) (as := [.inl (M a2 v3.toNatClampNeg)]) (st := [.inl v3, .inr 30]) (r := u2.1) (M1 := u2.2) (z_X5_leastAt hok hq1 c3) cw_X5_leastAt ml_X4_24 hq1 rfl rfl (by decide) (Nat.le_of_ble_eq_true rfl) rfl dX4_measure_23 ?_
        obtain ⟨i4, h⟩ := g_gd h
        refine go_iast (pc := 26) (n := 12) rfl (g_inb_ok i4) dX4_measure_26 ?_
        refine go_aload_n (pc := 27) dX4_measure_27 rfl ?_
        refine gf_4_15 (pc := 28) dX4_measure_28 ?_
        refine go_iload_n (pc := 31) dX4_measure_31 rfl ?_
        refine go_aload_n (pc := 32) dX4_measure_32 rfl ?_
        refine go_aload_n (pc := 33) dX4_measure_33 rfl ?_
        refine go_iload_n (pc := 34) dX4_measure_34 rfl ?_
        obtain ⟨i5, h⟩ := g_gd h
        refine go_iald (pc := 35) (n := n2) ha2 (g_inb_ok i5) dX4_measure_35 ?_
        obtain ⟨u6, c7, h⟩ := g_bd h
        refine go_callV (pc := 36) (as := [.inl ((g_upd u2.2 30 v3.toNatClampNeg u2.1) a2 v3.toNatClampNeg)]) (st := [.inl v3, .inr 31]) (r := u6.1) (M1 := u6.2) (z_X5_greatestAt hok hq1 c7) cw_X5_greatestAt ml_X4_30 hq1 rfl rfl (by decide) (Nat.le_of_ble_eq_true rfl) rfl dX4_measure_36 ?_
        obtain ⟨i8, h⟩ := g_gd h
        refine go_iast (pc := 39) (n := 12) rfl (g_inb_ok i8) dX4_measure_39 ?_
        refine go_iinc (pc := 40) (v := (1 : Int32)) (lv' := [some (.inr 29), some (.inr q1), some (.inr a2), some (.inl (v3 + (1 : Int32)))]) dX4_measure_40 rfl (by decide) (by decide) rfl ?_
        refine go_goto (pc := 43) (tgt := 2) dX4_measure_43 (by decide) ?_
        exact go_to (ih _ _ h) (And.intro rfl (And.intro rfl (And.intro rfl (And.intro rfl trivial))))
def x_X4_measure (q1 : Nat) (a2 n2 : Nat) (M : g_M) : Option (Int32 × g_M) := (x_X4_measure_L2 q1 a2 n2  g_F (0 : Int32) M)
set_option maxHeartbeats 4000000 in
set_option maxRecDepth 100000 in
theorem z_X4_measure {X : g_X} (hok : g_ok X) {q1 : Nat} (hq1 : g_isM q1) {a2 n2 : Nat} (ha2 : g_lay[a2]? = some (.inl n2)) {M : g_M} {r : Int32 × g_M} (h : x_X4_measure q1 a2 n2 M = some r) : g_Con X yX4_measure cX4_measure 4 none 4 92 [.inr 29, .inr q1, .inr a2] M r := by
  rw [x_X4_measure] at h
  refine g_con hok (plainFor_of_name (by decide +kernel)) (Nat.le_of_ble_eq_true rfl) (go_to (lv2 := [some (.inr 29), some (.inr q1), some (.inr a2), none]) (own := RX4) ?_ (And.intro rfl (And.intro rfl (And.intro rfl trivial))))
  refine go_iconst (pc := 0) (v := (0 : Int32)) dX4_measure_0 (by decide) ?_
  refine go_istore_n (pc := 1) (lv' := [some (.inr 29), some (.inr q1), some (.inr a2), some (.inl (0 : Int32))]) dX4_measure_1 (by decide) rfl ?_
  exact go_to (z_X4_measure_L2 hok hq1 ha2  g_F _ _ h) (And.intro rfl (And.intro rfl (And.intro rfl (And.intro rfl trivial))))
def x_X4_leastFrom_L9   : Nat → Int32 → Int32 → Int32 → g_M → Option (Int32 × g_M)
  | 0, _, _, _, _ => none
  | n + 1, v2, v3, v4, M => (if v2 ≤ v4 then (some (v3, M)) else (if (12 : Int32) ≤ v4 then (some (v3, M)) else ((if g_inb v4 12 = true then (x_X4_leastFrom_L9   n v2 (g_max v3 (M 30 v4.toNatClampNeg)) (v4 + (1 : Int32)) M) else none))))
set_option maxHeartbeats 4000000 in
set_option maxRecDepth 100000 in
theorem z_X4_leastFrom_L9 {X : g_X} (hok : g_ok X)  {r : Int32 × g_M}  : ∀ (n : Nat) (v2 : Int32) (v3 : Int32) (v4 : Int32) (M : g_M), x_X4_leastFrom_L9   n v2 v3 v4 M = some r → g_Go X cX4_leastFrom RX4 5 (some .int) 1 13 r 9 [some (.inr 29), none, some (.inl v2), some (.inl v3), some (.inl v4)] [] M := by
  intro n
  induction n with
  | zero =>
    intro v2 v3 v4 M h
    rw [x_X4_leastFrom_L9] at h
    cases h
  | succ n ih =>
    intro v2 v3 v4 M h
    rw [x_X4_leastFrom_L9] at h
    refine go_iload (pc := 9) dX4_leastFrom_9 rfl ?_
    refine go_iload_n (pc := 11) dX4_leastFrom_11 rfl ?_
    refine go_icmp_ge (pc := 12) (tgt := 40) dX4_leastFrom_12 (by decide) (fun e3 => ?_) (fun e3 => ?_)
    · replace h := (if_pos e3).symm.trans h
      refine go_iload_n (pc := 40) dX4_leastFrom_40 rfl ?_
      exact go_iret (pc := 41) (Option.some.inj h).symm rfl dX4_leastFrom_41 rfl
    · replace h := (if_neg e3).symm.trans h
      refine go_iload (pc := 15) dX4_leastFrom_15 rfl ?_
      refine go_bipush (pc := 17) (v := (12 : Int32)) dX4_leastFrom_17 (by decide) ?_
      refine go_icmp_ge (pc := 19) (tgt := 40) dX4_leastFrom_19 (by decide) (fun e2 => ?_) (fun e2 => ?_)
      · replace h := (if_pos e2).symm.trans h
        refine go_iload_n (pc := 40) dX4_leastFrom_40 rfl ?_
        exact go_iret (pc := 41) (Option.some.inj h).symm rfl dX4_leastFrom_41 rfl
      · replace h := (if_neg e2).symm.trans h
        refine go_iload_n (pc := 22) dX4_leastFrom_22 rfl ?_
        refine go_aload_n (pc := 23) dX4_leastFrom_23 rfl ?_
        refine gf_4_9 (pc := 24) dX4_leastFrom_24 ?_
        refine go_iload (pc := 27) dX4_leastFrom_27 rfl ?_
        obtain ⟨i1, h⟩ := g_gd h
        refine go_iald (pc := 29) (n := 12) rfl (g_inb_ok i1) dX4_leastFrom_29 ?_
        refine go_mmax (pc := 30) ml_X4_40 lm_max_s lm_i lm_max_c (by decide) (Nat.le_of_ble_eq_true rfl) dX4_leastFrom_30 ?_
        refine go_istore_n (pc := 33) (lv' := [some (.inr 29), none, some (.inl v2), some (.inl (g_max v3 (M 30 v4.toNatClampNeg))), some (.inl v4)]) dX4_leastFrom_33 (by decide) rfl ?_
        refine go_iinc (pc := 34) (v := (1 : Int32)) (lv' := [some (.inr 29), none, some (.inl v2), some (.inl (g_max v3 (M 30 v4.toNatClampNeg))), some (.inl (v4 + (1 : Int32)))]) dX4_leastFrom_34 rfl (by decide) (by decide) rfl ?_
        refine go_goto (pc := 37) (tgt := 9) dX4_leastFrom_37 (by decide) ?_
        exact go_to (ih _ _ _ _ h) (And.intro rfl (And.intro rfl (And.intro rfl (And.intro rfl trivial))))
def x_X4_leastFrom  (p1 p2 : Int32) (M : g_M) : Option (Int32 × g_M) := (x_X4_leastFrom_L9   g_F p2 (0 : Int32) (g_max (0 : Int32) p1) M)
set_option maxHeartbeats 4000000 in
set_option maxRecDepth 100000 in
theorem z_X4_leastFrom {X : g_X} (hok : g_ok X)  {p1 p2 : Int32} {M : g_M} {r : Int32 × g_M} (h : x_X4_leastFrom p1 p2 M = some r) : g_Con X yX4_leastFrom cX4_leastFrom 5 (some .int) 1 13 [.inr 29, .inl p1, .inl p2] M r := by
  rw [x_X4_leastFrom] at h
  refine g_con hok (plainFor_of_name (by decide +kernel)) (Nat.le_of_ble_eq_true rfl) (go_to (lv2 := [some (.inr 29), some (.inl p1), some (.inl p2), none, none]) (own := RX4) ?_ (And.intro rfl (And.intro rfl (And.intro rfl trivial))))
  refine go_iconst (pc := 0) (v := (0 : Int32)) dX4_leastFrom_0 (by decide) ?_
  refine go_istore_n (pc := 1) (lv' := [some (.inr 29), some (.inl p1), some (.inl p2), some (.inl (0 : Int32)), none]) dX4_leastFrom_1 (by decide) rfl ?_
  refine go_iconst (pc := 2) (v := (0 : Int32)) dX4_leastFrom_2 (by decide) ?_
  refine go_iload_n (pc := 3) dX4_leastFrom_3 rfl ?_
  refine go_mmax (pc := 4) ml_X4_40 lm_max_s lm_i lm_max_c (by decide) (Nat.le_of_ble_eq_true rfl) dX4_leastFrom_4 ?_
  refine go_istore (pc := 7) (lv' := [some (.inr 29), some (.inl p1), some (.inl p2), some (.inl (0 : Int32)), some (.inl (g_max (0 : Int32) p1))]) dX4_leastFrom_7 (by decide) rfl ?_
  exact go_to (z_X4_leastFrom_L9 hok   g_F _ _ _ _ h) (And.intro rfl (And.intro rfl (And.intro rfl (And.intro rfl trivial))))
def x_X4_leastAllDay  (M : g_M) : Option (Int32 × g_M) := (((x_X4_leastFrom (0 : Int32) (12 : Int32) M).bind fun u1 => some (u1.1, u1.2)))
set_option maxHeartbeats 4000000 in
set_option maxRecDepth 100000 in
theorem z_X4_leastAllDay {X : g_X} (hok : g_ok X)  {M : g_M} {r : Int32 × g_M} (h : x_X4_leastAllDay  M = some r) : g_Con X yX4_leastAllDay cX4_leastAllDay 1 (some .int) 2 37 [.inr 29] M r := by
  rw [x_X4_leastAllDay] at h
  refine g_con hok (plainFor_of_name (by decide +kernel)) (Nat.le_of_ble_eq_true rfl) (go_to (lv2 := [some (.inr 29)]) (own := RX4) ?_ (And.intro rfl trivial))
  refine go_aload_n (pc := 0) dX4_leastAllDay_0 rfl ?_
  refine go_iconst (pc := 1) (v := (0 : Int32)) dX4_leastAllDay_1 (by decide) ?_
  refine go_bipush (pc := 2) (v := (12 : Int32)) dX4_leastAllDay_2 (by decide) ?_
  obtain ⟨u1, c2, h⟩ := g_bd h
  refine go_callV (pc := 4) (as := [.inl (0 : Int32), .inl (12 : Int32)]) (st := []) (r := u1.1) (M1 := u1.2) (z_X4_leastFrom hok  c2) cw_X4_leastFrom ml_X4_33 (show g_lay[29]? = some _ from rfl) rfl rfl (by decide) (Nat.le_of_ble_eq_true rfl) rfl dX4_leastAllDay_4 ?_
  exact go_iret (pc := 7) (Option.some.inj h).symm rfl dX4_leastAllDay_7 rfl
def x_X4_greatestFrom_L10   : Nat → Int32 → Int32 → Int32 → g_M → Option (Int32 × g_M)
  | 0, _, _, _, _ => none
  | n + 1, v2, v3, v4, M => (if v2 ≤ v4 then (some (v3, M)) else (if (12 : Int32) ≤ v4 then (some (v3, M)) else ((if g_inb v4 12 = true then (x_X4_greatestFrom_L10   n v2 (g_min v3 (M 31 v4.toNatClampNeg)) (v4 + (1 : Int32)) M) else none))))
set_option maxHeartbeats 4000000 in
set_option maxRecDepth 100000 in
theorem z_X4_greatestFrom_L10 {X : g_X} (hok : g_ok X)  {r : Int32 × g_M}  : ∀ (n : Nat) (v2 : Int32) (v3 : Int32) (v4 : Int32) (M : g_M), x_X4_greatestFrom_L10   n v2 v3 v4 M = some r → g_Go X cX4_greatestFrom RX4 5 (some .int) 1 13 r 10 [some (.inr 29), none, some (.inl v2), some (.inl v3), some (.inl v4)] [] M := by
  intro n
  induction n with
  | zero =>
    intro v2 v3 v4 M h
    rw [x_X4_greatestFrom_L10] at h
    cases h
  | succ n ih =>
    intro v2 v3 v4 M h
    rw [x_X4_greatestFrom_L10] at h
    refine go_iload (pc := 10) dX4_greatestFrom_10 rfl ?_
    refine go_iload_n (pc := 12) dX4_greatestFrom_12 rfl ?_
    refine go_icmp_ge (pc := 13) (tgt := 41) dX4_greatestFrom_13 (by decide) (fun e3 => ?_) (fun e3 => ?_)
    · replace h := (if_pos e3).symm.trans h
      refine go_iload_n (pc := 41) dX4_greatestFrom_41 rfl ?_
      exact go_iret (pc := 42) (Option.some.inj h).symm rfl dX4_greatestFrom_42 rfl
    · replace h := (if_neg e3).symm.trans h
      refine go_iload (pc := 16) dX4_greatestFrom_16 rfl ?_
      refine go_bipush (pc := 18) (v := (12 : Int32)) dX4_greatestFrom_18 (by decide) ?_
      refine go_icmp_ge (pc := 20) (tgt := 41) dX4_greatestFrom_20 (by decide) (fun e2 => ?_) (fun e2 => ?_)
      · replace h := (if_pos e2).symm.trans h
        refine go_iload_n (pc := 41) dX4_greatestFrom_41 rfl ?_
        exact go_iret (pc := 42) (Option.some.inj h).symm rfl dX4_greatestFrom_42 rfl
      · replace h := (if_neg e2).symm.trans h
        refine go_iload_n (pc := 23) dX4_greatestFrom_23 rfl ?_
        refine go_aload_n (pc := 24) dX4_greatestFrom_24 rfl ?_
        refine gf_4_15 (pc := 25) dX4_greatestFrom_25 ?_
        refine go_iload (pc := 28) dX4_greatestFrom_28 rfl ?_
        obtain ⟨i1, h⟩ := g_gd h
        refine go_iald (pc := 30) (n := 12) rfl (g_inb_ok i1) dX4_greatestFrom_30 ?_
        refine go_mmin (pc := 31) ml_X4_45 lm_min_s lm_i lm_min_c (by decide) (Nat.le_of_ble_eq_true rfl) dX4_greatestFrom_31 ?_
        refine go_istore_n (pc := 34) (lv' := [some (.inr 29), none, some (.inl v2), some (.inl (g_min v3 (M 31 v4.toNatClampNeg))), some (.inl v4)]) dX4_greatestFrom_34 (by decide) rfl ?_
        refine go_iinc (pc := 35) (v := (1 : Int32)) (lv' := [some (.inr 29), none, some (.inl v2), some (.inl (g_min v3 (M 31 v4.toNatClampNeg))), some (.inl (v4 + (1 : Int32)))]) dX4_greatestFrom_35 rfl (by decide) (by decide) rfl ?_
        refine go_goto (pc := 38) (tgt := 10) dX4_greatestFrom_38 (by decide) ?_
        exact go_to (ih _ _ _ _ h) (And.intro rfl (And.intro rfl (And.intro rfl (And.intro rfl trivial))))
def x_X4_greatestFrom  (p1 p2 : Int32) (M : g_M) : Option (Int32 × g_M) := (x_X4_greatestFrom_L10   g_F p2 (99 : Int32) (g_max (0 : Int32) p1) M)
set_option maxHeartbeats 4000000 in
set_option maxRecDepth 100000 in
theorem z_X4_greatestFrom {X : g_X} (hok : g_ok X)  {p1 p2 : Int32} {M : g_M} {r : Int32 × g_M} (h : x_X4_greatestFrom p1 p2 M = some r) : g_Con X yX4_greatestFrom cX4_greatestFrom 5 (some .int) 1 13 [.inr 29, .inl p1, .inl p2] M r := by
  rw [x_X4_greatestFrom] at h
  refine g_con hok (plainFor_of_name (by decide +kernel)) (Nat.le_of_ble_eq_true rfl) (go_to (lv2 := [some (.inr 29), some (.inl p1), some (.inl p2), none, none]) (own := RX4) ?_ (And.intro rfl (And.intro rfl (And.intro rfl trivial))))
  refine go_bipush (pc := 0) (v := (99 : Int32)) dX4_greatestFrom_0 (by decide) ?_
  refine go_istore_n (pc := 2) (lv' := [some (.inr 29), some (.inl p1), some (.inl p2), some (.inl (99 : Int32)), none]) dX4_greatestFrom_2 (by decide) rfl ?_
  refine go_iconst (pc := 3) (v := (0 : Int32)) dX4_greatestFrom_3 (by decide) ?_
  refine go_iload_n (pc := 4) dX4_greatestFrom_4 rfl ?_
  refine go_mmax (pc := 5) ml_X4_40 lm_max_s lm_i lm_max_c (by decide) (Nat.le_of_ble_eq_true rfl) dX4_greatestFrom_5 ?_
  refine go_istore (pc := 8) (lv' := [some (.inr 29), some (.inl p1), some (.inl p2), some (.inl (99 : Int32)), some (.inl (g_max (0 : Int32) p1))]) dX4_greatestFrom_8 (by decide) rfl ?_
  exact go_to (z_X4_greatestFrom_L10 hok   g_F _ _ _ _ h) (And.intro rfl (And.intro rfl (And.intro rfl (And.intro rfl trivial))))
def x_X4_greatestAllDay  (M : g_M) : Option (Int32 × g_M) := (((x_X4_greatestFrom (0 : Int32) (12 : Int32) M).bind fun u1 => some (u1.1, u1.2)))
set_option maxHeartbeats 4000000 in
set_option maxRecDepth 100000 in
theorem z_X4_greatestAllDay {X : g_X} (hok : g_ok X)  {M : g_M} {r : Int32 × g_M} (h : x_X4_greatestAllDay  M = some r) : g_Con X yX4_greatestAllDay cX4_greatestAllDay 1 (some .int) 2 37 [.inr 29] M r := by
  rw [x_X4_greatestAllDay] at h
  refine g_con hok (plainFor_of_name (by decide +kernel)) (Nat.le_of_ble_eq_true rfl) (go_to (lv2 := [some (.inr 29)]) (own := RX4) ?_ (And.intro rfl trivial))
  refine go_aload_n (pc := 0) dX4_greatestAllDay_0 rfl ?_
  refine go_iconst (pc := 1) (v := (0 : Int32)) dX4_greatestAllDay_1 (by decide) ?_
  refine go_bipush (pc := 2) (v := (12 : Int32)) dX4_greatestAllDay_2 (by decide) ?_
  obtain ⟨u1, c2, h⟩ := g_bd h
  refine go_callV (pc := 4) (as := [.inl (0 : Int32), .inl (12 : Int32)]) (st := []) (r := u1.1) (M1 := u1.2) (z_X4_greatestFrom hok  c2) cw_X4_greatestFrom ml_X4_37 (show g_lay[29]? = some _ from rfl) rfl rfl (by decide) (Nat.le_of_ble_eq_true rfl) rfl dX4_greatestAllDay_4 ?_
  exact go_iret (pc := 7) (Option.some.inj h).symm rfl dX4_greatestAllDay_7 rfl
def x_X4_hoursChanged_L6   : Nat → Int32 → Int32 → Int32 → g_M → Option (Int32 × g_M)
  | 0, _, _, _, _ => none
  | n + 1, v1, v2, v3, M => (if (12 : Int32) ≤ v3 then (some (v1, M)) else ((if g_inb v3 12 = true then ((if g_inb v3 12 = true then (if (M 30 v3.toNatClampNeg) ≤ (M 31 v3.toNatClampNeg) then (((x_X4_leastFrom v2 (v3 + (1 : Int32)) M).bind fun u3 => ((x_X4_greatestFrom v2 (v3 + (1 : Int32)) u3.2).bind fun u5 => if u3.1 ≤ u5.1 then (x_X4_hoursChanged_L6   n v1 v2 (v3 + (1 : Int32)) u5.2) else (x_X4_hoursChanged_L6   n (v1 ||| ((1 : Int32) <<< (v3 &&& 31))) v3 (v3 + (1 : Int32)) u5.2)))) else (some ((-9 : Int32), M))) else none)) else none)))
set_option maxHeartbeats 4000000 in
set_option maxRecDepth 100000 in
theorem z_X4_hoursChanged_L6 {X : g_X} (hok : g_ok X)  {r : Int32 × g_M}  : ∀ (n : Nat) (v1 : Int32) (v2 : Int32) (v3 : Int32) (M : g_M), x_X4_hoursChanged_L6   n v1 v2 v3 M = some r → g_Go X cX4_hoursChanged RX4 4 (some .int) 2 37 r 6 [some (.inr 29), some (.inl v1), some (.inl v2), some (.inl v3)] [] M := by
  intro n
  induction n with
  | zero =>
    intro v1 v2 v3 M h
    rw [x_X4_hoursChanged_L6] at h
    cases h
  | succ n ih =>
    intro v1 v2 v3 M h
    rw [x_X4_hoursChanged_L6] at h
    refine go_iload_n (pc := 6) dX4_hoursChanged_6 rfl ?_
    refine go_bipush (pc := 7) (v := (12 : Int32)) dX4_hoursChanged_7 (by decide) ?_
    refine go_icmp_ge (pc := 9) (tgt := 63) dX4_hoursChanged_9 (by decide) (fun e9 => ?_) (fun e9 => ?_)
    · replace h := (if_pos e9).symm.trans h
      refine go_iload_n (pc := 63) dX4_hoursChanged_63 rfl ?_
      exact go_iret (pc := 64) (Option.some.inj h).symm rfl dX4_hoursChanged_64 rfl
    · replace h := (if_neg e9).symm.trans h
      refine go_aload_n (pc := 12) dX4_hoursChanged_12 rfl ?_
      refine gf_4_9 (pc := 13) dX4_hoursChanged_13 ?_
      refine go_iload_n (pc := 16) dX4_hoursChanged_16 rfl ?_
      obtain ⟨i1, h⟩ := g_gd h
      refine go_iald (pc := 17) (n := 12) rfl (g_inb_ok i1) dX4_hoursChanged_17 ?_
      refine go_aload_n (pc := 18) dX4_hoursChanged_18 rfl ?_
      refine gf_4_15 (pc := 19) dX4_hoursChanged_19 ?_
      refine go_iload_n (pc := 22) dX4_hoursChanged_22 rfl ?_
      obtain ⟨i2, h⟩ := g_gd h
      refine go_iald (pc := 23) (n := 12) rfl (g_inb_ok i2) dX4_hoursChanged_23 ?_
      refine go_icmp_le (pc := 24) (tgt := 30) dX4_hoursChanged_24 (by decide) (fun e8 => ?_) (fun e8 => ?_)
      · replace h := (if_pos e8).symm.trans h
        refine go_aload_n (pc := 30) dX4_hoursChanged_30 rfl ?_
        refine go_iload_n (pc := 31) dX4_hoursChanged_31 rfl ?_
        refine go_iload_n (pc := 32) dX4_hoursChanged_32 rfl ?_
        refine go_iconst (pc := 33) (v := (1 : Int32)) dX4_hoursChanged_33 (by decide) ?_
        refine go_iadd (pc := 34) dX4_hoursChanged_34 ?_
        obtain ⟨u3, c4, h⟩ := g_bd h
        refine go_callV (pc := 35) (as := [.inl v2, .inl (v3 + (1 : Int32))]) (st := []) (r := u3.1) (M1 := u3.2) (z_X4_leastFrom hok  c4) cw_X4_leastFrom ml_X4_33 (show g_lay[29]? = some _ from rfl) rfl rfl (by decide) (Nat.le_of_ble_eq_true rfl) rfl dX4_hoursChanged_35 ?_
        refine go_aload_n (pc := 38) dX4_hoursChanged_38 rfl ?_
        refine go_iload_n (pc := 39) dX4_hoursChanged_39 rfl ?_
        refine go_iload_n (pc := 40) dX4_hoursChanged_40 rfl ?_
        refine go_iconst (pc := 41) (v := (1 : Int32)) dX4_hoursChanged_41 (by decide) ?_
        refine go_iadd (pc := 42) dX4_hoursChanged_42 ?_
        obtain ⟨u5, c6, h⟩ := g_bd h
        refine go_callV (pc := 43) (as := [.inl v2, .inl (v3 + (1 : Int32))]) (st := [.inl u3.1]) (r := u5.1) (M1 := u5.2) (z_X4_greatestFrom hok  c6) cw_X4_greatestFrom ml_X4_37 (show g_lay[29]? = some _ from rfl) rfl rfl (by decide) (Nat.le_of_ble_eq_true rfl) rfl dX4_hoursChanged_43 ?_
        refine go_icmp_le (pc := 46) (tgt := 57) dX4_hoursChanged_46 (by decide) (fun e7 => ?_) (fun e7 => ?_)
        · replace h := (if_pos e7).symm.trans h
          refine go_iinc (pc := 57) (v := (1 : Int32)) (lv' := [some (.inr 29), some (.inl v1), some (.inl v2), some (.inl (v3 + (1 : Int32)))]) dX4_hoursChanged_57 rfl (by decide) (by decide) rfl ?_
          refine go_goto (pc := 60) (tgt := 6) dX4_hoursChanged_60 (by decide) ?_
          exact go_to (ih _ _ _ _ h) (And.intro rfl (And.intro rfl (And.intro rfl (And.intro rfl trivial))))
        · replace h := (if_neg e7).symm.trans h
          refine go_iload_n (pc := 49) dX4_hoursChanged_49 rfl ?_
          refine go_iconst (pc := 50) (v := (1 : Int32)) dX4_hoursChanged_50 (by decide) ?_
          refine go_iload_n (pc := 51) dX4_hoursChanged_51 rfl ?_
          refine go_ishl (pc := 52) dX4_hoursChanged_52 ?_
          refine go_ior (pc := 53) dX4_hoursChanged_53 ?_
          refine go_istore_n (pc := 54) (lv' := [some (.inr 29), some (.inl (v1 ||| ((1 : Int32) <<< (v3 &&& 31)))), some (.inl v2), some (.inl v3)]) dX4_hoursChanged_54 (by decide) rfl ?_
          refine go_iload_n (pc := 55) dX4_hoursChanged_55 rfl ?_
          refine go_istore_n (pc := 56) (lv' := [some (.inr 29), some (.inl (v1 ||| ((1 : Int32) <<< (v3 &&& 31)))), some (.inl v3), some (.inl v3)]) dX4_hoursChanged_56 (by decide) rfl ?_
          refine go_iinc (pc := 57) (v := (1 : Int32)) (lv' := [some (.inr 29), some (.inl (v1 ||| ((1 : Int32) <<< (v3 &&& 31)))), some (.inl v3), some (.inl (v3 + (1 : Int32)))]) dX4_hoursChanged_57 rfl (by decide) (by decide) rfl ?_
          refine go_goto (pc := 60) (tgt := 6) dX4_hoursChanged_60 (by decide) ?_
          exact go_to (ih _ _ _ _ h) (And.intro rfl (And.intro rfl (And.intro rfl (And.intro rfl trivial))))
      · replace h := (if_neg e8).symm.trans h
        refine go_bipush (pc := 27) (v := (-9 : Int32)) dX4_hoursChanged_27 (by decide) ?_
        exact go_iret (pc := 29) (Option.some.inj h).symm rfl dX4_hoursChanged_29 rfl
def x_X4_hoursChanged  (M : g_M) : Option (Int32 × g_M) := (x_X4_hoursChanged_L6   g_F (0 : Int32) (0 : Int32) (0 : Int32) M)
set_option maxHeartbeats 4000000 in
set_option maxRecDepth 100000 in
theorem z_X4_hoursChanged {X : g_X} (hok : g_ok X)  {M : g_M} {r : Int32 × g_M} (h : x_X4_hoursChanged  M = some r) : g_Con X yX4_hoursChanged cX4_hoursChanged 4 (some .int) 2 37 [.inr 29] M r := by
  rw [x_X4_hoursChanged] at h
  refine g_con hok (plainFor_of_name (by decide +kernel)) (Nat.le_of_ble_eq_true rfl) (go_to (lv2 := [some (.inr 29), none, none, none]) (own := RX4) ?_ (And.intro rfl trivial))
  refine go_iconst (pc := 0) (v := (0 : Int32)) dX4_hoursChanged_0 (by decide) ?_
  refine go_istore_n (pc := 1) (lv' := [some (.inr 29), some (.inl (0 : Int32)), none, none]) dX4_hoursChanged_1 (by decide) rfl ?_
  refine go_iconst (pc := 2) (v := (0 : Int32)) dX4_hoursChanged_2 (by decide) ?_
  refine go_istore_n (pc := 3) (lv' := [some (.inr 29), some (.inl (0 : Int32)), some (.inl (0 : Int32)), none]) dX4_hoursChanged_3 (by decide) rfl ?_
  refine go_iconst (pc := 4) (v := (0 : Int32)) dX4_hoursChanged_4 (by decide) ?_
  refine go_istore_n (pc := 5) (lv' := [some (.inr 29), some (.inl (0 : Int32)), some (.inl (0 : Int32)), some (.inl (0 : Int32))]) dX4_hoursChanged_5 (by decide) rfl ?_
  exact go_to (z_X4_hoursChanged_L6 hok   g_F _ _ _ _ h) (And.intro rfl (And.intro rfl (And.intro rfl (And.intro rfl trivial))))
def x_X4_changesEach_L58  (k7 : Int32 → Int32 → Int32 → Int32 → g_M → Option (Int32 × g_M)) (v1 : Int32) (v2 : Int32) (v4 : Int32) (v5 : Int32) (M : g_M) : Option (Int32 × g_M) := (k7 v1 v2 v5 (v4 + (g_max (1 : Int32) v1)) M)
set_option maxHeartbeats 4000000 in
set_option maxRecDepth 100000 in
theorem z_X4_changesEach_L58 {X : g_X} (hok : g_ok X)  {r : Int32 × g_M} {k7 : Int32 → Int32 → Int32 → Int32 → g_M → Option (Int32 × g_M)} (hk7 : ∀ (v1 : Int32) (v2 : Int32) (v3 : Int32) (v4 : Int32) (M : g_M), k7 v1 v2 v3 v4 M = some r → g_Go X cX4_changesEach RX4 6 (some .int) 2 37 r 7 [some (.inr 29), some (.inl v1), some (.inl v2), some (.inl v3), some (.inl v4), none] [] M) {v1 : Int32} {v2 : Int32} {v4 : Int32} {v5 : Int32} {M : g_M} (h : x_X4_changesEach_L58  k7 v1 v2 v4 v5 M = some r) : g_Go X cX4_changesEach RX4 6 (some .int) 2 37 r 58 [some (.inr 29), some (.inl v1), some (.inl v2), none, some (.inl v4), some (.inl v5)] [] M := by
  rw [x_X4_changesEach_L58] at h
  refine go_iload (pc := 58) dX4_changesEach_58 rfl ?_
  refine go_istore_n (pc := 60) (lv' := [some (.inr 29), some (.inl v1), some (.inl v2), some (.inl v5), some (.inl v4), some (.inl v5)]) dX4_changesEach_60 (by decide) rfl ?_
  refine go_iload (pc := 61) dX4_changesEach_61 rfl ?_
  refine go_iconst (pc := 63) (v := (1 : Int32)) dX4_changesEach_63 (by decide) ?_
  refine go_iload_n (pc := 64) dX4_changesEach_64 rfl ?_
  refine go_mmax (pc := 65) ml_X4_40 lm_max_s lm_i lm_max_c (by decide) (Nat.le_of_ble_eq_true rfl) dX4_changesEach_65 ?_
  refine go_iadd (pc := 68) dX4_changesEach_68 ?_
  refine go_istore (pc := 69) (lv' := [some (.inr 29), some (.inl v1), some (.inl v2), some (.inl v5), some (.inl (v4 + (g_max (1 : Int32) v1))), some (.inl v5)]) dX4_changesEach_69 (by decide) rfl ?_
  refine go_goto (pc := 71) (tgt := 7) dX4_changesEach_71 (by decide) ?_
  exact go_to (hk7 _ _ _ _ _ h) (And.intro rfl (And.intro rfl (And.intro rfl (And.intro rfl (And.intro rfl trivial)))))
def x_X4_changesEach_L7   : Nat → Int32 → Int32 → Int32 → Int32 → g_M → Option (Int32 × g_M)
  | 0, _, _, _, _, _ => none
  | n + 1, v1, v2, v3, v4, M => (if (12 : Int32) ≤ v4 then (some (v2, M)) else (((x_X4_leastFrom v4 (v4 + v1) M).bind fun u1 => ((x_X4_greatestFrom v4 (v4 + v1) u1.2).bind fun u3 => if u1.1 ≤ u3.1 then (if v4 ≤ 0 then (x_X4_changesEach_L58  (x_X4_changesEach_L7   n) v1 v2 v4 u1.1 u3.2) else (if u1.1 = v3 then (x_X4_changesEach_L58  (x_X4_changesEach_L7   n) v1 v2 v4 u1.1 u3.2) else (x_X4_changesEach_L58  (x_X4_changesEach_L7   n) v1 (v2 + (1 : Int32)) v4 u1.1 u3.2))) else (some ((-9 : Int32), u3.2))))))
set_option maxHeartbeats 4000000 in
set_option maxRecDepth 100000 in
theorem z_X4_changesEach_L7 {X : g_X} (hok : g_ok X)  {r : Int32 × g_M}  : ∀ (n : Nat) (v1 : Int32) (v2 : Int32) (v3 : Int32) (v4 : Int32) (M : g_M), x_X4_changesEach_L7   n v1 v2 v3 v4 M = some r → g_Go X cX4_changesEach RX4 6 (some .int) 2 37 r 7 [some (.inr 29), some (.inl v1), some (.inl v2), some (.inl v3), some (.inl v4), none] [] M := by
  intro n
  induction n with
  | zero =>
    intro v1 v2 v3 v4 M h
    rw [x_X4_changesEach_L7] at h
    cases h
  | succ n ih =>
    intro v1 v2 v3 v4 M h
    rw [x_X4_changesEach_L7] at h
    refine go_iload (pc := 7) dX4_changesEach_7 rfl ?_
    refine go_bipush (pc := 9) (v := (12 : Int32)) dX4_changesEach_9 (by decide) ?_
    refine go_icmp_ge (pc := 11) (tgt := 74) dX4_changesEach_11 (by decide) (fun e8 => ?_) (fun e8 => ?_)
    · replace h := (if_pos e8).symm.trans h
      refine go_iload_n (pc := 74) dX4_changesEach_74 rfl ?_
      exact go_iret (pc := 75) (Option.some.inj h).symm rfl dX4_changesEach_75 rfl
    · replace h := (if_neg e8).symm.trans h
      refine go_aload_n (pc := 14) dX4_changesEach_14 rfl ?_
      refine go_iload (pc := 15) dX4_changesEach_15 rfl ?_
      refine go_iload (pc := 17) dX4_changesEach_17 rfl ?_
      refine go_iload_n (pc := 19) dX4_changesEach_19 rfl ?_
      refine go_iadd (pc := 20) dX4_changesEach_20 ?_
      obtain ⟨u1, c2, h⟩ := g_bd h
      refine go_callV (pc := 21) (as := [.inl v4, .inl (v4 + v1)]) (st := []) (r := u1.1) (M1 := u1.2) (z_X4_leastFrom hok  c2) cw_X4_leastFrom ml_X4_33 (show g_lay[29]? = some _ from rfl) rfl rfl (by decide) (Nat.le_of_ble_eq_true rfl) rfl dX4_changesEach_21 ?_
      refine go_istore (pc := 24) (lv' := [some (.inr 29), some (.inl v1), some (.inl v2), some (.inl v3), some (.inl v4), some (.inl u1.1)]) dX4_changesEach_24 (by decide) rfl ?_
      refine go_iload (pc := 26) dX4_changesEach_26 rfl ?_
      refine go_aload_n (pc := 28) dX4_changesEach_28 rfl ?_
      refine go_iload (pc := 29) dX4_changesEach_29 rfl ?_
      refine go_iload (pc := 31) dX4_changesEach_31 rfl ?_
      refine go_iload_n (pc := 33) dX4_changesEach_33 rfl ?_
      refine go_iadd (pc := 34) dX4_changesEach_34 ?_
      obtain ⟨u3, c4, h⟩ := g_bd h
      refine go_callV (pc := 35) (as := [.inl v4, .inl (v4 + v1)]) (st := [.inl u1.1]) (r := u3.1) (M1 := u3.2) (z_X4_greatestFrom hok  c4) cw_X4_greatestFrom ml_X4_37 (show g_lay[29]? = some _ from rfl) rfl rfl (by decide) (Nat.le_of_ble_eq_true rfl) rfl dX4_changesEach_35 ?_
      refine go_icmp_le (pc := 38) (tgt := 44) dX4_changesEach_38 (by decide) (fun e7 => ?_) (fun e7 => ?_)
      · replace h := (if_pos e7).symm.trans h
        refine go_iload (pc := 44) dX4_changesEach_44 rfl ?_
        refine go_if_le (pc := 46) (tgt := 58) dX4_changesEach_46 (by decide) (fun e6 => ?_) (fun e6 => ?_)
        · replace h := (if_pos e6).symm.trans h
          exact go_to (z_X4_changesEach_L58 hok  (ih) h) (And.intro rfl (And.intro rfl (And.intro rfl (And.intro rfl (And.intro rfl trivial)))))
        · replace h := (if_neg e6).symm.trans h
          refine go_iload (pc := 49) dX4_changesEach_49 rfl ?_
          refine go_iload_n (pc := 51) dX4_changesEach_51 rfl ?_
          refine go_icmp_eq (pc := 52) (tgt := 58) dX4_changesEach_52 (by decide) (fun e5 => ?_) (fun e5 => ?_)
          · replace h := (if_pos e5).symm.trans h
            exact go_to (z_X4_changesEach_L58 hok  (ih) h) (And.intro rfl (And.intro rfl (And.intro rfl (And.intro rfl (And.intro rfl trivial)))))
          · replace h := (if_neg e5).symm.trans h
            refine go_iinc (pc := 55) (v := (1 : Int32)) (lv' := [some (.inr 29), some (.inl v1), some (.inl (v2 + (1 : Int32))), some (.inl v3), some (.inl v4), some (.inl u1.1)]) dX4_changesEach_55 rfl (by decide) (by decide) rfl ?_
            exact go_to (z_X4_changesEach_L58 hok  (ih) h) (And.intro rfl (And.intro rfl (And.intro rfl (And.intro rfl (And.intro rfl trivial)))))
      · replace h := (if_neg e7).symm.trans h
        refine go_bipush (pc := 41) (v := (-9 : Int32)) dX4_changesEach_41 (by decide) ?_
        exact go_iret (pc := 43) (Option.some.inj h).symm rfl dX4_changesEach_43 rfl
def x_X4_changesEach  (p1 : Int32) (M : g_M) : Option (Int32 × g_M) := (x_X4_changesEach_L7   g_F p1 (0 : Int32) (0 : Int32) (0 : Int32) M)
set_option maxHeartbeats 4000000 in
set_option maxRecDepth 100000 in
theorem z_X4_changesEach {X : g_X} (hok : g_ok X)  {p1 : Int32} {M : g_M} {r : Int32 × g_M} (h : x_X4_changesEach p1 M = some r) : g_Con X yX4_changesEach cX4_changesEach 6 (some .int) 2 37 [.inr 29, .inl p1] M r := by
  rw [x_X4_changesEach] at h
  refine g_con hok (plainFor_of_name (by decide +kernel)) (Nat.le_of_ble_eq_true rfl) (go_to (lv2 := [some (.inr 29), some (.inl p1), none, none, none, none]) (own := RX4) ?_ (And.intro rfl (And.intro rfl trivial)))
  refine go_iconst (pc := 0) (v := (0 : Int32)) dX4_changesEach_0 (by decide) ?_
  refine go_istore_n (pc := 1) (lv' := [some (.inr 29), some (.inl p1), some (.inl (0 : Int32)), none, none, none]) dX4_changesEach_1 (by decide) rfl ?_
  refine go_iconst (pc := 2) (v := (0 : Int32)) dX4_changesEach_2 (by decide) ?_
  refine go_istore_n (pc := 3) (lv' := [some (.inr 29), some (.inl p1), some (.inl (0 : Int32)), some (.inl (0 : Int32)), none, none]) dX4_changesEach_3 (by decide) rfl ?_
  refine go_iconst (pc := 4) (v := (0 : Int32)) dX4_changesEach_4 (by decide) ?_
  refine go_istore (pc := 5) (lv' := [some (.inr 29), some (.inl p1), some (.inl (0 : Int32)), some (.inl (0 : Int32)), some (.inl (0 : Int32)), none]) dX4_changesEach_5 (by decide) rfl ?_
  exact go_to (z_X4_changesEach_L7 hok   g_F _ _ _ _ _ h) (And.intro rfl (And.intro rfl (And.intro rfl (And.intro rfl (And.intro rfl trivial)))))
def x_J7_fill_53178_L5 (a0 n0 : Nat)  : Nat → Int32 → Int32 → Int32 → g_M → Option (Int32 × g_M)
  | 0, _, _, _, _ => none
  | n + 1, v1, v2, v3, M => (if v3 ≤ v2 then (some (0, M)) else ((if g_inb v2 n0 = true then (x_J7_fill_53178_L5 a0 n0  n v1 (v2 + (1 : Int32)) v3 (g_upd M a0 v2.toNatClampNeg v1)) else none)))
set_option maxHeartbeats 4000000 in
set_option maxRecDepth 100000 in
theorem z_J7_fill_53178_L5 {X : g_X} (hok : g_ok X) {a0 n0 : Nat} (ha0 : g_lay[a0]? = some (.inl n0)) {r : Int32 × g_M}  : ∀ (n : Nat) (v1 : Int32) (v2 : Int32) (v3 : Int32) (M : g_M), x_J7_fill_53178_L5 a0 n0  n v1 v2 v3 M = some r → g_Go X cJ7_fill_53178 RJ7 4 none 0 0 r 5 [some (.inr a0), some (.inl v1), some (.inl v2), some (.inl v3)] [] M := by
  intro n
  induction n with
  | zero =>
    intro v1 v2 v3 M h
    rw [x_J7_fill_53178_L5] at h
    cases h
  | succ n ih =>
    intro v1 v2 v3 M h
    rw [x_J7_fill_53178_L5] at h
    refine go_iload_n (pc := 5) dJ7_fill_53178_5 rfl ?_
    refine go_iload_n (pc := 6) dJ7_fill_53178_6 rfl ?_
    refine go_icmp_ge (pc := 7) (tgt := 20) dJ7_fill_53178_7 (by decide) (fun e2 => ?_) (fun e2 => ?_)
    · replace h := (if_pos e2).symm.trans h
      exact go_vret (pc := 20) (Option.some.inj h).symm rfl dJ7_fill_53178_20
    · replace h := (if_neg e2).symm.trans h
      refine go_aload_n (pc := 10) dJ7_fill_53178_10 rfl ?_
      refine go_iload_n (pc := 11) dJ7_fill_53178_11 rfl ?_
      refine go_iload_n (pc := 12) dJ7_fill_53178_12 rfl ?_
      obtain ⟨i1, h⟩ := g_gd h
      refine go_iast (pc := 13) (n := n0) ha0 (g_inb_ok i1) dJ7_fill_53178_13 ?_
      refine go_iinc (pc := 14) (v := (1 : Int32)) (lv' := [some (.inr a0), some (.inl v1), some (.inl (v2 + (1 : Int32))), some (.inl v3)]) dJ7_fill_53178_14 rfl (by decide) (by decide) rfl ?_
      refine go_goto (pc := 17) (tgt := 5) dJ7_fill_53178_17 (by decide) ?_
      exact go_to (ih _ _ _ _ h) (And.intro rfl (And.intro rfl (And.intro rfl (And.intro rfl trivial))))
def x_J7_fill_53178 (a0 n0 : Nat) (p1 : Int32) (M : g_M) : Option (Int32 × g_M) := (x_J7_fill_53178_L5 a0 n0  g_F p1 (0 : Int32) (Int32.ofNat n0) M)
set_option maxHeartbeats 4000000 in
set_option maxRecDepth 100000 in
theorem z_J7_fill_53178 {X : g_X} (hok : g_ok X) {a0 n0 : Nat} (ha0 : g_lay[a0]? = some (.inl n0)) {p1 : Int32} {M : g_M} {r : Int32 × g_M} (h : x_J7_fill_53178 a0 n0 p1 M = some r) : g_Con X yJ7_fill_53178 cJ7_fill_53178 4 none 0 0 [.inr a0, .inl p1] M r := by
  rw [x_J7_fill_53178] at h
  refine g_con hok (plainFor_of_name (by decide +kernel)) (Nat.le_of_ble_eq_true rfl) (go_to (lv2 := [some (.inr a0), some (.inl p1), none, none]) (own := RJ7) ?_ (And.intro rfl (And.intro rfl trivial)))
  refine go_iconst (pc := 0) (v := (0 : Int32)) dJ7_fill_53178_0 (by decide) ?_
  refine go_istore_n (pc := 1) (lv' := [some (.inr a0), some (.inl p1), some (.inl (0 : Int32)), none]) dJ7_fill_53178_1 (by decide) rfl ?_
  refine go_aload_n (pc := 2) dJ7_fill_53178_2 rfl ?_
  refine go_alen (pc := 3) (n := n0) (v := (Int32.ofNat n0)) ha0 rfl dJ7_fill_53178_3 ?_
  refine go_istore_n (pc := 4) (lv' := [some (.inr a0), some (.inl p1), some (.inl (0 : Int32)), some (.inl (Int32.ofNat n0))]) dJ7_fill_53178_4 (by decide) rfl ?_
  exact go_to (z_J7_fill_53178_L5 hok ha0  g_F _ _ _ _ h) (And.intro rfl (And.intro rfl (And.intro rfl (And.intro rfl trivial))))
def x_X4_keepHour_L46  (k3 : Int32 → Int32 → Int32 → Int32 → g_M → Option (Int32 × g_M)) (v1 : Int32) (v2 : Int32) (v3 : Int32) (v4 : Int32) (v5 : Int32) (s0 : Int32) (M : g_M) : Option (Int32 × g_M) := ((if g_inb v5 400 = true then ((if g_inb v5 400 = true then (k3 v1 v2 v3 (v4 + (1 : Int32)) (g_upd M 32 v5.toNatClampNeg ((g_max (M 32 v5.toNatClampNeg) v3) + s0))) else none)) else none))
set_option maxHeartbeats 4000000 in
set_option maxRecDepth 100000 in
theorem z_X4_keepHour_L46 {X : g_X} (hok : g_ok X)  {r : Int32 × g_M} {k3 : Int32 → Int32 → Int32 → Int32 → g_M → Option (Int32 × g_M)} (hk3 : ∀ (v1 : Int32) (v2 : Int32) (v3 : Int32) (v4 : Int32) (M : g_M), k3 v1 v2 v3 v4 M = some r → g_Go X cX4_keepHour RX4 7 none 1 15 r 3 [some (.inr 29), some (.inl v1), some (.inl v2), some (.inl v3), some (.inl v4), none, none] [] M) {v1 : Int32} {v2 : Int32} {v3 : Int32} {v4 : Int32} {v5 : Int32} {s0 : Int32} {M : g_M} (h : x_X4_keepHour_L46  k3 v1 v2 v3 v4 v5 s0 M = some r) : g_Go X cX4_keepHour RX4 7 none 1 15 r 46 [some (.inr 29), some (.inl v1), some (.inl v2), some (.inl v3), some (.inl v4), some (.inl v5), none] [.inl s0] M := by
  rw [x_X4_keepHour_L46] at h
  refine go_istore (pc := 46) (lv' := [some (.inr 29), some (.inl v1), some (.inl v2), some (.inl v3), some (.inl v4), some (.inl v5), some (.inl s0)]) dX4_keepHour_46 (by decide) rfl ?_
  refine go_aload_n (pc := 48) dX4_keepHour_48 rfl ?_
  refine gf_4_18 (pc := 49) dX4_keepHour_49 ?_
  refine go_iload (pc := 52) dX4_keepHour_52 rfl ?_
  refine go_aload_n (pc := 54) dX4_keepHour_54 rfl ?_
  refine gf_4_18 (pc := 55) dX4_keepHour_55 ?_
  refine go_iload (pc := 58) dX4_keepHour_58 rfl ?_
  obtain ⟨i1, h⟩ := g_gd h
  refine go_iald (pc := 60) (n := 400) rfl (g_inb_ok i1) dX4_keepHour_60 ?_
  refine go_iload_n (pc := 61) dX4_keepHour_61 rfl ?_
  refine go_mmax (pc := 62) ml_X4_40 lm_max_s lm_i lm_max_c (by decide) (Nat.le_of_ble_eq_true rfl) dX4_keepHour_62 ?_
  refine go_iload (pc := 65) dX4_keepHour_65 rfl ?_
  refine go_iadd (pc := 67) dX4_keepHour_67 ?_
  obtain ⟨i2, h⟩ := g_gd h
  refine go_iast (pc := 68) (n := 400) rfl (g_inb_ok i2) dX4_keepHour_68 ?_
  refine go_iinc (pc := 69) (v := (1 : Int32)) (lv' := [some (.inr 29), some (.inl v1), some (.inl v2), some (.inl v3), some (.inl (v4 + (1 : Int32))), some (.inl v5), some (.inl s0)]) dX4_keepHour_69 rfl (by decide) (by decide) rfl ?_
  refine go_goto (pc := 72) (tgt := 3) dX4_keepHour_72 (by decide) ?_
  exact go_to (hk3 _ _ _ _ _ h) (And.intro rfl (And.intro rfl (And.intro rfl (And.intro rfl (And.intro rfl trivial)))))
def x_X4_keepHour_L3   : Nat → Int32 → Int32 → Int32 → Int32 → g_M → Option (Int32 × g_M)
  | 0, _, _, _, _, _ => none
  | n + 1, v1, v2, v3, v4, M => (if (99 : Int32) < v4 then (some (0, M)) else ((if g_inb v1 12 = true then (if v4 < (M 30 v1.toNatClampNeg) then (x_X4_keepHour_L46  (x_X4_keepHour_L3   n) v1 v2 v3 v4 ((v2 * (100 : Int32)) + v4) (0 : Int32) M) else ((if g_inb v1 12 = true then (if (M 31 v1.toNatClampNeg) < v4 then (x_X4_keepHour_L46  (x_X4_keepHour_L3   n) v1 v2 v3 v4 ((v2 * (100 : Int32)) + v4) (0 : Int32) M) else (x_X4_keepHour_L46  (x_X4_keepHour_L3   n) v1 v2 v3 v4 ((v2 * (100 : Int32)) + v4) (1 : Int32) M)) else none))) else none)))
set_option maxHeartbeats 4000000 in
set_option maxRecDepth 100000 in
theorem z_X4_keepHour_L3 {X : g_X} (hok : g_ok X)  {r : Int32 × g_M}  : ∀ (n : Nat) (v1 : Int32) (v2 : Int32) (v3 : Int32) (v4 : Int32) (M : g_M), x_X4_keepHour_L3   n v1 v2 v3 v4 M = some r → g_Go X cX4_keepHour RX4 7 none 1 15 r 3 [some (.inr 29), some (.inl v1), some (.inl v2), some (.inl v3), some (.inl v4), none, none] [] M := by
  intro n
  induction n with
  | zero =>
    intro v1 v2 v3 v4 M h
    rw [x_X4_keepHour_L3] at h
    cases h
  | succ n ih =>
    intro v1 v2 v3 v4 M h
    rw [x_X4_keepHour_L3] at h
    refine go_iload (pc := 3) dX4_keepHour_3 rfl ?_
    refine go_bipush (pc := 5) (v := (99 : Int32)) dX4_keepHour_5 (by decide) ?_
    refine go_icmp_gt (pc := 7) (tgt := 75) dX4_keepHour_7 (by decide) (fun e7 => ?_) (fun e7 => ?_)
    · replace h := (if_pos e7).symm.trans h
      exact go_vret (pc := 75) (Option.some.inj h).symm rfl dX4_keepHour_75
    · replace h := (if_neg e7).symm.trans h
      refine go_iload_n (pc := 10) dX4_keepHour_10 rfl ?_
      refine go_bipush (pc := 11) (v := (100 : Int32)) dX4_keepHour_11 (by decide) ?_
      refine go_imul (pc := 13) dX4_keepHour_13 ?_
      refine go_iload (pc := 14) dX4_keepHour_14 rfl ?_
      refine go_iadd (pc := 16) dX4_keepHour_16 ?_
      refine go_istore (pc := 17) (lv' := [some (.inr 29), some (.inl v1), some (.inl v2), some (.inl v3), some (.inl v4), some (.inl ((v2 * (100 : Int32)) + v4)), none]) dX4_keepHour_17 (by decide) rfl ?_
      refine go_aload_n (pc := 19) dX4_keepHour_19 rfl ?_
      refine gf_4_9 (pc := 20) dX4_keepHour_20 ?_
      refine go_iload_n (pc := 23) dX4_keepHour_23 rfl ?_
      obtain ⟨i3, h⟩ := g_gd h
      refine go_iald (pc := 24) (n := 12) rfl (g_inb_ok i3) dX4_keepHour_24 ?_
      refine go_iload (pc := 25) dX4_keepHour_25 rfl ?_
      refine go_icmp_gt (pc := 27) (tgt := 45) dX4_keepHour_27 (by decide) (fun e6 => ?_) (fun e6 => ?_)
      · replace h := (if_pos e6).symm.trans h
        refine go_iconst (pc := 45) (v := (0 : Int32)) dX4_keepHour_45 (by decide) ?_
        exact go_to (z_X4_keepHour_L46 hok  (ih) h) (And.intro rfl (And.intro rfl (And.intro rfl (And.intro rfl (And.intro rfl (And.intro rfl trivial))))))
      · replace h := (if_neg e6).symm.trans h
        refine go_iload (pc := 30) dX4_keepHour_30 rfl ?_
        refine go_aload_n (pc := 32) dX4_keepHour_32 rfl ?_
        refine gf_4_15 (pc := 33) dX4_keepHour_33 ?_
        refine go_iload_n (pc := 36) dX4_keepHour_36 rfl ?_
        obtain ⟨i4, h⟩ := g_gd h
        refine go_iald (pc := 37) (n := 12) rfl (g_inb_ok i4) dX4_keepHour_37 ?_
        refine go_icmp_gt (pc := 38) (tgt := 45) dX4_keepHour_38 (by decide) (fun e5 => ?_) (fun e5 => ?_)
        · replace h := (if_pos e5).symm.trans h
          refine go_iconst (pc := 45) (v := (0 : Int32)) dX4_keepHour_45 (by decide) ?_
          exact go_to (z_X4_keepHour_L46 hok  (ih) h) (And.intro rfl (And.intro rfl (And.intro rfl (And.intro rfl (And.intro rfl (And.intro rfl trivial))))))
        · replace h := (if_neg e5).symm.trans h
          refine go_iconst (pc := 41) (v := (1 : Int32)) dX4_keepHour_41 (by decide) ?_
          refine go_goto (pc := 42) (tgt := 46) dX4_keepHour_42 (by decide) ?_
          exact go_to (z_X4_keepHour_L46 hok  (ih) h) (And.intro rfl (And.intro rfl (And.intro rfl (And.intro rfl (And.intro rfl (And.intro rfl trivial))))))
def x_X4_keepHour  (p1 p2 p3 : Int32) (M : g_M) : Option (Int32 × g_M) := (x_X4_keepHour_L3   g_F p1 p2 p3 (0 : Int32) M)
set_option maxHeartbeats 4000000 in
set_option maxRecDepth 100000 in
theorem z_X4_keepHour {X : g_X} (hok : g_ok X)  {p1 p2 p3 : Int32} {M : g_M} {r : Int32 × g_M} (h : x_X4_keepHour p1 p2 p3 M = some r) : g_Con X yX4_keepHour cX4_keepHour 7 none 1 15 [.inr 29, .inl p1, .inl p2, .inl p3] M r := by
  rw [x_X4_keepHour] at h
  refine g_con hok (plainFor_of_name (by decide +kernel)) (Nat.le_of_ble_eq_true rfl) (go_to (lv2 := [some (.inr 29), some (.inl p1), some (.inl p2), some (.inl p3), none, none, none]) (own := RX4) ?_ (And.intro rfl (And.intro rfl (And.intro rfl (And.intro rfl trivial)))))
  refine go_iconst (pc := 0) (v := (0 : Int32)) dX4_keepHour_0 (by decide) ?_
  refine go_istore (pc := 1) (lv' := [some (.inr 29), some (.inl p1), some (.inl p2), some (.inl p3), some (.inl (0 : Int32)), none, none]) dX4_keepHour_1 (by decide) rfl ?_
  exact go_to (z_X4_keepHour_L3 hok   g_F _ _ _ _ _ h) (And.intro rfl (And.intro rfl (And.intro rfl (And.intro rfl (And.intro rfl trivial)))))
def x_X4_bestKept_L4   : Nat → Int32 → Int32 → Int32 → g_M → Option (Int32 × g_M)
  | 0, _, _, _, _ => none
  | n + 1, v1, v2, v3, M => (if (99 : Int32) < v3 then (some (v2, M)) else ((if g_inb ((v1 * (100 : Int32)) + v3) 400 = true then (x_X4_bestKept_L4   n v1 (g_max v2 (M 32 ((v1 * (100 : Int32)) + v3).toNatClampNeg)) (v3 + (1 : Int32)) M) else none)))
set_option maxHeartbeats 4000000 in
set_option maxRecDepth 100000 in
theorem z_X4_bestKept_L4 {X : g_X} (hok : g_ok X)  {r : Int32 × g_M}  : ∀ (n : Nat) (v1 : Int32) (v2 : Int32) (v3 : Int32) (M : g_M), x_X4_bestKept_L4   n v1 v2 v3 M = some r → g_Go X cX4_bestKept RX4 4 (some .int) 1 13 r 4 [some (.inr 29), some (.inl v1), some (.inl v2), some (.inl v3)] [] M := by
  intro n
  induction n with
  | zero =>
    intro v1 v2 v3 M h
    rw [x_X4_bestKept_L4] at h
    cases h
  | succ n ih =>
    intro v1 v2 v3 M h
    rw [x_X4_bestKept_L4] at h
    refine go_iload_n (pc := 4) dX4_bestKept_4 rfl ?_
    refine go_bipush (pc := 5) (v := (99 : Int32)) dX4_bestKept_5 (by decide) ?_
    refine go_icmp_gt (pc := 7) (tgt := 32) dX4_bestKept_7 (by decide) (fun e2 => ?_) (fun e2 => ?_)
    · replace h := (if_pos e2).symm.trans h
      refine go_iload_n (pc := 32) dX4_bestKept_32 rfl ?_
      exact go_iret (pc := 33) (Option.some.inj h).symm rfl dX4_bestKept_33 rfl
    · replace h := (if_neg e2).symm.trans h
      refine go_iload_n (pc := 10) dX4_bestKept_10 rfl ?_
      refine go_aload_n (pc := 11) dX4_bestKept_11 rfl ?_
      refine gf_4_18 (pc := 12) dX4_bestKept_12 ?_
      refine go_iload_n (pc := 15) dX4_bestKept_15 rfl ?_
      refine go_bipush (pc := 16) (v := (100 : Int32)) dX4_bestKept_16 (by decide) ?_
      refine go_imul (pc := 18) dX4_bestKept_18 ?_
      refine go_iload_n (pc := 19) dX4_bestKept_19 rfl ?_
      refine go_iadd (pc := 20) dX4_bestKept_20 ?_
      obtain ⟨i1, h⟩ := g_gd h
      refine go_iald (pc := 21) (n := 400) rfl (g_inb_ok i1) dX4_bestKept_21 ?_
      refine go_mmax (pc := 22) ml_X4_40 lm_max_s lm_i lm_max_c (by decide) (Nat.le_of_ble_eq_true rfl) dX4_bestKept_22 ?_
      refine go_istore_n (pc := 25) (lv' := [some (.inr 29), some (.inl v1), some (.inl (g_max v2 (M 32 ((v1 * (100 : Int32)) + v3).toNatClampNeg))), some (.inl v3)]) dX4_bestKept_25 (by decide) rfl ?_
      refine go_iinc (pc := 26) (v := (1 : Int32)) (lv' := [some (.inr 29), some (.inl v1), some (.inl (g_max v2 (M 32 ((v1 * (100 : Int32)) + v3).toNatClampNeg))), some (.inl (v3 + (1 : Int32)))]) dX4_bestKept_26 rfl (by decide) (by decide) rfl ?_
      refine go_goto (pc := 29) (tgt := 4) dX4_bestKept_29 (by decide) ?_
      exact go_to (ih _ _ _ _ h) (And.intro rfl (And.intro rfl (And.intro rfl (And.intro rfl trivial))))
def x_X4_bestKept  (p1 : Int32) (M : g_M) : Option (Int32 × g_M) := (x_X4_bestKept_L4   g_F p1 (0 : Int32) (0 : Int32) M)
set_option maxHeartbeats 4000000 in
set_option maxRecDepth 100000 in
theorem z_X4_bestKept {X : g_X} (hok : g_ok X)  {p1 : Int32} {M : g_M} {r : Int32 × g_M} (h : x_X4_bestKept p1 M = some r) : g_Con X yX4_bestKept cX4_bestKept 4 (some .int) 1 13 [.inr 29, .inl p1] M r := by
  rw [x_X4_bestKept] at h
  refine g_con hok (plainFor_of_name (by decide +kernel)) (Nat.le_of_ble_eq_true rfl) (go_to (lv2 := [some (.inr 29), some (.inl p1), none, none]) (own := RX4) ?_ (And.intro rfl (And.intro rfl trivial)))
  refine go_iconst (pc := 0) (v := (0 : Int32)) dX4_bestKept_0 (by decide) ?_
  refine go_istore_n (pc := 1) (lv' := [some (.inr 29), some (.inl p1), some (.inl (0 : Int32)), none]) dX4_bestKept_1 (by decide) rfl ?_
  refine go_iconst (pc := 2) (v := (0 : Int32)) dX4_bestKept_2 (by decide) ?_
  refine go_istore_n (pc := 3) (lv' := [some (.inr 29), some (.inl p1), some (.inl (0 : Int32)), some (.inl (0 : Int32))]) dX4_bestKept_3 (by decide) rfl ?_
  exact go_to (z_X4_bestKept_L4 hok   g_F _ _ _ _ h) (And.intro rfl (And.intro rfl (And.intro rfl (And.intro rfl trivial))))
def x_X4_mostGoodHours_L76  (k28 : Int32 → Int32 → g_M → Option (Int32 × g_M)) : Nat → Int32 → Int32 → Int32 → g_M → Option (Int32 × g_M)
  | 0, _, _, _, _ => none
  | n + 1, v2, v3, v4, M => (if v2 < v4 then (k28 v2 (v3 + (1 : Int32)) M) else (((x_X4_bestKept v4 M).bind fun u1 => (if g_inb v4 4 = true then (x_X4_mostGoodHours_L76  k28 n v2 v3 (v4 + (1 : Int32)) (g_upd u1.2 33 v4.toNatClampNeg u1.1)) else none))))
set_option maxHeartbeats 4000000 in
set_option maxRecDepth 100000 in
theorem z_X4_mostGoodHours_L76 {X : g_X} (hok : g_ok X)  {r : Int32 × g_M} {k28 : Int32 → Int32 → g_M → Option (Int32 × g_M)} (hk28 : ∀ (v2 : Int32) (v3 : Int32) (M : g_M), k28 v2 v3 M = some r → g_Go X cX4_mostGoodHours RX4 5 (some .int) 2 41 r 28 [some (.inr 29), none, some (.inl v2), some (.inl v3), none] [] M) : ∀ (n : Nat) (v2 : Int32) (v3 : Int32) (v4 : Int32) (M : g_M), x_X4_mostGoodHours_L76  k28 n v2 v3 v4 M = some r → g_Go X cX4_mostGoodHours RX4 5 (some .int) 2 41 r 76 [some (.inr 29), none, some (.inl v2), some (.inl v3), some (.inl v4)] [] M := by
  intro n
  induction n with
  | zero =>
    intro v2 v3 v4 M h
    rw [x_X4_mostGoodHours_L76] at h
    cases h
  | succ n ih =>
    intro v2 v3 v4 M h
    rw [x_X4_mostGoodHours_L76] at h
    refine go_iload (pc := 76) dX4_mostGoodHours_76 rfl ?_
    refine go_iload_n (pc := 78) dX4_mostGoodHours_78 rfl ?_
    refine go_icmp_gt (pc := 79) (tgt := 101) dX4_mostGoodHours_79 (by decide) (fun e4 => ?_) (fun e4 => ?_)
    · replace h := (if_pos e4).symm.trans h
      refine go_iinc (pc := 101) (v := (1 : Int32)) (lv' := [some (.inr 29), none, some (.inl v2), some (.inl (v3 + (1 : Int32))), some (.inl v4)]) dX4_mostGoodHours_101 rfl (by decide) (by decide) rfl ?_
      refine go_goto (pc := 104) (tgt := 28) dX4_mostGoodHours_104 (by decide) ?_
      exact go_to (hk28 _ _ _ h) (And.intro rfl (And.intro rfl (And.intro rfl trivial)))
    · replace h := (if_neg e4).symm.trans h
      refine go_aload_n (pc := 82) dX4_mostGoodHours_82 rfl ?_
      refine gf_4_21 (pc := 83) dX4_mostGoodHours_83 ?_
      refine go_iload (pc := 86) dX4_mostGoodHours_86 rfl ?_
      refine go_aload_n (pc := 88) dX4_mostGoodHours_88 rfl ?_
      refine go_iload (pc := 89) dX4_mostGoodHours_89 rfl ?_
      obtain ⟨u1, c2, h⟩ := g_bd h
      refine go_callV (pc := 91) (as := [.inl v4]) (st := [.inl v4, .inr 33]) (r := u1.1) (M1 := u1.2) (z_X4_bestKept hok  c2) cw_X4_bestKept ml_X4_58 (show g_lay[29]? = some _ from rfl) rfl rfl (by decide) (Nat.le_of_ble_eq_true rfl) rfl dX4_mostGoodHours_91 ?_
      obtain ⟨i3, h⟩ := g_gd h
      refine go_iast (pc := 94) (n := 4) rfl (g_inb_ok i3) dX4_mostGoodHours_94 ?_
      refine go_iinc (pc := 95) (v := (1 : Int32)) (lv' := [some (.inr 29), none, some (.inl v2), some (.inl v3), some (.inl (v4 + (1 : Int32)))]) dX4_mostGoodHours_95 rfl (by decide) (by decide) rfl ?_
      refine go_goto (pc := 98) (tgt := 76) dX4_mostGoodHours_98 (by decide) ?_
      exact go_to (ih _ _ _ _ h) (And.intro rfl (And.intro rfl (And.intro rfl (And.intro rfl trivial))))
def x_X4_mostGoodHours_L37  (k28 : Int32 → Int32 → g_M → Option (Int32 × g_M)) : Nat → Int32 → Int32 → Int32 → g_M → Option (Int32 × g_M)
  | 0, _, _, _, _ => none
  | n + 1, v2, v3, v4, M => (if v4 < 0 then (x_X4_mostGoodHours_L76  (k28) g_F v2 v3 (0 : Int32) M) else (if v4 ≤ 0 then (((x_X4_keepHour v3 v4 (0 : Int32) M).bind fun u5 => x_X4_mostGoodHours_L37  k28 n v2 v3 (v4 + (-1 : Int32)) u5.2)) else ((if g_inb (v4 - (1 : Int32)) 4 = true then (((x_X4_keepHour v3 v4 (M 33 (v4 - (1 : Int32)).toNatClampNeg) M).bind fun u8 => x_X4_mostGoodHours_L37  k28 n v2 v3 (v4 + (-1 : Int32)) u8.2)) else none))))
set_option maxHeartbeats 4000000 in
set_option maxRecDepth 100000 in
theorem z_X4_mostGoodHours_L37 {X : g_X} (hok : g_ok X)  {r : Int32 × g_M} {k28 : Int32 → Int32 → g_M → Option (Int32 × g_M)} (hk28 : ∀ (v2 : Int32) (v3 : Int32) (M : g_M), k28 v2 v3 M = some r → g_Go X cX4_mostGoodHours RX4 5 (some .int) 2 41 r 28 [some (.inr 29), none, some (.inl v2), some (.inl v3), none] [] M) : ∀ (n : Nat) (v2 : Int32) (v3 : Int32) (v4 : Int32) (M : g_M), x_X4_mostGoodHours_L37  k28 n v2 v3 v4 M = some r → g_Go X cX4_mostGoodHours RX4 5 (some .int) 2 41 r 37 [some (.inr 29), none, some (.inl v2), some (.inl v3), some (.inl v4)] [] M := by
  intro n
  induction n with
  | zero =>
    intro v2 v3 v4 M h
    rw [x_X4_mostGoodHours_L37] at h
    cases h
  | succ n ih =>
    intro v2 v3 v4 M h
    rw [x_X4_mostGoodHours_L37] at h
    refine go_iload (pc := 37) dX4_mostGoodHours_37 rfl ?_
    refine go_if_lt (pc := 39) (tgt := 73) dX4_mostGoodHours_39 (by decide) (fun e11 => ?_) (fun e11 => ?_)
    · replace h := (if_pos e11).symm.trans h
      refine go_iconst (pc := 73) (v := (0 : Int32)) dX4_mostGoodHours_73 (by decide) ?_
      refine go_istore (pc := 74) (lv' := [some (.inr 29), none, some (.inl v2), some (.inl v3), some (.inl (0 : Int32))]) dX4_mostGoodHours_74 (by decide) rfl ?_
      exact go_to (z_X4_mostGoodHours_L76 hok  (hk28) g_F _ _ _ _ h) (And.intro rfl (And.intro rfl (And.intro rfl (And.intro rfl trivial))))
    · replace h := (if_neg e11).symm.trans h
      refine go_aload_n (pc := 42) dX4_mostGoodHours_42 rfl ?_
      refine go_iload_n (pc := 43) dX4_mostGoodHours_43 rfl ?_
      refine go_iload (pc := 44) dX4_mostGoodHours_44 rfl ?_
      refine go_iload (pc := 46) dX4_mostGoodHours_46 rfl ?_
      refine go_if_le (pc := 48) (tgt := 63) dX4_mostGoodHours_48 (by decide) (fun e10 => ?_) (fun e10 => ?_)
      · replace h := (if_pos e10).symm.trans h
        refine go_iconst (pc := 63) (v := (0 : Int32)) dX4_mostGoodHours_63 (by decide) ?_
        obtain ⟨u5, c6, h⟩ := g_bd h
        refine go_callV (pc := 64) (as := [.inl v3, .inl v4, .inl (0 : Int32)]) (st := []) (r := u5.1) (M1 := u5.2) (z_X4_keepHour hok  c6) cw_X4_keepHour ml_X4_54 (show g_lay[29]? = some _ from rfl) rfl rfl (by decide) (Nat.le_of_ble_eq_true rfl) rfl dX4_mostGoodHours_64 ?_
        refine go_iinc (pc := 67) (v := (-1 : Int32)) (lv' := [some (.inr 29), none, some (.inl v2), some (.inl v3), some (.inl (v4 + (-1 : Int32)))]) dX4_mostGoodHours_67 rfl (by decide) (by decide) rfl ?_
        refine go_goto (pc := 70) (tgt := 37) dX4_mostGoodHours_70 (by decide) ?_
        exact go_to (ih _ _ _ _ h) (And.intro rfl (And.intro rfl (And.intro rfl (And.intro rfl trivial))))
      · replace h := (if_neg e10).symm.trans h
        refine go_aload_n (pc := 51) dX4_mostGoodHours_51 rfl ?_
        refine gf_4_21 (pc := 52) dX4_mostGoodHours_52 ?_
        refine go_iload (pc := 55) dX4_mostGoodHours_55 rfl ?_
        refine go_iconst (pc := 57) (v := (1 : Int32)) dX4_mostGoodHours_57 (by decide) ?_
        refine go_isub (pc := 58) dX4_mostGoodHours_58 ?_
        obtain ⟨i7, h⟩ := g_gd h
        refine go_iald (pc := 59) (n := 4) rfl (g_inb_ok i7) dX4_mostGoodHours_59 ?_
        refine go_goto (pc := 60) (tgt := 64) dX4_mostGoodHours_60 (by decide) ?_
        obtain ⟨u8, c9, h⟩ := g_bd h
        refine go_callV (pc := 64) (as := [.inl v3, .inl v4, .inl (M 33 (v4 - (1 : Int32)).toNatClampNeg)]) (st := []) (r := u8.1) (M1 := u8.2) (z_X4_keepHour hok  c9) cw_X4_keepHour ml_X4_54 (show g_lay[29]? = some _ from rfl) rfl rfl (by decide) (Nat.le_of_ble_eq_true rfl) rfl dX4_mostGoodHours_64 ?_
        refine go_iinc (pc := 67) (v := (-1 : Int32)) (lv' := [some (.inr 29), none, some (.inl v2), some (.inl v3), some (.inl (v4 + (-1 : Int32)))]) dX4_mostGoodHours_67 rfl (by decide) (by decide) rfl ?_
        refine go_goto (pc := 70) (tgt := 37) dX4_mostGoodHours_70 (by decide) ?_
        exact go_to (ih _ _ _ _ h) (And.intro rfl (And.intro rfl (And.intro rfl (And.intro rfl trivial))))
def x_X4_mostGoodHours_L28   : Nat → Int32 → Int32 → g_M → Option (Int32 × g_M)
  | 0, _, _, _ => none
  | n + 1, v2, v3, M => (if (12 : Int32) ≤ v3 then ((if g_inb v2 4 = true then (some ((M 33 v2.toNatClampNeg), M)) else none)) else (x_X4_mostGoodHours_L37  (x_X4_mostGoodHours_L28   n) g_F v2 v3 v2 M))
set_option maxHeartbeats 4000000 in
set_option maxRecDepth 100000 in
theorem z_X4_mostGoodHours_L28 {X : g_X} (hok : g_ok X)  {r : Int32 × g_M}  : ∀ (n : Nat) (v2 : Int32) (v3 : Int32) (M : g_M), x_X4_mostGoodHours_L28   n v2 v3 M = some r → g_Go X cX4_mostGoodHours RX4 5 (some .int) 2 41 r 28 [some (.inr 29), none, some (.inl v2), some (.inl v3), none] [] M := by
  intro n
  induction n with
  | zero =>
    intro v2 v3 M h
    rw [x_X4_mostGoodHours_L28] at h
    cases h
  | succ n ih =>
    intro v2 v3 M h
    rw [x_X4_mostGoodHours_L28] at h
    refine go_iload_n (pc := 28) dX4_mostGoodHours_28 rfl ?_
    refine go_bipush (pc := 29) (v := (12 : Int32)) dX4_mostGoodHours_29 (by decide) ?_
    refine go_icmp_ge (pc := 31) (tgt := 107) dX4_mostGoodHours_31 (by decide) (fun e13 => ?_) (fun e13 => ?_)
    · replace h := (if_pos e13).symm.trans h
      refine go_aload_n (pc := 107) dX4_mostGoodHours_107 rfl ?_
      refine gf_4_21 (pc := 108) dX4_mostGoodHours_108 ?_
      refine go_iload_n (pc := 111) dX4_mostGoodHours_111 rfl ?_
      obtain ⟨i12, h⟩ := g_gd h
      refine go_iald (pc := 112) (n := 4) rfl (g_inb_ok i12) dX4_mostGoodHours_112 ?_
      exact go_iret (pc := 113) (Option.some.inj h).symm rfl dX4_mostGoodHours_113 rfl
    · replace h := (if_neg e13).symm.trans h
      refine go_iload_n (pc := 34) dX4_mostGoodHours_34 rfl ?_
      refine go_istore (pc := 35) (lv' := [some (.inr 29), none, some (.inl v2), some (.inl v3), some (.inl v2)]) dX4_mostGoodHours_35 (by decide) rfl ?_
      exact go_to (z_X4_mostGoodHours_L37 hok  (ih) g_F _ _ _ _ h) (And.intro rfl (And.intro rfl (And.intro rfl (And.intro rfl trivial))))
def x_X4_mostGoodHours  (p1 : Int32) (M : g_M) : Option (Int32 × g_M) := (((x_J7_fill_53178 32 400 (0 : Int32) M).bind fun u14 => ((x_J7_fill_53178 33 4 (0 : Int32) u14.2).bind fun u16 => x_X4_mostGoodHours_L28   g_F (g_max (0 : Int32) (g_min p1 (3 : Int32))) (0 : Int32) u16.2)))
set_option maxHeartbeats 4000000 in
set_option maxRecDepth 100000 in
theorem z_X4_mostGoodHours {X : g_X} (hok : g_ok X)  {p1 : Int32} {M : g_M} {r : Int32 × g_M} (h : x_X4_mostGoodHours p1 M = some r) : g_Con X yX4_mostGoodHours cX4_mostGoodHours 5 (some .int) 2 41 [.inr 29, .inl p1] M r := by
  rw [x_X4_mostGoodHours] at h
  refine g_con hok (plainFor_of_name (by decide +kernel)) (Nat.le_of_ble_eq_true rfl) (go_to (lv2 := [some (.inr 29), some (.inl p1), none, none, none]) (own := RX4) ?_ (And.intro rfl (And.intro rfl trivial)))
  refine go_aload_n (pc := 0) dX4_mostGoodHours_0 rfl ?_
  refine gf_4_18 (pc := 1) dX4_mostGoodHours_1 ?_
  refine go_iconst (pc := 4) (v := (0 : Int32)) dX4_mostGoodHours_4 (by decide) ?_
  obtain ⟨u14, c15, h⟩ := g_bd h
  refine go_callS (pc := 5) (as := [.inr 32, .inl (0 : Int32)]) (st := []) (r := u14.1) (M1 := u14.2) (z_J7_fill_53178 hok rfl c15) cw_J7_fill_53178 ml_X4_48 (by decide) (Nat.le_of_ble_eq_true rfl) rfl dX4_mostGoodHours_5 ?_
  refine go_aload_n (pc := 8) dX4_mostGoodHours_8 rfl ?_
  refine gf_4_21 (pc := 9) dX4_mostGoodHours_9 ?_
  refine go_iconst (pc := 12) (v := (0 : Int32)) dX4_mostGoodHours_12 (by decide) ?_
  obtain ⟨u16, c17, h⟩ := g_bd h
  refine go_callS (pc := 13) (as := [.inr 33, .inl (0 : Int32)]) (st := []) (r := u16.1) (M1 := u16.2) (z_J7_fill_53178 hok rfl c17) cw_J7_fill_53178 ml_X4_48 (by decide) (Nat.le_of_ble_eq_true rfl) rfl dX4_mostGoodHours_13 ?_
  refine go_iconst (pc := 16) (v := (0 : Int32)) dX4_mostGoodHours_16 (by decide) ?_
  refine go_iload_n (pc := 17) dX4_mostGoodHours_17 rfl ?_
  refine go_iconst (pc := 18) (v := (3 : Int32)) dX4_mostGoodHours_18 (by decide) ?_
  refine go_mmin (pc := 19) ml_X4_45 lm_min_s lm_i lm_min_c (by decide) (Nat.le_of_ble_eq_true rfl) dX4_mostGoodHours_19 ?_
  refine go_mmax (pc := 22) ml_X4_40 lm_max_s lm_i lm_max_c (by decide) (Nat.le_of_ble_eq_true rfl) dX4_mostGoodHours_22 ?_
  refine go_istore_n (pc := 25) (lv' := [some (.inr 29), some (.inl p1), some (.inl (g_max (0 : Int32) (g_min p1 (3 : Int32)))), none, none]) dX4_mostGoodHours_25 (by decide) rfl ?_
  refine go_iconst (pc := 26) (v := (0 : Int32)) dX4_mostGoodHours_26 (by decide) ?_
  refine go_istore_n (pc := 27) (lv' := [some (.inr 29), some (.inl p1), some (.inl (g_max (0 : Int32) (g_min p1 (3 : Int32)))), some (.inl (0 : Int32)), none]) dX4_mostGoodHours_27 (by decide) rfl ?_
  exact go_to (z_X4_mostGoodHours_L28 hok   g_F _ _ _ h) (And.intro rfl (And.intro rfl (And.intro rfl trivial)))
def x_X5_moveTo (q : Nat) (q1 : Nat) (p2 : Int32) (M : g_M) : Option (Int32 × g_M) := (((x_X2_ringCell q1 p2 (0 : Int32) M).bind fun u1 => ((x_X2_ringCell q1 p2 (1 : Int32) (g_upd u1.2 q 2 u1.1)).bind fun u3 => some (0, (g_upd u3.2 q 3 u3.1)))))
set_option maxHeartbeats 4000000 in
set_option maxRecDepth 100000 in
theorem z_X5_moveTo {X : g_X} (hok : g_ok X) {q : Nat} (hq : g_isM q) {q1 : Nat} (hq1 : g_isH q1) {p2 : Int32} {M : g_M} {r : Int32 × g_M} (h : x_X5_moveTo q q1 p2 M = some r) : g_Con X yX5_moveTo cX5_moveTo 3 none 2 43 [.inr q, .inr q1, .inl p2] M r := by
  rw [x_X5_moveTo] at h
  refine g_con hok (plainFor_of_name (by decide +kernel)) (Nat.le_of_ble_eq_true rfl) (go_to (lv2 := [some (.inr q), some (.inr q1), some (.inl p2)]) (own := RX5) ?_ (And.intro rfl (And.intro rfl (And.intro rfl trivial))))
  refine go_aload_n (pc := 0) dX5_moveTo_0 rfl ?_
  refine go_aload_n (pc := 1) dX5_moveTo_1 rfl ?_
  refine go_iload_n (pc := 2) dX5_moveTo_2 rfl ?_
  refine go_iconst (pc := 3) (v := (0 : Int32)) dX5_moveTo_3 (by decide) ?_
  obtain ⟨u1, c2, h⟩ := g_bd h
  refine go_callV (pc := 4) (as := [.inl p2, .inl (0 : Int32)]) (st := [.inr q]) (r := u1.1) (M1 := u1.2) (z_X2_ringCell hok hq1 c2) cw_X2_ringCell ml_X5_49 hq1.1 rfl rfl (by decide) (Nat.le_of_ble_eq_true rfl) rfl dX5_moveTo_4 ?_
  refine gp_5_18 (pc := 7) hq dX5_moveTo_7 ?_
  refine go_aload_n (pc := 10) dX5_moveTo_10 rfl ?_
  refine go_aload_n (pc := 11) dX5_moveTo_11 rfl ?_
  refine go_iload_n (pc := 12) dX5_moveTo_12 rfl ?_
  refine go_iconst (pc := 13) (v := (1 : Int32)) dX5_moveTo_13 (by decide) ?_
  obtain ⟨u3, c4, h⟩ := g_bd h
  refine go_callV (pc := 14) (as := [.inl p2, .inl (1 : Int32)]) (st := [.inr q]) (r := u3.1) (M1 := u3.2) (z_X2_ringCell hok hq1 c4) cw_X2_ringCell ml_X5_49 hq1.1 rfl rfl (by decide) (Nat.le_of_ble_eq_true rfl) rfl dX5_moveTo_14 ?_
  refine gp_5_21 (pc := 17) hq dX5_moveTo_17 ?_
  exact go_vret (pc := 20) (Option.some.inj h).symm rfl dX5_moveTo_20
def x_X5_load (q : Nat) (q1 : Nat) (p2 : Int32) (M : g_M) : Option (Int32 × g_M) := (((x_X2_boatCell q1 p2 (0 : Int32) M).bind fun u1 => ((x_X2_boatCell q1 p2 (1 : Int32) (g_upd u1.2 q 0 u1.1)).bind fun u3 => ((x_X2_boatCell q1 p2 (2 : Int32) (g_upd u3.2 q 1 u3.1)).bind fun u5 => ((x_X5_moveTo q q1 u5.1 u5.2).bind fun u7 => ((x_X2_boatCell q1 p2 (3 : Int32) u7.2).bind fun u9 => ((x_X2_ringCell q1 u9.1 (0 : Int32) u9.2).bind fun u11 => ((x_X2_boatCell q1 p2 (4 : Int32) (g_upd u11.2 q 4 u11.1)).bind fun u13 => ((x_X2_boatCell q1 p2 (5 : Int32) (g_upd u13.2 q 5 u13.1)).bind fun u15 => ((x_X2_boatCell q1 p2 (6 : Int32) (g_upd u15.2 q 6 u15.1)).bind fun u17 => some (0, (g_upd (g_upd u17.2 q 7 u17.1) q 8 ((g_upd u17.2 q 7 u17.1) q1 9)))))))))))))
set_option maxHeartbeats 4000000 in
set_option maxRecDepth 100000 in
theorem z_X5_load {X : g_X} (hok : g_ok X) {q : Nat} (hq : g_isM q) {q1 : Nat} (hq1 : g_isH q1) {p2 : Int32} {M : g_M} {r : Int32 × g_M} (h : x_X5_load q q1 p2 M = some r) : g_Con X yX5_load cX5_load 3 none 3 65 [.inr q, .inr q1, .inl p2] M r := by
  rw [x_X5_load] at h
  refine g_con hok (plainFor_of_name (by decide +kernel)) (Nat.le_of_ble_eq_true rfl) (go_to (lv2 := [some (.inr q), some (.inr q1), some (.inl p2)]) (own := RX5) ?_ (And.intro rfl (And.intro rfl (And.intro rfl trivial))))
  refine go_aload_n (pc := 0) dX5_load_0 rfl ?_
  refine go_aload_n (pc := 1) dX5_load_1 rfl ?_
  refine go_iload_n (pc := 2) dX5_load_2 rfl ?_
  refine go_iconst (pc := 3) (v := (0 : Int32)) dX5_load_3 (by decide) ?_
  obtain ⟨u1, c2, h⟩ := g_bd h
  refine go_callV (pc := 4) (as := [.inl p2, .inl (0 : Int32)]) (st := [.inr q]) (r := u1.1) (M1 := u1.2) (z_X2_boatCell hok hq1 c2) cw_X2_boatCell ml_X5_39 hq1.1 rfl rfl (by decide) (Nat.le_of_ble_eq_true rfl) rfl dX5_load_4 ?_
  refine gp_5_9 (pc := 7) hq dX5_load_7 ?_
  refine go_aload_n (pc := 10) dX5_load_10 rfl ?_
  refine go_aload_n (pc := 11) dX5_load_11 rfl ?_
  refine go_iload_n (pc := 12) dX5_load_12 rfl ?_
  refine go_iconst (pc := 13) (v := (1 : Int32)) dX5_load_13 (by decide) ?_
  obtain ⟨u3, c4, h⟩ := g_bd h
  refine go_callV (pc := 14) (as := [.inl p2, .inl (1 : Int32)]) (st := [.inr q]) (r := u3.1) (M1 := u3.2) (z_X2_boatCell hok hq1 c4) cw_X2_boatCell ml_X5_39 hq1.1 rfl rfl (by decide) (Nat.le_of_ble_eq_true rfl) rfl dX5_load_14 ?_
  refine gp_5_15 (pc := 17) hq dX5_load_17 ?_
  refine go_aload_n (pc := 20) dX5_load_20 rfl ?_
  refine go_aload_n (pc := 21) dX5_load_21 rfl ?_
  refine go_aload_n (pc := 22) dX5_load_22 rfl ?_
  refine go_iload_n (pc := 23) dX5_load_23 rfl ?_
  refine go_iconst (pc := 24) (v := (2 : Int32)) dX5_load_24 (by decide) ?_
  obtain ⟨u5, c6, h⟩ := g_bd h
  refine go_callV (pc := 25) (as := [.inl p2, .inl (2 : Int32)]) (st := [.inr q1, .inr q]) (r := u5.1) (M1 := u5.2) (z_X2_boatCell hok hq1 c6) cw_X2_boatCell ml_X5_39 hq1.1 rfl rfl (by decide) (Nat.le_of_ble_eq_true rfl) rfl dX5_load_25 ?_
  obtain ⟨u7, c8, h⟩ := g_bd h
  refine go_callV (pc := 28) (as := [.inr q1, .inl u5.1]) (st := []) (r := u7.1) (M1 := u7.2) (z_X5_moveTo hok hq hq1 c8) cw_X5_moveTo ml_X5_45 hq rfl rfl (by decide) (Nat.le_of_ble_eq_true rfl) rfl dX5_load_28 ?_
  refine go_aload_n (pc := 31) dX5_load_31 rfl ?_
  refine go_aload_n (pc := 32) dX5_load_32 rfl ?_
  refine go_aload_n (pc := 33) dX5_load_33 rfl ?_
  refine go_iload_n (pc := 34) dX5_load_34 rfl ?_
  refine go_iconst (pc := 35) (v := (3 : Int32)) dX5_load_35 (by decide) ?_
  obtain ⟨u9, c10, h⟩ := g_bd h
  refine go_callV (pc := 36) (as := [.inl p2, .inl (3 : Int32)]) (st := [.inr q1, .inr q]) (r := u9.1) (M1 := u9.2) (z_X2_boatCell hok hq1 c10) cw_X2_boatCell ml_X5_39 hq1.1 rfl rfl (by decide) (Nat.le_of_ble_eq_true rfl) rfl dX5_load_36 ?_
  refine go_iconst (pc := 39) (v := (0 : Int32)) dX5_load_39 (by decide) ?_
  obtain ⟨u11, c12, h⟩ := g_bd h
  refine go_callV (pc := 40) (as := [.inl u9.1, .inl (0 : Int32)]) (st := [.inr q]) (r := u11.1) (M1 := u11.2) (z_X2_ringCell hok hq1 c12) cw_X2_ringCell ml_X5_49 hq1.1 rfl rfl (by decide) (Nat.le_of_ble_eq_true rfl) rfl dX5_load_40 ?_
  refine gp_5_24 (pc := 43) hq dX5_load_43 ?_
  refine go_aload_n (pc := 46) dX5_load_46 rfl ?_
  refine go_aload_n (pc := 47) dX5_load_47 rfl ?_
  refine go_iload_n (pc := 48) dX5_load_48 rfl ?_
  refine go_iconst (pc := 49) (v := (4 : Int32)) dX5_load_49 (by decide) ?_
  obtain ⟨u13, c14, h⟩ := g_bd h
  refine go_callV (pc := 50) (as := [.inl p2, .inl (4 : Int32)]) (st := [.inr q]) (r := u13.1) (M1 := u13.2) (z_X2_boatCell hok hq1 c14) cw_X2_boatCell ml_X5_39 hq1.1 rfl rfl (by decide) (Nat.le_of_ble_eq_true rfl) rfl dX5_load_50 ?_
  refine gp_5_27 (pc := 53) hq dX5_load_53 ?_
  refine go_aload_n (pc := 56) dX5_load_56 rfl ?_
  refine go_aload_n (pc := 57) dX5_load_57 rfl ?_
  refine go_iload_n (pc := 58) dX5_load_58 rfl ?_
  refine go_iconst (pc := 59) (v := (5 : Int32)) dX5_load_59 (by decide) ?_
  obtain ⟨u15, c16, h⟩ := g_bd h
  refine go_callV (pc := 60) (as := [.inl p2, .inl (5 : Int32)]) (st := [.inr q]) (r := u15.1) (M1 := u15.2) (z_X2_boatCell hok hq1 c16) cw_X2_boatCell ml_X5_39 hq1.1 rfl rfl (by decide) (Nat.le_of_ble_eq_true rfl) rfl dX5_load_60 ?_
  refine gp_5_30 (pc := 63) hq dX5_load_63 ?_
  refine go_aload_n (pc := 66) dX5_load_66 rfl ?_
  refine go_aload_n (pc := 67) dX5_load_67 rfl ?_
  refine go_iload_n (pc := 68) dX5_load_68 rfl ?_
  refine go_bipush (pc := 69) (v := (6 : Int32)) dX5_load_69 (by decide) ?_
  obtain ⟨u17, c18, h⟩ := g_bd h
  refine go_callV (pc := 71) (as := [.inl p2, .inl (6 : Int32)]) (st := [.inr q]) (r := u17.1) (M1 := u17.2) (z_X2_boatCell hok hq1 c18) cw_X2_boatCell ml_X5_39 hq1.1 rfl rfl (by decide) (Nat.le_of_ble_eq_true rfl) rfl dX5_load_71 ?_
  refine gp_5_33 (pc := 74) hq dX5_load_74 ?_
  refine go_aload_n (pc := 77) dX5_load_77 rfl ?_
  refine go_aload_n (pc := 78) dX5_load_78 rfl ?_
  refine gf_5_52 (pc := 79) hq1 dX5_load_79 ?_
  refine gp_5_36 (pc := 82) hq dX5_load_82 ?_
  exact go_vret (pc := 85) (Option.some.inj h).symm rfl dX5_load_85
def x_X5_leastFor_L4 (q : Nat) (a1 n1 : Nat)  : Nat → Int32 → Int32 → g_M → Option (Int32 × g_M)
  | 0, _, _, _ => none
  | n + 1, v2, v3, M => (if (Int32.ofNat n1) ≤ v3 then (some (v2, M)) else ((if g_inb v3 n1 = true then (((x_X5_leastAt q (M a1 v3.toNatClampNeg) M).bind fun u2 => x_X5_leastFor_L4 q a1 n1  n (g_max v2 u2.1) (v3 + (1 : Int32)) u2.2)) else none)))
set_option maxHeartbeats 4000000 in
set_option maxRecDepth 100000 in
theorem z_X5_leastFor_L4 {X : g_X} (hok : g_ok X) {q : Nat} (hq : g_isM q) {a1 n1 : Nat} (ha1 : g_lay[a1]? = some (.inl n1)) {r : Int32 × g_M}  : ∀ (n : Nat) (v2 : Int32) (v3 : Int32) (M : g_M), x_X5_leastFor_L4 q a1 n1  n v2 v3 M = some r → g_Go X cX5_leastFor RX5 4 (some .int) 3 67 r 4 [some (.inr q), some (.inr a1), some (.inl v2), some (.inl v3)] [] M := by
  intro n
  induction n with
  | zero =>
    intro v2 v3 M h
    rw [x_X5_leastFor_L4] at h
    cases h
  | succ n ih =>
    intro v2 v3 M h
    rw [x_X5_leastFor_L4] at h
    refine go_iload_n (pc := 4) dX5_leastFor_4 rfl ?_
    refine go_aload_n (pc := 5) dX5_leastFor_5 rfl ?_
    refine go_alen (pc := 6) (n := n1) (v := (Int32.ofNat n1)) ha1 rfl dX5_leastFor_6 ?_
    refine go_icmp_ge (pc := 7) (tgt := 28) dX5_leastFor_7 (by decide) (fun e4 => ?_) (fun e4 => ?_)
    · replace h := (if_pos e4).symm.trans h
      refine go_iload_n (pc := 28) dX5_leastFor_28 rfl ?_
      exact go_iret (pc := 29) (Option.some.inj h).symm rfl dX5_leastFor_29 rfl
    · replace h := (if_neg e4).symm.trans h
      refine go_iload_n (pc := 10) dX5_leastFor_10 rfl ?_
      refine go_aload_n (pc := 11) dX5_leastFor_11 rfl ?_
      refine go_aload_n (pc := 12) dX5_leastFor_12 rfl ?_
      refine go_iload_n (pc := 13) dX5_leastFor_13 rfl ?_
      obtain ⟨i1, h⟩ := g_gd h
      refine go_iald (pc := 14) (n := n1) ha1 (g_inb_ok i1) dX5_leastFor_14 ?_
      obtain ⟨u2, c3, h⟩ := g_bd h
      refine go_callV (pc := 15) (as := [.inl (M a1 v3.toNatClampNeg)]) (st := [.inl v2]) (r := u2.1) (M1 := u2.2) (z_X5_leastAt hok hq c3) cw_X5_leastAt ml_X5_69 hq rfl rfl (by decide) (Nat.le_of_ble_eq_true rfl) rfl dX5_leastFor_15 ?_
      refine go_mmax (pc := 18) ml_X5_72 lm_max_s lm_i lm_max_c (by decide) (Nat.le_of_ble_eq_true rfl) dX5_leastFor_18 ?_
      refine go_istore_n (pc := 21) (lv' := [some (.inr q), some (.inr a1), some (.inl (g_max v2 u2.1)), some (.inl v3)]) dX5_leastFor_21 (by decide) rfl ?_
      refine go_iinc (pc := 22) (v := (1 : Int32)) (lv' := [some (.inr q), some (.inr a1), some (.inl (g_max v2 u2.1)), some (.inl (v3 + (1 : Int32)))]) dX5_leastFor_22 rfl (by decide) (by decide) rfl ?_
      refine go_goto (pc := 25) (tgt := 4) dX5_leastFor_25 (by decide) ?_
      exact go_to (ih _ _ _ h) (And.intro rfl (And.intro rfl (And.intro rfl (And.intro rfl trivial))))
def x_X5_leastFor (q : Nat) (a1 n1 : Nat) (M : g_M) : Option (Int32 × g_M) := (x_X5_leastFor_L4 q a1 n1  g_F (0 : Int32) (0 : Int32) M)
set_option maxHeartbeats 4000000 in
set_option maxRecDepth 100000 in
theorem z_X5_leastFor {X : g_X} (hok : g_ok X) {q : Nat} (hq : g_isM q) {a1 n1 : Nat} (ha1 : g_lay[a1]? = some (.inl n1)) {M : g_M} {r : Int32 × g_M} (h : x_X5_leastFor q a1 n1 M = some r) : g_Con X yX5_leastFor cX5_leastFor 4 (some .int) 3 67 [.inr q, .inr a1] M r := by
  rw [x_X5_leastFor] at h
  refine g_con hok (plainFor_of_name (by decide +kernel)) (Nat.le_of_ble_eq_true rfl) (go_to (lv2 := [some (.inr q), some (.inr a1), none, none]) (own := RX5) ?_ (And.intro rfl (And.intro rfl trivial)))
  refine go_iconst (pc := 0) (v := (0 : Int32)) dX5_leastFor_0 (by decide) ?_
  refine go_istore_n (pc := 1) (lv' := [some (.inr q), some (.inr a1), some (.inl (0 : Int32)), none]) dX5_leastFor_1 (by decide) rfl ?_
  refine go_iconst (pc := 2) (v := (0 : Int32)) dX5_leastFor_2 (by decide) ?_
  refine go_istore_n (pc := 3) (lv' := [some (.inr q), some (.inr a1), some (.inl (0 : Int32)), some (.inl (0 : Int32))]) dX5_leastFor_3 (by decide) rfl ?_
  exact go_to (z_X5_leastFor_L4 hok hq ha1  g_F _ _ _ h) (And.intro rfl (And.intro rfl (And.intro rfl (And.intro rfl trivial))))
def x_X5_hangingHours (q : Nat) (a1 n1 : Nat) (M : g_M) : Option (Int32 × g_M) := (((x_X5_hangingWith q a1 n1 (M q 5) M).bind fun u1 => some (u1.1, u1.2)))
set_option maxHeartbeats 4000000 in
set_option maxRecDepth 100000 in
theorem z_X5_hangingHours {X : g_X} (hok : g_ok X) {q : Nat} (hq : g_isM q) {a1 n1 : Nat} (ha1 : g_lay[a1]? = some (.inl n1)) {M : g_M} {r : Int32 × g_M} (h : x_X5_hangingHours q a1 n1 M = some r) : g_Con X yX5_hangingHours cX5_hangingHours 2 (some .int) 4 90 [.inr q, .inr a1] M r := by
  rw [x_X5_hangingHours] at h
  refine g_con hok (plainFor_of_name (by decide +kernel)) (Nat.le_of_ble_eq_true rfl) (go_to (lv2 := [some (.inr q), some (.inr a1)]) (own := RX5) ?_ (And.intro rfl (And.intro rfl trivial)))
  refine go_aload_n (pc := 0) dX5_hangingHours_0 rfl ?_
  refine go_aload_n (pc := 1) dX5_hangingHours_1 rfl ?_
  refine gf_5_27 (pc := 2) hq dX5_hangingHours_2 ?_
  refine go_aload_n (pc := 5) dX5_hangingHours_5 rfl ?_
  obtain ⟨u1, c2, h⟩ := g_bd h
  refine go_callV (pc := 6) (as := [.inl (M q 5), .inr a1]) (st := []) (r := u1.1) (M1 := u1.2) (z_X5_hangingWith hok hq ha1 c2) cw_X5_hangingWith ml_X5_79 hq rfl rfl (by decide) (Nat.le_of_ble_eq_true rfl) rfl dX5_hangingHours_6 ?_
  exact go_iret (pc := 9) (Option.some.inj h).symm rfl dX5_hangingHours_9 rfl
def x_X5_tooFarHours_L4 (q : Nat) (a1 n1 : Nat)  : Nat → Int32 → Int32 → g_M → Option (Int32 × g_M)
  | 0, _, _, _ => none
  | n + 1, v2, v3, M => (if (Int32.ofNat n1) ≤ v3 then (some (v2, M)) else ((if g_inb v3 n1 = true then (((x_X5_reach q (M q 5) (M a1 v3.toNatClampNeg) M).bind fun u2 => if u2.1 ≤ (u2.2 q 7) then (x_X5_tooFarHours_L4 q a1 n1  n v2 (v3 + (1 : Int32)) u2.2) else (x_X5_tooFarHours_L4 q a1 n1  n (v2 ||| ((1 : Int32) <<< (v3 &&& 31))) (v3 + (1 : Int32)) u2.2))) else none)))
set_option maxHeartbeats 4000000 in
set_option maxRecDepth 100000 in
theorem z_X5_tooFarHours_L4 {X : g_X} (hok : g_ok X) {q : Nat} (hq : g_isM q) {a1 n1 : Nat} (ha1 : g_lay[a1]? = some (.inl n1)) {r : Int32 × g_M}  : ∀ (n : Nat) (v2 : Int32) (v3 : Int32) (M : g_M), x_X5_tooFarHours_L4 q a1 n1  n v2 v3 M = some r → g_Go X cX5_tooFarHours RX5 4 (some .int) 3 68 r 4 [some (.inr q), some (.inr a1), some (.inl v2), some (.inl v3)] [] M := by
  intro n
  induction n with
  | zero =>
    intro v2 v3 M h
    rw [x_X5_tooFarHours_L4] at h
    cases h
  | succ n ih =>
    intro v2 v3 M h
    rw [x_X5_tooFarHours_L4] at h
    refine go_iload_n (pc := 4) dX5_tooFarHours_4 rfl ?_
    refine go_aload_n (pc := 5) dX5_tooFarHours_5 rfl ?_
    refine go_alen (pc := 6) (n := n1) (v := (Int32.ofNat n1)) ha1 rfl dX5_tooFarHours_6 ?_
    refine go_icmp_ge (pc := 7) (tgt := 40) dX5_tooFarHours_7 (by decide) (fun e5 => ?_) (fun e5 => ?_)
    · replace h := (if_pos e5).symm.trans h
      refine go_iload_n (pc := 40) dX5_tooFarHours_40 rfl ?_
      exact go_iret (pc := 41) (Option.some.inj h).symm rfl dX5_tooFarHours_41 rfl
    · replace h := (if_neg e5).symm.trans h
      refine go_aload_n (pc := 10) dX5_tooFarHours_10 rfl ?_
      refine go_aload_n (pc := 11) dX5_tooFarHours_11 rfl ?_
      refine gf_5_27 (pc := 12) hq dX5_tooFarHours_12 ?_
      refine go_aload_n (pc := 15) dX5_tooFarHours_15 rfl ?_
      refine go_iload_n (pc := 16) dX5_tooFarHours_16 rfl ?_
      obtain ⟨i1, h⟩ := g_gd h
      refine go_iald (pc := 17) (n := n1) ha1 (g_inb_ok i1) dX5_tooFarHours_17 ?_
      obtain ⟨u2, c3, h⟩ := g_bd h
      refine go_callV (pc := 18) (as := [.inl (M q 5), .inl (M a1 v3.toNatClampNeg)]) (st := []) (r := u2.1) (M1 := u2.2) (z_X5_reach hok hq c3) cw_X5_reach ml_X5_83 hq rfl rfl (by decide) (Nat.le_of_ble_eq_true rfl) rfl dX5_tooFarHours_18 ?_
      refine go_aload_n (pc := 21) dX5_tooFarHours_21 rfl ?_
      refine gf_5_33 (pc := 22) hq dX5_tooFarHours_22 ?_
      refine go_icmp_le (pc := 25) (tgt := 34) dX5_tooFarHours_25 (by decide) (fun e4 => ?_) (fun e4 => ?_)
      · replace h := (if_pos e4).symm.trans h
        refine go_iinc (pc := 34) (v := (1 : Int32)) (lv' := [some (.inr q), some (.inr a1), some (.inl v2), some (.inl (v3 + (1 : Int32)))]) dX5_tooFarHours_34 rfl (by decide) (by decide) rfl ?_
        refine go_goto (pc := 37) (tgt := 4) dX5_tooFarHours_37 (by decide) ?_
        exact go_to (ih _ _ _ h) (And.intro rfl (And.intro rfl (And.intro rfl (And.intro rfl trivial))))
      · replace h := (if_neg e4).symm.trans h
        refine go_iload_n (pc := 28) dX5_tooFarHours_28 rfl ?_
        refine go_iconst (pc := 29) (v := (1 : Int32)) dX5_tooFarHours_29 (by decide) ?_
        refine go_iload_n (pc := 30) dX5_tooFarHours_30 rfl ?_
        refine go_ishl (pc := 31) dX5_tooFarHours_31 ?_
        refine go_ior (pc := 32) dX5_tooFarHours_32 ?_
        refine go_istore_n (pc := 33) (lv' := [some (.inr q), some (.inr a1), some (.inl (v2 ||| ((1 : Int32) <<< (v3 &&& 31)))), some (.inl v3)]) dX5_tooFarHours_33 (by decide) rfl ?_
        refine go_iinc (pc := 34) (v := (1 : Int32)) (lv' := [some (.inr q), some (.inr a1), some (.inl (v2 ||| ((1 : Int32) <<< (v3 &&& 31)))), some (.inl (v3 + (1 : Int32)))]) dX5_tooFarHours_34 rfl (by decide) (by decide) rfl ?_
        refine go_goto (pc := 37) (tgt := 4) dX5_tooFarHours_37 (by decide) ?_
        exact go_to (ih _ _ _ h) (And.intro rfl (And.intro rfl (And.intro rfl (And.intro rfl trivial))))
def x_X5_tooFarHours (q : Nat) (a1 n1 : Nat) (M : g_M) : Option (Int32 × g_M) := (x_X5_tooFarHours_L4 q a1 n1  g_F (0 : Int32) (0 : Int32) M)
set_option maxHeartbeats 4000000 in
set_option maxRecDepth 100000 in
theorem z_X5_tooFarHours {X : g_X} (hok : g_ok X) {q : Nat} (hq : g_isM q) {a1 n1 : Nat} (ha1 : g_lay[a1]? = some (.inl n1)) {M : g_M} {r : Int32 × g_M} (h : x_X5_tooFarHours q a1 n1 M = some r) : g_Con X yX5_tooFarHours cX5_tooFarHours 4 (some .int) 3 68 [.inr q, .inr a1] M r := by
  rw [x_X5_tooFarHours] at h
  refine g_con hok (plainFor_of_name (by decide +kernel)) (Nat.le_of_ble_eq_true rfl) (go_to (lv2 := [some (.inr q), some (.inr a1), none, none]) (own := RX5) ?_ (And.intro rfl (And.intro rfl trivial)))
  refine go_iconst (pc := 0) (v := (0 : Int32)) dX5_tooFarHours_0 (by decide) ?_
  refine go_istore_n (pc := 1) (lv' := [some (.inr q), some (.inr a1), some (.inl (0 : Int32)), none]) dX5_tooFarHours_1 (by decide) rfl ?_
  refine go_iconst (pc := 2) (v := (0 : Int32)) dX5_tooFarHours_2 (by decide) ?_
  refine go_istore_n (pc := 3) (lv' := [some (.inr q), some (.inr a1), some (.inl (0 : Int32)), some (.inl (0 : Int32))]) dX5_tooFarHours_3 (by decide) rfl ?_
  exact go_to (z_X5_tooFarHours_L4 hok hq ha1  g_F _ _ _ h) (And.intro rfl (And.intro rfl (And.intro rfl (And.intro rfl trivial))))
def x_X5_blownMiddle (q : Nat) (p1 p2 : Int32) (M : g_M) : Option (Int32 × g_M) := (((x_X5_reach q (M q 5) p1 M).bind fun u1 => ((x_X5_stillMiddle q u1.2).bind fun u3 => some ((u3.1 + (g_max (-u1.1) (g_min u1.1 p2))), u3.2))))
set_option maxHeartbeats 4000000 in
set_option maxRecDepth 100000 in
theorem z_X5_blownMiddle {X : g_X} (hok : g_ok X) {q : Nat} (hq : g_isM q) {p1 p2 : Int32} {M : g_M} {r : Int32 × g_M} (h : x_X5_blownMiddle q p1 p2 M = some r) : g_Con X yX5_blownMiddle cX5_blownMiddle 4 (some .int) 3 68 [.inr q, .inl p1, .inl p2] M r := by
  rw [x_X5_blownMiddle] at h
  refine g_con hok (plainFor_of_name (by decide +kernel)) (Nat.le_of_ble_eq_true rfl) (go_to (lv2 := [some (.inr q), some (.inl p1), some (.inl p2), none]) (own := RX5) ?_ (And.intro rfl (And.intro rfl (And.intro rfl trivial))))
  refine go_aload_n (pc := 0) dX5_blownMiddle_0 rfl ?_
  refine go_aload_n (pc := 1) dX5_blownMiddle_1 rfl ?_
  refine gf_5_27 (pc := 2) hq dX5_blownMiddle_2 ?_
  refine go_iload_n (pc := 5) dX5_blownMiddle_5 rfl ?_
  obtain ⟨u1, c2, h⟩ := g_bd h
  refine go_callV (pc := 6) (as := [.inl (M q 5), .inl p1]) (st := []) (r := u1.1) (M1 := u1.2) (z_X5_reach hok hq c2) cw_X5_reach ml_X5_83 hq rfl rfl (by decide) (Nat.le_of_ble_eq_true rfl) rfl dX5_blownMiddle_6 ?_
  refine go_istore_n (pc := 9) (lv' := [some (.inr q), some (.inl p1), some (.inl p2), some (.inl u1.1)]) dX5_blownMiddle_9 (by decide) rfl ?_
  refine go_aload_n (pc := 10) dX5_blownMiddle_10 rfl ?_
  obtain ⟨u3, c4, h⟩ := g_bd h
  refine go_callV (pc := 11) (as := []) (st := []) (r := u3.1) (M1 := u3.2) (z_X5_stillMiddle hok hq c4) cw_X5_stillMiddle ml_X5_89 hq rfl rfl (by decide) (Nat.le_of_ble_eq_true rfl) rfl dX5_blownMiddle_11 ?_
  refine go_iload_n (pc := 14) dX5_blownMiddle_14 rfl ?_
  refine go_ineg (pc := 15) dX5_blownMiddle_15 ?_
  refine go_iload_n (pc := 16) dX5_blownMiddle_16 rfl ?_
  refine go_iload_n (pc := 17) dX5_blownMiddle_17 rfl ?_
  refine go_mmin (pc := 18) ml_X5_86 lm_min_s lm_i lm_min_c (by decide) (Nat.le_of_ble_eq_true rfl) dX5_blownMiddle_18 ?_
  refine go_mmax (pc := 21) ml_X5_72 lm_max_s lm_i lm_max_c (by decide) (Nat.le_of_ble_eq_true rfl) dX5_blownMiddle_21 ?_
  refine go_iadd (pc := 24) dX5_blownMiddle_24 ?_
  exact go_iret (pc := 25) (Option.some.inj h).symm rfl dX5_blownMiddle_25 rfl
def x_X6_append  (p1 : Int32) (M : g_M) : Option (Int32 × g_M) := (if (M 21 1) < 0 then (some (0, M)) else (if (12 : Int32) ≤ (M 21 1) then (some (0, M)) else ((if g_inb (M 21 1) 12 = true then (some (0, (g_upd (g_upd M 22 (M 21 1).toNatClampNeg p1) 21 1 (((g_upd M 22 (M 21 1).toNatClampNeg p1) 21 1) + (1 : Int32))))) else none))))
set_option maxHeartbeats 4000000 in
set_option maxRecDepth 100000 in
theorem z_X6_append {X : g_X} (hok : g_ok X)  {p1 : Int32} {M : g_M} {r : Int32 × g_M} (h : x_X6_append p1 M = some r) : g_Con X yX6_append cX6_append 2 none 0 0 [.inr 21, .inl p1] M r := by
  rw [x_X6_append] at h
  refine g_con hok (plainFor_of_name (by decide +kernel)) (Nat.le_of_ble_eq_true rfl) (go_to (lv2 := [some (.inr 21), some (.inl p1)]) (own := RX6) ?_ (And.intro rfl (And.intro rfl trivial)))
  refine go_aload_n (pc := 0) dX6_append_0 rfl ?_
  refine gf_6_15 (pc := 1) dX6_append_1 ?_
  refine go_if_lt (pc := 4) (tgt := 39) dX6_append_4 (by decide) (fun e3 => ?_) (fun e3 => ?_)
  · replace h := (if_pos e3).symm.trans h
    exact go_vret (pc := 39) (Option.some.inj h).symm rfl dX6_append_39
  · replace h := (if_neg e3).symm.trans h
    refine go_aload_n (pc := 7) dX6_append_7 rfl ?_
    refine gf_6_15 (pc := 8) dX6_append_8 ?_
    refine go_aload_n (pc := 11) dX6_append_11 rfl ?_
    refine gf_6_9 (pc := 12) dX6_append_12 ?_
    refine go_alen (pc := 15) (n := 12) (v := (12 : Int32)) rfl (by decide) dX6_append_15 ?_
    refine go_icmp_ge (pc := 16) (tgt := 39) dX6_append_16 (by decide) (fun e2 => ?_) (fun e2 => ?_)
    · replace h := (if_pos e2).symm.trans h
      exact go_vret (pc := 39) (Option.some.inj h).symm rfl dX6_append_39
    · replace h := (if_neg e2).symm.trans h
      refine go_aload_n (pc := 19) dX6_append_19 rfl ?_
      refine gf_6_9 (pc := 20) dX6_append_20 ?_
      refine go_aload_n (pc := 23) dX6_append_23 rfl ?_
      refine gf_6_15 (pc := 24) dX6_append_24 ?_
      refine go_iload_n (pc := 27) dX6_append_27 rfl ?_
      obtain ⟨i1, h⟩ := g_gd h
      refine go_iast (pc := 28) (n := 12) rfl (g_inb_ok i1) dX6_append_28 ?_
      refine go_aload_n (pc := 29) dX6_append_29 rfl ?_
      refine go_dup (pc := 30) dX6_append_30 ?_
      refine gf_6_15 (pc := 31) dX6_append_31 ?_
      refine go_iconst (pc := 34) (v := (1 : Int32)) dX6_append_34 (by decide) ?_
      refine go_iadd (pc := 35) dX6_append_35 ?_
      refine gp_6_15 (pc := 36) dX6_append_36 ?_
      exact go_vret (pc := 39) (Option.some.inj h).symm rfl dX6_append_39
def x_X6_at  (p1 : Int32) (M : g_M) : Option (Int32 × g_M) := (if p1 < 0 then (some ((0 : Int32), M)) else (if (M 21 1) ≤ p1 then (some ((0 : Int32), M)) else (if (12 : Int32) ≤ p1 then (some ((0 : Int32), M)) else ((if g_inb p1 12 = true then (some ((M 22 p1.toNatClampNeg), M)) else none)))))
set_option maxHeartbeats 4000000 in
set_option maxRecDepth 100000 in
theorem z_X6_at {X : g_X} (hok : g_ok X)  {p1 : Int32} {M : g_M} {r : Int32 × g_M} (h : x_X6_at p1 M = some r) : g_Con X yX6_at cX6_at 2 (some .int) 0 0 [.inr 21, .inl p1] M r := by
  rw [x_X6_at] at h
  refine g_con hok (plainFor_of_name (by decide +kernel)) (Nat.le_of_ble_eq_true rfl) (go_to (lv2 := [some (.inr 21), some (.inl p1)]) (own := RX6) ?_ (And.intro rfl (And.intro rfl trivial)))
  refine go_iload_n (pc := 0) dX6_at_0 rfl ?_
  refine go_if_lt (pc := 1) (tgt := 30) dX6_at_1 (by decide) (fun e4 => ?_) (fun e4 => ?_)
  · replace h := (if_pos e4).symm.trans h
    refine go_iconst (pc := 30) (v := (0 : Int32)) dX6_at_30 (by decide) ?_
    exact go_iret (pc := 31) (Option.some.inj h).symm rfl dX6_at_31 rfl
  · replace h := (if_neg e4).symm.trans h
    refine go_iload_n (pc := 4) dX6_at_4 rfl ?_
    refine go_aload_n (pc := 5) dX6_at_5 rfl ?_
    refine gf_6_15 (pc := 6) dX6_at_6 ?_
    refine go_icmp_ge (pc := 9) (tgt := 30) dX6_at_9 (by decide) (fun e3 => ?_) (fun e3 => ?_)
    · replace h := (if_pos e3).symm.trans h
      refine go_iconst (pc := 30) (v := (0 : Int32)) dX6_at_30 (by decide) ?_
      exact go_iret (pc := 31) (Option.some.inj h).symm rfl dX6_at_31 rfl
    · replace h := (if_neg e3).symm.trans h
      refine go_iload_n (pc := 12) dX6_at_12 rfl ?_
      refine go_aload_n (pc := 13) dX6_at_13 rfl ?_
      refine gf_6_9 (pc := 14) dX6_at_14 ?_
      refine go_alen (pc := 17) (n := 12) (v := (12 : Int32)) rfl (by decide) dX6_at_17 ?_
      refine go_icmp_ge (pc := 18) (tgt := 30) dX6_at_18 (by decide) (fun e2 => ?_) (fun e2 => ?_)
      · replace h := (if_pos e2).symm.trans h
        refine go_iconst (pc := 30) (v := (0 : Int32)) dX6_at_30 (by decide) ?_
        exact go_iret (pc := 31) (Option.some.inj h).symm rfl dX6_at_31 rfl
      · replace h := (if_neg e2).symm.trans h
        refine go_aload_n (pc := 21) dX6_at_21 rfl ?_
        refine gf_6_9 (pc := 22) dX6_at_22 ?_
        refine go_iload_n (pc := 25) dX6_at_25 rfl ?_
        obtain ⟨i1, h⟩ := g_gd h
        refine go_iald (pc := 26) (n := 12) rfl (g_inb_ok i1) dX6_at_26 ?_
        refine go_goto (pc := 27) (tgt := 31) dX6_at_27 (by decide) ?_
        exact go_iret (pc := 31) (Option.some.inj h).symm rfl dX6_at_31 rfl
def x_X6_greatest_L5   : Nat → Int32 → Int32 → g_M → Option (Int32 × g_M)
  | 0, _, _, _ => none
  | n + 1, v1, v2, M => (if (M 21 1) ≤ v2 then (some (v1, M)) else (((x_X6_at v2 M).bind fun u1 => x_X6_greatest_L5   n (g_max v1 u1.1) (v2 + (1 : Int32)) u1.2)))
set_option maxHeartbeats 4000000 in
set_option maxRecDepth 100000 in
theorem z_X6_greatest_L5 {X : g_X} (hok : g_ok X)  {r : Int32 × g_M}  : ∀ (n : Nat) (v1 : Int32) (v2 : Int32) (M : g_M), x_X6_greatest_L5   n v1 v2 M = some r → g_Go X cX6_greatest RX6 3 (some .int) 1 21 r 5 [some (.inr 21), some (.inl v1), some (.inl v2)] [] M := by
  intro n
  induction n with
  | zero =>
    intro v1 v2 M h
    rw [x_X6_greatest_L5] at h
    cases h
  | succ n ih =>
    intro v1 v2 M h
    rw [x_X6_greatest_L5] at h
    refine go_iload_n (pc := 5) dX6_greatest_5 rfl ?_
    refine go_aload_n (pc := 6) dX6_greatest_6 rfl ?_
    refine gf_6_15 (pc := 7) dX6_greatest_7 ?_
    refine go_icmp_ge (pc := 10) (tgt := 29) dX6_greatest_10 (by decide) (fun e3 => ?_) (fun e3 => ?_)
    · replace h := (if_pos e3).symm.trans h
      refine go_iload_n (pc := 29) dX6_greatest_29 rfl ?_
      exact go_iret (pc := 30) (Option.some.inj h).symm rfl dX6_greatest_30 rfl
    · replace h := (if_neg e3).symm.trans h
      refine go_iload_n (pc := 13) dX6_greatest_13 rfl ?_
      refine go_aload_n (pc := 14) dX6_greatest_14 rfl ?_
      refine go_iload_n (pc := 15) dX6_greatest_15 rfl ?_
      obtain ⟨u1, c2, h⟩ := g_bd h
      refine go_callV (pc := 16) (as := [.inl v2]) (st := [.inl v1]) (r := u1.1) (M1 := u1.2) (z_X6_at hok  c2) cw_X6_at ml_X6_19 (show g_lay[21]? = some _ from rfl) rfl rfl (by decide) (Nat.le_of_ble_eq_true rfl) rfl dX6_greatest_16 ?_
      refine go_mmax (pc := 19) ml_X6_23 lm_max_s lm_i lm_max_c (by decide) (Nat.le_of_ble_eq_true rfl) dX6_greatest_19 ?_
      refine go_istore_n (pc := 22) (lv' := [some (.inr 21), some (.inl (g_max v1 u1.1)), some (.inl v2)]) dX6_greatest_22 (by decide) rfl ?_
      refine go_iinc (pc := 23) (v := (1 : Int32)) (lv' := [some (.inr 21), some (.inl (g_max v1 u1.1)), some (.inl (v2 + (1 : Int32)))]) dX6_greatest_23 rfl (by decide) (by decide) rfl ?_
      refine go_goto (pc := 26) (tgt := 5) dX6_greatest_26 (by decide) ?_
      exact go_to (ih _ _ _ h) (And.intro rfl (And.intro rfl (And.intro rfl trivial)))
def x_X6_greatest  (M : g_M) : Option (Int32 × g_M) := (x_X6_greatest_L5   g_F (-9 : Int32) (0 : Int32) M)
set_option maxHeartbeats 4000000 in
set_option maxRecDepth 100000 in
theorem z_X6_greatest {X : g_X} (hok : g_ok X)  {M : g_M} {r : Int32 × g_M} (h : x_X6_greatest  M = some r) : g_Con X yX6_greatest cX6_greatest 3 (some .int) 1 21 [.inr 21] M r := by
  rw [x_X6_greatest] at h
  refine g_con hok (plainFor_of_name (by decide +kernel)) (Nat.le_of_ble_eq_true rfl) (go_to (lv2 := [some (.inr 21), none, none]) (own := RX6) ?_ (And.intro rfl trivial))
  refine go_bipush (pc := 0) (v := (-9 : Int32)) dX6_greatest_0 (by decide) ?_
  refine go_istore_n (pc := 2) (lv' := [some (.inr 21), some (.inl (-9 : Int32)), none]) dX6_greatest_2 (by decide) rfl ?_
  refine go_iconst (pc := 3) (v := (0 : Int32)) dX6_greatest_3 (by decide) ?_
  refine go_istore_n (pc := 4) (lv' := [some (.inr 21), some (.inl (-9 : Int32)), some (.inl (0 : Int32))]) dX6_greatest_4 (by decide) rfl ?_
  exact go_to (z_X6_greatest_L5 hok   g_F _ _ _ h) (And.intro rfl (And.intro rfl (And.intro rfl trivial)))
def x_X7_push_L45   (v1 : Int32) (v2 : Int32) (M : g_M) : Option (Int32 × g_M) := (if (M 23 2) < 0 then (some (0, M)) else (if (8 : Int32) ≤ (M 23 2) then (some (0, M)) else (if (8 : Int32) ≤ (M 23 2) then (some (0, M)) else ((if g_inb (M 23 2) 8 = true then ((if g_inb ((g_upd M 24 (M 23 2).toNatClampNeg v1) 23 2) 8 = true then (some (0, (g_upd (g_upd (g_upd M 24 (M 23 2).toNatClampNeg v1) 25 ((g_upd M 24 (M 23 2).toNatClampNeg v1) 23 2).toNatClampNeg v2) 23 2 (((g_upd (g_upd M 24 (M 23 2).toNatClampNeg v1) 25 ((g_upd M 24 (M 23 2).toNatClampNeg v1) 23 2).toNatClampNeg v2) 23 2) + (1 : Int32))))) else none)) else none)))))
set_option maxHeartbeats 4000000 in
set_option maxRecDepth 100000 in
theorem z_X7_push_L45 {X : g_X} (hok : g_ok X)  {r : Int32 × g_M}  {v1 : Int32} {v2 : Int32} {M : g_M} (h : x_X7_push_L45   v1 v2 M = some r) : g_Go X cX7_push RX7 3 none 1 70 r 45 [some (.inr 23), some (.inl v1), some (.inl v2)] [] M := by
  rw [x_X7_push_L45] at h
  refine go_aload_n (pc := 45) dX7_push_45 rfl ?_
  refine gf_7_18 (pc := 46) dX7_push_46 ?_
  refine go_if_lt (pc := 49) (tgt := 106) dX7_push_49 (by decide) (fun e5 => ?_) (fun e5 => ?_)
  · replace h := (if_pos e5).symm.trans h
    exact go_vret (pc := 106) (Option.some.inj h).symm rfl dX7_push_106
  · replace h := (if_neg e5).symm.trans h
    refine go_aload_n (pc := 52) dX7_push_52 rfl ?_
    refine gf_7_18 (pc := 53) dX7_push_53 ?_
    refine go_aload_n (pc := 56) dX7_push_56 rfl ?_
    refine gf_7_9 (pc := 57) dX7_push_57 ?_
    refine go_alen (pc := 60) (n := 8) (v := (8 : Int32)) rfl (by decide) dX7_push_60 ?_
    refine go_icmp_ge (pc := 61) (tgt := 106) dX7_push_61 (by decide) (fun e4 => ?_) (fun e4 => ?_)
    · replace h := (if_pos e4).symm.trans h
      exact go_vret (pc := 106) (Option.some.inj h).symm rfl dX7_push_106
    · replace h := (if_neg e4).symm.trans h
      refine go_aload_n (pc := 64) dX7_push_64 rfl ?_
      refine gf_7_18 (pc := 65) dX7_push_65 ?_
      refine go_aload_n (pc := 68) dX7_push_68 rfl ?_
      refine gf_7_15 (pc := 69) dX7_push_69 ?_
      refine go_alen (pc := 72) (n := 8) (v := (8 : Int32)) rfl (by decide) dX7_push_72 ?_
      refine go_icmp_ge (pc := 73) (tgt := 106) dX7_push_73 (by decide) (fun e3 => ?_) (fun e3 => ?_)
      · replace h := (if_pos e3).symm.trans h
        exact go_vret (pc := 106) (Option.some.inj h).symm rfl dX7_push_106
      · replace h := (if_neg e3).symm.trans h
        refine go_aload_n (pc := 76) dX7_push_76 rfl ?_
        refine gf_7_9 (pc := 77) dX7_push_77 ?_
        refine go_aload_n (pc := 80) dX7_push_80 rfl ?_
        refine gf_7_18 (pc := 81) dX7_push_81 ?_
        refine go_iload_n (pc := 84) dX7_push_84 rfl ?_
        obtain ⟨i1, h⟩ := g_gd h
        refine go_iast (pc := 85) (n := 8) rfl (g_inb_ok i1) dX7_push_85 ?_
        refine go_aload_n (pc := 86) dX7_push_86 rfl ?_
        refine gf_7_15 (pc := 87) dX7_push_87 ?_
        refine go_aload_n (pc := 90) dX7_push_90 rfl ?_
        refine gf_7_18 (pc := 91) dX7_push_91 ?_
        refine go_iload_n (pc := 94) dX7_push_94 rfl ?_
        obtain ⟨i2, h⟩ := g_gd h
        refine go_iast (pc := 95) (n := 8) rfl (g_inb_ok i2) dX7_push_95 ?_
        refine go_aload_n (pc := 96) dX7_push_96 rfl ?_
        refine go_dup (pc := 97) dX7_push_97 ?_
        refine gf_7_18 (pc := 98) dX7_push_98 ?_
        refine go_iconst (pc := 101) (v := (1 : Int32)) dX7_push_101 (by decide) ?_
        refine go_iadd (pc := 102) dX7_push_102 ?_
        refine gp_7_18 (pc := 103) dX7_push_103 ?_
        exact go_vret (pc := 106) (Option.some.inj h).symm rfl dX7_push_106
def x_X7_push  (p1 p2 : Int32) (M : g_M) : Option (Int32 × g_M) := (if (M 23 2) < (8 : Int32) then (x_X7_push_L45   p1 p2 M) else ((if g_cpb (1 : Int32) (0 : Int32) (7 : Int32) 8 8 = true then ((if g_cpb (1 : Int32) (0 : Int32) (7 : Int32) 8 8 = true then (x_X7_push_L45   p1 p2 (g_upd (g_cpy (g_cpy M 24 24 (1 : Int32) (0 : Int32) (7 : Int32)) 25 25 (1 : Int32) (0 : Int32) (7 : Int32)) 23 2 (7 : Int32))) else none)) else none)))
set_option maxHeartbeats 4000000 in
set_option maxRecDepth 100000 in
theorem z_X7_push {X : g_X} (hok : g_ok X)  {p1 p2 : Int32} {M : g_M} {r : Int32 × g_M} (h : x_X7_push p1 p2 M = some r) : g_Con X yX7_push cX7_push 3 none 1 70 [.inr 23, .inl p1, .inl p2] M r := by
  rw [x_X7_push] at h
  refine g_con hok (plainFor_of_name (by decide +kernel)) (Nat.le_of_ble_eq_true rfl) (go_to (lv2 := [some (.inr 23), some (.inl p1), some (.inl p2)]) (own := RX7) ?_ (And.intro rfl (And.intro rfl (And.intro rfl trivial))))
  refine go_aload_n (pc := 0) dX7_push_0 rfl ?_
  refine gf_7_18 (pc := 1) dX7_push_1 ?_
  refine go_bipush (pc := 4) (v := (8 : Int32)) dX7_push_4 (by decide) ?_
  refine go_icmp_lt (pc := 6) (tgt := 45) dX7_push_6 (by decide) (fun e8 => ?_) (fun e8 => ?_)
  · replace h := (if_pos e8).symm.trans h
    exact go_to (z_X7_push_L45 hok   h) (And.intro rfl (And.intro rfl (And.intro rfl trivial)))
  · replace h := (if_neg e8).symm.trans h
    refine go_aload_n (pc := 9) dX7_push_9 rfl ?_
    refine gf_7_9 (pc := 10) dX7_push_10 ?_
    refine go_iconst (pc := 13) (v := (1 : Int32)) dX7_push_13 (by decide) ?_
    refine go_aload_n (pc := 14) dX7_push_14 rfl ?_
    refine gf_7_9 (pc := 15) dX7_push_15 ?_
    refine go_iconst (pc := 18) (v := (0 : Int32)) dX7_push_18 (by decide) ?_
    refine go_bipush (pc := 19) (v := (7 : Int32)) dX7_push_19 (by decide) ?_
    obtain ⟨i6, h⟩ := g_gd h
    refine go_copy (pc := 21) rfl rfl i6 ml_X7_22 ac_n ac_s ac_i (by decide) (Nat.le_of_ble_eq_true rfl) (by decide +kernel) dX7_push_21 ?_
    refine go_aload_n (pc := 24) dX7_push_24 rfl ?_
    refine gf_7_15 (pc := 25) dX7_push_25 ?_
    refine go_iconst (pc := 28) (v := (1 : Int32)) dX7_push_28 (by decide) ?_
    refine go_aload_n (pc := 29) dX7_push_29 rfl ?_
    refine gf_7_15 (pc := 30) dX7_push_30 ?_
    refine go_iconst (pc := 33) (v := (0 : Int32)) dX7_push_33 (by decide) ?_
    refine go_bipush (pc := 34) (v := (7 : Int32)) dX7_push_34 (by decide) ?_
    obtain ⟨i7, h⟩ := g_gd h
    refine go_copy (pc := 36) rfl rfl i7 ml_X7_22 ac_n ac_s ac_i (by decide) (Nat.le_of_ble_eq_true rfl) (by decide +kernel) dX7_push_36 ?_
    refine go_aload_n (pc := 39) dX7_push_39 rfl ?_
    refine go_bipush (pc := 40) (v := (7 : Int32)) dX7_push_40 (by decide) ?_
    refine gp_7_18 (pc := 42) dX7_push_42 ?_
    exact go_to (z_X7_push_L45 hok   h) (And.intro rfl (And.intro rfl (And.intro rfl trivial)))
def x_X7_lastBoat  (M : g_M) : Option (Int32 × g_M) := (if (M 23 2) < (1 : Int32) then (some ((0 : Int32), M)) else (if (8 : Int32) < (M 23 2) then (some ((0 : Int32), M)) else ((if g_inb ((M 23 2) - (1 : Int32)) 8 = true then (some ((M 24 ((M 23 2) - (1 : Int32)).toNatClampNeg), M)) else none))))
set_option maxHeartbeats 4000000 in
set_option maxRecDepth 100000 in
theorem z_X7_lastBoat {X : g_X} (hok : g_ok X)  {M : g_M} {r : Int32 × g_M} (h : x_X7_lastBoat  M = some r) : g_Con X yX7_lastBoat cX7_lastBoat 1 (some .int) 0 0 [.inr 23] M r := by
  rw [x_X7_lastBoat] at h
  refine g_con hok (plainFor_of_name (by decide +kernel)) (Nat.le_of_ble_eq_true rfl) (go_to (lv2 := [some (.inr 23)]) (own := RX7) ?_ (And.intro rfl trivial))
  refine go_aload_n (pc := 0) dX7_lastBoat_0 rfl ?_
  refine gf_7_18 (pc := 1) dX7_lastBoat_1 ?_
  refine go_iconst (pc := 4) (v := (1 : Int32)) dX7_lastBoat_4 (by decide) ?_
  refine go_icmp_lt (pc := 5) (tgt := 34) dX7_lastBoat_5 (by decide) (fun e3 => ?_) (fun e3 => ?_)
  · replace h := (if_pos e3).symm.trans h
    refine go_iconst (pc := 34) (v := (0 : Int32)) dX7_lastBoat_34 (by decide) ?_
    exact go_iret (pc := 35) (Option.some.inj h).symm rfl dX7_lastBoat_35 rfl
  · replace h := (if_neg e3).symm.trans h
    refine go_aload_n (pc := 8) dX7_lastBoat_8 rfl ?_
    refine gf_7_18 (pc := 9) dX7_lastBoat_9 ?_
    refine go_aload_n (pc := 12) dX7_lastBoat_12 rfl ?_
    refine gf_7_9 (pc := 13) dX7_lastBoat_13 ?_
    refine go_alen (pc := 16) (n := 8) (v := (8 : Int32)) rfl (by decide) dX7_lastBoat_16 ?_
    refine go_icmp_gt (pc := 17) (tgt := 34) dX7_lastBoat_17 (by decide) (fun e2 => ?_) (fun e2 => ?_)
    · replace h := (if_pos e2).symm.trans h
      refine go_iconst (pc := 34) (v := (0 : Int32)) dX7_lastBoat_34 (by decide) ?_
      exact go_iret (pc := 35) (Option.some.inj h).symm rfl dX7_lastBoat_35 rfl
    · replace h := (if_neg e2).symm.trans h
      refine go_aload_n (pc := 20) dX7_lastBoat_20 rfl ?_
      refine gf_7_9 (pc := 21) dX7_lastBoat_21 ?_
      refine go_aload_n (pc := 24) dX7_lastBoat_24 rfl ?_
      refine gf_7_18 (pc := 25) dX7_lastBoat_25 ?_
      refine go_iconst (pc := 28) (v := (1 : Int32)) dX7_lastBoat_28 (by decide) ?_
      refine go_isub (pc := 29) dX7_lastBoat_29 ?_
      obtain ⟨i1, h⟩ := g_gd h
      refine go_iald (pc := 30) (n := 8) rfl (g_inb_ok i1) dX7_lastBoat_30 ?_
      refine go_goto (pc := 31) (tgt := 35) dX7_lastBoat_31 (by decide) ?_
      exact go_iret (pc := 35) (Option.some.inj h).symm rfl dX7_lastBoat_35 rfl
def x_X7_lastLength  (M : g_M) : Option (Int32 × g_M) := (if (M 23 2) < (1 : Int32) then (some ((0 : Int32), M)) else (if (8 : Int32) < (M 23 2) then (some ((0 : Int32), M)) else ((if g_inb ((M 23 2) - (1 : Int32)) 8 = true then (some ((M 25 ((M 23 2) - (1 : Int32)).toNatClampNeg), M)) else none))))
set_option maxHeartbeats 4000000 in
set_option maxRecDepth 100000 in
theorem z_X7_lastLength {X : g_X} (hok : g_ok X)  {M : g_M} {r : Int32 × g_M} (h : x_X7_lastLength  M = some r) : g_Con X yX7_lastLength cX7_lastLength 1 (some .int) 0 0 [.inr 23] M r := by
  rw [x_X7_lastLength] at h
  refine g_con hok (plainFor_of_name (by decide +kernel)) (Nat.le_of_ble_eq_true rfl) (go_to (lv2 := [some (.inr 23)]) (own := RX7) ?_ (And.intro rfl trivial))
  refine go_aload_n (pc := 0) dX7_lastLength_0 rfl ?_
  refine gf_7_18 (pc := 1) dX7_lastLength_1 ?_
  refine go_iconst (pc := 4) (v := (1 : Int32)) dX7_lastLength_4 (by decide) ?_
  refine go_icmp_lt (pc := 5) (tgt := 34) dX7_lastLength_5 (by decide) (fun e3 => ?_) (fun e3 => ?_)
  · replace h := (if_pos e3).symm.trans h
    refine go_iconst (pc := 34) (v := (0 : Int32)) dX7_lastLength_34 (by decide) ?_
    exact go_iret (pc := 35) (Option.some.inj h).symm rfl dX7_lastLength_35 rfl
  · replace h := (if_neg e3).symm.trans h
    refine go_aload_n (pc := 8) dX7_lastLength_8 rfl ?_
    refine gf_7_18 (pc := 9) dX7_lastLength_9 ?_
    refine go_aload_n (pc := 12) dX7_lastLength_12 rfl ?_
    refine gf_7_15 (pc := 13) dX7_lastLength_13 ?_
    refine go_alen (pc := 16) (n := 8) (v := (8 : Int32)) rfl (by decide) dX7_lastLength_16 ?_
    refine go_icmp_gt (pc := 17) (tgt := 34) dX7_lastLength_17 (by decide) (fun e2 => ?_) (fun e2 => ?_)
    · replace h := (if_pos e2).symm.trans h
      refine go_iconst (pc := 34) (v := (0 : Int32)) dX7_lastLength_34 (by decide) ?_
      exact go_iret (pc := 35) (Option.some.inj h).symm rfl dX7_lastLength_35 rfl
    · replace h := (if_neg e2).symm.trans h
      refine go_aload_n (pc := 20) dX7_lastLength_20 rfl ?_
      refine gf_7_15 (pc := 21) dX7_lastLength_21 ?_
      refine go_aload_n (pc := 24) dX7_lastLength_24 rfl ?_
      refine gf_7_18 (pc := 25) dX7_lastLength_25 ?_
      refine go_iconst (pc := 28) (v := (1 : Int32)) dX7_lastLength_28 (by decide) ?_
      refine go_isub (pc := 29) dX7_lastLength_29 ?_
      obtain ⟨i1, h⟩ := g_gd h
      refine go_iald (pc := 30) (n := 8) rfl (g_inb_ok i1) dX7_lastLength_30 ?_
      refine go_goto (pc := 31) (tgt := 35) dX7_lastLength_31 (by decide) ?_
      exact go_iret (pc := 35) (Option.some.inj h).symm rfl dX7_lastLength_35 rfl
def x_X8_refused  (p1 : Int32) (M : g_M) : Option (Int32 × g_M) := (if (-p1) < 0 then (some (p1, M)) else (if (7 : Int32) ≤ (-p1) then (some (p1, M)) else ((if g_inb (-p1) 7 = true then ((if g_inb (-p1) 7 = true then (some (p1, (g_upd M 26 (-p1).toNatClampNeg ((M 26 (-p1).toNatClampNeg) + (1 : Int32))))) else none)) else none))))
set_option maxHeartbeats 4000000 in
set_option maxRecDepth 100000 in
theorem z_X8_refused {X : g_X} (hok : g_ok X)  {p1 : Int32} {M : g_M} {r : Int32 × g_M} (h : x_X8_refused p1 M = some r) : g_Con X yX8_refused cX8_refused 2 (some .int) 0 0 [.inr 0, .inl p1] M r := by
  rw [x_X8_refused] at h
  refine g_con hok (plainFor_of_name (by decide +kernel)) (Nat.le_of_ble_eq_true rfl) (go_to (lv2 := [some (.inr 0), some (.inl p1)]) (own := RX8) ?_ (And.intro rfl (And.intro rfl trivial)))
  refine go_iload_n (pc := 0) dX8_refused_0 rfl ?_
  refine go_ineg (pc := 1) dX8_refused_1 ?_
  refine go_if_lt (pc := 2) (tgt := 26) dX8_refused_2 (by decide) (fun e4 => ?_) (fun e4 => ?_)
  · replace h := (if_pos e4).symm.trans h
    refine go_iload_n (pc := 26) dX8_refused_26 rfl ?_
    exact go_iret (pc := 27) (Option.some.inj h).symm rfl dX8_refused_27 rfl
  · replace h := (if_neg e4).symm.trans h
    refine go_iload_n (pc := 5) dX8_refused_5 rfl ?_
    refine go_ineg (pc := 6) dX8_refused_6 ?_
    refine go_aload_n (pc := 7) dX8_refused_7 rfl ?_
    refine gf_8_47 (pc := 8) dX8_refused_8 ?_
    refine go_alen (pc := 11) (n := 7) (v := (7 : Int32)) rfl (by decide) dX8_refused_11 ?_
    refine go_icmp_ge (pc := 12) (tgt := 26) dX8_refused_12 (by decide) (fun e3 => ?_) (fun e3 => ?_)
    · replace h := (if_pos e3).symm.trans h
      refine go_iload_n (pc := 26) dX8_refused_26 rfl ?_
      exact go_iret (pc := 27) (Option.some.inj h).symm rfl dX8_refused_27 rfl
    · replace h := (if_neg e3).symm.trans h
      refine go_aload_n (pc := 15) dX8_refused_15 rfl ?_
      refine gf_8_47 (pc := 16) dX8_refused_16 ?_
      refine go_iload_n (pc := 19) dX8_refused_19 rfl ?_
      refine go_ineg (pc := 20) dX8_refused_20 ?_
      refine go_dup2 (pc := 21) dX8_refused_21 ?_
      obtain ⟨i1, h⟩ := g_gd h
      refine go_iald (pc := 22) (n := 7) rfl (g_inb_ok i1) dX8_refused_22 ?_
      refine go_iconst (pc := 23) (v := (1 : Int32)) dX8_refused_23 (by decide) ?_
      refine go_iadd (pc := 24) dX8_refused_24 ?_
      obtain ⟨i2, h⟩ := g_gd h
      refine go_iast (pc := 25) (n := 7) rfl (g_inb_ok i2) dX8_refused_25 ?_
      refine go_iload_n (pc := 26) dX8_refused_26 rfl ?_
      exact go_iret (pc := 27) (Option.some.inj h).symm rfl dX8_refused_27 rfl
def x_X8_feed  (p1 : Int32) (M : g_M) : Option (Int32 × g_M) := (if 0 ≤ p1 then (if (255 : Int32) < p1 then (((x_X8_refused (-6 : Int32) M).bind fun u1 => some (u1.1, u1.2))) else (if (M 19 1) < (96 : Int32) then (((x_X3_append p1 M).bind fun u3 => some ((u3.2 19 1), u3.2))) else (((x_X8_refused (-6 : Int32) M).bind fun u5 => some (u5.1, u5.2))))) else (((x_X8_refused (-4 : Int32) M).bind fun u9 => some (u9.1, u9.2))))
set_option maxHeartbeats 4000000 in
set_option maxRecDepth 100000 in
theorem z_X8_feed {X : g_X} (hok : g_ok X)  {p1 : Int32} {M : g_M} {r : Int32 × g_M} (h : x_X8_feed p1 M = some r) : g_Con X yX8_feed cX8_feed 2 (some .int) 1 21 [.inr 0, .inl p1] M r := by
  rw [x_X8_feed] at h
  refine g_con hok (plainFor_of_name (by decide +kernel)) (Nat.le_of_ble_eq_true rfl) (go_to (lv2 := [some (.inr 0), some (.inl p1)]) (own := RX8) ?_ (And.intro rfl (And.intro rfl trivial)))
  refine go_iload_n (pc := 0) dX8_feed_0 rfl ?_
  refine go_if_ge (pc := 1) (tgt := 11) dX8_feed_1 (by decide) (fun e11 => ?_) (fun e11 => ?_)
  · replace h := (if_pos e11).symm.trans h
    refine go_iload_n (pc := 11) dX8_feed_11 rfl ?_
    refine go_sipush (pc := 12) (v := (255 : Int32)) dX8_feed_12 (by decide) ?_
    refine go_icmp_gt (pc := 15) (tgt := 30) dX8_feed_15 (by decide) (fun e8 => ?_) (fun e8 => ?_)
    · replace h := (if_pos e8).symm.trans h
      refine go_aload_n (pc := 30) dX8_feed_30 rfl ?_
      refine go_bipush (pc := 31) (v := (-6 : Int32)) dX8_feed_31 (by decide) ?_
      obtain ⟨u1, c2, h⟩ := g_bd h
      refine go_callV (pc := 33) (as := [.inl (-6 : Int32)]) (st := []) (r := u1.1) (M1 := u1.2) (z_X8_refused hok  c2) cw_X8_refused ml_X8_85 (show g_lay[0]? = some _ from rfl) rfl rfl (by decide) (Nat.le_of_ble_eq_true rfl) rfl dX8_feed_33 ?_
      exact go_iret (pc := 36) (Option.some.inj h).symm rfl dX8_feed_36 rfl
    · replace h := (if_neg e8).symm.trans h
      refine go_aload_n (pc := 18) dX8_feed_18 rfl ?_
      refine gf_8_29 (pc := 19) dX8_feed_19 ?_
      refine gf_8_89 (pc := 22) dX8_feed_22 ?_
      refine go_bipush (pc := 25) (v := (96 : Int32)) dX8_feed_25 (by decide) ?_
      refine go_icmp_lt (pc := 27) (tgt := 37) dX8_feed_27 (by decide) (fun e7 => ?_) (fun e7 => ?_)
      · replace h := (if_pos e7).symm.trans h
        refine go_aload_n (pc := 37) dX8_feed_37 rfl ?_
        refine gf_8_29 (pc := 38) dX8_feed_38 ?_
        refine go_iload_n (pc := 41) dX8_feed_41 rfl ?_
        obtain ⟨u3, c4, h⟩ := g_bd h
        refine go_callV (pc := 42) (as := [.inl p1]) (st := []) (r := u3.1) (M1 := u3.2) (z_X3_append hok  c4) cw_X3_append ml_X8_93 (show g_lay[19]? = some _ from rfl) rfl rfl (by decide) (Nat.le_of_ble_eq_true rfl) rfl dX8_feed_42 ?_
        refine go_aload_n (pc := 45) dX8_feed_45 rfl ?_
        refine gf_8_29 (pc := 46) dX8_feed_46 ?_
        refine gf_8_89 (pc := 49) dX8_feed_49 ?_
        exact go_iret (pc := 52) (Option.some.inj h).symm rfl dX8_feed_52 rfl
      · replace h := (if_neg e7).symm.trans h
        refine go_aload_n (pc := 30) dX8_feed_30 rfl ?_
        refine go_bipush (pc := 31) (v := (-6 : Int32)) dX8_feed_31 (by decide) ?_
        obtain ⟨u5, c6, h⟩ := g_bd h
        refine go_callV (pc := 33) (as := [.inl (-6 : Int32)]) (st := []) (r := u5.1) (M1 := u5.2) (z_X8_refused hok  c6) cw_X8_refused ml_X8_85 (show g_lay[0]? = some _ from rfl) rfl rfl (by decide) (Nat.le_of_ble_eq_true rfl) rfl dX8_feed_33 ?_
        exact go_iret (pc := 36) (Option.some.inj h).symm rfl dX8_feed_36 rfl
  · replace h := (if_neg e11).symm.trans h
    refine go_aload_n (pc := 4) dX8_feed_4 rfl ?_
    refine go_bipush (pc := 5) (v := (-4 : Int32)) dX8_feed_5 (by decide) ?_
    obtain ⟨u9, c10, h⟩ := g_bd h
    refine go_callV (pc := 7) (as := [.inl (-4 : Int32)]) (st := []) (r := u9.1) (M1 := u9.2) (z_X8_refused hok  c10) cw_X8_refused ml_X8_85 (show g_lay[0]? = some _ from rfl) rfl rfl (by decide) (Nat.le_of_ble_eq_true rfl) rfl dX8_feed_7 ?_
    exact go_iret (pc := 10) (Option.some.inj h).symm rfl dX8_feed_10 rfl
def x_X8_takeStatements_L70   (v1 : Int32) (M : g_M) : Option (Int32 × g_M) := (((x_X2_copyFrom 1 13 M).bind fun u1 => some (v1, (g_upd u1.2 23 2 (0 : Int32)))))
set_option maxHeartbeats 4000000 in
set_option maxRecDepth 100000 in
theorem z_X8_takeStatements_L70 {X : g_X} (hok : g_ok X)  {r : Int32 × g_M}  {v1 : Int32} {M : g_M} (h : x_X8_takeStatements_L70   v1 M = some r) : g_Go X cX8_takeStatements RX8 3 (some .int) 4 112 r 70 [some (.inr 0), some (.inl v1), none] [] M := by
  rw [x_X8_takeStatements_L70] at h
  refine go_aload_n (pc := 70) dX8_takeStatements_70 rfl ?_
  refine gf_8_10 (pc := 71) dX8_takeStatements_71 ?_
  refine go_aload_n (pc := 74) dX8_takeStatements_74 rfl ?_
  refine gf_8_19 (pc := 75) dX8_takeStatements_75 ?_
  obtain ⟨u1, c2, h⟩ := g_bd h
  refine go_callV (pc := 78) (as := [.inr 13]) (st := []) (r := u1.1) (M1 := u1.2) (z_X2_copyFrom hok g_isH1 g_isH13 c2) cw_X2_copyFrom ml_X8_104 g_isH1.1 rfl rfl (by decide) (Nat.le_of_ble_eq_true rfl) rfl dX8_takeStatements_78 ?_
  refine go_aload_n (pc := 81) dX8_takeStatements_81 rfl ?_
  refine gf_8_43 (pc := 82) dX8_takeStatements_82 ?_
  refine go_iconst (pc := 85) (v := (0 : Int32)) dX8_takeStatements_85 (by decide) ?_
  refine gp_8_115 (pc := 86) dX8_takeStatements_86 ?_
  refine go_iload_n (pc := 89) dX8_takeStatements_89 rfl ?_
  exact go_iret (pc := 90) (Option.some.inj h).symm rfl dX8_takeStatements_90 rfl
def x_X8_takeStatements_L15   : Nat → Int32 → Int32 → g_M → Option (Int32 × g_M)
  | 0, _, _, _ => none
  | n + 1, v1, v2, M => (if (M 19 1) ≤ v2 then (x_X8_takeStatements_L70   v1 M) else (if (96 : Int32) ≤ v1 then (x_X8_takeStatements_L70   v1 M) else (((x_X3_tellStatement 13 v2 M).bind fun u3 => if u3.1 = 0 then (some (((-2000 : Int32) - v2), u3.2)) else (((x_X3_statementSize v2 u3.2).bind fun u5 => x_X8_takeStatements_L15   n (v1 + (1 : Int32)) (v2 + u5.1) u5.2))))))
set_option maxHeartbeats 4000000 in
set_option maxRecDepth 100000 in
theorem z_X8_takeStatements_L15 {X : g_X} (hok : g_ok X)  {r : Int32 × g_M}  : ∀ (n : Nat) (v1 : Int32) (v2 : Int32) (M : g_M), x_X8_takeStatements_L15   n v1 v2 M = some r → g_Go X cX8_takeStatements RX8 3 (some .int) 4 112 r 15 [some (.inr 0), some (.inl v1), some (.inl v2)] [] M := by
  intro n
  induction n with
  | zero =>
    intro v1 v2 M h
    rw [x_X8_takeStatements_L15] at h
    cases h
  | succ n ih =>
    intro v1 v2 M h
    rw [x_X8_takeStatements_L15] at h
    refine go_iload_n (pc := 15) dX8_takeStatements_15 rfl ?_
    refine go_aload_n (pc := 16) dX8_takeStatements_16 rfl ?_
    refine gf_8_29 (pc := 17) dX8_takeStatements_17 ?_
    refine gf_8_89 (pc := 20) dX8_takeStatements_20 ?_
    refine go_icmp_ge (pc := 23) (tgt := 70) dX8_takeStatements_23 (by decide) (fun e9 => ?_) (fun e9 => ?_)
    · replace h := (if_pos e9).symm.trans h
      exact go_to (z_X8_takeStatements_L70 hok   h) (And.intro rfl (And.intro rfl trivial))
    · replace h := (if_neg e9).symm.trans h
      refine go_iload_n (pc := 26) dX8_takeStatements_26 rfl ?_
      refine go_bipush (pc := 27) (v := (96 : Int32)) dX8_takeStatements_27 (by decide) ?_
      refine go_icmp_ge (pc := 29) (tgt := 70) dX8_takeStatements_29 (by decide) (fun e8 => ?_) (fun e8 => ?_)
      · replace h := (if_pos e8).symm.trans h
        exact go_to (z_X8_takeStatements_L70 hok   h) (And.intro rfl (And.intro rfl trivial))
      · replace h := (if_neg e8).symm.trans h
        refine go_aload_n (pc := 32) dX8_takeStatements_32 rfl ?_
        refine gf_8_29 (pc := 33) dX8_takeStatements_33 ?_
        refine go_iload_n (pc := 36) dX8_takeStatements_36 rfl ?_
        refine go_aload_n (pc := 37) dX8_takeStatements_37 rfl ?_
        refine gf_8_19 (pc := 38) dX8_takeStatements_38 ?_
        obtain ⟨u3, c4, h⟩ := g_bd h
        refine go_callV (pc := 41) (as := [.inl v2, .inr 13]) (st := []) (r := u3.1) (M1 := u3.2) (z_X3_tellStatement hok g_isH13 c4) cw_X3_tellStatement ml_X8_108 (show g_lay[19]? = some _ from rfl) rfl rfl (by decide) (Nat.le_of_ble_eq_true rfl) rfl dX8_takeStatements_41 ?_
        refine go_if_ne (pc := 44) (tgt := 53) dX8_takeStatements_44 (by decide) (fun e7 => ?_) (fun e7 => ?_)
        · replace h := (if_neg e7).symm.trans h
          refine go_iload_n (pc := 53) dX8_takeStatements_53 rfl ?_
          refine go_aload_n (pc := 54) dX8_takeStatements_54 rfl ?_
          refine gf_8_29 (pc := 55) dX8_takeStatements_55 ?_
          refine go_iload_n (pc := 58) dX8_takeStatements_58 rfl ?_
          obtain ⟨u5, c6, h⟩ := g_bd h
          refine go_callV (pc := 59) (as := [.inl v2]) (st := [.inl v2]) (r := u5.1) (M1 := u5.2) (z_X3_statementSize hok  c6) cw_X3_statementSize ml_X8_112 (show g_lay[19]? = some _ from rfl) rfl rfl (by decide) (Nat.le_of_ble_eq_true rfl) rfl dX8_takeStatements_59 ?_
          refine go_iadd (pc := 62) dX8_takeStatements_62 ?_
          refine go_istore_n (pc := 63) (lv' := [some (.inr 0), some (.inl v1), some (.inl (v2 + u5.1))]) dX8_takeStatements_63 (by decide) rfl ?_
          refine go_iinc (pc := 64) (v := (1 : Int32)) (lv' := [some (.inr 0), some (.inl (v1 + (1 : Int32))), some (.inl (v2 + u5.1))]) dX8_takeStatements_64 rfl (by decide) (by decide) rfl ?_
          refine go_goto (pc := 67) (tgt := 15) dX8_takeStatements_67 (by decide) ?_
          exact go_to (ih _ _ _ h) (And.intro rfl (And.intro rfl (And.intro rfl trivial)))
        · replace h := (if_pos e7).symm.trans h
          refine go_sipush (pc := 47) (v := (-2000 : Int32)) dX8_takeStatements_47 (by decide) ?_
          refine go_iload_n (pc := 50) dX8_takeStatements_50 rfl ?_
          refine go_isub (pc := 51) dX8_takeStatements_51 ?_
          exact go_iret (pc := 52) (Option.some.inj h).symm rfl dX8_takeStatements_52 rfl
def x_X8_takeStatements  (M : g_M) : Option (Int32 × g_M) := (((x_X2_copyFrom 13 1 M).bind fun u10 => x_X8_takeStatements_L15   g_F (0 : Int32) (0 : Int32) u10.2))
set_option maxHeartbeats 4000000 in
set_option maxRecDepth 100000 in
theorem z_X8_takeStatements {X : g_X} (hok : g_ok X)  {M : g_M} {r : Int32 × g_M} (h : x_X8_takeStatements  M = some r) : g_Con X yX8_takeStatements cX8_takeStatements 3 (some .int) 4 112 [.inr 0] M r := by
  rw [x_X8_takeStatements] at h
  refine g_con hok (plainFor_of_name (by decide +kernel)) (Nat.le_of_ble_eq_true rfl) (go_to (lv2 := [some (.inr 0), none, none]) (own := RX8) ?_ (And.intro rfl trivial))
  refine go_aload_n (pc := 0) dX8_takeStatements_0 rfl ?_
  refine gf_8_19 (pc := 1) dX8_takeStatements_1 ?_
  refine go_aload_n (pc := 4) dX8_takeStatements_4 rfl ?_
  refine gf_8_10 (pc := 5) dX8_takeStatements_5 ?_
  obtain ⟨u10, c11, h⟩ := g_bd h
  refine go_callV (pc := 8) (as := [.inr 1]) (st := []) (r := u10.1) (M1 := u10.2) (z_X2_copyFrom hok g_isH13 g_isH1 c11) cw_X2_copyFrom ml_X8_104 g_isH13.1 rfl rfl (by decide) (Nat.le_of_ble_eq_true rfl) rfl dX8_takeStatements_8 ?_
  refine go_iconst (pc := 11) (v := (0 : Int32)) dX8_takeStatements_11 (by decide) ?_
  refine go_istore_n (pc := 12) (lv' := [some (.inr 0), some (.inl (0 : Int32)), none]) dX8_takeStatements_12 (by decide) rfl ?_
  refine go_iconst (pc := 13) (v := (0 : Int32)) dX8_takeStatements_13 (by decide) ?_
  refine go_istore_n (pc := 14) (lv' := [some (.inr 0), some (.inl (0 : Int32)), some (.inl (0 : Int32))]) dX8_takeStatements_14 (by decide) rfl ?_
  exact go_to (z_X8_takeStatements_L15 hok   g_F _ _ _ h) (And.intro rfl (And.intro rfl (And.intro rfl trivial)))
def x_X8_quay  (M : g_M) : Option (Int32 × g_M) := (((x_X3_strangePlace M).bind fun u1 => if u1.1 = (-9 : Int32) then (((x_X8_takeStatements u1.2).bind fun u3 => some (u3.1, (g_upd u3.2 19 1 (0 : Int32))))) else (some (((-1000 : Int32) - u1.1), (g_upd u1.2 19 1 (0 : Int32))))))
set_option maxHeartbeats 4000000 in
set_option maxRecDepth 100000 in
theorem z_X8_quay {X : g_X} (hok : g_ok X)  {M : g_M} {r : Int32 × g_M} (h : x_X8_quay  M = some r) : g_Con X yX8_quay cX8_quay 3 (some .int) 6 158 [.inr 0] M r := by
  rw [x_X8_quay] at h
  refine g_con hok (plainFor_of_name (by decide +kernel)) (Nat.le_of_ble_eq_true rfl) (go_to (lv2 := [some (.inr 0), none, none]) (own := RX8) ?_ (And.intro rfl trivial))
  refine go_aload_n (pc := 0) dX8_quay_0 rfl ?_
  refine gf_8_29 (pc := 1) dX8_quay_1 ?_
  obtain ⟨u1, c2, h⟩ := g_bd h
  refine go_callV (pc := 4) (as := []) (st := []) (r := u1.1) (M1 := u1.2) (z_X3_strangePlace hok  c2) cw_X3_strangePlace ml_X8_97 (show g_lay[19]? = some _ from rfl) rfl rfl (by decide) (Nat.le_of_ble_eq_true rfl) rfl dX8_quay_4 ?_
  refine go_istore_n (pc := 7) (lv' := [some (.inr 0), some (.inl u1.1), none]) dX8_quay_7 (by decide) rfl ?_
  refine go_iload_n (pc := 8) dX8_quay_8 rfl ?_
  refine go_bipush (pc := 9) (v := (-9 : Int32)) dX8_quay_9 (by decide) ?_
  refine go_icmp_ne (pc := 11) (tgt := 21) dX8_quay_11 (by decide) (fun e5 => ?_) (fun e5 => ?_)
  · replace h := (if_neg e5).symm.trans h
    refine go_sipush (pc := 21) (v := (-1000 : Int32)) dX8_quay_21 (by decide) ?_
    refine go_iload_n (pc := 24) dX8_quay_24 rfl ?_
    refine go_isub (pc := 25) dX8_quay_25 ?_
    refine go_istore_n (pc := 26) (lv' := [some (.inr 0), some (.inl u1.1), some (.inl ((-1000 : Int32) - u1.1))]) dX8_quay_26 (by decide) rfl ?_
    refine go_aload_n (pc := 27) dX8_quay_27 rfl ?_
    refine gf_8_29 (pc := 28) dX8_quay_28 ?_
    refine go_iconst (pc := 31) (v := (0 : Int32)) dX8_quay_31 (by decide) ?_
    refine gp_8_89 (pc := 32) dX8_quay_32 ?_
    refine go_iload_n (pc := 35) dX8_quay_35 rfl ?_
    exact go_iret (pc := 36) (Option.some.inj h).symm rfl dX8_quay_36 rfl
  · replace h := (if_pos e5).symm.trans h
    refine go_aload_n (pc := 14) dX8_quay_14 rfl ?_
    obtain ⟨u3, c4, h⟩ := g_bd h
    refine go_callV (pc := 15) (as := []) (st := []) (r := u3.1) (M1 := u3.2) (z_X8_takeStatements hok  c4) cw_X8_takeStatements ml_X8_101 (show g_lay[0]? = some _ from rfl) rfl rfl (by decide) (Nat.le_of_ble_eq_true rfl) rfl dX8_quay_15 ?_
    refine go_goto (pc := 18) (tgt := 26) dX8_quay_18 (by decide) ?_
    refine go_istore_n (pc := 26) (lv' := [some (.inr 0), some (.inl u1.1), some (.inl u3.1)]) dX8_quay_26 (by decide) rfl ?_
    refine go_aload_n (pc := 27) dX8_quay_27 rfl ?_
    refine gf_8_29 (pc := 28) dX8_quay_28 ?_
    refine go_iconst (pc := 31) (v := (0 : Int32)) dX8_quay_31 (by decide) ?_
    refine gp_8_89 (pc := 32) dX8_quay_32 ?_
    refine go_iload_n (pc := 35) dX8_quay_35 rfl ?_
    exact go_iret (pc := 36) (Option.some.inj h).symm rfl dX8_quay_36 rfl
def x_X8_tide  (p1 : Int32) (M : g_M) : Option (Int32 × g_M) := (((x_X8_isHour p1 M).bind fun u1 => if u1.1 = 0 then (((x_X8_refused (-1 : Int32) u1.2).bind fun u3 => some (u3.1, u3.2))) else (((x_X2_tideAt 1 p1 u1.2).bind fun u5 => some (u5.1, u5.2)))))
set_option maxHeartbeats 4000000 in
set_option maxRecDepth 100000 in
theorem z_X8_tide {X : g_X} (hok : g_ok X)  {p1 : Int32} {M : g_M} {r : Int32 × g_M} (h : x_X8_tide p1 M = some r) : g_Con X yX8_tide cX8_tide 2 (some .int) 2 42 [.inr 0, .inl p1] M r := by
  rw [x_X8_tide] at h
  refine g_con hok (plainFor_of_name (by decide +kernel)) (Nat.le_of_ble_eq_true rfl) (go_to (lv2 := [some (.inr 0), some (.inl p1)]) (own := RX8) ?_ (And.intro rfl (And.intro rfl trivial)))
  refine go_iload_n (pc := 0) dX8_tide_0 rfl ?_
  obtain ⟨u1, c2, h⟩ := g_bd h
  refine go_callS (pc := 1) (as := [.inl p1]) (st := []) (r := u1.1) (M1 := u1.2) (z_X8_isHour hok  c2) cw_X8_isHour ml_X8_116 (by decide) (Nat.le_of_ble_eq_true rfl) rfl dX8_tide_1 ?_
  refine go_if_eq (pc := 4) (tgt := 18) dX8_tide_4 (by decide) (fun e7 => ?_) (fun e7 => ?_)
  · replace h := (if_pos e7).symm.trans h
    refine go_aload_n (pc := 18) dX8_tide_18 rfl ?_
    refine go_iconst (pc := 19) (v := (-1 : Int32)) dX8_tide_19 (by decide) ?_
    obtain ⟨u3, c4, h⟩ := g_bd h
    refine go_callV (pc := 20) (as := [.inl (-1 : Int32)]) (st := []) (r := u3.1) (M1 := u3.2) (z_X8_refused hok  c4) cw_X8_refused ml_X8_85 (show g_lay[0]? = some _ from rfl) rfl rfl (by decide) (Nat.le_of_ble_eq_true rfl) rfl dX8_tide_20 ?_
    exact go_iret (pc := 23) (Option.some.inj h).symm rfl dX8_tide_23 rfl
  · replace h := (if_neg e7).symm.trans h
    refine go_aload_n (pc := 7) dX8_tide_7 rfl ?_
    refine gf_8_10 (pc := 8) dX8_tide_8 ?_
    refine go_iload_n (pc := 11) dX8_tide_11 rfl ?_
    obtain ⟨u5, c6, h⟩ := g_bd h
    refine go_callV (pc := 12) (as := [.inl p1]) (st := []) (r := u5.1) (M1 := u5.2) (z_X2_tideAt hok g_isH1 c6) cw_X2_tideAt ml_X8_120 g_isH1.1 rfl rfl (by decide) (Nat.le_of_ble_eq_true rfl) rfl dX8_tide_12 ?_
    refine go_goto (pc := 15) (tgt := 23) dX8_tide_15 (by decide) ?_
    exact go_iret (pc := 23) (Option.some.inj h).symm rfl dX8_tide_23 rfl
def x_X8_refusedFar  (p1 : Int32) (M : g_M) : Option (Int32 × g_M) := (((x_X8_refused p1 M).bind fun u1 => some (((1000000000 : Int32) - u1.1), u1.2)))
set_option maxHeartbeats 4000000 in
set_option maxRecDepth 100000 in
theorem z_X8_refusedFar {X : g_X} (hok : g_ok X)  {p1 : Int32} {M : g_M} {r : Int32 × g_M} (h : x_X8_refusedFar p1 M = some r) : g_Con X yX8_refusedFar cX8_refusedFar 2 (some .int) 1 21 [.inr 0, .inl p1] M r := by
  rw [x_X8_refusedFar] at h
  refine g_con hok (plainFor_of_name (by decide +kernel)) (Nat.le_of_ble_eq_true rfl) (go_to (lv2 := [some (.inr 0), some (.inl p1)]) (own := RX8) ?_ (And.intro rfl (And.intro rfl trivial)))
  refine go_ldcw (pc := 0) (v := (1000000000 : Int32)) kc_X8_380 dX8_refusedFar_0 ?_
  refine go_aload_n (pc := 3) dX8_refusedFar_3 rfl ?_
  refine go_iload_n (pc := 4) dX8_refusedFar_4 rfl ?_
  obtain ⟨u1, c2, h⟩ := g_bd h
  refine go_callV (pc := 5) (as := [.inl p1]) (st := [.inl (1000000000 : Int32)]) (r := u1.1) (M1 := u1.2) (z_X8_refused hok  c2) cw_X8_refused ml_X8_85 (show g_lay[0]? = some _ from rfl) rfl rfl (by decide) (Nat.le_of_ble_eq_true rfl) rfl dX8_refusedFar_5 ?_
  refine go_isub (pc := 8) dX8_refusedFar_8 ?_
  exact go_iret (pc := 9) (Option.some.inj h).symm rfl dX8_refusedFar_9 rfl
def x_X8_wind  (p1 : Int32) (M : g_M) : Option (Int32 × g_M) := (((x_X8_isHour p1 M).bind fun u1 => if u1.1 = 0 then (((x_X8_refusedFar (-1 : Int32) u1.2).bind fun u3 => some (u3.1, u3.2))) else (((x_X2_windAt 1 p1 u1.2).bind fun u5 => some (u5.1, u5.2)))))
set_option maxHeartbeats 4000000 in
set_option maxRecDepth 100000 in
theorem z_X8_wind {X : g_X} (hok : g_ok X)  {p1 : Int32} {M : g_M} {r : Int32 × g_M} (h : x_X8_wind p1 M = some r) : g_Con X yX8_wind cX8_wind 2 (some .int) 2 42 [.inr 0, .inl p1] M r := by
  rw [x_X8_wind] at h
  refine g_con hok (plainFor_of_name (by decide +kernel)) (Nat.le_of_ble_eq_true rfl) (go_to (lv2 := [some (.inr 0), some (.inl p1)]) (own := RX8) ?_ (And.intro rfl (And.intro rfl trivial)))
  refine go_iload_n (pc := 0) dX8_wind_0 rfl ?_
  obtain ⟨u1, c2, h⟩ := g_bd h
  refine go_callS (pc := 1) (as := [.inl p1]) (st := []) (r := u1.1) (M1 := u1.2) (z_X8_isHour hok  c2) cw_X8_isHour ml_X8_116 (by decide) (Nat.le_of_ble_eq_true rfl) rfl dX8_wind_1 ?_
  refine go_if_eq (pc := 4) (tgt := 18) dX8_wind_4 (by decide) (fun e7 => ?_) (fun e7 => ?_)
  · replace h := (if_pos e7).symm.trans h
    refine go_aload_n (pc := 18) dX8_wind_18 rfl ?_
    refine go_iconst (pc := 19) (v := (-1 : Int32)) dX8_wind_19 (by decide) ?_
    obtain ⟨u3, c4, h⟩ := g_bd h
    refine go_callV (pc := 20) (as := [.inl (-1 : Int32)]) (st := []) (r := u3.1) (M1 := u3.2) (z_X8_refusedFar hok  c4) cw_X8_refusedFar ml_X8_126 (show g_lay[0]? = some _ from rfl) rfl rfl (by decide) (Nat.le_of_ble_eq_true rfl) rfl dX8_wind_20 ?_
    exact go_iret (pc := 23) (Option.some.inj h).symm rfl dX8_wind_23 rfl
  · replace h := (if_neg e7).symm.trans h
    refine go_aload_n (pc := 7) dX8_wind_7 rfl ?_
    refine gf_8_10 (pc := 8) dX8_wind_8 ?_
    refine go_iload_n (pc := 11) dX8_wind_11 rfl ?_
    obtain ⟨u5, c6, h⟩ := g_bd h
    refine go_callV (pc := 12) (as := [.inl p1]) (st := []) (r := u5.1) (M1 := u5.2) (z_X2_windAt hok g_isH1 c6) cw_X2_windAt ml_X8_123 g_isH1.1 rfl rfl (by decide) (Nat.le_of_ble_eq_true rfl) rfl dX8_wind_12 ?_
    refine go_goto (pc := 15) (tgt := 23) dX8_wind_15 (by decide) ?_
    exact go_iret (pc := 23) (Option.some.inj h).symm rfl dX8_wind_23 rfl
def x_X8_rises  (p1 p2 : Int32) (M : g_M) : Option (Int32 × g_M) := (((x_X8_isHour p1 M).bind fun u1 => if u1.1 = 0 then (((x_X8_refused (-1 : Int32) u1.2).bind fun u13 => some (u13.1, u13.2))) else (if 0 ≤ p2 then (if p2 ≤ (40 : Int32) then (((x_X2_tideAt 1 p1 u1.2).bind fun u3 => ((x_X2_setTide 1 p1 p2 u3.2).bind fun u5 => some (u3.1, u5.2)))) else (((x_X8_refused (-6 : Int32) u1.2).bind fun u7 => some (u7.1, u7.2)))) else (((x_X8_refused (-4 : Int32) u1.2).bind fun u10 => some (u10.1, u10.2))))))
set_option maxHeartbeats 4000000 in
set_option maxRecDepth 100000 in
theorem z_X8_rises {X : g_X} (hok : g_ok X)  {p1 p2 : Int32} {M : g_M} {r : Int32 × g_M} (h : x_X8_rises p1 p2 M = some r) : g_Con X yX8_rises cX8_rises 4 (some .int) 2 44 [.inr 0, .inl p1, .inl p2] M r := by
  rw [x_X8_rises] at h
  refine g_con hok (plainFor_of_name (by decide +kernel)) (Nat.le_of_ble_eq_true rfl) (go_to (lv2 := [some (.inr 0), some (.inl p1), some (.inl p2), none]) (own := RX8) ?_ (And.intro rfl (And.intro rfl (And.intro rfl trivial))))
  refine go_iload_n (pc := 0) dX8_rises_0 rfl ?_
  obtain ⟨u1, c2, h⟩ := g_bd h
  refine go_callS (pc := 1) (as := [.inl p1]) (st := []) (r := u1.1) (M1 := u1.2) (z_X8_isHour hok  c2) cw_X8_isHour ml_X8_116 (by decide) (Nat.le_of_ble_eq_true rfl) rfl dX8_rises_1 ?_
  refine go_if_ne (pc := 4) (tgt := 13) dX8_rises_4 (by decide) (fun e15 => ?_) (fun e15 => ?_)
  · replace h := (if_neg e15).symm.trans h
    refine go_iload_n (pc := 13) dX8_rises_13 rfl ?_
    refine go_if_ge (pc := 14) (tgt := 24) dX8_rises_14 (by decide) (fun e12 => ?_) (fun e12 => ?_)
    · replace h := (if_pos e12).symm.trans h
      refine go_iload_n (pc := 24) dX8_rises_24 rfl ?_
      refine go_bipush (pc := 25) (v := (40 : Int32)) dX8_rises_25 (by decide) ?_
      refine go_icmp_le (pc := 27) (tgt := 37) dX8_rises_27 (by decide) (fun e9 => ?_) (fun e9 => ?_)
      · replace h := (if_pos e9).symm.trans h
        refine go_aload_n (pc := 37) dX8_rises_37 rfl ?_
        refine gf_8_10 (pc := 38) dX8_rises_38 ?_
        refine go_iload_n (pc := 41) dX8_rises_41 rfl ?_
        obtain ⟨u3, c4, h⟩ := g_bd h
        refine go_callV (pc := 42) (as := [.inl p1]) (st := []) (r := u3.1) (M1 := u3.2) (z_X2_tideAt hok g_isH1 c4) cw_X2_tideAt ml_X8_120 g_isH1.1 rfl rfl (by decide) (Nat.le_of_ble_eq_true rfl) rfl dX8_rises_42 ?_
        refine go_istore_n (pc := 45) (lv' := [some (.inr 0), some (.inl p1), some (.inl p2), some (.inl u3.1)]) dX8_rises_45 (by decide) rfl ?_
        refine go_aload_n (pc := 46) dX8_rises_46 rfl ?_
        refine gf_8_10 (pc := 47) dX8_rises_47 ?_
        refine go_iload_n (pc := 50) dX8_rises_50 rfl ?_
        refine go_iload_n (pc := 51) dX8_rises_51 rfl ?_
        obtain ⟨u5, c6, h⟩ := g_bd h
        refine go_callV (pc := 52) (as := [.inl p1, .inl p2]) (st := []) (r := u5.1) (M1 := u5.2) (z_X2_setTide hok g_isH1 c6) cw_X2_setTide ml_X8_129 g_isH1.1 rfl rfl (by decide) (Nat.le_of_ble_eq_true rfl) rfl dX8_rises_52 ?_
        refine go_iload_n (pc := 55) dX8_rises_55 rfl ?_
        exact go_iret (pc := 56) (Option.some.inj h).symm rfl dX8_rises_56 rfl
      · replace h := (if_neg e9).symm.trans h
        refine go_aload_n (pc := 30) dX8_rises_30 rfl ?_
        refine go_bipush (pc := 31) (v := (-6 : Int32)) dX8_rises_31 (by decide) ?_
        obtain ⟨u7, c8, h⟩ := g_bd h
        refine go_callV (pc := 33) (as := [.inl (-6 : Int32)]) (st := []) (r := u7.1) (M1 := u7.2) (z_X8_refused hok  c8) cw_X8_refused ml_X8_85 (show g_lay[0]? = some _ from rfl) rfl rfl (by decide) (Nat.le_of_ble_eq_true rfl) rfl dX8_rises_33 ?_
        exact go_iret (pc := 36) (Option.some.inj h).symm rfl dX8_rises_36 rfl
    · replace h := (if_neg e12).symm.trans h
      refine go_aload_n (pc := 17) dX8_rises_17 rfl ?_
      refine go_bipush (pc := 18) (v := (-4 : Int32)) dX8_rises_18 (by decide) ?_
      obtain ⟨u10, c11, h⟩ := g_bd h
      refine go_callV (pc := 20) (as := [.inl (-4 : Int32)]) (st := []) (r := u10.1) (M1 := u10.2) (z_X8_refused hok  c11) cw_X8_refused ml_X8_85 (show g_lay[0]? = some _ from rfl) rfl rfl (by decide) (Nat.le_of_ble_eq_true rfl) rfl dX8_rises_20 ?_
      exact go_iret (pc := 23) (Option.some.inj h).symm rfl dX8_rises_23 rfl
  · replace h := (if_pos e15).symm.trans h
    refine go_aload_n (pc := 7) dX8_rises_7 rfl ?_
    refine go_iconst (pc := 8) (v := (-1 : Int32)) dX8_rises_8 (by decide) ?_
    obtain ⟨u13, c14, h⟩ := g_bd h
    refine go_callV (pc := 9) (as := [.inl (-1 : Int32)]) (st := []) (r := u13.1) (M1 := u13.2) (z_X8_refused hok  c14) cw_X8_refused ml_X8_85 (show g_lay[0]? = some _ from rfl) rfl rfl (by decide) (Nat.le_of_ble_eq_true rfl) rfl dX8_rises_9 ?_
    exact go_iret (pc := 12) (Option.some.inj h).symm rfl dX8_rises_12 rfl
def x_X8_ring  (p1 p2 : Int32) (M : g_M) : Option (Int32 × g_M) := (((x_X2_hasRing 1 p1 M).bind fun u1 => if u1.1 = 0 then (((x_X8_refused (-1 : Int32) u1.2).bind fun u11 => some (u11.1, u11.2))) else (if p2 < 0 then (((x_X8_refused (-2 : Int32) u1.2).bind fun u3 => some (u3.1, u3.2))) else (if p2 < (2 : Int32) then (((x_X2_ringCell 1 p1 p2 u1.2).bind fun u5 => some (u5.1, u5.2))) else (((x_X8_refused (-2 : Int32) u1.2).bind fun u7 => some (u7.1, u7.2)))))))
set_option maxHeartbeats 4000000 in
set_option maxRecDepth 100000 in
theorem z_X8_ring {X : g_X} (hok : g_ok X)  {p1 p2 : Int32} {M : g_M} {r : Int32 × g_M} (h : x_X8_ring p1 p2 M = some r) : g_Con X yX8_ring cX8_ring 3 (some .int) 2 43 [.inr 0, .inl p1, .inl p2] M r := by
  rw [x_X8_ring] at h
  refine g_con hok (plainFor_of_name (by decide +kernel)) (Nat.le_of_ble_eq_true rfl) (go_to (lv2 := [some (.inr 0), some (.inl p1), some (.inl p2)]) (own := RX8) ?_ (And.intro rfl (And.intro rfl (And.intro rfl trivial))))
  refine go_aload_n (pc := 0) dX8_ring_0 rfl ?_
  refine gf_8_10 (pc := 1) dX8_ring_1 ?_
  refine go_iload_n (pc := 4) dX8_ring_4 rfl ?_
  obtain ⟨u1, c2, h⟩ := g_bd h
  refine go_callV (pc := 5) (as := [.inl p1]) (st := []) (r := u1.1) (M1 := u1.2) (z_X2_hasRing hok g_isH1 c2) cw_X2_hasRing ml_X8_133 g_isH1.1 rfl rfl (by decide) (Nat.le_of_ble_eq_true rfl) rfl dX8_ring_5 ?_
  refine go_if_ne (pc := 8) (tgt := 17) dX8_ring_8 (by decide) (fun e13 => ?_) (fun e13 => ?_)
  · replace h := (if_neg e13).symm.trans h
    refine go_iload_n (pc := 17) dX8_ring_17 rfl ?_
    refine go_if_lt (pc := 18) (tgt := 26) dX8_ring_18 (by decide) (fun e10 => ?_) (fun e10 => ?_)
    · replace h := (if_pos e10).symm.trans h
      refine go_aload_n (pc := 26) dX8_ring_26 rfl ?_
      refine go_bipush (pc := 27) (v := (-2 : Int32)) dX8_ring_27 (by decide) ?_
      obtain ⟨u3, c4, h⟩ := g_bd h
      refine go_callV (pc := 29) (as := [.inl (-2 : Int32)]) (st := []) (r := u3.1) (M1 := u3.2) (z_X8_refused hok  c4) cw_X8_refused ml_X8_85 (show g_lay[0]? = some _ from rfl) rfl rfl (by decide) (Nat.le_of_ble_eq_true rfl) rfl dX8_ring_29 ?_
      exact go_iret (pc := 32) (Option.some.inj h).symm rfl dX8_ring_32 rfl
    · replace h := (if_neg e10).symm.trans h
      refine go_iload_n (pc := 21) dX8_ring_21 rfl ?_
      refine go_iconst (pc := 22) (v := (2 : Int32)) dX8_ring_22 (by decide) ?_
      refine go_icmp_lt (pc := 23) (tgt := 33) dX8_ring_23 (by decide) (fun e9 => ?_) (fun e9 => ?_)
      · replace h := (if_pos e9).symm.trans h
        refine go_aload_n (pc := 33) dX8_ring_33 rfl ?_
        refine gf_8_10 (pc := 34) dX8_ring_34 ?_
        refine go_iload_n (pc := 37) dX8_ring_37 rfl ?_
        refine go_iload_n (pc := 38) dX8_ring_38 rfl ?_
        obtain ⟨u5, c6, h⟩ := g_bd h
        refine go_callV (pc := 39) (as := [.inl p1, .inl p2]) (st := []) (r := u5.1) (M1 := u5.2) (z_X2_ringCell hok g_isH1 c6) cw_X2_ringCell ml_X8_136 g_isH1.1 rfl rfl (by decide) (Nat.le_of_ble_eq_true rfl) rfl dX8_ring_39 ?_
        exact go_iret (pc := 42) (Option.some.inj h).symm rfl dX8_ring_42 rfl
      · replace h := (if_neg e9).symm.trans h
        refine go_aload_n (pc := 26) dX8_ring_26 rfl ?_
        refine go_bipush (pc := 27) (v := (-2 : Int32)) dX8_ring_27 (by decide) ?_
        obtain ⟨u7, c8, h⟩ := g_bd h
        refine go_callV (pc := 29) (as := [.inl (-2 : Int32)]) (st := []) (r := u7.1) (M1 := u7.2) (z_X8_refused hok  c8) cw_X8_refused ml_X8_85 (show g_lay[0]? = some _ from rfl) rfl rfl (by decide) (Nat.le_of_ble_eq_true rfl) rfl dX8_ring_29 ?_
        exact go_iret (pc := 32) (Option.some.inj h).symm rfl dX8_ring_32 rfl
  · replace h := (if_pos e13).symm.trans h
    refine go_aload_n (pc := 11) dX8_ring_11 rfl ?_
    refine go_iconst (pc := 12) (v := (-1 : Int32)) dX8_ring_12 (by decide) ?_
    obtain ⟨u11, c12, h⟩ := g_bd h
    refine go_callV (pc := 13) (as := [.inl (-1 : Int32)]) (st := []) (r := u11.1) (M1 := u11.2) (z_X8_refused hok  c12) cw_X8_refused ml_X8_85 (show g_lay[0]? = some _ from rfl) rfl rfl (by decide) (Nat.le_of_ble_eq_true rfl) rfl dX8_ring_13 ?_
    exact go_iret (pc := 16) (Option.some.inj h).symm rfl dX8_ring_16 rfl
def x_X8_boat  (p1 p2 : Int32) (M : g_M) : Option (Int32 × g_M) := (((x_X2_hasBoat 1 p1 M).bind fun u1 => if u1.1 = 0 then (((x_X8_refused (-1 : Int32) u1.2).bind fun u11 => some (u11.1, u11.2))) else (if p2 < 0 then (((x_X8_refused (-2 : Int32) u1.2).bind fun u3 => some (u3.1, u3.2))) else (if p2 < (7 : Int32) then (((x_X2_boatCell 1 p1 p2 u1.2).bind fun u5 => some (u5.1, u5.2))) else (((x_X8_refused (-2 : Int32) u1.2).bind fun u7 => some (u7.1, u7.2)))))))
set_option maxHeartbeats 4000000 in
set_option maxRecDepth 100000 in
theorem z_X8_boat {X : g_X} (hok : g_ok X)  {p1 p2 : Int32} {M : g_M} {r : Int32 × g_M} (h : x_X8_boat p1 p2 M = some r) : g_Con X yX8_boat cX8_boat 3 (some .int) 2 43 [.inr 0, .inl p1, .inl p2] M r := by
  rw [x_X8_boat] at h
  refine g_con hok (plainFor_of_name (by decide +kernel)) (Nat.le_of_ble_eq_true rfl) (go_to (lv2 := [some (.inr 0), some (.inl p1), some (.inl p2)]) (own := RX8) ?_ (And.intro rfl (And.intro rfl (And.intro rfl trivial))))
  refine go_aload_n (pc := 0) dX8_boat_0 rfl ?_
  refine gf_8_10 (pc := 1) dX8_boat_1 ?_
  refine go_iload_n (pc := 4) dX8_boat_4 rfl ?_
  obtain ⟨u1, c2, h⟩ := g_bd h
  refine go_callV (pc := 5) (as := [.inl p1]) (st := []) (r := u1.1) (M1 := u1.2) (z_X2_hasBoat hok g_isH1 c2) cw_X2_hasBoat ml_X8_140 g_isH1.1 rfl rfl (by decide) (Nat.le_of_ble_eq_true rfl) rfl dX8_boat_5 ?_
  refine go_if_ne (pc := 8) (tgt := 17) dX8_boat_8 (by decide) (fun e13 => ?_) (fun e13 => ?_)
  · replace h := (if_neg e13).symm.trans h
    refine go_iload_n (pc := 17) dX8_boat_17 rfl ?_
    refine go_if_lt (pc := 18) (tgt := 27) dX8_boat_18 (by decide) (fun e10 => ?_) (fun e10 => ?_)
    · replace h := (if_pos e10).symm.trans h
      refine go_aload_n (pc := 27) dX8_boat_27 rfl ?_
      refine go_bipush (pc := 28) (v := (-2 : Int32)) dX8_boat_28 (by decide) ?_
      obtain ⟨u3, c4, h⟩ := g_bd h
      refine go_callV (pc := 30) (as := [.inl (-2 : Int32)]) (st := []) (r := u3.1) (M1 := u3.2) (z_X8_refused hok  c4) cw_X8_refused ml_X8_85 (show g_lay[0]? = some _ from rfl) rfl rfl (by decide) (Nat.le_of_ble_eq_true rfl) rfl dX8_boat_30 ?_
      exact go_iret (pc := 33) (Option.some.inj h).symm rfl dX8_boat_33 rfl
    · replace h := (if_neg e10).symm.trans h
      refine go_iload_n (pc := 21) dX8_boat_21 rfl ?_
      refine go_bipush (pc := 22) (v := (7 : Int32)) dX8_boat_22 (by decide) ?_
      refine go_icmp_lt (pc := 24) (tgt := 34) dX8_boat_24 (by decide) (fun e9 => ?_) (fun e9 => ?_)
      · replace h := (if_pos e9).symm.trans h
        refine go_aload_n (pc := 34) dX8_boat_34 rfl ?_
        refine gf_8_10 (pc := 35) dX8_boat_35 ?_
        refine go_iload_n (pc := 38) dX8_boat_38 rfl ?_
        refine go_iload_n (pc := 39) dX8_boat_39 rfl ?_
        obtain ⟨u5, c6, h⟩ := g_bd h
        refine go_callV (pc := 40) (as := [.inl p1, .inl p2]) (st := []) (r := u5.1) (M1 := u5.2) (z_X2_boatCell hok g_isH1 c6) cw_X2_boatCell ml_X8_143 g_isH1.1 rfl rfl (by decide) (Nat.le_of_ble_eq_true rfl) rfl dX8_boat_40 ?_
        exact go_iret (pc := 43) (Option.some.inj h).symm rfl dX8_boat_43 rfl
      · replace h := (if_neg e9).symm.trans h
        refine go_aload_n (pc := 27) dX8_boat_27 rfl ?_
        refine go_bipush (pc := 28) (v := (-2 : Int32)) dX8_boat_28 (by decide) ?_
        obtain ⟨u7, c8, h⟩ := g_bd h
        refine go_callV (pc := 30) (as := [.inl (-2 : Int32)]) (st := []) (r := u7.1) (M1 := u7.2) (z_X8_refused hok  c8) cw_X8_refused ml_X8_85 (show g_lay[0]? = some _ from rfl) rfl rfl (by decide) (Nat.le_of_ble_eq_true rfl) rfl dX8_boat_30 ?_
        exact go_iret (pc := 33) (Option.some.inj h).symm rfl dX8_boat_33 rfl
  · replace h := (if_pos e13).symm.trans h
    refine go_aload_n (pc := 11) dX8_boat_11 rfl ?_
    refine go_iconst (pc := 12) (v := (-1 : Int32)) dX8_boat_12 (by decide) ?_
    obtain ⟨u11, c12, h⟩ := g_bd h
    refine go_callV (pc := 13) (as := [.inl (-1 : Int32)]) (st := []) (r := u11.1) (M1 := u11.2) (z_X8_refused hok  c12) cw_X8_refused ml_X8_85 (show g_lay[0]? = some _ from rfl) rfl rfl (by decide) (Nat.le_of_ble_eq_true rfl) rfl dX8_boat_13 ?_
    exact go_iret (pc := 16) (Option.some.inj h).symm rfl dX8_boat_16 rfl
def x_X8_pay  (p1 p2 : Int32) (M : g_M) : Option (Int32 × g_M) := (((x_X2_hasBoat 1 p1 M).bind fun u1 => if u1.1 = 0 then (((x_X8_refused (-1 : Int32) u1.2).bind fun u15 => some (u15.1, u15.2))) else (if 0 ≤ p2 then (if p2 ≤ (99 : Int32) then (((x_X2_boatCell 1 p1 (4 : Int32) u1.2).bind fun u3 => ((x_X7_push p1 u3.1 u3.2).bind fun u5 => ((x_X2_setBoatCell 1 p1 (4 : Int32) p2 u5.2).bind fun u7 => some (u3.1, u7.2))))) else (((x_X8_refused (-6 : Int32) u1.2).bind fun u9 => some (u9.1, u9.2)))) else (((x_X8_refused (-4 : Int32) u1.2).bind fun u12 => some (u12.1, u12.2))))))
set_option maxHeartbeats 4000000 in
set_option maxRecDepth 100000 in
theorem z_X8_pay {X : g_X} (hok : g_ok X)  {p1 p2 : Int32} {M : g_M} {r : Int32 × g_M} (h : x_X8_pay p1 p2 M = some r) : g_Con X yX8_pay cX8_pay 4 (some .int) 2 92 [.inr 0, .inl p1, .inl p2] M r := by
  rw [x_X8_pay] at h
  refine g_con hok (plainFor_of_name (by decide +kernel)) (Nat.le_of_ble_eq_true rfl) (go_to (lv2 := [some (.inr 0), some (.inl p1), some (.inl p2), none]) (own := RX8) ?_ (And.intro rfl (And.intro rfl (And.intro rfl trivial))))
  refine go_aload_n (pc := 0) dX8_pay_0 rfl ?_
  refine gf_8_10 (pc := 1) dX8_pay_1 ?_
  refine go_iload_n (pc := 4) dX8_pay_4 rfl ?_
  obtain ⟨u1, c2, h⟩ := g_bd h
  refine go_callV (pc := 5) (as := [.inl p1]) (st := []) (r := u1.1) (M1 := u1.2) (z_X2_hasBoat hok g_isH1 c2) cw_X2_hasBoat ml_X8_140 g_isH1.1 rfl rfl (by decide) (Nat.le_of_ble_eq_true rfl) rfl dX8_pay_5 ?_
  refine go_if_ne (pc := 8) (tgt := 17) dX8_pay_8 (by decide) (fun e17 => ?_) (fun e17 => ?_)
  · replace h := (if_neg e17).symm.trans h
    refine go_iload_n (pc := 17) dX8_pay_17 rfl ?_
    refine go_if_ge (pc := 18) (tgt := 28) dX8_pay_18 (by decide) (fun e14 => ?_) (fun e14 => ?_)
    · replace h := (if_pos e14).symm.trans h
      refine go_iload_n (pc := 28) dX8_pay_28 rfl ?_
      refine go_bipush (pc := 29) (v := (99 : Int32)) dX8_pay_29 (by decide) ?_
      refine go_icmp_le (pc := 31) (tgt := 41) dX8_pay_31 (by decide) (fun e11 => ?_) (fun e11 => ?_)
      · replace h := (if_pos e11).symm.trans h
        refine go_aload_n (pc := 41) dX8_pay_41 rfl ?_
        refine gf_8_10 (pc := 42) dX8_pay_42 ?_
        refine go_iload_n (pc := 45) dX8_pay_45 rfl ?_
        refine go_iconst (pc := 46) (v := (4 : Int32)) dX8_pay_46 (by decide) ?_
        obtain ⟨u3, c4, h⟩ := g_bd h
        refine go_callV (pc := 47) (as := [.inl p1, .inl (4 : Int32)]) (st := []) (r := u3.1) (M1 := u3.2) (z_X2_boatCell hok g_isH1 c4) cw_X2_boatCell ml_X8_143 g_isH1.1 rfl rfl (by decide) (Nat.le_of_ble_eq_true rfl) rfl dX8_pay_47 ?_
        refine go_istore_n (pc := 50) (lv' := [some (.inr 0), some (.inl p1), some (.inl p2), some (.inl u3.1)]) dX8_pay_50 (by decide) rfl ?_
        refine go_aload_n (pc := 51) dX8_pay_51 rfl ?_
        refine gf_8_43 (pc := 52) dX8_pay_52 ?_
        refine go_iload_n (pc := 55) dX8_pay_55 rfl ?_
        refine go_iload_n (pc := 56) dX8_pay_56 rfl ?_
        obtain ⟨u5, c6, h⟩ := g_bd h
        refine go_callV (pc := 57) (as := [.inl p1, .inl u3.1]) (st := []) (r := u5.1) (M1 := u5.2) (z_X7_push hok  c6) cw_X7_push ml_X8_146 (show g_lay[23]? = some _ from rfl) rfl rfl (by decide) (Nat.le_of_ble_eq_true rfl) rfl dX8_pay_57 ?_
        refine go_aload_n (pc := 60) dX8_pay_60 rfl ?_
        refine gf_8_10 (pc := 61) dX8_pay_61 ?_
        refine go_iload_n (pc := 64) dX8_pay_64 rfl ?_
        refine go_iconst (pc := 65) (v := (4 : Int32)) dX8_pay_65 (by decide) ?_
        refine go_iload_n (pc := 66) dX8_pay_66 rfl ?_
        obtain ⟨u7, c8, h⟩ := g_bd h
        refine go_callV (pc := 67) (as := [.inl p1, .inl (4 : Int32), .inl p2]) (st := []) (r := u7.1) (M1 := u7.2) (z_X2_setBoatCell hok g_isH1 c8) cw_X2_setBoatCell ml_X8_149 g_isH1.1 rfl rfl (by decide) (Nat.le_of_ble_eq_true rfl) rfl dX8_pay_67 ?_
        refine go_iload_n (pc := 70) dX8_pay_70 rfl ?_
        exact go_iret (pc := 71) (Option.some.inj h).symm rfl dX8_pay_71 rfl
      · replace h := (if_neg e11).symm.trans h
        refine go_aload_n (pc := 34) dX8_pay_34 rfl ?_
        refine go_bipush (pc := 35) (v := (-6 : Int32)) dX8_pay_35 (by decide) ?_
        obtain ⟨u9, c10, h⟩ := g_bd h
        refine go_callV (pc := 37) (as := [.inl (-6 : Int32)]) (st := []) (r := u9.1) (M1 := u9.2) (z_X8_refused hok  c10) cw_X8_refused ml_X8_85 (show g_lay[0]? = some _ from rfl) rfl rfl (by decide) (Nat.le_of_ble_eq_true rfl) rfl dX8_pay_37 ?_
        exact go_iret (pc := 40) (Option.some.inj h).symm rfl dX8_pay_40 rfl
    · replace h := (if_neg e14).symm.trans h
      refine go_aload_n (pc := 21) dX8_pay_21 rfl ?_
      refine go_bipush (pc := 22) (v := (-4 : Int32)) dX8_pay_22 (by decide) ?_
      obtain ⟨u12, c13, h⟩ := g_bd h
      refine go_callV (pc := 24) (as := [.inl (-4 : Int32)]) (st := []) (r := u12.1) (M1 := u12.2) (z_X8_refused hok  c13) cw_X8_refused ml_X8_85 (show g_lay[0]? = some _ from rfl) rfl rfl (by decide) (Nat.le_of_ble_eq_true rfl) rfl dX8_pay_24 ?_
      exact go_iret (pc := 27) (Option.some.inj h).symm rfl dX8_pay_27 rfl
  · replace h := (if_pos e17).symm.trans h
    refine go_aload_n (pc := 11) dX8_pay_11 rfl ?_
    refine go_iconst (pc := 12) (v := (-1 : Int32)) dX8_pay_12 (by decide) ?_
    obtain ⟨u15, c16, h⟩ := g_bd h
    refine go_callV (pc := 13) (as := [.inl (-1 : Int32)]) (st := []) (r := u15.1) (M1 := u15.2) (z_X8_refused hok  c16) cw_X8_refused ml_X8_85 (show g_lay[0]? = some _ from rfl) rfl rfl (by decide) (Nat.le_of_ble_eq_true rfl) rfl dX8_pay_13 ?_
    exact go_iret (pc := 16) (Option.some.inj h).symm rfl dX8_pay_16 rfl
def x_X8_tie  (p1 p2 : Int32) (M : g_M) : Option (Int32 × g_M) := (((x_X2_hasBoat 1 p1 M).bind fun u1 => if u1.1 = 0 then (((x_X8_refused (-1 : Int32) u1.2).bind fun u3 => some (u3.1, u3.2))) else (((x_X2_hasRing 1 p2 u1.2).bind fun u5 => if u5.1 = 0 then (((x_X8_refused (-1 : Int32) u5.2).bind fun u11 => some (u11.1, u11.2))) else (((x_X2_boatCell 1 p1 (2 : Int32) u5.2).bind fun u7 => ((x_X2_setBoatCell 1 p1 (2 : Int32) p2 u7.2).bind fun u9 => some (u7.1, (g_upd u9.2 23 2 (0 : Int32))))))))))
set_option maxHeartbeats 4000000 in
set_option maxRecDepth 100000 in
theorem z_X8_tie {X : g_X} (hok : g_ok X)  {p1 p2 : Int32} {M : g_M} {r : Int32 × g_M} (h : x_X8_tie p1 p2 M = some r) : g_Con X yX8_tie cX8_tie 4 (some .int) 2 45 [.inr 0, .inl p1, .inl p2] M r := by
  rw [x_X8_tie] at h
  refine g_con hok (plainFor_of_name (by decide +kernel)) (Nat.le_of_ble_eq_true rfl) (go_to (lv2 := [some (.inr 0), some (.inl p1), some (.inl p2), none]) (own := RX8) ?_ (And.intro rfl (And.intro rfl (And.intro rfl trivial))))
  refine go_aload_n (pc := 0) dX8_tie_0 rfl ?_
  refine gf_8_10 (pc := 1) dX8_tie_1 ?_
  refine go_iload_n (pc := 4) dX8_tie_4 rfl ?_
  obtain ⟨u1, c2, h⟩ := g_bd h
  refine go_callV (pc := 5) (as := [.inl p1]) (st := []) (r := u1.1) (M1 := u1.2) (z_X2_hasBoat hok g_isH1 c2) cw_X2_hasBoat ml_X8_140 g_isH1.1 rfl rfl (by decide) (Nat.le_of_ble_eq_true rfl) rfl dX8_tie_5 ?_
  refine go_if_eq (pc := 8) (tgt := 22) dX8_tie_8 (by decide) (fun e14 => ?_) (fun e14 => ?_)
  · replace h := (if_pos e14).symm.trans h
    refine go_aload_n (pc := 22) dX8_tie_22 rfl ?_
    refine go_iconst (pc := 23) (v := (-1 : Int32)) dX8_tie_23 (by decide) ?_
    obtain ⟨u3, c4, h⟩ := g_bd h
    refine go_callV (pc := 24) (as := [.inl (-1 : Int32)]) (st := []) (r := u3.1) (M1 := u3.2) (z_X8_refused hok  c4) cw_X8_refused ml_X8_85 (show g_lay[0]? = some _ from rfl) rfl rfl (by decide) (Nat.le_of_ble_eq_true rfl) rfl dX8_tie_24 ?_
    exact go_iret (pc := 27) (Option.some.inj h).symm rfl dX8_tie_27 rfl
  · replace h := (if_neg e14).symm.trans h
    refine go_aload_n (pc := 11) dX8_tie_11 rfl ?_
    refine gf_8_10 (pc := 12) dX8_tie_12 ?_
    refine go_iload_n (pc := 15) dX8_tie_15 rfl ?_
    obtain ⟨u5, c6, h⟩ := g_bd h
    refine go_callV (pc := 16) (as := [.inl p2]) (st := []) (r := u5.1) (M1 := u5.2) (z_X2_hasRing hok g_isH1 c6) cw_X2_hasRing ml_X8_133 g_isH1.1 rfl rfl (by decide) (Nat.le_of_ble_eq_true rfl) rfl dX8_tie_16 ?_
    refine go_if_ne (pc := 19) (tgt := 28) dX8_tie_19 (by decide) (fun e13 => ?_) (fun e13 => ?_)
    · replace h := (if_neg e13).symm.trans h
      refine go_aload_n (pc := 28) dX8_tie_28 rfl ?_
      refine gf_8_10 (pc := 29) dX8_tie_29 ?_
      refine go_iload_n (pc := 32) dX8_tie_32 rfl ?_
      refine go_iconst (pc := 33) (v := (2 : Int32)) dX8_tie_33 (by decide) ?_
      obtain ⟨u7, c8, h⟩ := g_bd h
      refine go_callV (pc := 34) (as := [.inl p1, .inl (2 : Int32)]) (st := []) (r := u7.1) (M1 := u7.2) (z_X2_boatCell hok g_isH1 c8) cw_X2_boatCell ml_X8_143 g_isH1.1 rfl rfl (by decide) (Nat.le_of_ble_eq_true rfl) rfl dX8_tie_34 ?_
      refine go_istore_n (pc := 37) (lv' := [some (.inr 0), some (.inl p1), some (.inl p2), some (.inl u7.1)]) dX8_tie_37 (by decide) rfl ?_
      refine go_aload_n (pc := 38) dX8_tie_38 rfl ?_
      refine gf_8_10 (pc := 39) dX8_tie_39 ?_
      refine go_iload_n (pc := 42) dX8_tie_42 rfl ?_
      refine go_iconst (pc := 43) (v := (2 : Int32)) dX8_tie_43 (by decide) ?_
      refine go_iload_n (pc := 44) dX8_tie_44 rfl ?_
      obtain ⟨u9, c10, h⟩ := g_bd h
      refine go_callV (pc := 45) (as := [.inl p1, .inl (2 : Int32), .inl p2]) (st := []) (r := u9.1) (M1 := u9.2) (z_X2_setBoatCell hok g_isH1 c10) cw_X2_setBoatCell ml_X8_149 g_isH1.1 rfl rfl (by decide) (Nat.le_of_ble_eq_true rfl) rfl dX8_tie_45 ?_
      refine go_aload_n (pc := 48) dX8_tie_48 rfl ?_
      refine gf_8_43 (pc := 49) dX8_tie_49 ?_
      refine go_iconst (pc := 52) (v := (0 : Int32)) dX8_tie_52 (by decide) ?_
      refine gp_8_115 (pc := 53) dX8_tie_53 ?_
      refine go_iload_n (pc := 56) dX8_tie_56 rfl ?_
      exact go_iret (pc := 57) (Option.some.inj h).symm rfl dX8_tie_57 rfl
    · replace h := (if_pos e13).symm.trans h
      refine go_aload_n (pc := 22) dX8_tie_22 rfl ?_
      refine go_iconst (pc := 23) (v := (-1 : Int32)) dX8_tie_23 (by decide) ?_
      obtain ⟨u11, c12, h⟩ := g_bd h
      refine go_callV (pc := 24) (as := [.inl (-1 : Int32)]) (st := []) (r := u11.1) (M1 := u11.2) (z_X8_refused hok  c12) cw_X8_refused ml_X8_85 (show g_lay[0]? = some _ from rfl) rfl rfl (by decide) (Nat.le_of_ble_eq_true rfl) rfl dX8_tie_24 ?_
      exact go_iret (pc := 27) (Option.some.inj h).symm rfl dX8_tie_27 rfl
def x_X8_isOneOf  (p0 p1 : Int32) (M : g_M) : Option (Int32 × g_M) := (if p0 < 0 then (some ((0 : Int32), M)) else (if p1 ≤ p0 then (some ((0 : Int32), M)) else (some ((1 : Int32), M))))
set_option maxHeartbeats 4000000 in
set_option maxRecDepth 100000 in
theorem z_X8_isOneOf {X : g_X} (hok : g_ok X)  {p0 p1 : Int32} {M : g_M} {r : Int32 × g_M} (h : x_X8_isOneOf p0 p1 M = some r) : g_Con X yX8_isOneOf cX8_isOneOf 2 (some .boolean) 0 0 [.inl p0, .inl p1] M r := by
  rw [x_X8_isOneOf] at h
  refine g_con hok (plainFor_of_name (by decide +kernel)) (Nat.le_of_ble_eq_true rfl) (go_to (lv2 := [some (.inl p0), some (.inl p1)]) (own := RX8) ?_ (And.intro rfl (And.intro rfl trivial)))
  refine go_iload_n (pc := 0) dX8_isOneOf_0 rfl ?_
  refine go_if_lt (pc := 1) (tgt := 13) dX8_isOneOf_1 (by decide) (fun e2 => ?_) (fun e2 => ?_)
  · replace h := (if_pos e2).symm.trans h
    refine go_iconst (pc := 13) (v := (0 : Int32)) dX8_isOneOf_13 (by decide) ?_
    exact go_iret (pc := 14) (Option.some.inj h).symm rfl dX8_isOneOf_14 rfl
  · replace h := (if_neg e2).symm.trans h
    refine go_iload_n (pc := 4) dX8_isOneOf_4 rfl ?_
    refine go_iload_n (pc := 5) dX8_isOneOf_5 rfl ?_
    refine go_icmp_ge (pc := 6) (tgt := 13) dX8_isOneOf_6 (by decide) (fun e1 => ?_) (fun e1 => ?_)
    · replace h := (if_pos e1).symm.trans h
      refine go_iconst (pc := 13) (v := (0 : Int32)) dX8_isOneOf_13 (by decide) ?_
      exact go_iret (pc := 14) (Option.some.inj h).symm rfl dX8_isOneOf_14 rfl
    · replace h := (if_neg e1).symm.trans h
      refine go_iconst (pc := 9) (v := (1 : Int32)) dX8_isOneOf_9 (by decide) ?_
      refine go_goto (pc := 10) (tgt := 14) dX8_isOneOf_10 (by decide) ?_
      exact go_iret (pc := 14) (Option.some.inj h).symm rfl dX8_isOneOf_14 rfl
def x_X8_set_L69   (v1 : Int32) (v2 : Int32) (s0 : Int32) (M : g_M) : Option (Int32 × g_M) := (if v1 = 0 then (some (s0, (g_upd M 1 8 v2))) else (some (s0, (g_upd M 1 9 v2))))
set_option maxHeartbeats 4000000 in
set_option maxRecDepth 100000 in
theorem z_X8_set_L69 {X : g_X} (hok : g_ok X)  {r : Int32 × g_M}  {v1 : Int32} {v2 : Int32} {s0 : Int32} {M : g_M} (h : x_X8_set_L69   v1 v2 s0 M = some r) : g_Go X cX8_set RX8 4 (some .int) 1 21 r 69 [some (.inr 0), some (.inl v1), some (.inl v2), none] [.inl s0] M := by
  rw [x_X8_set_L69] at h
  refine go_istore_n (pc := 69) (lv' := [some (.inr 0), some (.inl v1), some (.inl v2), some (.inl s0)]) dX8_set_69 (by decide) rfl ?_
  refine go_iload_n (pc := 70) dX8_set_70 rfl ?_
  refine go_if_ne (pc := 71) (tgt := 85) dX8_set_71 (by decide) (fun e1 => ?_) (fun e1 => ?_)
  · replace h := (if_neg e1).symm.trans h
    refine go_aload_n (pc := 85) dX8_set_85 rfl ?_
    refine gf_8_10 (pc := 86) dX8_set_86 ?_
    refine go_iload_n (pc := 89) dX8_set_89 rfl ?_
    refine gp_8_160 (pc := 90) g_isH1 dX8_set_90 ?_
    refine go_iload_n (pc := 93) dX8_set_93 rfl ?_
    exact go_iret (pc := 94) (Option.some.inj h).symm rfl dX8_set_94 rfl
  · replace h := (if_pos e1).symm.trans h
    refine go_aload_n (pc := 74) dX8_set_74 rfl ?_
    refine gf_8_10 (pc := 75) dX8_set_75 ?_
    refine go_iload_n (pc := 78) dX8_set_78 rfl ?_
    refine gp_8_157 (pc := 79) g_isH1 dX8_set_79 ?_
    refine go_goto (pc := 82) (tgt := 93) dX8_set_82 (by decide) ?_
    refine go_iload_n (pc := 93) dX8_set_93 rfl ?_
    exact go_iret (pc := 94) (Option.some.inj h).symm rfl dX8_set_94 rfl
def x_X8_set_L38   (v1 : Int32) (v2 : Int32) (s0 : Int32) (s1 : Int32) (M : g_M) : Option (Int32 × g_M) := (if s1 ≤ s0 then (if v1 = 0 then (x_X8_set_L69   v1 v2 (M 1 8) M) else (x_X8_set_L69   v1 v2 (M 1 9) M)) else (((x_X8_refused (-6 : Int32) M).bind fun u3 => some (u3.1, u3.2))))
set_option maxHeartbeats 4000000 in
set_option maxRecDepth 100000 in
theorem z_X8_set_L38 {X : g_X} (hok : g_ok X)  {r : Int32 × g_M}  {v1 : Int32} {v2 : Int32} {s0 : Int32} {s1 : Int32} {M : g_M} (h : x_X8_set_L38   v1 v2 s0 s1 M = some r) : g_Go X cX8_set RX8 4 (some .int) 1 21 r 38 [some (.inr 0), some (.inl v1), some (.inl v2), none] [.inl s0, .inl s1] M := by
  rw [x_X8_set_L38] at h
  refine go_icmp_le (pc := 38) (tgt := 48) dX8_set_38 (by decide) (fun e5 => ?_) (fun e5 => ?_)
  · replace h := (if_pos e5).symm.trans h
    refine go_iload_n (pc := 48) dX8_set_48 rfl ?_
    refine go_if_ne (pc := 49) (tgt := 62) dX8_set_49 (by decide) (fun e2 => ?_) (fun e2 => ?_)
    · replace h := (if_neg e2).symm.trans h
      refine go_aload_n (pc := 62) dX8_set_62 rfl ?_
      refine gf_8_10 (pc := 63) dX8_set_63 ?_
      refine gf_8_160 (pc := 66) g_isH1 dX8_set_66 ?_
      exact go_to (z_X8_set_L69 hok   h) (And.intro rfl (And.intro rfl (And.intro rfl trivial)))
    · replace h := (if_pos e2).symm.trans h
      refine go_aload_n (pc := 52) dX8_set_52 rfl ?_
      refine gf_8_10 (pc := 53) dX8_set_53 ?_
      refine gf_8_157 (pc := 56) g_isH1 dX8_set_56 ?_
      refine go_goto (pc := 59) (tgt := 69) dX8_set_59 (by decide) ?_
      exact go_to (z_X8_set_L69 hok   h) (And.intro rfl (And.intro rfl (And.intro rfl trivial)))
  · replace h := (if_neg e5).symm.trans h
    refine go_aload_n (pc := 41) dX8_set_41 rfl ?_
    refine go_bipush (pc := 42) (v := (-6 : Int32)) dX8_set_42 (by decide) ?_
    obtain ⟨u3, c4, h⟩ := g_bd h
    refine go_callV (pc := 44) (as := [.inl (-6 : Int32)]) (st := []) (r := u3.1) (M1 := u3.2) (z_X8_refused hok  c4) cw_X8_refused ml_X8_85 (show g_lay[0]? = some _ from rfl) rfl rfl (by decide) (Nat.le_of_ble_eq_true rfl) rfl dX8_set_44 ?_
    exact go_iret (pc := 47) (Option.some.inj h).symm rfl dX8_set_47 rfl
def x_X8_set  (p1 p2 : Int32) (M : g_M) : Option (Int32 × g_M) := (((x_X8_isOneOf p1 (2 : Int32) M).bind fun u6 => if u6.1 = 0 then (((x_X8_refused (-2 : Int32) u6.2).bind fun u12 => some (u12.1, u12.2))) else (if 0 ≤ p2 then (if p1 = 0 then (x_X8_set_L38   p1 p2 (60 : Int32) p2 u6.2) else (x_X8_set_L38   p1 p2 (9 : Int32) p2 u6.2)) else (((x_X8_refused (-4 : Int32) u6.2).bind fun u9 => some (u9.1, u9.2))))))
set_option maxHeartbeats 4000000 in
set_option maxRecDepth 100000 in
theorem z_X8_set {X : g_X} (hok : g_ok X)  {p1 p2 : Int32} {M : g_M} {r : Int32 × g_M} (h : x_X8_set p1 p2 M = some r) : g_Con X yX8_set cX8_set 4 (some .int) 1 21 [.inr 0, .inl p1, .inl p2] M r := by
  rw [x_X8_set] at h
  refine g_con hok (plainFor_of_name (by decide +kernel)) (Nat.le_of_ble_eq_true rfl) (go_to (lv2 := [some (.inr 0), some (.inl p1), some (.inl p2), none]) (own := RX8) ?_ (And.intro rfl (And.intro rfl (And.intro rfl trivial))))
  refine go_iload_n (pc := 0) dX8_set_0 rfl ?_
  refine go_iconst (pc := 1) (v := (2 : Int32)) dX8_set_1 (by decide) ?_
  obtain ⟨u6, c7, h⟩ := g_bd h
  refine go_callS (pc := 2) (as := [.inl p1, .inl (2 : Int32)]) (st := []) (r := u6.1) (M1 := u6.2) (z_X8_isOneOf hok  c7) cw_X8_isOneOf ml_X8_153 (by decide) (Nat.le_of_ble_eq_true rfl) rfl dX8_set_2 ?_
  refine go_if_ne (pc := 5) (tgt := 15) dX8_set_5 (by decide) (fun e14 => ?_) (fun e14 => ?_)
  · replace h := (if_neg e14).symm.trans h
    refine go_iload_n (pc := 15) dX8_set_15 rfl ?_
    refine go_if_ge (pc := 16) (tgt := 26) dX8_set_16 (by decide) (fun e11 => ?_) (fun e11 => ?_)
    · replace h := (if_pos e11).symm.trans h
      refine go_iload_n (pc := 26) dX8_set_26 rfl ?_
      refine go_iload_n (pc := 27) dX8_set_27 rfl ?_
      refine go_if_ne (pc := 28) (tgt := 36) dX8_set_28 (by decide) (fun e8 => ?_) (fun e8 => ?_)
      · replace h := (if_neg e8).symm.trans h
        refine go_bipush (pc := 36) (v := (9 : Int32)) dX8_set_36 (by decide) ?_
        exact go_to (z_X8_set_L38 hok   h) (And.intro rfl (And.intro rfl (And.intro rfl trivial)))
      · replace h := (if_pos e8).symm.trans h
        refine go_bipush (pc := 31) (v := (60 : Int32)) dX8_set_31 (by decide) ?_
        refine go_goto (pc := 33) (tgt := 38) dX8_set_33 (by decide) ?_
        exact go_to (z_X8_set_L38 hok   h) (And.intro rfl (And.intro rfl (And.intro rfl trivial)))
    · replace h := (if_neg e11).symm.trans h
      refine go_aload_n (pc := 19) dX8_set_19 rfl ?_
      refine go_bipush (pc := 20) (v := (-4 : Int32)) dX8_set_20 (by decide) ?_
      obtain ⟨u9, c10, h⟩ := g_bd h
      refine go_callV (pc := 22) (as := [.inl (-4 : Int32)]) (st := []) (r := u9.1) (M1 := u9.2) (z_X8_refused hok  c10) cw_X8_refused ml_X8_85 (show g_lay[0]? = some _ from rfl) rfl rfl (by decide) (Nat.le_of_ble_eq_true rfl) rfl dX8_set_22 ?_
      exact go_iret (pc := 25) (Option.some.inj h).symm rfl dX8_set_25 rfl
  · replace h := (if_pos e14).symm.trans h
    refine go_aload_n (pc := 8) dX8_set_8 rfl ?_
    refine go_bipush (pc := 9) (v := (-2 : Int32)) dX8_set_9 (by decide) ?_
    obtain ⟨u12, c13, h⟩ := g_bd h
    refine go_callV (pc := 11) (as := [.inl (-2 : Int32)]) (st := []) (r := u12.1) (M1 := u12.2) (z_X8_refused hok  c13) cw_X8_refused ml_X8_85 (show g_lay[0]? = some _ from rfl) rfl rfl (by decide) (Nat.le_of_ble_eq_true rfl) rfl dX8_set_11 ?_
    exact go_iret (pc := 14) (Option.some.inj h).symm rfl dX8_set_14 rfl
def x_X8_hour  (M : g_M) : Option (Int32 × g_M) := (some (((g_upd M 1 10 (((M 1 10) + (1 : Int32)) - ((M 1 10) + (1 : Int32)) / (12 : Int32) * (12 : Int32))) 1 10), (g_upd M 1 10 (((M 1 10) + (1 : Int32)) - ((M 1 10) + (1 : Int32)) / (12 : Int32) * (12 : Int32)))))
set_option maxHeartbeats 4000000 in
set_option maxRecDepth 100000 in
theorem z_X8_hour {X : g_X} (hok : g_ok X)  {M : g_M} {r : Int32 × g_M} (h : x_X8_hour  M = some r) : g_Con X yX8_hour cX8_hour 1 (some .int) 0 0 [.inr 0] M r := by
  rw [x_X8_hour] at h
  refine g_con hok (plainFor_of_name (by decide +kernel)) (Nat.le_of_ble_eq_true rfl) (go_to (lv2 := [some (.inr 0)]) (own := RX8) ?_ (And.intro rfl trivial))
  refine go_aload_n (pc := 0) dX8_hour_0 rfl ?_
  refine gf_8_10 (pc := 1) dX8_hour_1 ?_
  refine go_aload_n (pc := 4) dX8_hour_4 rfl ?_
  refine gf_8_10 (pc := 5) dX8_hour_5 ?_
  refine gf_8_163 (pc := 8) g_isH1 dX8_hour_8 ?_
  refine go_iconst (pc := 11) (v := (1 : Int32)) dX8_hour_11 (by decide) ?_
  refine go_iadd (pc := 12) dX8_hour_12 ?_
  refine go_bipush (pc := 13) (v := (12 : Int32)) dX8_hour_13 (by decide) ?_
  refine go_irem (pc := 15) dX8_hour_15 (by decide) ?_
  refine gp_8_163 (pc := 16) g_isH1 dX8_hour_16 ?_
  refine go_aload_n (pc := 19) dX8_hour_19 rfl ?_
  refine gf_8_10 (pc := 20) dX8_hour_20 ?_
  refine gf_8_163 (pc := 23) g_isH1 dX8_hour_23 ?_
  exact go_iret (pc := 26) (Option.some.inj h).symm rfl dX8_hour_26 rfl
def x_X8_needs  (p1 p2 : Int32) (M : g_M) : Option (Int32 × g_M) := (((x_X2_hasBoat 1 p1 M).bind fun u1 => if u1.1 = 0 then (((x_X8_refused (-1 : Int32) u1.2).bind fun u3 => some (u3.1, u3.2))) else (((x_X8_isHour p2 u1.2).bind fun u5 => if u5.1 = 0 then (((x_X8_refused (-1 : Int32) u5.2).bind fun u13 => some (u13.1, u13.2))) else (((x_X5_load 27 1 p1 u5.2).bind fun u7 => ((x_X2_tideAt 1 p2 u7.2).bind fun u9 => ((x_X5_squareNeeded 27 u9.1 u9.2).bind fun u11 => some (u11.1, u11.2)))))))))
set_option maxHeartbeats 4000000 in
set_option maxRecDepth 100000 in
theorem z_X8_needs {X : g_X} (hok : g_ok X)  {p1 p2 : Int32} {M : g_M} {r : Int32 × g_M} (h : x_X8_needs p1 p2 M = some r) : g_Con X yX8_needs cX8_needs 3 (some .int) 4 87 [.inr 0, .inl p1, .inl p2] M r := by
  rw [x_X8_needs] at h
  refine g_con hok (plainFor_of_name (by decide +kernel)) (Nat.le_of_ble_eq_true rfl) (go_to (lv2 := [some (.inr 0), some (.inl p1), some (.inl p2)]) (own := RX8) ?_ (And.intro rfl (And.intro rfl (And.intro rfl trivial))))
  refine go_aload_n (pc := 0) dX8_needs_0 rfl ?_
  refine gf_8_10 (pc := 1) dX8_needs_1 ?_
  refine go_iload_n (pc := 4) dX8_needs_4 rfl ?_
  obtain ⟨u1, c2, h⟩ := g_bd h
  refine go_callV (pc := 5) (as := [.inl p1]) (st := []) (r := u1.1) (M1 := u1.2) (z_X2_hasBoat hok g_isH1 c2) cw_X2_hasBoat ml_X8_140 g_isH1.1 rfl rfl (by decide) (Nat.le_of_ble_eq_true rfl) rfl dX8_needs_5 ?_
  refine go_if_eq (pc := 8) (tgt := 18) dX8_needs_8 (by decide) (fun e16 => ?_) (fun e16 => ?_)
  · replace h := (if_pos e16).symm.trans h
    refine go_aload_n (pc := 18) dX8_needs_18 rfl ?_
    refine go_iconst (pc := 19) (v := (-1 : Int32)) dX8_needs_19 (by decide) ?_
    obtain ⟨u3, c4, h⟩ := g_bd h
    refine go_callV (pc := 20) (as := [.inl (-1 : Int32)]) (st := []) (r := u3.1) (M1 := u3.2) (z_X8_refused hok  c4) cw_X8_refused ml_X8_85 (show g_lay[0]? = some _ from rfl) rfl rfl (by decide) (Nat.le_of_ble_eq_true rfl) rfl dX8_needs_20 ?_
    exact go_iret (pc := 23) (Option.some.inj h).symm rfl dX8_needs_23 rfl
  · replace h := (if_neg e16).symm.trans h
    refine go_iload_n (pc := 11) dX8_needs_11 rfl ?_
    obtain ⟨u5, c6, h⟩ := g_bd h
    refine go_callS (pc := 12) (as := [.inl p2]) (st := []) (r := u5.1) (M1 := u5.2) (z_X8_isHour hok  c6) cw_X8_isHour ml_X8_116 (by decide) (Nat.le_of_ble_eq_true rfl) rfl dX8_needs_12 ?_
    refine go_if_ne (pc := 15) (tgt := 24) dX8_needs_15 (by decide) (fun e15 => ?_) (fun e15 => ?_)
    · replace h := (if_neg e15).symm.trans h
      refine go_aload_n (pc := 24) dX8_needs_24 rfl ?_
      refine gf_8_54 (pc := 25) dX8_needs_25 ?_
      refine go_aload_n (pc := 28) dX8_needs_28 rfl ?_
      refine gf_8_10 (pc := 29) dX8_needs_29 ?_
      refine go_iload_n (pc := 32) dX8_needs_32 rfl ?_
      obtain ⟨u7, c8, h⟩ := g_bd h
      refine go_callV (pc := 33) (as := [.inr 1, .inl p1]) (st := []) (r := u7.1) (M1 := u7.2) (z_X5_load hok g_isM27 g_isH1 c8) cw_X5_load ml_X8_166 g_isM27 rfl rfl (by decide) (Nat.le_of_ble_eq_true rfl) rfl dX8_needs_33 ?_
      refine go_aload_n (pc := 36) dX8_needs_36 rfl ?_
      refine gf_8_54 (pc := 37) dX8_needs_37 ?_
      refine go_aload_n (pc := 40) dX8_needs_40 rfl ?_
      refine gf_8_10 (pc := 41) dX8_needs_41 ?_
      refine go_iload_n (pc := 44) dX8_needs_44 rfl ?_
      obtain ⟨u9, c10, h⟩ := g_bd h
      refine go_callV (pc := 45) (as := [.inl p2]) (st := [.inr 27]) (r := u9.1) (M1 := u9.2) (z_X2_tideAt hok g_isH1 c10) cw_X2_tideAt ml_X8_120 g_isH1.1 rfl rfl (by decide) (Nat.le_of_ble_eq_true rfl) rfl dX8_needs_45 ?_
      obtain ⟨u11, c12, h⟩ := g_bd h
      refine go_callV (pc := 48) (as := [.inl u9.1]) (st := []) (r := u11.1) (M1 := u11.2) (z_X5_squareNeeded hok g_isM27 c12) cw_X5_squareNeeded ml_X8_170 g_isM27 rfl rfl (by decide) (Nat.le_of_ble_eq_true rfl) rfl dX8_needs_48 ?_
      exact go_iret (pc := 51) (Option.some.inj h).symm rfl dX8_needs_51 rfl
    · replace h := (if_pos e15).symm.trans h
      refine go_aload_n (pc := 18) dX8_needs_18 rfl ?_
      refine go_iconst (pc := 19) (v := (-1 : Int32)) dX8_needs_19 (by decide) ?_
      obtain ⟨u13, c14, h⟩ := g_bd h
      refine go_callV (pc := 20) (as := [.inl (-1 : Int32)]) (st := []) (r := u13.1) (M1 := u13.2) (z_X8_refused hok  c14) cw_X8_refused ml_X8_85 (show g_lay[0]? = some _ from rfl) rfl rfl (by decide) (Nat.le_of_ble_eq_true rfl) rfl dX8_needs_20 ?_
      exact go_iret (pc := 23) (Option.some.inj h).symm rfl dX8_needs_23 rfl
def x_X8_out  (p1 p2 : Int32) (M : g_M) : Option (Int32 × g_M) := (((x_X2_hasBoat 1 p1 M).bind fun u1 => if u1.1 = 0 then (((x_X8_refused (-1 : Int32) u1.2).bind fun u3 => some (u3.1, u3.2))) else (((x_X8_isHour p2 u1.2).bind fun u5 => if u5.1 = 0 then (((x_X8_refused (-1 : Int32) u5.2).bind fun u13 => some (u13.1, u13.2))) else (((x_X5_load 27 1 p1 u5.2).bind fun u7 => ((x_X2_tideAt 1 p2 u7.2).bind fun u9 => ((x_X5_reach 27 (u7.2 27 5) u9.1 u9.2).bind fun u11 => some (u11.1, u11.2)))))))))
set_option maxHeartbeats 4000000 in
set_option maxRecDepth 100000 in
theorem z_X8_out {X : g_X} (hok : g_ok X)  {p1 p2 : Int32} {M : g_M} {r : Int32 × g_M} (h : x_X8_out p1 p2 M = some r) : g_Con X yX8_out cX8_out 3 (some .int) 4 87 [.inr 0, .inl p1, .inl p2] M r := by
  rw [x_X8_out] at h
  refine g_con hok (plainFor_of_name (by decide +kernel)) (Nat.le_of_ble_eq_true rfl) (go_to (lv2 := [some (.inr 0), some (.inl p1), some (.inl p2)]) (own := RX8) ?_ (And.intro rfl (And.intro rfl (And.intro rfl trivial))))
  refine go_aload_n (pc := 0) dX8_out_0 rfl ?_
  refine gf_8_10 (pc := 1) dX8_out_1 ?_
  refine go_iload_n (pc := 4) dX8_out_4 rfl ?_
  obtain ⟨u1, c2, h⟩ := g_bd h
  refine go_callV (pc := 5) (as := [.inl p1]) (st := []) (r := u1.1) (M1 := u1.2) (z_X2_hasBoat hok g_isH1 c2) cw_X2_hasBoat ml_X8_140 g_isH1.1 rfl rfl (by decide) (Nat.le_of_ble_eq_true rfl) rfl dX8_out_5 ?_
  refine go_if_eq (pc := 8) (tgt := 18) dX8_out_8 (by decide) (fun e16 => ?_) (fun e16 => ?_)
  · replace h := (if_pos e16).symm.trans h
    refine go_aload_n (pc := 18) dX8_out_18 rfl ?_
    refine go_iconst (pc := 19) (v := (-1 : Int32)) dX8_out_19 (by decide) ?_
    obtain ⟨u3, c4, h⟩ := g_bd h
    refine go_callV (pc := 20) (as := [.inl (-1 : Int32)]) (st := []) (r := u3.1) (M1 := u3.2) (z_X8_refused hok  c4) cw_X8_refused ml_X8_85 (show g_lay[0]? = some _ from rfl) rfl rfl (by decide) (Nat.le_of_ble_eq_true rfl) rfl dX8_out_20 ?_
    exact go_iret (pc := 23) (Option.some.inj h).symm rfl dX8_out_23 rfl
  · replace h := (if_neg e16).symm.trans h
    refine go_iload_n (pc := 11) dX8_out_11 rfl ?_
    obtain ⟨u5, c6, h⟩ := g_bd h
    refine go_callS (pc := 12) (as := [.inl p2]) (st := []) (r := u5.1) (M1 := u5.2) (z_X8_isHour hok  c6) cw_X8_isHour ml_X8_116 (by decide) (Nat.le_of_ble_eq_true rfl) rfl dX8_out_12 ?_
    refine go_if_ne (pc := 15) (tgt := 24) dX8_out_15 (by decide) (fun e15 => ?_) (fun e15 => ?_)
    · replace h := (if_neg e15).symm.trans h
      refine go_aload_n (pc := 24) dX8_out_24 rfl ?_
      refine gf_8_54 (pc := 25) dX8_out_25 ?_
      refine go_aload_n (pc := 28) dX8_out_28 rfl ?_
      refine gf_8_10 (pc := 29) dX8_out_29 ?_
      refine go_iload_n (pc := 32) dX8_out_32 rfl ?_
      obtain ⟨u7, c8, h⟩ := g_bd h
      refine go_callV (pc := 33) (as := [.inr 1, .inl p1]) (st := []) (r := u7.1) (M1 := u7.2) (z_X5_load hok g_isM27 g_isH1 c8) cw_X5_load ml_X8_166 g_isM27 rfl rfl (by decide) (Nat.le_of_ble_eq_true rfl) rfl dX8_out_33 ?_
      refine go_aload_n (pc := 36) dX8_out_36 rfl ?_
      refine gf_8_54 (pc := 37) dX8_out_37 ?_
      refine go_aload_n (pc := 40) dX8_out_40 rfl ?_
      refine gf_8_54 (pc := 41) dX8_out_41 ?_
      refine gf_8_173 (pc := 44) g_isM27 dX8_out_44 ?_
      refine go_aload_n (pc := 47) dX8_out_47 rfl ?_
      refine gf_8_10 (pc := 48) dX8_out_48 ?_
      refine go_iload_n (pc := 51) dX8_out_51 rfl ?_
      obtain ⟨u9, c10, h⟩ := g_bd h
      refine go_callV (pc := 52) (as := [.inl p2]) (st := [.inl (u7.2 27 5), .inr 27]) (r := u9.1) (M1 := u9.2) (z_X2_tideAt hok g_isH1 c10) cw_X2_tideAt ml_X8_120 g_isH1.1 rfl rfl (by decide) (Nat.le_of_ble_eq_true rfl) rfl dX8_out_52 ?_
      obtain ⟨u11, c12, h⟩ := g_bd h
      refine go_callV (pc := 55) (as := [.inl (u7.2 27 5), .inl u9.1]) (st := []) (r := u11.1) (M1 := u11.2) (z_X5_reach hok g_isM27 c12) cw_X5_reach ml_X8_176 g_isM27 rfl rfl (by decide) (Nat.le_of_ble_eq_true rfl) rfl dX8_out_55 ?_
      exact go_iret (pc := 58) (Option.some.inj h).symm rfl dX8_out_58 rfl
    · replace h := (if_pos e15).symm.trans h
      refine go_aload_n (pc := 18) dX8_out_18 rfl ?_
      refine go_iconst (pc := 19) (v := (-1 : Int32)) dX8_out_19 (by decide) ?_
      obtain ⟨u13, c14, h⟩ := g_bd h
      refine go_callV (pc := 20) (as := [.inl (-1 : Int32)]) (st := []) (r := u13.1) (M1 := u13.2) (z_X8_refused hok  c14) cw_X8_refused ml_X8_85 (show g_lay[0]? = some _ from rfl) rfl rfl (by decide) (Nat.le_of_ble_eq_true rfl) rfl dX8_out_20 ?_
      exact go_iret (pc := 23) (Option.some.inj h).symm rfl dX8_out_23 rfl
def x_X8_lies  (p1 p2 p3 : Int32) (M : g_M) : Option (Int32 × g_M) := (((x_X2_hasBoat 1 p1 M).bind fun u1 => if u1.1 = 0 then (((x_X8_refusedFar (-1 : Int32) u1.2).bind fun u3 => some (u3.1, u3.2))) else (((x_X8_isHour p2 u1.2).bind fun u5 => if u5.1 = 0 then (((x_X8_refusedFar (-1 : Int32) u5.2).bind fun u30 => some (u30.1, u30.2))) else (((x_X8_isOneOf p3 (3 : Int32) u5.2).bind fun u7 => if u7.1 = 0 then (((x_X8_refusedFar (-2 : Int32) u7.2).bind fun u27 => some (u27.1, u27.2))) else (((x_X5_load 27 1 p1 u7.2).bind fun u9 => ((x_X2_tideAt 1 p2 u9.2).bind fun u11 => ((x_X5_reach 27 (u9.2 27 5) u11.1 u11.2).bind fun u13 => if p3 = 0 then (((x_X5_stillMiddle 27 u13.2).bind fun u24 => some ((u24.1 - u13.1), u24.2))) else (if p3 = (1 : Int32) then (((x_X5_stillMiddle 27 u13.2).bind fun u21 => some (((u21.1 + u13.1) + (u21.2 27 6)), u21.2))) else (((x_X2_tideAt 1 p2 u13.2).bind fun u15 => ((x_X2_windAt 1 p2 u15.2).bind fun u17 => ((x_X5_blownMiddle 27 u15.1 u17.1 u17.2).bind fun u19 => some (u19.1, u19.2))))))))))))))))
set_option maxHeartbeats 4000000 in
set_option maxRecDepth 100000 in
theorem z_X8_lies {X : g_X} (hok : g_ok X)  {p1 p2 p3 : Int32} {M : g_M} {r : Int32 × g_M} (h : x_X8_lies p1 p2 p3 M = some r) : g_Con X yX8_lies cX8_lies 5 (some .int) 4 91 [.inr 0, .inl p1, .inl p2, .inl p3] M r := by
  rw [x_X8_lies] at h
  refine g_con hok (plainFor_of_name (by decide +kernel)) (Nat.le_of_ble_eq_true rfl) (go_to (lv2 := [some (.inr 0), some (.inl p1), some (.inl p2), some (.inl p3), none]) (own := RX8) ?_ (And.intro rfl (And.intro rfl (And.intro rfl (And.intro rfl trivial)))))
  refine go_aload_n (pc := 0) dX8_lies_0 rfl ?_
  refine gf_8_10 (pc := 1) dX8_lies_1 ?_
  refine go_iload_n (pc := 4) dX8_lies_4 rfl ?_
  obtain ⟨u1, c2, h⟩ := g_bd h
  refine go_callV (pc := 5) (as := [.inl p1]) (st := []) (r := u1.1) (M1 := u1.2) (z_X2_hasBoat hok g_isH1 c2) cw_X2_hasBoat ml_X8_140 g_isH1.1 rfl rfl (by decide) (Nat.le_of_ble_eq_true rfl) rfl dX8_lies_5 ?_
  refine go_if_eq (pc := 8) (tgt := 18) dX8_lies_8 (by decide) (fun e33 => ?_) (fun e33 => ?_)
  · replace h := (if_pos e33).symm.trans h
    refine go_aload_n (pc := 18) dX8_lies_18 rfl ?_
    refine go_iconst (pc := 19) (v := (-1 : Int32)) dX8_lies_19 (by decide) ?_
    obtain ⟨u3, c4, h⟩ := g_bd h
    refine go_callV (pc := 20) (as := [.inl (-1 : Int32)]) (st := []) (r := u3.1) (M1 := u3.2) (z_X8_refusedFar hok  c4) cw_X8_refusedFar ml_X8_126 (show g_lay[0]? = some _ from rfl) rfl rfl (by decide) (Nat.le_of_ble_eq_true rfl) rfl dX8_lies_20 ?_
    exact go_iret (pc := 23) (Option.some.inj h).symm rfl dX8_lies_23 rfl
  · replace h := (if_neg e33).symm.trans h
    refine go_iload_n (pc := 11) dX8_lies_11 rfl ?_
    obtain ⟨u5, c6, h⟩ := g_bd h
    refine go_callS (pc := 12) (as := [.inl p2]) (st := []) (r := u5.1) (M1 := u5.2) (z_X8_isHour hok  c6) cw_X8_isHour ml_X8_116 (by decide) (Nat.le_of_ble_eq_true rfl) rfl dX8_lies_12 ?_
    refine go_if_ne (pc := 15) (tgt := 24) dX8_lies_15 (by decide) (fun e32 => ?_) (fun e32 => ?_)
    · replace h := (if_neg e32).symm.trans h
      refine go_iload_n (pc := 24) dX8_lies_24 rfl ?_
      refine go_iconst (pc := 25) (v := (3 : Int32)) dX8_lies_25 (by decide) ?_
      obtain ⟨u7, c8, h⟩ := g_bd h
      refine go_callS (pc := 26) (as := [.inl p3, .inl (3 : Int32)]) (st := []) (r := u7.1) (M1 := u7.2) (z_X8_isOneOf hok  c8) cw_X8_isOneOf ml_X8_153 (by decide) (Nat.le_of_ble_eq_true rfl) rfl dX8_lies_26 ?_
      refine go_if_ne (pc := 29) (tgt := 39) dX8_lies_29 (by decide) (fun e29 => ?_) (fun e29 => ?_)
      · replace h := (if_neg e29).symm.trans h
        refine go_aload_n (pc := 39) dX8_lies_39 rfl ?_
        refine gf_8_54 (pc := 40) dX8_lies_40 ?_
        refine go_aload_n (pc := 43) dX8_lies_43 rfl ?_
        refine gf_8_10 (pc := 44) dX8_lies_44 ?_
        refine go_iload_n (pc := 47) dX8_lies_47 rfl ?_
        obtain ⟨u9, c10, h⟩ := g_bd h
        refine go_callV (pc := 48) (as := [.inr 1, .inl p1]) (st := []) (r := u9.1) (M1 := u9.2) (z_X5_load hok g_isM27 g_isH1 c10) cw_X5_load ml_X8_166 g_isM27 rfl rfl (by decide) (Nat.le_of_ble_eq_true rfl) rfl dX8_lies_48 ?_
        refine go_aload_n (pc := 51) dX8_lies_51 rfl ?_
        refine gf_8_54 (pc := 52) dX8_lies_52 ?_
        refine go_aload_n (pc := 55) dX8_lies_55 rfl ?_
        refine gf_8_54 (pc := 56) dX8_lies_56 ?_
        refine gf_8_173 (pc := 59) g_isM27 dX8_lies_59 ?_
        refine go_aload_n (pc := 62) dX8_lies_62 rfl ?_
        refine gf_8_10 (pc := 63) dX8_lies_63 ?_
        refine go_iload_n (pc := 66) dX8_lies_66 rfl ?_
        obtain ⟨u11, c12, h⟩ := g_bd h
        refine go_callV (pc := 67) (as := [.inl p2]) (st := [.inl (u9.2 27 5), .inr 27]) (r := u11.1) (M1 := u11.2) (z_X2_tideAt hok g_isH1 c12) cw_X2_tideAt ml_X8_120 g_isH1.1 rfl rfl (by decide) (Nat.le_of_ble_eq_true rfl) rfl dX8_lies_67 ?_
        obtain ⟨u13, c14, h⟩ := g_bd h
        refine go_callV (pc := 70) (as := [.inl (u9.2 27 5), .inl u11.1]) (st := []) (r := u13.1) (M1 := u13.2) (z_X5_reach hok g_isM27 c14) cw_X5_reach ml_X8_176 g_isM27 rfl rfl (by decide) (Nat.le_of_ble_eq_true rfl) rfl dX8_lies_70 ?_
        refine go_istore (pc := 73) (lv' := [some (.inr 0), some (.inl p1), some (.inl p2), some (.inl p3), some (.inl u13.1)]) dX8_lies_73 (by decide) rfl ?_
        refine go_iload_n (pc := 75) dX8_lies_75 rfl ?_
        refine go_if_ne (pc := 76) (tgt := 90) dX8_lies_76 (by decide) (fun e26 => ?_) (fun e26 => ?_)
        · replace h := (if_neg e26).symm.trans h
          refine go_iload_n (pc := 90) dX8_lies_90 rfl ?_
          refine go_iconst (pc := 91) (v := (1 : Int32)) dX8_lies_91 (by decide) ?_
          refine go_icmp_ne (pc := 92) (tgt := 114) dX8_lies_92 (by decide) (fun e23 => ?_) (fun e23 => ?_)
          · replace h := (if_neg e23).symm.trans h
            refine go_aload_n (pc := 114) dX8_lies_114 rfl ?_
            refine gf_8_54 (pc := 115) dX8_lies_115 ?_
            refine go_aload_n (pc := 118) dX8_lies_118 rfl ?_
            refine gf_8_10 (pc := 119) dX8_lies_119 ?_
            refine go_iload_n (pc := 122) dX8_lies_122 rfl ?_
            obtain ⟨u15, c16, h⟩ := g_bd h
            refine go_callV (pc := 123) (as := [.inl p2]) (st := [.inr 27]) (r := u15.1) (M1 := u15.2) (z_X2_tideAt hok g_isH1 c16) cw_X2_tideAt ml_X8_120 g_isH1.1 rfl rfl (by decide) (Nat.le_of_ble_eq_true rfl) rfl dX8_lies_123 ?_
            refine go_aload_n (pc := 126) dX8_lies_126 rfl ?_
            refine gf_8_10 (pc := 127) dX8_lies_127 ?_
            refine go_iload_n (pc := 130) dX8_lies_130 rfl ?_
            obtain ⟨u17, c18, h⟩ := g_bd h
            refine go_callV (pc := 131) (as := [.inl p2]) (st := [.inl u15.1, .inr 27]) (r := u17.1) (M1 := u17.2) (z_X2_windAt hok g_isH1 c18) cw_X2_windAt ml_X8_123 g_isH1.1 rfl rfl (by decide) (Nat.le_of_ble_eq_true rfl) rfl dX8_lies_131 ?_
            obtain ⟨u19, c20, h⟩ := g_bd h
            refine go_callV (pc := 134) (as := [.inl u15.1, .inl u17.1]) (st := []) (r := u19.1) (M1 := u19.2) (z_X5_blownMiddle hok g_isM27 c20) cw_X5_blownMiddle ml_X8_185 g_isM27 rfl rfl (by decide) (Nat.le_of_ble_eq_true rfl) rfl dX8_lies_134 ?_
            exact go_iret (pc := 137) (Option.some.inj h).symm rfl dX8_lies_137 rfl
          · replace h := (if_pos e23).symm.trans h
            refine go_aload_n (pc := 95) dX8_lies_95 rfl ?_
            refine gf_8_54 (pc := 96) dX8_lies_96 ?_
            obtain ⟨u21, c22, h⟩ := g_bd h
            refine go_callV (pc := 99) (as := []) (st := []) (r := u21.1) (M1 := u21.2) (z_X5_stillMiddle hok g_isM27 c22) cw_X5_stillMiddle ml_X8_179 g_isM27 rfl rfl (by decide) (Nat.le_of_ble_eq_true rfl) rfl dX8_lies_99 ?_
            refine go_iload (pc := 102) dX8_lies_102 rfl ?_
            refine go_iadd (pc := 104) dX8_lies_104 ?_
            refine go_aload_n (pc := 105) dX8_lies_105 rfl ?_
            refine gf_8_54 (pc := 106) dX8_lies_106 ?_
            refine gf_8_182 (pc := 109) g_isM27 dX8_lies_109 ?_
            refine go_iadd (pc := 112) dX8_lies_112 ?_
            exact go_iret (pc := 113) (Option.some.inj h).symm rfl dX8_lies_113 rfl
        · replace h := (if_pos e26).symm.trans h
          refine go_aload_n (pc := 79) dX8_lies_79 rfl ?_
          refine gf_8_54 (pc := 80) dX8_lies_80 ?_
          obtain ⟨u24, c25, h⟩ := g_bd h
          refine go_callV (pc := 83) (as := []) (st := []) (r := u24.1) (M1 := u24.2) (z_X5_stillMiddle hok g_isM27 c25) cw_X5_stillMiddle ml_X8_179 g_isM27 rfl rfl (by decide) (Nat.le_of_ble_eq_true rfl) rfl dX8_lies_83 ?_
          refine go_iload (pc := 86) dX8_lies_86 rfl ?_
          refine go_isub (pc := 88) dX8_lies_88 ?_
          exact go_iret (pc := 89) (Option.some.inj h).symm rfl dX8_lies_89 rfl
      · replace h := (if_pos e29).symm.trans h
        refine go_aload_n (pc := 32) dX8_lies_32 rfl ?_
        refine go_bipush (pc := 33) (v := (-2 : Int32)) dX8_lies_33 (by decide) ?_
        obtain ⟨u27, c28, h⟩ := g_bd h
        refine go_callV (pc := 35) (as := [.inl (-2 : Int32)]) (st := []) (r := u27.1) (M1 := u27.2) (z_X8_refusedFar hok  c28) cw_X8_refusedFar ml_X8_126 (show g_lay[0]? = some _ from rfl) rfl rfl (by decide) (Nat.le_of_ble_eq_true rfl) rfl dX8_lies_35 ?_
        exact go_iret (pc := 38) (Option.some.inj h).symm rfl dX8_lies_38 rfl
    · replace h := (if_pos e32).symm.trans h
      refine go_aload_n (pc := 18) dX8_lies_18 rfl ?_
      refine go_iconst (pc := 19) (v := (-1 : Int32)) dX8_lies_19 (by decide) ?_
      obtain ⟨u30, c31, h⟩ := g_bd h
      refine go_callV (pc := 20) (as := [.inl (-1 : Int32)]) (st := []) (r := u30.1) (M1 := u30.2) (z_X8_refusedFar hok  c31) cw_X8_refusedFar ml_X8_126 (show g_lay[0]? = some _ from rfl) rfl rfl (by decide) (Nat.le_of_ble_eq_true rfl) rfl dX8_lies_20 ?_
      exact go_iret (pc := 23) (Option.some.inj h).symm rfl dX8_lies_23 rfl
def x_X8_hours  (p1 p2 : Int32) (M : g_M) : Option (Int32 × g_M) := (((x_X2_hasBoat 1 p1 M).bind fun u1 => if u1.1 = 0 then (((x_X8_refused (-1 : Int32) u1.2).bind fun u23 => some (u23.1, u23.2))) else (((x_X5_load 27 1 p1 u1.2).bind fun u3 => if p2 = (0 : Int32) then (((x_X5_hangingHours 27 (1 + 1) 12 u3.2).bind fun u5 => some (u5.1, u5.2))) else if p2 = (1 : Int32) then (((x_X5_tooFarHours 27 (1 + 1) 12 u3.2).bind fun u7 => some (u7.1, u7.2))) else if p2 = (2 : Int32) then (((x_X2_hoursUnder 1 u3.2).bind fun u9 => some (u9.1, u9.2))) else if p2 = (3 : Int32) then (((x_X5_hangingHours 27 (1 + 1) 12 u3.2).bind fun u11 => ((x_X5_tooFarHours 27 (1 + 1) 12 u11.2).bind fun u13 => ((x_X2_hoursUnder 1 u13.2).bind fun u15 => some (((4095 : Int32) &&& (((u11.1 ||| u13.1) ||| u15.1) ^^^ (-1 : Int32))), u15.2))))) else (((x_X8_refused (-2 : Int32) u3.2).bind fun u17 => some (u17.1, u17.2)))))))
set_option maxHeartbeats 4000000 in
set_option maxRecDepth 100000 in
theorem z_X8_hours {X : g_X} (hok : g_ok X)  {p1 p2 : Int32} {M : g_M} {r : Int32 × g_M} (h : x_X8_hours p1 p2 M = some r) : g_Con X yX8_hours cX8_hours 3 (some .int) 5 111 [.inr 0, .inl p1, .inl p2] M r := by
  rw [x_X8_hours] at h
  refine g_con hok (plainFor_of_name (by decide +kernel)) (Nat.le_of_ble_eq_true rfl) (go_to (lv2 := [some (.inr 0), some (.inl p1), some (.inl p2)]) (own := RX8) ?_ (And.intro rfl (And.intro rfl (And.intro rfl trivial))))
  refine go_aload_n (pc := 0) dX8_hours_0 rfl ?_
  refine gf_8_10 (pc := 1) dX8_hours_1 ?_
  refine go_iload_n (pc := 4) dX8_hours_4 rfl ?_
  obtain ⟨u1, c2, h⟩ := g_bd h
  refine go_callV (pc := 5) (as := [.inl p1]) (st := []) (r := u1.1) (M1 := u1.2) (z_X2_hasBoat hok g_isH1 c2) cw_X2_hasBoat ml_X8_140 g_isH1.1 rfl rfl (by decide) (Nat.le_of_ble_eq_true rfl) rfl dX8_hours_5 ?_
  refine go_if_ne (pc := 8) (tgt := 17) dX8_hours_8 (by decide) (fun e25 => ?_) (fun e25 => ?_)
  · replace h := (if_neg e25).symm.trans h
    refine go_aload_n (pc := 17) dX8_hours_17 rfl ?_
    refine gf_8_54 (pc := 18) dX8_hours_18 ?_
    refine go_aload_n (pc := 21) dX8_hours_21 rfl ?_
    refine gf_8_10 (pc := 22) dX8_hours_22 ?_
    refine go_iload_n (pc := 25) dX8_hours_25 rfl ?_
    obtain ⟨u3, c4, h⟩ := g_bd h
    refine go_callV (pc := 26) (as := [.inr 1, .inl p1]) (st := []) (r := u3.1) (M1 := u3.2) (z_X5_load hok g_isM27 g_isH1 c4) cw_X5_load ml_X8_166 g_isM27 rfl rfl (by decide) (Nat.le_of_ble_eq_true rfl) rfl dX8_hours_26 ?_
    refine go_iload_n (pc := 29) dX8_hours_29 rfl ?_
    by_cases e19 : p2 = (0 : Int32)
    · replace h := (if_pos e19).symm.trans h
      refine go_tabIn (pc := 30) (off := 30) (tgt := 60) dX8_hours_30 (by rw [e19]; decide) (by rw [e19]; decide) (by rw [e19]; decide) (by decide) ?_
      refine go_aload_n (pc := 60) dX8_hours_60 rfl ?_
      refine gf_8_54 (pc := 61) dX8_hours_61 ?_
      refine go_aload_n (pc := 64) dX8_hours_64 rfl ?_
      refine gf_8_10 (pc := 65) dX8_hours_65 ?_
      refine gf_8_188 (pc := 68) g_isH1 dX8_hours_68 ?_
      obtain ⟨u5, c6, h⟩ := g_bd h
      refine go_callV (pc := 71) (as := [.inr (1 + 1)]) (st := []) (r := u5.1) (M1 := u5.2) (z_X5_hangingHours hok g_isM27 g_isH1.2.1 c6) cw_X5_hangingHours ml_X8_191 g_isM27 rfl rfl (by decide) (Nat.le_of_ble_eq_true rfl) rfl dX8_hours_71 ?_
      exact go_iret (pc := 74) (Option.some.inj h).symm rfl dX8_hours_74 rfl
    · replace h := (if_neg e19).symm.trans h
      by_cases e20 : p2 = (1 : Int32)
      · replace h := (if_pos e20).symm.trans h
        refine go_tabIn (pc := 30) (off := 45) (tgt := 75) dX8_hours_30 (by rw [e20]; decide) (by rw [e20]; decide) (by rw [e20]; decide) (by decide) ?_
        refine go_aload_n (pc := 75) dX8_hours_75 rfl ?_
        refine gf_8_54 (pc := 76) dX8_hours_76 ?_
        refine go_aload_n (pc := 79) dX8_hours_79 rfl ?_
        refine gf_8_10 (pc := 80) dX8_hours_80 ?_
        refine gf_8_188 (pc := 83) g_isH1 dX8_hours_83 ?_
        obtain ⟨u7, c8, h⟩ := g_bd h
        refine go_callV (pc := 86) (as := [.inr (1 + 1)]) (st := []) (r := u7.1) (M1 := u7.2) (z_X5_tooFarHours hok g_isM27 g_isH1.2.1 c8) cw_X5_tooFarHours ml_X8_195 g_isM27 rfl rfl (by decide) (Nat.le_of_ble_eq_true rfl) rfl dX8_hours_86 ?_
        exact go_iret (pc := 89) (Option.some.inj h).symm rfl dX8_hours_89 rfl
      · replace h := (if_neg e20).symm.trans h
        by_cases e21 : p2 = (2 : Int32)
        · replace h := (if_pos e21).symm.trans h
          refine go_tabIn (pc := 30) (off := 60) (tgt := 90) dX8_hours_30 (by rw [e21]; decide) (by rw [e21]; decide) (by rw [e21]; decide) (by decide) ?_
          refine go_aload_n (pc := 90) dX8_hours_90 rfl ?_
          refine gf_8_10 (pc := 91) dX8_hours_91 ?_
          obtain ⟨u9, c10, h⟩ := g_bd h
          refine go_callV (pc := 94) (as := []) (st := []) (r := u9.1) (M1 := u9.2) (z_X2_hoursUnder hok g_isH1 c10) cw_X2_hoursUnder ml_X8_198 g_isH1.1 rfl rfl (by decide) (Nat.le_of_ble_eq_true rfl) rfl dX8_hours_94 ?_
          exact go_iret (pc := 97) (Option.some.inj h).symm rfl dX8_hours_97 rfl
        · replace h := (if_neg e21).symm.trans h
          by_cases e22 : p2 = (3 : Int32)
          · replace h := (if_pos e22).symm.trans h
            refine go_tabIn (pc := 30) (off := 68) (tgt := 98) dX8_hours_30 (by rw [e22]; decide) (by rw [e22]; decide) (by rw [e22]; decide) (by decide) ?_
            refine go_sipush (pc := 98) (v := (4095 : Int32)) dX8_hours_98 (by decide) ?_
            refine go_aload_n (pc := 101) dX8_hours_101 rfl ?_
            refine gf_8_54 (pc := 102) dX8_hours_102 ?_
            refine go_aload_n (pc := 105) dX8_hours_105 rfl ?_
            refine gf_8_10 (pc := 106) dX8_hours_106 ?_
            refine gf_8_188 (pc := 109) g_isH1 dX8_hours_109 ?_
            obtain ⟨u11, c12, h⟩ := g_bd h
            refine go_callV (pc := 112) (as := [.inr (1 + 1)]) (st := [.inl (4095 : Int32)]) (r := u11.1) (M1 := u11.2) (z_X5_hangingHours hok g_isM27 g_isH1.2.1 c12) cw_X5_hangingHours ml_X8_191 g_isM27 rfl rfl (by decide) (Nat.le_of_ble_eq_true rfl) rfl dX8_hours_112 ?_
            refine go_aload_n (pc := 115) dX8_hours_115 rfl ?_
            refine gf_8_54 (pc := 116) dX8_hours_116 ?_
            refine go_aload_n (pc := 119) dX8_hours_119 rfl ?_
            refine gf_8_10 (pc := 120) dX8_hours_120 ?_
            refine gf_8_188 (pc := 123) g_isH1 dX8_hours_123 ?_
            obtain ⟨u13, c14, h⟩ := g_bd h
            refine go_callV (pc := 126) (as := [.inr (1 + 1)]) (st := [.inl u11.1, .inl (4095 : Int32)]) (r := u13.1) (M1 := u13.2) (z_X5_tooFarHours hok g_isM27 g_isH1.2.1 c14) cw_X5_tooFarHours ml_X8_195 g_isM27 rfl rfl (by decide) (Nat.le_of_ble_eq_true rfl) rfl dX8_hours_126 ?_
            refine go_ior (pc := 129) dX8_hours_129 ?_
            refine go_aload_n (pc := 130) dX8_hours_130 rfl ?_
            refine gf_8_10 (pc := 131) dX8_hours_131 ?_
            obtain ⟨u15, c16, h⟩ := g_bd h
            refine go_callV (pc := 134) (as := []) (st := [.inl (u11.1 ||| u13.1), .inl (4095 : Int32)]) (r := u15.1) (M1 := u15.2) (z_X2_hoursUnder hok g_isH1 c16) cw_X2_hoursUnder ml_X8_198 g_isH1.1 rfl rfl (by decide) (Nat.le_of_ble_eq_true rfl) rfl dX8_hours_134 ?_
            refine go_ior (pc := 137) dX8_hours_137 ?_
            refine go_iconst (pc := 138) (v := (-1 : Int32)) dX8_hours_138 (by decide) ?_
            refine go_ixor (pc := 139) dX8_hours_139 ?_
            refine go_iand (pc := 140) dX8_hours_140 ?_
            exact go_iret (pc := 141) (Option.some.inj h).symm rfl dX8_hours_141 rfl
          · replace h := (if_neg e22).symm.trans h
            refine go_tabOut (pc := 30) (tgt := 142) dX8_hours_30 (by have q0 := g_out e19 (show (0 : Int32).toInt = 0 by decide); have q1 := g_out e20 (show (1 : Int32).toInt = 1 by decide); have q2 := g_out e21 (show (2 : Int32).toInt = 2 by decide); have q3 := g_out e22 (show (3 : Int32).toInt = 3 by decide); omega) (by decide) ?_
            refine go_aload_n (pc := 142) dX8_hours_142 rfl ?_
            refine go_bipush (pc := 143) (v := (-2 : Int32)) dX8_hours_143 (by decide) ?_
            obtain ⟨u17, c18, h⟩ := g_bd h
            refine go_callV (pc := 145) (as := [.inl (-2 : Int32)]) (st := []) (r := u17.1) (M1 := u17.2) (z_X8_refused hok  c18) cw_X8_refused ml_X8_85 (show g_lay[0]? = some _ from rfl) rfl rfl (by decide) (Nat.le_of_ble_eq_true rfl) rfl dX8_hours_145 ?_
            exact go_iret (pc := 148) (Option.some.inj h).symm rfl dX8_hours_148 rfl
  · replace h := (if_pos e25).symm.trans h
    refine go_aload_n (pc := 11) dX8_hours_11 rfl ?_
    refine go_iconst (pc := 12) (v := (-1 : Int32)) dX8_hours_12 (by decide) ?_
    obtain ⟨u23, c24, h⟩ := g_bd h
    refine go_callV (pc := 13) (as := [.inl (-1 : Int32)]) (st := []) (r := u23.1) (M1 := u23.2) (z_X8_refused hok  c24) cw_X8_refused ml_X8_85 (show g_lay[0]? = some _ from rfl) rfl rfl (by decide) (Nat.le_of_ble_eq_true rfl) rfl dX8_hours_13 ?_
    exact go_iret (pc := 16) (Option.some.inj h).symm rfl dX8_hours_16 rfl
def x_X8_lengthOrNone  (p0 : Int32) (M : g_M) : Option (Int32 × g_M) := (if p0 ≤ (99 : Int32) then (some (p0, M)) else (some ((-9 : Int32), M)))
set_option maxHeartbeats 4000000 in
set_option maxRecDepth 100000 in
theorem z_X8_lengthOrNone {X : g_X} (hok : g_ok X)  {p0 : Int32} {M : g_M} {r : Int32 × g_M} (h : x_X8_lengthOrNone p0 M = some r) : g_Con X yX8_lengthOrNone cX8_lengthOrNone 1 (some .int) 0 0 [.inl p0] M r := by
  rw [x_X8_lengthOrNone] at h
  refine g_con hok (plainFor_of_name (by decide +kernel)) (Nat.le_of_ble_eq_true rfl) (go_to (lv2 := [some (.inl p0)]) (own := RX8) ?_ (And.intro rfl trivial))
  refine go_iload_n (pc := 0) dX8_lengthOrNone_0 rfl ?_
  refine go_bipush (pc := 1) (v := (99 : Int32)) dX8_lengthOrNone_1 (by decide) ?_
  refine go_icmp_le (pc := 3) (tgt := 11) dX8_lengthOrNone_3 (by decide) (fun e1 => ?_) (fun e1 => ?_)
  · replace h := (if_pos e1).symm.trans h
    refine go_iload_n (pc := 11) dX8_lengthOrNone_11 rfl ?_
    exact go_iret (pc := 12) (Option.some.inj h).symm rfl dX8_lengthOrNone_12 rfl
  · replace h := (if_neg e1).symm.trans h
    refine go_bipush (pc := 6) (v := (-9 : Int32)) dX8_lengthOrNone_6 (by decide) ?_
    refine go_goto (pc := 8) (tgt := 12) dX8_lengthOrNone_8 (by decide) ?_
    exact go_iret (pc := 12) (Option.some.inj h).symm rfl dX8_lengthOrNone_12 rfl
def x_X8_length  (p1 p2 : Int32) (M : g_M) : Option (Int32 × g_M) := (((x_X2_hasBoat 1 p1 M).bind fun u1 => if u1.1 = 0 then (((x_X8_refused (-1 : Int32) u1.2).bind fun u27 => some (u27.1, u27.2))) else (((x_X8_isOneOf p2 (3 : Int32) u1.2).bind fun u3 => if u3.1 = 0 then (((x_X8_refused (-2 : Int32) u3.2).bind fun u24 => some (u24.1, u24.2))) else (((x_X5_load 27 1 p1 u3.2).bind fun u5 => ((x_X4_measure 27 (1 + 1) 12 u5.2).bind fun u7 => if p2 = 0 then (((x_X4_leastAllDay u7.2).bind fun u19 => ((x_X8_lengthOrNone u19.1 u19.2).bind fun u21 => some (u21.1, u21.2)))) else (if p2 = (1 : Int32) then (((x_X4_greatestAllDay u7.2).bind fun u16 => some (u16.1, u16.2))) else (((x_X2_hoursUnder 1 u7.2).bind fun u9 => if u9.1 = 0 then (((x_X4_greatestAllDay u9.2).bind fun u11 => ((x_X4_leastAllDay u11.2).bind fun u13 => some ((g_max (0 : Int32) ((u11.1 - u13.1) + (1 : Int32))), u13.2)))) else (some ((0 : Int32), u9.2))))))))))))
set_option maxHeartbeats 4000000 in
set_option maxRecDepth 100000 in
theorem z_X8_length {X : g_X} (hok : g_ok X)  {p1 p2 : Int32} {M : g_M} {r : Int32 × g_M} (h : x_X8_length p1 p2 M = some r) : g_Con X yX8_length cX8_length 3 (some .int) 5 115 [.inr 0, .inl p1, .inl p2] M r := by
  rw [x_X8_length] at h
  refine g_con hok (plainFor_of_name (by decide +kernel)) (Nat.le_of_ble_eq_true rfl) (go_to (lv2 := [some (.inr 0), some (.inl p1), some (.inl p2)]) (own := RX8) ?_ (And.intro rfl (And.intro rfl (And.intro rfl trivial))))
  refine go_aload_n (pc := 0) dX8_length_0 rfl ?_
  refine gf_8_10 (pc := 1) dX8_length_1 ?_
  refine go_iload_n (pc := 4) dX8_length_4 rfl ?_
  obtain ⟨u1, c2, h⟩ := g_bd h
  refine go_callV (pc := 5) (as := [.inl p1]) (st := []) (r := u1.1) (M1 := u1.2) (z_X2_hasBoat hok g_isH1 c2) cw_X2_hasBoat ml_X8_140 g_isH1.1 rfl rfl (by decide) (Nat.le_of_ble_eq_true rfl) rfl dX8_length_5 ?_
  refine go_if_ne (pc := 8) (tgt := 17) dX8_length_8 (by decide) (fun e29 => ?_) (fun e29 => ?_)
  · replace h := (if_neg e29).symm.trans h
    refine go_iload_n (pc := 17) dX8_length_17 rfl ?_
    refine go_iconst (pc := 18) (v := (3 : Int32)) dX8_length_18 (by decide) ?_
    obtain ⟨u3, c4, h⟩ := g_bd h
    refine go_callS (pc := 19) (as := [.inl p2, .inl (3 : Int32)]) (st := []) (r := u3.1) (M1 := u3.2) (z_X8_isOneOf hok  c4) cw_X8_isOneOf ml_X8_153 (by decide) (Nat.le_of_ble_eq_true rfl) rfl dX8_length_19 ?_
    refine go_if_ne (pc := 22) (tgt := 32) dX8_length_22 (by decide) (fun e26 => ?_) (fun e26 => ?_)
    · replace h := (if_neg e26).symm.trans h
      refine go_aload_n (pc := 32) dX8_length_32 rfl ?_
      refine gf_8_54 (pc := 33) dX8_length_33 ?_
      refine go_aload_n (pc := 36) dX8_length_36 rfl ?_
      refine gf_8_10 (pc := 37) dX8_length_37 ?_
      refine go_iload_n (pc := 40) dX8_length_40 rfl ?_
      obtain ⟨u5, c6, h⟩ := g_bd h
      refine go_callV (pc := 41) (as := [.inr 1, .inl p1]) (st := []) (r := u5.1) (M1 := u5.2) (z_X5_load hok g_isM27 g_isH1 c6) cw_X5_load ml_X8_166 g_isM27 rfl rfl (by decide) (Nat.le_of_ble_eq_true rfl) rfl dX8_length_41 ?_
      refine go_aload_n (pc := 44) dX8_length_44 rfl ?_
      refine gf_8_64 (pc := 45) dX8_length_45 ?_
      refine go_aload_n (pc := 48) dX8_length_48 rfl ?_
      refine gf_8_54 (pc := 49) dX8_length_49 ?_
      refine go_aload_n (pc := 52) dX8_length_52 rfl ?_
      refine gf_8_10 (pc := 53) dX8_length_53 ?_
      refine gf_8_188 (pc := 56) g_isH1 dX8_length_56 ?_
      obtain ⟨u7, c8, h⟩ := g_bd h
      refine go_callV (pc := 59) (as := [.inr 27, .inr (1 + 1)]) (st := []) (r := u7.1) (M1 := u7.2) (z_X4_measure hok g_isM27 g_isH1.2.1 c8) cw_X4_measure ml_X8_201 (show g_lay[29]? = some _ from rfl) rfl rfl (by decide) (Nat.le_of_ble_eq_true rfl) rfl dX8_length_59 ?_
      refine go_iload_n (pc := 62) dX8_length_62 rfl ?_
      refine go_if_ne (pc := 63) (tgt := 77) dX8_length_63 (by decide) (fun e23 => ?_) (fun e23 => ?_)
      · replace h := (if_neg e23).symm.trans h
        refine go_iload_n (pc := 77) dX8_length_77 rfl ?_
        refine go_iconst (pc := 78) (v := (1 : Int32)) dX8_length_78 (by decide) ?_
        refine go_icmp_ne (pc := 79) (tgt := 90) dX8_length_79 (by decide) (fun e18 => ?_) (fun e18 => ?_)
        · replace h := (if_neg e18).symm.trans h
          refine go_aload_n (pc := 90) dX8_length_90 rfl ?_
          refine gf_8_10 (pc := 91) dX8_length_91 ?_
          obtain ⟨u9, c10, h⟩ := g_bd h
          refine go_callV (pc := 94) (as := []) (st := []) (r := u9.1) (M1 := u9.2) (z_X2_hoursUnder hok g_isH1 c10) cw_X2_hoursUnder ml_X8_198 g_isH1.1 rfl rfl (by decide) (Nat.le_of_ble_eq_true rfl) rfl dX8_length_94 ?_
          refine go_if_eq (pc := 97) (tgt := 102) dX8_length_97 (by decide) (fun e15 => ?_) (fun e15 => ?_)
          · replace h := (if_pos e15).symm.trans h
            refine go_iconst (pc := 102) (v := (0 : Int32)) dX8_length_102 (by decide) ?_
            refine go_aload_n (pc := 103) dX8_length_103 rfl ?_
            refine gf_8_64 (pc := 104) dX8_length_104 ?_
            obtain ⟨u11, c12, h⟩ := g_bd h
            refine go_callV (pc := 107) (as := []) (st := [.inl (0 : Int32)]) (r := u11.1) (M1 := u11.2) (z_X4_greatestAllDay hok  c12) cw_X4_greatestAllDay ml_X8_211 (show g_lay[29]? = some _ from rfl) rfl rfl (by decide) (Nat.le_of_ble_eq_true rfl) rfl dX8_length_107 ?_
            refine go_aload_n (pc := 110) dX8_length_110 rfl ?_
            refine gf_8_64 (pc := 111) dX8_length_111 ?_
            obtain ⟨u13, c14, h⟩ := g_bd h
            refine go_callV (pc := 114) (as := []) (st := [.inl u11.1, .inl (0 : Int32)]) (r := u13.1) (M1 := u13.2) (z_X4_leastAllDay hok  c14) cw_X4_leastAllDay ml_X8_205 (show g_lay[29]? = some _ from rfl) rfl rfl (by decide) (Nat.le_of_ble_eq_true rfl) rfl dX8_length_114 ?_
            refine go_isub (pc := 117) dX8_length_117 ?_
            refine go_iconst (pc := 118) (v := (1 : Int32)) dX8_length_118 (by decide) ?_
            refine go_iadd (pc := 119) dX8_length_119 ?_
            refine go_mmax (pc := 120) ml_X8_214 lm_max_s lm_i lm_max_c (by decide) (Nat.le_of_ble_eq_true rfl) dX8_length_120 ?_
            exact go_iret (pc := 123) (Option.some.inj h).symm rfl dX8_length_123 rfl
          · replace h := (if_neg e15).symm.trans h
            refine go_iconst (pc := 100) (v := (0 : Int32)) dX8_length_100 (by decide) ?_
            exact go_iret (pc := 101) (Option.some.inj h).symm rfl dX8_length_101 rfl
        · replace h := (if_pos e18).symm.trans h
          refine go_aload_n (pc := 82) dX8_length_82 rfl ?_
          refine gf_8_64 (pc := 83) dX8_length_83 ?_
          obtain ⟨u16, c17, h⟩ := g_bd h
          refine go_callV (pc := 86) (as := []) (st := []) (r := u16.1) (M1 := u16.2) (z_X4_greatestAllDay hok  c17) cw_X4_greatestAllDay ml_X8_211 (show g_lay[29]? = some _ from rfl) rfl rfl (by decide) (Nat.le_of_ble_eq_true rfl) rfl dX8_length_86 ?_
          exact go_iret (pc := 89) (Option.some.inj h).symm rfl dX8_length_89 rfl
      · replace h := (if_pos e23).symm.trans h
        refine go_aload_n (pc := 66) dX8_length_66 rfl ?_
        refine gf_8_64 (pc := 67) dX8_length_67 ?_
        obtain ⟨u19, c20, h⟩ := g_bd h
        refine go_callV (pc := 70) (as := []) (st := []) (r := u19.1) (M1 := u19.2) (z_X4_leastAllDay hok  c20) cw_X4_leastAllDay ml_X8_205 (show g_lay[29]? = some _ from rfl) rfl rfl (by decide) (Nat.le_of_ble_eq_true rfl) rfl dX8_length_70 ?_
        obtain ⟨u21, c22, h⟩ := g_bd h
        refine go_callS (pc := 73) (as := [.inl u19.1]) (st := []) (r := u21.1) (M1 := u21.2) (z_X8_lengthOrNone hok  c22) cw_X8_lengthOrNone ml_X8_208 (by decide) (Nat.le_of_ble_eq_true rfl) rfl dX8_length_73 ?_
        exact go_iret (pc := 76) (Option.some.inj h).symm rfl dX8_length_76 rfl
    · replace h := (if_pos e26).symm.trans h
      refine go_aload_n (pc := 25) dX8_length_25 rfl ?_
      refine go_bipush (pc := 26) (v := (-2 : Int32)) dX8_length_26 (by decide) ?_
      obtain ⟨u24, c25, h⟩ := g_bd h
      refine go_callV (pc := 28) (as := [.inl (-2 : Int32)]) (st := []) (r := u24.1) (M1 := u24.2) (z_X8_refused hok  c25) cw_X8_refused ml_X8_85 (show g_lay[0]? = some _ from rfl) rfl rfl (by decide) (Nat.le_of_ble_eq_true rfl) rfl dX8_length_28 ?_
      exact go_iret (pc := 31) (Option.some.inj h).symm rfl dX8_length_31 rfl
  · replace h := (if_pos e29).symm.trans h
    refine go_aload_n (pc := 11) dX8_length_11 rfl ?_
    refine go_iconst (pc := 12) (v := (-1 : Int32)) dX8_length_12 (by decide) ?_
    obtain ⟨u27, c28, h⟩ := g_bd h
    refine go_callV (pc := 13) (as := [.inl (-1 : Int32)]) (st := []) (r := u27.1) (M1 := u27.2) (z_X8_refused hok  c28) cw_X8_refused ml_X8_85 (show g_lay[0]? = some _ from rfl) rfl rfl (by decide) (Nat.le_of_ble_eq_true rfl) rfl dX8_length_13 ?_
    exact go_iret (pc := 16) (Option.some.inj h).symm rfl dX8_length_16 rfl
def x_X8_tended  (p1 p2 : Int32) (M : g_M) : Option (Int32 × g_M) := (((x_X2_hasBoat 1 p1 M).bind fun u1 => if u1.1 = 0 then (((x_X8_refused (-1 : Int32) u1.2).bind fun u18 => some (u18.1, u18.2))) else (((x_X8_isOneOf p2 (2 : Int32) u1.2).bind fun u3 => if u3.1 = 0 then (((x_X8_refused (-2 : Int32) u3.2).bind fun u15 => some (u15.1, u15.2))) else (((x_X5_load 27 1 p1 u3.2).bind fun u5 => ((x_X4_measure 27 (1 + 1) 12 u5.2).bind fun u7 => ((x_X4_hoursChanged u7.2).bind fun u9 => if p2 = 0 then (if u9.1 = (-9 : Int32) then (some (u9.1, u9.2)) else (((x_J6_bitCount_0f7a4 u9.1 u9.2).bind fun u11 => some (u11.1, u11.2)))) else (some (u9.1, u9.2))))))))))
set_option maxHeartbeats 4000000 in
set_option maxRecDepth 100000 in
theorem z_X8_tended {X : g_X} (hok : g_ok X)  {p1 p2 : Int32} {M : g_M} {r : Int32 × g_M} (h : x_X8_tended p1 p2 M = some r) : g_Con X yX8_tended cX8_tended 4 (some .int) 5 115 [.inr 0, .inl p1, .inl p2] M r := by
  rw [x_X8_tended] at h
  refine g_con hok (plainFor_of_name (by decide +kernel)) (Nat.le_of_ble_eq_true rfl) (go_to (lv2 := [some (.inr 0), some (.inl p1), some (.inl p2), none]) (own := RX8) ?_ (And.intro rfl (And.intro rfl (And.intro rfl trivial))))
  refine go_aload_n (pc := 0) dX8_tended_0 rfl ?_
  refine gf_8_10 (pc := 1) dX8_tended_1 ?_
  refine go_iload_n (pc := 4) dX8_tended_4 rfl ?_
  obtain ⟨u1, c2, h⟩ := g_bd h
  refine go_callV (pc := 5) (as := [.inl p1]) (st := []) (r := u1.1) (M1 := u1.2) (z_X2_hasBoat hok g_isH1 c2) cw_X2_hasBoat ml_X8_140 g_isH1.1 rfl rfl (by decide) (Nat.le_of_ble_eq_true rfl) rfl dX8_tended_5 ?_
  refine go_if_ne (pc := 8) (tgt := 17) dX8_tended_8 (by decide) (fun e20 => ?_) (fun e20 => ?_)
  · replace h := (if_neg e20).symm.trans h
    refine go_iload_n (pc := 17) dX8_tended_17 rfl ?_
    refine go_iconst (pc := 18) (v := (2 : Int32)) dX8_tended_18 (by decide) ?_
    obtain ⟨u3, c4, h⟩ := g_bd h
    refine go_callS (pc := 19) (as := [.inl p2, .inl (2 : Int32)]) (st := []) (r := u3.1) (M1 := u3.2) (z_X8_isOneOf hok  c4) cw_X8_isOneOf ml_X8_153 (by decide) (Nat.le_of_ble_eq_true rfl) rfl dX8_tended_19 ?_
    refine go_if_ne (pc := 22) (tgt := 32) dX8_tended_22 (by decide) (fun e17 => ?_) (fun e17 => ?_)
    · replace h := (if_neg e17).symm.trans h
      refine go_aload_n (pc := 32) dX8_tended_32 rfl ?_
      refine gf_8_54 (pc := 33) dX8_tended_33 ?_
      refine go_aload_n (pc := 36) dX8_tended_36 rfl ?_
      refine gf_8_10 (pc := 37) dX8_tended_37 ?_
      refine go_iload_n (pc := 40) dX8_tended_40 rfl ?_
      obtain ⟨u5, c6, h⟩ := g_bd h
      refine go_callV (pc := 41) (as := [.inr 1, .inl p1]) (st := []) (r := u5.1) (M1 := u5.2) (z_X5_load hok g_isM27 g_isH1 c6) cw_X5_load ml_X8_166 g_isM27 rfl rfl (by decide) (Nat.le_of_ble_eq_true rfl) rfl dX8_tended_41 ?_
      refine go_aload_n (pc := 44) dX8_tended_44 rfl ?_
      refine gf_8_64 (pc := 45) dX8_tended_45 ?_
      refine go_aload_n (pc := 48) dX8_tended_48 rfl ?_
      refine gf_8_54 (pc := 49) dX8_tended_49 ?_
      refine go_aload_n (pc := 52) dX8_tended_52 rfl ?_
      refine gf_8_10 (pc := 53) dX8_tended_53 ?_
      refine gf_8_188 (pc := 56) g_isH1 dX8_tended_56 ?_
      obtain ⟨u7, c8, h⟩ := g_bd h
      refine go_callV (pc := 59) (as := [.inr 27, .inr (1 + 1)]) (st := []) (r := u7.1) (M1 := u7.2) (z_X4_measure hok g_isM27 g_isH1.2.1 c8) cw_X4_measure ml_X8_201 (show g_lay[29]? = some _ from rfl) rfl rfl (by decide) (Nat.le_of_ble_eq_true rfl) rfl dX8_tended_59 ?_
      refine go_aload_n (pc := 62) dX8_tended_62 rfl ?_
      refine gf_8_64 (pc := 63) dX8_tended_63 ?_
      obtain ⟨u9, c10, h⟩ := g_bd h
      refine go_callV (pc := 66) (as := []) (st := []) (r := u9.1) (M1 := u9.2) (z_X4_hoursChanged hok  c10) cw_X4_hoursChanged ml_X8_219 (show g_lay[29]? = some _ from rfl) rfl rfl (by decide) (Nat.le_of_ble_eq_true rfl) rfl dX8_tended_66 ?_
      refine go_istore_n (pc := 69) (lv' := [some (.inr 0), some (.inl p1), some (.inl p2), some (.inl u9.1)]) dX8_tended_69 (by decide) rfl ?_
      refine go_iload_n (pc := 70) dX8_tended_70 rfl ?_
      refine go_if_ne (pc := 71) (tgt := 87) dX8_tended_71 (by decide) (fun e14 => ?_) (fun e14 => ?_)
      · replace h := (if_neg e14).symm.trans h
        refine go_iload_n (pc := 87) dX8_tended_87 rfl ?_
        exact go_iret (pc := 88) (Option.some.inj h).symm rfl dX8_tended_88 rfl
      · replace h := (if_pos e14).symm.trans h
        refine go_iload_n (pc := 74) dX8_tended_74 rfl ?_
        refine go_bipush (pc := 75) (v := (-9 : Int32)) dX8_tended_75 (by decide) ?_
        refine go_icmp_eq (pc := 77) (tgt := 87) dX8_tended_77 (by decide) (fun e13 => ?_) (fun e13 => ?_)
        · replace h := (if_pos e13).symm.trans h
          refine go_iload_n (pc := 87) dX8_tended_87 rfl ?_
          exact go_iret (pc := 88) (Option.some.inj h).symm rfl dX8_tended_88 rfl
        · replace h := (if_neg e13).symm.trans h
          refine go_iload_n (pc := 80) dX8_tended_80 rfl ?_
          obtain ⟨u11, c12, h⟩ := g_bd h
          refine go_callS (pc := 81) (as := [.inl u9.1]) (st := []) (r := u11.1) (M1 := u11.2) (z_J6_bitCount_0f7a4 hok  c12) cw_J6_bitCount_0f7a4 ml_X8_222 (by decide) (Nat.le_of_ble_eq_true rfl) rfl dX8_tended_81 ?_
          refine go_goto (pc := 84) (tgt := 88) dX8_tended_84 (by decide) ?_
          exact go_iret (pc := 88) (Option.some.inj h).symm rfl dX8_tended_88 rfl
    · replace h := (if_pos e17).symm.trans h
      refine go_aload_n (pc := 25) dX8_tended_25 rfl ?_
      refine go_bipush (pc := 26) (v := (-2 : Int32)) dX8_tended_26 (by decide) ?_
      obtain ⟨u15, c16, h⟩ := g_bd h
      refine go_callV (pc := 28) (as := [.inl (-2 : Int32)]) (st := []) (r := u15.1) (M1 := u15.2) (z_X8_refused hok  c16) cw_X8_refused ml_X8_85 (show g_lay[0]? = some _ from rfl) rfl rfl (by decide) (Nat.le_of_ble_eq_true rfl) rfl dX8_tended_28 ?_
      exact go_iret (pc := 31) (Option.some.inj h).symm rfl dX8_tended_31 rfl
  · replace h := (if_pos e20).symm.trans h
    refine go_aload_n (pc := 11) dX8_tended_11 rfl ?_
    refine go_iconst (pc := 12) (v := (-1 : Int32)) dX8_tended_12 (by decide) ?_
    obtain ⟨u18, c19, h⟩ := g_bd h
    refine go_callV (pc := 13) (as := [.inl (-1 : Int32)]) (st := []) (r := u18.1) (M1 := u18.2) (z_X8_refused hok  c19) cw_X8_refused ml_X8_85 (show g_lay[0]? = some _ from rfl) rfl rfl (by decide) (Nat.le_of_ble_eq_true rfl) rfl dX8_tended_13 ?_
    exact go_iret (pc := 16) (Option.some.inj h).symm rfl dX8_tended_16 rfl
def x_X8_slack  (p1 : Int32) (M : g_M) : Option (Int32 × g_M) := (((x_X2_hasBoat 1 p1 M).bind fun u1 => if u1.1 = 0 then (((x_X8_refusedFar (-1 : Int32) u1.2).bind fun u7 => some (u7.1, u7.2))) else (((x_X5_load 27 1 p1 u1.2).bind fun u3 => ((x_X5_leastFor 27 (1 + 1) 12 u3.2).bind fun u5 => some (((u3.2 27 5) - u5.1), u5.2))))))
set_option maxHeartbeats 4000000 in
set_option maxRecDepth 100000 in
theorem z_X8_slack {X : g_X} (hok : g_ok X)  {p1 : Int32} {M : g_M} {r : Int32 × g_M} (h : x_X8_slack p1 M = some r) : g_Con X yX8_slack cX8_slack 2 (some .int) 4 90 [.inr 0, .inl p1] M r := by
  rw [x_X8_slack] at h
  refine g_con hok (plainFor_of_name (by decide +kernel)) (Nat.le_of_ble_eq_true rfl) (go_to (lv2 := [some (.inr 0), some (.inl p1)]) (own := RX8) ?_ (And.intro rfl (And.intro rfl trivial)))
  refine go_aload_n (pc := 0) dX8_slack_0 rfl ?_
  refine gf_8_10 (pc := 1) dX8_slack_1 ?_
  refine go_iload_n (pc := 4) dX8_slack_4 rfl ?_
  obtain ⟨u1, c2, h⟩ := g_bd h
  refine go_callV (pc := 5) (as := [.inl p1]) (st := []) (r := u1.1) (M1 := u1.2) (z_X2_hasBoat hok g_isH1 c2) cw_X2_hasBoat ml_X8_140 g_isH1.1 rfl rfl (by decide) (Nat.le_of_ble_eq_true rfl) rfl dX8_slack_5 ?_
  refine go_if_ne (pc := 8) (tgt := 17) dX8_slack_8 (by decide) (fun e9 => ?_) (fun e9 => ?_)
  · replace h := (if_neg e9).symm.trans h
    refine go_aload_n (pc := 17) dX8_slack_17 rfl ?_
    refine gf_8_54 (pc := 18) dX8_slack_18 ?_
    refine go_aload_n (pc := 21) dX8_slack_21 rfl ?_
    refine gf_8_10 (pc := 22) dX8_slack_22 ?_
    refine go_iload_n (pc := 25) dX8_slack_25 rfl ?_
    obtain ⟨u3, c4, h⟩ := g_bd h
    refine go_callV (pc := 26) (as := [.inr 1, .inl p1]) (st := []) (r := u3.1) (M1 := u3.2) (z_X5_load hok g_isM27 g_isH1 c4) cw_X5_load ml_X8_166 g_isM27 rfl rfl (by decide) (Nat.le_of_ble_eq_true rfl) rfl dX8_slack_26 ?_
    refine go_aload_n (pc := 29) dX8_slack_29 rfl ?_
    refine gf_8_54 (pc := 30) dX8_slack_30 ?_
    refine gf_8_173 (pc := 33) g_isM27 dX8_slack_33 ?_
    refine go_aload_n (pc := 36) dX8_slack_36 rfl ?_
    refine gf_8_54 (pc := 37) dX8_slack_37 ?_
    refine go_aload_n (pc := 40) dX8_slack_40 rfl ?_
    refine gf_8_10 (pc := 41) dX8_slack_41 ?_
    refine gf_8_188 (pc := 44) g_isH1 dX8_slack_44 ?_
    obtain ⟨u5, c6, h⟩ := g_bd h
    refine go_callV (pc := 47) (as := [.inr (1 + 1)]) (st := [.inl (u3.2 27 5)]) (r := u5.1) (M1 := u5.2) (z_X5_leastFor hok g_isM27 g_isH1.2.1 c6) cw_X5_leastFor ml_X8_227 g_isM27 rfl rfl (by decide) (Nat.le_of_ble_eq_true rfl) rfl dX8_slack_47 ?_
    refine go_isub (pc := 50) dX8_slack_50 ?_
    exact go_iret (pc := 51) (Option.some.inj h).symm rfl dX8_slack_51 rfl
  · replace h := (if_pos e9).symm.trans h
    refine go_aload_n (pc := 11) dX8_slack_11 rfl ?_
    refine go_iconst (pc := 12) (v := (-1 : Int32)) dX8_slack_12 (by decide) ?_
    obtain ⟨u7, c8, h⟩ := g_bd h
    refine go_callV (pc := 13) (as := [.inl (-1 : Int32)]) (st := []) (r := u7.1) (M1 := u7.2) (z_X8_refusedFar hok  c8) cw_X8_refusedFar ml_X8_126 (show g_lay[0]? = some _ from rfl) rfl rfl (by decide) (Nat.le_of_ble_eq_true rfl) rfl dX8_slack_13 ?_
    exact go_iret (pc := 16) (Option.some.inj h).symm rfl dX8_slack_16 rfl
def x_X8_saves  (p1 p2 : Int32) (M : g_M) : Option (Int32 × g_M) := (((x_X2_hasBoat 1 p1 M).bind fun u1 => if u1.1 = 0 then (((x_X8_refusedFar (-1 : Int32) u1.2).bind fun u14 => some (u14.1, u14.2))) else (((x_X8_isOneOf p2 (6 : Int32) u1.2).bind fun u3 => if u3.1 = 0 then (((x_X8_refusedFar (-2 : Int32) u3.2).bind fun u11 => some (u11.1, u11.2))) else (((x_X5_load 27 1 p1 u3.2).bind fun u5 => ((x_X5_leastFor 27 (1 + 1) 12 (g_upd u5.2 27 0 (0 : Int32))).bind fun u7 => ((x_X5_leastFor 27 (1 + 1) 12 (g_upd u7.2 27 0 p2)).bind fun u9 => some (((g_min (99 : Int32) u7.1) - (g_min (99 : Int32) u9.1)), u9.2)))))))))
set_option maxHeartbeats 4000000 in
set_option maxRecDepth 100000 in
theorem z_X8_saves {X : g_X} (hok : g_ok X)  {p1 p2 : Int32} {M : g_M} {r : Int32 × g_M} (h : x_X8_saves p1 p2 M = some r) : g_Con X yX8_saves cX8_saves 4 (some .int) 4 90 [.inr 0, .inl p1, .inl p2] M r := by
  rw [x_X8_saves] at h
  refine g_con hok (plainFor_of_name (by decide +kernel)) (Nat.le_of_ble_eq_true rfl) (go_to (lv2 := [some (.inr 0), some (.inl p1), some (.inl p2), none]) (own := RX8) ?_ (And.intro rfl (And.intro rfl (And.intro rfl trivial))))
  refine go_aload_n (pc := 0) dX8_saves_0 rfl ?_
  refine gf_8_10 (pc := 1) dX8_saves_1 ?_
  refine go_iload_n (pc := 4) dX8_saves_4 rfl ?_
  obtain ⟨u1, c2, h⟩ := g_bd h
  refine go_callV (pc := 5) (as := [.inl p1]) (st := []) (r := u1.1) (M1 := u1.2) (z_X2_hasBoat hok g_isH1 c2) cw_X2_hasBoat ml_X8_140 g_isH1.1 rfl rfl (by decide) (Nat.le_of_ble_eq_true rfl) rfl dX8_saves_5 ?_
  refine go_if_ne (pc := 8) (tgt := 17) dX8_saves_8 (by decide) (fun e16 => ?_) (fun e16 => ?_)
  · replace h := (if_neg e16).symm.trans h
    refine go_iload_n (pc := 17) dX8_saves_17 rfl ?_
    refine go_bipush (pc := 18) (v := (6 : Int32)) dX8_saves_18 (by decide) ?_
    obtain ⟨u3, c4, h⟩ := g_bd h
    refine go_callS (pc := 20) (as := [.inl p2, .inl (6 : Int32)]) (st := []) (r := u3.1) (M1 := u3.2) (z_X8_isOneOf hok  c4) cw_X8_isOneOf ml_X8_153 (by decide) (Nat.le_of_ble_eq_true rfl) rfl dX8_saves_20 ?_
    refine go_if_ne (pc := 23) (tgt := 33) dX8_saves_23 (by decide) (fun e13 => ?_) (fun e13 => ?_)
    · replace h := (if_neg e13).symm.trans h
      refine go_aload_n (pc := 33) dX8_saves_33 rfl ?_
      refine gf_8_54 (pc := 34) dX8_saves_34 ?_
      refine go_aload_n (pc := 37) dX8_saves_37 rfl ?_
      refine gf_8_10 (pc := 38) dX8_saves_38 ?_
      refine go_iload_n (pc := 41) dX8_saves_41 rfl ?_
      obtain ⟨u5, c6, h⟩ := g_bd h
      refine go_callV (pc := 42) (as := [.inr 1, .inl p1]) (st := []) (r := u5.1) (M1 := u5.2) (z_X5_load hok g_isM27 g_isH1 c6) cw_X5_load ml_X8_166 g_isM27 rfl rfl (by decide) (Nat.le_of_ble_eq_true rfl) rfl dX8_saves_42 ?_
      refine go_aload_n (pc := 45) dX8_saves_45 rfl ?_
      refine gf_8_54 (pc := 46) dX8_saves_46 ?_
      refine go_iconst (pc := 49) (v := (0 : Int32)) dX8_saves_49 (by decide) ?_
      refine gp_8_230 (pc := 50) g_isM27 dX8_saves_50 ?_
      refine go_bipush (pc := 53) (v := (99 : Int32)) dX8_saves_53 (by decide) ?_
      refine go_aload_n (pc := 55) dX8_saves_55 rfl ?_
      refine gf_8_54 (pc := 56) dX8_saves_56 ?_
      refine go_aload_n (pc := 59) dX8_saves_59 rfl ?_
      refine gf_8_10 (pc := 60) dX8_saves_60 ?_
      refine gf_8_188 (pc := 63) g_isH1 dX8_saves_63 ?_
      obtain ⟨u7, c8, h⟩ := g_bd h
      refine go_callV (pc := 66) (as := [.inr (1 + 1)]) (st := [.inl (99 : Int32)]) (r := u7.1) (M1 := u7.2) (z_X5_leastFor hok g_isM27 g_isH1.2.1 c8) cw_X5_leastFor ml_X8_227 g_isM27 rfl rfl (by decide) (Nat.le_of_ble_eq_true rfl) rfl dX8_saves_66 ?_
      refine go_mmin (pc := 69) ml_X8_233 lm_min_s lm_i lm_min_c (by decide) (Nat.le_of_ble_eq_true rfl) dX8_saves_69 ?_
      refine go_istore_n (pc := 72) (lv' := [some (.inr 0), some (.inl p1), some (.inl p2), some (.inl (g_min (99 : Int32) u7.1))]) dX8_saves_72 (by decide) rfl ?_
      refine go_aload_n (pc := 73) dX8_saves_73 rfl ?_
      refine gf_8_54 (pc := 74) dX8_saves_74 ?_
      refine go_iload_n (pc := 77) dX8_saves_77 rfl ?_
      refine gp_8_230 (pc := 78) g_isM27 dX8_saves_78 ?_
      refine go_iload_n (pc := 81) dX8_saves_81 rfl ?_
      refine go_bipush (pc := 82) (v := (99 : Int32)) dX8_saves_82 (by decide) ?_
      refine go_aload_n (pc := 84) dX8_saves_84 rfl ?_
      refine gf_8_54 (pc := 85) dX8_saves_85 ?_
      refine go_aload_n (pc := 88) dX8_saves_88 rfl ?_
      refine gf_8_10 (pc := 89) dX8_saves_89 ?_
      refine gf_8_188 (pc := 92) g_isH1 dX8_saves_92 ?_
      obtain ⟨u9, c10, h⟩ := g_bd h
      refine go_callV (pc := 95) (as := [.inr (1 + 1)]) (st := [.inl (99 : Int32), .inl (g_min (99 : Int32) u7.1)]) (r := u9.1) (M1 := u9.2) (z_X5_leastFor hok g_isM27 g_isH1.2.1 c10) cw_X5_leastFor ml_X8_227 g_isM27 rfl rfl (by decide) (Nat.le_of_ble_eq_true rfl) rfl dX8_saves_95 ?_
      refine go_mmin (pc := 98) ml_X8_233 lm_min_s lm_i lm_min_c (by decide) (Nat.le_of_ble_eq_true rfl) dX8_saves_98 ?_
      refine go_isub (pc := 101) dX8_saves_101 ?_
      exact go_iret (pc := 102) (Option.some.inj h).symm rfl dX8_saves_102 rfl
    · replace h := (if_pos e13).symm.trans h
      refine go_aload_n (pc := 26) dX8_saves_26 rfl ?_
      refine go_bipush (pc := 27) (v := (-2 : Int32)) dX8_saves_27 (by decide) ?_
      obtain ⟨u11, c12, h⟩ := g_bd h
      refine go_callV (pc := 29) (as := [.inl (-2 : Int32)]) (st := []) (r := u11.1) (M1 := u11.2) (z_X8_refusedFar hok  c12) cw_X8_refusedFar ml_X8_126 (show g_lay[0]? = some _ from rfl) rfl rfl (by decide) (Nat.le_of_ble_eq_true rfl) rfl dX8_saves_29 ?_
      exact go_iret (pc := 32) (Option.some.inj h).symm rfl dX8_saves_32 rfl
  · replace h := (if_pos e16).symm.trans h
    refine go_aload_n (pc := 11) dX8_saves_11 rfl ?_
    refine go_iconst (pc := 12) (v := (-1 : Int32)) dX8_saves_12 (by decide) ?_
    obtain ⟨u14, c15, h⟩ := g_bd h
    refine go_callV (pc := 13) (as := [.inl (-1 : Int32)]) (st := []) (r := u14.1) (M1 := u14.2) (z_X8_refusedFar hok  c15) cw_X8_refusedFar ml_X8_126 (show g_lay[0]? = some _ from rfl) rfl rfl (by decide) (Nat.le_of_ble_eq_true rfl) rfl dX8_saves_13 ?_
    exact go_iret (pc := 16) (Option.some.inj h).symm rfl dX8_saves_16 rfl
def x_X8_areTwoBoats  (p1 p2 : Int32) (M : g_M) : Option (Int32 × g_M) := (((x_X2_hasBoat 1 p1 M).bind fun u1 => if u1.1 = 0 then (some ((0 : Int32), u1.2)) else (((x_X2_hasBoat 1 p2 u1.2).bind fun u3 => if u3.1 = 0 then (some ((0 : Int32), u3.2)) else (if p1 = p2 then (some ((0 : Int32), u3.2)) else (some ((1 : Int32), u3.2)))))))
set_option maxHeartbeats 4000000 in
set_option maxRecDepth 100000 in
theorem z_X8_areTwoBoats {X : g_X} (hok : g_ok X)  {p1 p2 : Int32} {M : g_M} {r : Int32 × g_M} (h : x_X8_areTwoBoats p1 p2 M = some r) : g_Con X yX8_areTwoBoats cX8_areTwoBoats 3 (some .boolean) 1 21 [.inr 0, .inl p1, .inl p2] M r := by
  rw [x_X8_areTwoBoats] at h
  refine g_con hok (plainFor_of_name (by decide +kernel)) (Nat.le_of_ble_eq_true rfl) (go_to (lv2 := [some (.inr 0), some (.inl p1), some (.inl p2)]) (own := RX8) ?_ (And.intro rfl (And.intro rfl (And.intro rfl trivial))))
  refine go_aload_n (pc := 0) dX8_areTwoBoats_0 rfl ?_
  refine gf_8_10 (pc := 1) dX8_areTwoBoats_1 ?_
  refine go_iload_n (pc := 4) dX8_areTwoBoats_4 rfl ?_
  obtain ⟨u1, c2, h⟩ := g_bd h
  refine go_callV (pc := 5) (as := [.inl p1]) (st := []) (r := u1.1) (M1 := u1.2) (z_X2_hasBoat hok g_isH1 c2) cw_X2_hasBoat ml_X8_140 g_isH1.1 rfl rfl (by decide) (Nat.le_of_ble_eq_true rfl) rfl dX8_areTwoBoats_5 ?_
  refine go_if_eq (pc := 8) (tgt := 31) dX8_areTwoBoats_8 (by decide) (fun e7 => ?_) (fun e7 => ?_)
  · replace h := (if_pos e7).symm.trans h
    refine go_iconst (pc := 31) (v := (0 : Int32)) dX8_areTwoBoats_31 (by decide) ?_
    exact go_iret (pc := 32) (Option.some.inj h).symm rfl dX8_areTwoBoats_32 rfl
  · replace h := (if_neg e7).symm.trans h
    refine go_aload_n (pc := 11) dX8_areTwoBoats_11 rfl ?_
    refine gf_8_10 (pc := 12) dX8_areTwoBoats_12 ?_
    refine go_iload_n (pc := 15) dX8_areTwoBoats_15 rfl ?_
    obtain ⟨u3, c4, h⟩ := g_bd h
    refine go_callV (pc := 16) (as := [.inl p2]) (st := []) (r := u3.1) (M1 := u3.2) (z_X2_hasBoat hok g_isH1 c4) cw_X2_hasBoat ml_X8_140 g_isH1.1 rfl rfl (by decide) (Nat.le_of_ble_eq_true rfl) rfl dX8_areTwoBoats_16 ?_
    refine go_if_eq (pc := 19) (tgt := 31) dX8_areTwoBoats_19 (by decide) (fun e6 => ?_) (fun e6 => ?_)
    · replace h := (if_pos e6).symm.trans h
      refine go_iconst (pc := 31) (v := (0 : Int32)) dX8_areTwoBoats_31 (by decide) ?_
      exact go_iret (pc := 32) (Option.some.inj h).symm rfl dX8_areTwoBoats_32 rfl
    · replace h := (if_neg e6).symm.trans h
      refine go_iload_n (pc := 22) dX8_areTwoBoats_22 rfl ?_
      refine go_iload_n (pc := 23) dX8_areTwoBoats_23 rfl ?_
      refine go_icmp_eq (pc := 24) (tgt := 31) dX8_areTwoBoats_24 (by decide) (fun e5 => ?_) (fun e5 => ?_)
      · replace h := (if_pos e5).symm.trans h
        refine go_iconst (pc := 31) (v := (0 : Int32)) dX8_areTwoBoats_31 (by decide) ?_
        exact go_iret (pc := 32) (Option.some.inj h).symm rfl dX8_areTwoBoats_32 rfl
      · replace h := (if_neg e5).symm.trans h
        refine go_iconst (pc := 27) (v := (1 : Int32)) dX8_areTwoBoats_27 (by decide) ?_
        refine go_goto (pc := 28) (tgt := 32) dX8_areTwoBoats_28 (by decide) ?_
        exact go_iret (pc := 32) (Option.some.inj h).symm rfl dX8_areTwoBoats_32 rfl
def x_X8_touch  (p1 p2 : Int32) (M : g_M) : Option (Int32 × g_M) := (((x_X8_areTwoBoats p1 p2 M).bind fun u1 => if u1.1 = 0 then (((x_X8_refused (-1 : Int32) u1.2).bind fun u9 => some (u9.1, u9.2))) else (((x_X5_load 27 1 p1 u1.2).bind fun u3 => ((x_X5_load 28 1 p2 u3.2).bind fun u5 => ((x_X5_touching 27 28 (1 + 1) 12 (u5.2 27 5) (u5.2 28 5) u5.2).bind fun u7 => some (u7.1, u7.2)))))))
set_option maxHeartbeats 4000000 in
set_option maxRecDepth 100000 in
theorem z_X8_touch {X : g_X} (hok : g_ok X)  {p1 p2 : Int32} {M : g_M} {r : Int32 × g_M} (h : x_X8_touch p1 p2 M = some r) : g_Con X yX8_touch cX8_touch 3 (some .int) 5 122 [.inr 0, .inl p1, .inl p2] M r := by
  rw [x_X8_touch] at h
  refine g_con hok (plainFor_of_name (by decide +kernel)) (Nat.le_of_ble_eq_true rfl) (go_to (lv2 := [some (.inr 0), some (.inl p1), some (.inl p2)]) (own := RX8) ?_ (And.intro rfl (And.intro rfl (And.intro rfl trivial))))
  refine go_aload_n (pc := 0) dX8_touch_0 rfl ?_
  refine go_iload_n (pc := 1) dX8_touch_1 rfl ?_
  refine go_iload_n (pc := 2) dX8_touch_2 rfl ?_
  obtain ⟨u1, c2, h⟩ := g_bd h
  refine go_callV (pc := 3) (as := [.inl p1, .inl p2]) (st := []) (r := u1.1) (M1 := u1.2) (z_X8_areTwoBoats hok  c2) cw_X8_areTwoBoats ml_X8_236 (show g_lay[0]? = some _ from rfl) rfl rfl (by decide) (Nat.le_of_ble_eq_true rfl) rfl dX8_touch_3 ?_
  refine go_if_ne (pc := 6) (tgt := 15) dX8_touch_6 (by decide) (fun e11 => ?_) (fun e11 => ?_)
  · replace h := (if_neg e11).symm.trans h
    refine go_aload_n (pc := 15) dX8_touch_15 rfl ?_
    refine gf_8_54 (pc := 16) dX8_touch_16 ?_
    refine go_aload_n (pc := 19) dX8_touch_19 rfl ?_
    refine gf_8_10 (pc := 20) dX8_touch_20 ?_
    refine go_iload_n (pc := 23) dX8_touch_23 rfl ?_
    obtain ⟨u3, c4, h⟩ := g_bd h
    refine go_callV (pc := 24) (as := [.inr 1, .inl p1]) (st := []) (r := u3.1) (M1 := u3.2) (z_X5_load hok g_isM27 g_isH1 c4) cw_X5_load ml_X8_166 g_isM27 rfl rfl (by decide) (Nat.le_of_ble_eq_true rfl) rfl dX8_touch_24 ?_
    refine go_aload_n (pc := 27) dX8_touch_27 rfl ?_
    refine gf_8_58 (pc := 28) dX8_touch_28 ?_
    refine go_aload_n (pc := 31) dX8_touch_31 rfl ?_
    refine gf_8_10 (pc := 32) dX8_touch_32 ?_
    refine go_iload_n (pc := 35) dX8_touch_35 rfl ?_
    obtain ⟨u5, c6, h⟩ := g_bd h
    refine go_callV (pc := 36) (as := [.inr 1, .inl p2]) (st := []) (r := u5.1) (M1 := u5.2) (z_X5_load hok g_isM28 g_isH1 c6) cw_X5_load ml_X8_166 g_isM28 rfl rfl (by decide) (Nat.le_of_ble_eq_true rfl) rfl dX8_touch_36 ?_
    refine go_aload_n (pc := 39) dX8_touch_39 rfl ?_
    refine gf_8_54 (pc := 40) dX8_touch_40 ?_
    refine go_aload_n (pc := 43) dX8_touch_43 rfl ?_
    refine gf_8_54 (pc := 44) dX8_touch_44 ?_
    refine gf_8_173 (pc := 47) g_isM27 dX8_touch_47 ?_
    refine go_aload_n (pc := 50) dX8_touch_50 rfl ?_
    refine gf_8_58 (pc := 51) dX8_touch_51 ?_
    refine go_aload_n (pc := 54) dX8_touch_54 rfl ?_
    refine gf_8_58 (pc := 55) dX8_touch_55 ?_
    refine gf_8_173 (pc := 58) g_isM28 dX8_touch_58 ?_
    refine go_aload_n (pc := 61) dX8_touch_61 rfl ?_
    refine gf_8_10 (pc := 62) dX8_touch_62 ?_
    refine gf_8_188 (pc := 65) g_isH1 dX8_touch_65 ?_
    obtain ⟨u7, c8, h⟩ := g_bd h
    refine go_callV (pc := 68) (as := [.inl (u5.2 27 5), .inr 28, .inl (u5.2 28 5), .inr (1 + 1)]) (st := []) (r := u7.1) (M1 := u7.2) (z_X5_touching hok g_isM27 g_isM28 g_isH1.2.1 c8) cw_X5_touching ml_X8_239 g_isM27 rfl rfl (by decide) (Nat.le_of_ble_eq_true rfl) rfl dX8_touch_68 ?_
    exact go_iret (pc := 71) (Option.some.inj h).symm rfl dX8_touch_71 rfl
  · replace h := (if_pos e11).symm.trans h
    refine go_aload_n (pc := 9) dX8_touch_9 rfl ?_
    refine go_iconst (pc := 10) (v := (-1 : Int32)) dX8_touch_10 (by decide) ?_
    obtain ⟨u9, c10, h⟩ := g_bd h
    refine go_callV (pc := 11) (as := [.inl (-1 : Int32)]) (st := []) (r := u9.1) (M1 := u9.2) (z_X8_refused hok  c10) cw_X8_refused ml_X8_85 (show g_lay[0]? = some _ from rfl) rfl rfl (by decide) (Nat.le_of_ble_eq_true rfl) rfl dX8_touch_11 ?_
    exact go_iret (pc := 14) (Option.some.inj h).symm rfl dX8_touch_14 rfl
def x_X8_clear_L62   : Nat → Int32 → Int32 → Int32 → g_M → Option (Int32 × g_M)
  | 0, _, _, _, _ => none
  | n + 1, v3, v4, v5, M => (if (99 : Int32) < v5 then (some (v3, M)) else (((x_X5_touching 27 28 (1 + 1) 12 v5 (M 28 5) M).bind fun u1 => ((x_J6_bitCount_0f7a4 u1.1 u1.2).bind fun u3 => if v4 ≤ u3.1 then (x_X8_clear_L62   n v3 v4 (v5 + (1 : Int32)) u3.2) else (x_X8_clear_L62   n v5 u3.1 (v5 + (1 : Int32)) u3.2)))))
set_option maxHeartbeats 4000000 in
set_option maxRecDepth 100000 in
theorem z_X8_clear_L62 {X : g_X} (hok : g_ok X)  {r : Int32 × g_M}  : ∀ (n : Nat) (v3 : Int32) (v4 : Int32) (v5 : Int32) (M : g_M), x_X8_clear_L62   n v3 v4 v5 M = some r → g_Go X cX8_clear RX8 7 (some .int) 5 122 r 62 [some (.inr 0), none, none, some (.inl v3), some (.inl v4), some (.inl v5), none] [] M := by
  intro n
  induction n with
  | zero =>
    intro v3 v4 v5 M h
    rw [x_X8_clear_L62] at h
    cases h
  | succ n ih =>
    intro v3 v4 v5 M h
    rw [x_X8_clear_L62] at h
    refine go_iload (pc := 62) dX8_clear_62 rfl ?_
    refine go_bipush (pc := 64) (v := (99 : Int32)) dX8_clear_64 (by decide) ?_
    refine go_icmp_gt (pc := 66) (tgt := 121) dX8_clear_66 (by decide) (fun e6 => ?_) (fun e6 => ?_)
    · replace h := (if_pos e6).symm.trans h
      refine go_iload_n (pc := 121) dX8_clear_121 rfl ?_
      exact go_iret (pc := 122) (Option.some.inj h).symm rfl dX8_clear_122 rfl
    · replace h := (if_neg e6).symm.trans h
      refine go_aload_n (pc := 69) dX8_clear_69 rfl ?_
      refine gf_8_54 (pc := 70) dX8_clear_70 ?_
      refine go_iload (pc := 73) dX8_clear_73 rfl ?_
      refine go_aload_n (pc := 75) dX8_clear_75 rfl ?_
      refine gf_8_58 (pc := 76) dX8_clear_76 ?_
      refine go_aload_n (pc := 79) dX8_clear_79 rfl ?_
      refine gf_8_58 (pc := 80) dX8_clear_80 ?_
      refine gf_8_173 (pc := 83) g_isM28 dX8_clear_83 ?_
      refine go_aload_n (pc := 86) dX8_clear_86 rfl ?_
      refine gf_8_10 (pc := 87) dX8_clear_87 ?_
      refine gf_8_188 (pc := 90) g_isH1 dX8_clear_90 ?_
      obtain ⟨u1, c2, h⟩ := g_bd h
      refine go_callV (pc := 93) (as := [.inl v5, .inr 28, .inl (M 28 5), .inr (1 + 1)]) (st := []) (r := u1.1) (M1 := u1.2) (z_X5_touching hok g_isM27 g_isM28 g_isH1.2.1 c2) cw_X5_touching ml_X8_239 g_isM27 rfl rfl (by decide) (Nat.le_of_ble_eq_true rfl) rfl dX8_clear_93 ?_
      obtain ⟨u3, c4, h⟩ := g_bd h
      refine go_callS (pc := 96) (as := [.inl u1.1]) (st := []) (r := u3.1) (M1 := u3.2) (z_J6_bitCount_0f7a4 hok  c4) cw_J6_bitCount_0f7a4 ml_X8_222 (by decide) (Nat.le_of_ble_eq_true rfl) rfl dX8_clear_96 ?_
      refine go_istore (pc := 99) (lv' := [some (.inr 0), none, none, some (.inl v3), some (.inl v4), some (.inl v5), some (.inl u3.1)]) dX8_clear_99 (by decide) rfl ?_
      refine go_iload (pc := 101) dX8_clear_101 rfl ?_
      refine go_iload (pc := 103) dX8_clear_103 rfl ?_
      refine go_icmp_ge (pc := 105) (tgt := 115) dX8_clear_105 (by decide) (fun e5 => ?_) (fun e5 => ?_)
      · replace h := (if_pos e5).symm.trans h
        refine go_iinc (pc := 115) (v := (1 : Int32)) (lv' := [some (.inr 0), none, none, some (.inl v3), some (.inl v4), some (.inl (v5 + (1 : Int32))), some (.inl u3.1)]) dX8_clear_115 rfl (by decide) (by decide) rfl ?_
        refine go_goto (pc := 118) (tgt := 62) dX8_clear_118 (by decide) ?_
        exact go_to (ih _ _ _ _ h) (And.intro rfl (And.intro rfl (And.intro rfl (And.intro rfl trivial))))
      · replace h := (if_neg e5).symm.trans h
        refine go_iload (pc := 108) dX8_clear_108 rfl ?_
        refine go_istore (pc := 110) (lv' := [some (.inr 0), none, none, some (.inl v3), some (.inl u3.1), some (.inl v5), some (.inl u3.1)]) dX8_clear_110 (by decide) rfl ?_
        refine go_iload (pc := 112) dX8_clear_112 rfl ?_
        refine go_istore_n (pc := 114) (lv' := [some (.inr 0), none, none, some (.inl v5), some (.inl u3.1), some (.inl v5), some (.inl u3.1)]) dX8_clear_114 (by decide) rfl ?_
        refine go_iinc (pc := 115) (v := (1 : Int32)) (lv' := [some (.inr 0), none, none, some (.inl v5), some (.inl u3.1), some (.inl (v5 + (1 : Int32))), some (.inl u3.1)]) dX8_clear_115 rfl (by decide) (by decide) rfl ?_
        refine go_goto (pc := 118) (tgt := 62) dX8_clear_118 (by decide) ?_
        exact go_to (ih _ _ _ _ h) (And.intro rfl (And.intro rfl (And.intro rfl (And.intro rfl trivial))))
def x_X8_clear  (p1 p2 : Int32) (M : g_M) : Option (Int32 × g_M) := (((x_X8_areTwoBoats p1 p2 M).bind fun u7 => if u7.1 = 0 then (((x_X8_refused (-1 : Int32) u7.2).bind fun u15 => some (u15.1, u15.2))) else (((x_X5_load 27 1 p1 u7.2).bind fun u9 => ((x_X5_load 28 1 p2 u9.2).bind fun u11 => ((x_X5_leastFor 27 (1 + 1) 12 u11.2).bind fun u13 => x_X8_clear_L62   g_F (-9 : Int32) (13 : Int32) u13.1 u13.2))))))
set_option maxHeartbeats 4000000 in
set_option maxRecDepth 100000 in
theorem z_X8_clear {X : g_X} (hok : g_ok X)  {p1 p2 : Int32} {M : g_M} {r : Int32 × g_M} (h : x_X8_clear p1 p2 M = some r) : g_Con X yX8_clear cX8_clear 7 (some .int) 5 122 [.inr 0, .inl p1, .inl p2] M r := by
  rw [x_X8_clear] at h
  refine g_con hok (plainFor_of_name (by decide +kernel)) (Nat.le_of_ble_eq_true rfl) (go_to (lv2 := [some (.inr 0), some (.inl p1), some (.inl p2), none, none, none, none]) (own := RX8) ?_ (And.intro rfl (And.intro rfl (And.intro rfl trivial))))
  refine go_aload_n (pc := 0) dX8_clear_0 rfl ?_
  refine go_iload_n (pc := 1) dX8_clear_1 rfl ?_
  refine go_iload_n (pc := 2) dX8_clear_2 rfl ?_
  obtain ⟨u7, c8, h⟩ := g_bd h
  refine go_callV (pc := 3) (as := [.inl p1, .inl p2]) (st := []) (r := u7.1) (M1 := u7.2) (z_X8_areTwoBoats hok  c8) cw_X8_areTwoBoats ml_X8_236 (show g_lay[0]? = some _ from rfl) rfl rfl (by decide) (Nat.le_of_ble_eq_true rfl) rfl dX8_clear_3 ?_
  refine go_if_ne (pc := 6) (tgt := 15) dX8_clear_6 (by decide) (fun e17 => ?_) (fun e17 => ?_)
  · replace h := (if_neg e17).symm.trans h
    refine go_aload_n (pc := 15) dX8_clear_15 rfl ?_
    refine gf_8_54 (pc := 16) dX8_clear_16 ?_
    refine go_aload_n (pc := 19) dX8_clear_19 rfl ?_
    refine gf_8_10 (pc := 20) dX8_clear_20 ?_
    refine go_iload_n (pc := 23) dX8_clear_23 rfl ?_
    obtain ⟨u9, c10, h⟩ := g_bd h
    refine go_callV (pc := 24) (as := [.inr 1, .inl p1]) (st := []) (r := u9.1) (M1 := u9.2) (z_X5_load hok g_isM27 g_isH1 c10) cw_X5_load ml_X8_166 g_isM27 rfl rfl (by decide) (Nat.le_of_ble_eq_true rfl) rfl dX8_clear_24 ?_
    refine go_aload_n (pc := 27) dX8_clear_27 rfl ?_
    refine gf_8_58 (pc := 28) dX8_clear_28 ?_
    refine go_aload_n (pc := 31) dX8_clear_31 rfl ?_
    refine gf_8_10 (pc := 32) dX8_clear_32 ?_
    refine go_iload_n (pc := 35) dX8_clear_35 rfl ?_
    obtain ⟨u11, c12, h⟩ := g_bd h
    refine go_callV (pc := 36) (as := [.inr 1, .inl p2]) (st := []) (r := u11.1) (M1 := u11.2) (z_X5_load hok g_isM28 g_isH1 c12) cw_X5_load ml_X8_166 g_isM28 rfl rfl (by decide) (Nat.le_of_ble_eq_true rfl) rfl dX8_clear_36 ?_
    refine go_bipush (pc := 39) (v := (-9 : Int32)) dX8_clear_39 (by decide) ?_
    refine go_istore_n (pc := 41) (lv' := [some (.inr 0), some (.inl p1), some (.inl p2), some (.inl (-9 : Int32)), none, none, none]) dX8_clear_41 (by decide) rfl ?_
    refine go_bipush (pc := 42) (v := (13 : Int32)) dX8_clear_42 (by decide) ?_
    refine go_istore (pc := 44) (lv' := [some (.inr 0), some (.inl p1), some (.inl p2), some (.inl (-9 : Int32)), some (.inl (13 : Int32)), none, none]) dX8_clear_44 (by decide) rfl ?_
    refine go_aload_n (pc := 46) dX8_clear_46 rfl ?_
    refine gf_8_54 (pc := 47) dX8_clear_47 ?_
    refine go_aload_n (pc := 50) dX8_clear_50 rfl ?_
    refine gf_8_10 (pc := 51) dX8_clear_51 ?_
    refine gf_8_188 (pc := 54) g_isH1 dX8_clear_54 ?_
    obtain ⟨u13, c14, h⟩ := g_bd h
    refine go_callV (pc := 57) (as := [.inr (1 + 1)]) (st := []) (r := u13.1) (M1 := u13.2) (z_X5_leastFor hok g_isM27 g_isH1.2.1 c14) cw_X5_leastFor ml_X8_227 g_isM27 rfl rfl (by decide) (Nat.le_of_ble_eq_true rfl) rfl dX8_clear_57 ?_
    refine go_istore (pc := 60) (lv' := [some (.inr 0), some (.inl p1), some (.inl p2), some (.inl (-9 : Int32)), some (.inl (13 : Int32)), some (.inl u13.1), none]) dX8_clear_60 (by decide) rfl ?_
    exact go_to (z_X8_clear_L62 hok   g_F _ _ _ _ h) (And.intro rfl (And.intro rfl (And.intro rfl (And.intro rfl trivial))))
  · replace h := (if_pos e17).symm.trans h
    refine go_aload_n (pc := 9) dX8_clear_9 rfl ?_
    refine go_iconst (pc := 10) (v := (-1 : Int32)) dX8_clear_10 (by decide) ?_
    obtain ⟨u15, c16, h⟩ := g_bd h
    refine go_callV (pc := 11) (as := [.inl (-1 : Int32)]) (st := []) (r := u15.1) (M1 := u15.2) (z_X8_refused hok  c16) cw_X8_refused ml_X8_85 (show g_lay[0]? = some _ from rfl) rfl rfl (by decide) (Nat.le_of_ble_eq_true rfl) rfl dX8_clear_11 ?_
    exact go_iret (pc := 14) (Option.some.inj h).symm rfl dX8_clear_14 rfl
def x_J6_compare_7cf53  (p0 p1 : Int32) (M : g_M) : Option (Int32 × g_M) := (if p1 ≤ p0 then (if p0 = p1 then (some ((0 : Int32), M)) else (some ((1 : Int32), M))) else (some ((-1 : Int32), M)))
set_option maxHeartbeats 4000000 in
set_option maxRecDepth 100000 in
theorem z_J6_compare_7cf53 {X : g_X} (hok : g_ok X)  {p0 p1 : Int32} {M : g_M} {r : Int32 × g_M} (h : x_J6_compare_7cf53 p0 p1 M = some r) : g_Con X yJ6_compare_7cf53 cJ6_compare_7cf53 2 (some .int) 0 0 [.inl p0, .inl p1] M r := by
  rw [x_J6_compare_7cf53] at h
  refine g_con hok (plainFor_of_name (by decide +kernel)) (Nat.le_of_ble_eq_true rfl) (go_to (lv2 := [some (.inl p0), some (.inl p1)]) (own := RJ6) ?_ (And.intro rfl (And.intro rfl trivial)))
  refine go_iload_n (pc := 0) dJ6_compare_7cf53_0 rfl ?_
  refine go_iload_n (pc := 1) dJ6_compare_7cf53_1 rfl ?_
  refine go_icmp_ge (pc := 2) (tgt := 9) dJ6_compare_7cf53_2 (by decide) (fun e2 => ?_) (fun e2 => ?_)
  · replace h := (if_pos e2).symm.trans h
    refine go_iload_n (pc := 9) dJ6_compare_7cf53_9 rfl ?_
    refine go_iload_n (pc := 10) dJ6_compare_7cf53_10 rfl ?_
    refine go_icmp_ne (pc := 11) (tgt := 18) dJ6_compare_7cf53_11 (by decide) (fun e1 => ?_) (fun e1 => ?_)
    · replace h := (if_neg e1).symm.trans h
      refine go_iconst (pc := 18) (v := (1 : Int32)) dJ6_compare_7cf53_18 (by decide) ?_
      exact go_iret (pc := 19) (Option.some.inj h).symm rfl dJ6_compare_7cf53_19 rfl
    · replace h := (if_pos e1).symm.trans h
      refine go_iconst (pc := 14) (v := (0 : Int32)) dJ6_compare_7cf53_14 (by decide) ?_
      refine go_goto (pc := 15) (tgt := 19) dJ6_compare_7cf53_15 (by decide) ?_
      exact go_iret (pc := 19) (Option.some.inj h).symm rfl dJ6_compare_7cf53_19 rfl
  · replace h := (if_neg e2).symm.trans h
    refine go_iconst (pc := 5) (v := (-1 : Int32)) dJ6_compare_7cf53_5 (by decide) ?_
    refine go_goto (pc := 6) (tgt := 19) dJ6_compare_7cf53_6 (by decide) ?_
    exact go_iret (pc := 19) (Option.some.inj h).symm rfl dJ6_compare_7cf53_19 rfl
def x_X8_areCrossed_L100   (v6 : Int32) (v7 : Int32) (M : g_M) : Option (Int32 × g_M) := (if v6 ≤ 0 then (some ((0 : Int32), M)) else (if 0 ≤ v7 then (some ((0 : Int32), M)) else (some ((1 : Int32), M))))
set_option maxHeartbeats 4000000 in
set_option maxRecDepth 100000 in
theorem z_X8_areCrossed_L100 {X : g_X} (hok : g_ok X)  {r : Int32 × g_M}  {v6 : Int32} {v7 : Int32} {M : g_M} (h : x_X8_areCrossed_L100   v6 v7 M = some r) : g_Go X cX8_areCrossed RX8 8 (some .boolean) 4 91 r 100 [none, none, none, none, none, none, some (.inl v6), some (.inl v7)] [] M := by
  rw [x_X8_areCrossed_L100] at h
  refine go_iload (pc := 100) dX8_areCrossed_100 rfl ?_
  refine go_if_le (pc := 102) (tgt := 114) dX8_areCrossed_102 (by decide) (fun e2 => ?_) (fun e2 => ?_)
  · replace h := (if_pos e2).symm.trans h
    refine go_iconst (pc := 114) (v := (0 : Int32)) dX8_areCrossed_114 (by decide) ?_
    exact go_iret (pc := 115) (Option.some.inj h).symm rfl dX8_areCrossed_115 rfl
  · replace h := (if_neg e2).symm.trans h
    refine go_iload (pc := 105) dX8_areCrossed_105 rfl ?_
    refine go_if_ge (pc := 107) (tgt := 114) dX8_areCrossed_107 (by decide) (fun e1 => ?_) (fun e1 => ?_)
    · replace h := (if_pos e1).symm.trans h
      refine go_iconst (pc := 114) (v := (0 : Int32)) dX8_areCrossed_114 (by decide) ?_
      exact go_iret (pc := 115) (Option.some.inj h).symm rfl dX8_areCrossed_115 rfl
    · replace h := (if_neg e1).symm.trans h
      refine go_iconst (pc := 110) (v := (1 : Int32)) dX8_areCrossed_110 (by decide) ?_
      refine go_goto (pc := 111) (tgt := 115) dX8_areCrossed_111 (by decide) ?_
      exact go_iret (pc := 115) (Option.some.inj h).symm rfl dX8_areCrossed_115 rfl
def x_X8_areCrossed  (p1 p2 p3 : Int32) (M : g_M) : Option (Int32 × g_M) := (((x_X5_load 27 1 p1 M).bind fun u3 => ((x_X5_load 28 1 p2 u3.2).bind fun u5 => ((x_X2_tideAt 1 p3 u5.2).bind fun u7 => ((x_X2_windAt 1 p3 u7.2).bind fun u9 => ((x_J6_compare_7cf53 (u9.2 27 2) (u9.2 28 2) u9.2).bind fun u11 => ((x_X5_blownMiddle 27 u7.1 u9.1 u11.2).bind fun u13 => ((x_X5_blownMiddle 28 u7.1 u9.1 u13.2).bind fun u15 => ((x_J6_compare_7cf53 u13.1 u15.1 u15.2).bind fun u17 => if 0 ≤ u11.1 then (x_X8_areCrossed_L100   u11.1 u17.1 u17.2) else (if 0 < u17.1 then (some ((1 : Int32), u17.2)) else (x_X8_areCrossed_L100   u11.1 u17.1 u17.2)))))))))))
set_option maxHeartbeats 4000000 in
set_option maxRecDepth 100000 in
theorem z_X8_areCrossed {X : g_X} (hok : g_ok X)  {p1 p2 p3 : Int32} {M : g_M} {r : Int32 × g_M} (h : x_X8_areCrossed p1 p2 p3 M = some r) : g_Con X yX8_areCrossed cX8_areCrossed 8 (some .boolean) 4 91 [.inr 0, .inl p1, .inl p2, .inl p3] M r := by
  rw [x_X8_areCrossed] at h
  refine g_con hok (plainFor_of_name (by decide +kernel)) (Nat.le_of_ble_eq_true rfl) (go_to (lv2 := [some (.inr 0), some (.inl p1), some (.inl p2), some (.inl p3), none, none, none, none]) (own := RX8) ?_ (And.intro rfl (And.intro rfl (And.intro rfl (And.intro rfl trivial)))))
  refine go_aload_n (pc := 0) dX8_areCrossed_0 rfl ?_
  refine gf_8_54 (pc := 1) dX8_areCrossed_1 ?_
  refine go_aload_n (pc := 4) dX8_areCrossed_4 rfl ?_
  refine gf_8_10 (pc := 5) dX8_areCrossed_5 ?_
  refine go_iload_n (pc := 8) dX8_areCrossed_8 rfl ?_
  obtain ⟨u3, c4, h⟩ := g_bd h
  refine go_callV (pc := 9) (as := [.inr 1, .inl p1]) (st := []) (r := u3.1) (M1 := u3.2) (z_X5_load hok g_isM27 g_isH1 c4) cw_X5_load ml_X8_166 g_isM27 rfl rfl (by decide) (Nat.le_of_ble_eq_true rfl) rfl dX8_areCrossed_9 ?_
  refine go_aload_n (pc := 12) dX8_areCrossed_12 rfl ?_
  refine gf_8_58 (pc := 13) dX8_areCrossed_13 ?_
  refine go_aload_n (pc := 16) dX8_areCrossed_16 rfl ?_
  refine gf_8_10 (pc := 17) dX8_areCrossed_17 ?_
  refine go_iload_n (pc := 20) dX8_areCrossed_20 rfl ?_
  obtain ⟨u5, c6, h⟩ := g_bd h
  refine go_callV (pc := 21) (as := [.inr 1, .inl p2]) (st := []) (r := u5.1) (M1 := u5.2) (z_X5_load hok g_isM28 g_isH1 c6) cw_X5_load ml_X8_166 g_isM28 rfl rfl (by decide) (Nat.le_of_ble_eq_true rfl) rfl dX8_areCrossed_21 ?_
  refine go_aload_n (pc := 24) dX8_areCrossed_24 rfl ?_
  refine gf_8_10 (pc := 25) dX8_areCrossed_25 ?_
  refine go_iload_n (pc := 28) dX8_areCrossed_28 rfl ?_
  obtain ⟨u7, c8, h⟩ := g_bd h
  refine go_callV (pc := 29) (as := [.inl p3]) (st := []) (r := u7.1) (M1 := u7.2) (z_X2_tideAt hok g_isH1 c8) cw_X2_tideAt ml_X8_120 g_isH1.1 rfl rfl (by decide) (Nat.le_of_ble_eq_true rfl) rfl dX8_areCrossed_29 ?_
  refine go_istore (pc := 32) (lv' := [some (.inr 0), some (.inl p1), some (.inl p2), some (.inl p3), some (.inl u7.1), none, none, none]) dX8_areCrossed_32 (by decide) rfl ?_
  refine go_aload_n (pc := 34) dX8_areCrossed_34 rfl ?_
  refine gf_8_10 (pc := 35) dX8_areCrossed_35 ?_
  refine go_iload_n (pc := 38) dX8_areCrossed_38 rfl ?_
  obtain ⟨u9, c10, h⟩ := g_bd h
  refine go_callV (pc := 39) (as := [.inl p3]) (st := []) (r := u9.1) (M1 := u9.2) (z_X2_windAt hok g_isH1 c10) cw_X2_windAt ml_X8_123 g_isH1.1 rfl rfl (by decide) (Nat.le_of_ble_eq_true rfl) rfl dX8_areCrossed_39 ?_
  refine go_istore (pc := 42) (lv' := [some (.inr 0), some (.inl p1), some (.inl p2), some (.inl p3), some (.inl u7.1), some (.inl u9.1), none, none]) dX8_areCrossed_42 (by decide) rfl ?_
  refine go_aload_n (pc := 44) dX8_areCrossed_44 rfl ?_
  refine gf_8_54 (pc := 45) dX8_areCrossed_45 ?_
  refine gf_8_250 (pc := 48) g_isM27 dX8_areCrossed_48 ?_
  refine go_aload_n (pc := 51) dX8_areCrossed_51 rfl ?_
  refine gf_8_58 (pc := 52) dX8_areCrossed_52 ?_
  refine gf_8_250 (pc := 55) g_isM28 dX8_areCrossed_55 ?_
  obtain ⟨u11, c12, h⟩ := g_bd h
  refine go_callS (pc := 58) (as := [.inl (u9.2 27 2), .inl (u9.2 28 2)]) (st := []) (r := u11.1) (M1 := u11.2) (z_J6_compare_7cf53 hok  c12) cw_J6_compare_7cf53 ml_X8_253 (by decide) (Nat.le_of_ble_eq_true rfl) rfl dX8_areCrossed_58 ?_
  refine go_istore (pc := 61) (lv' := [some (.inr 0), some (.inl p1), some (.inl p2), some (.inl p3), some (.inl u7.1), some (.inl u9.1), some (.inl u11.1), none]) dX8_areCrossed_61 (by decide) rfl ?_
  refine go_aload_n (pc := 63) dX8_areCrossed_63 rfl ?_
  refine gf_8_54 (pc := 64) dX8_areCrossed_64 ?_
  refine go_iload (pc := 67) dX8_areCrossed_67 rfl ?_
  refine go_iload (pc := 69) dX8_areCrossed_69 rfl ?_
  obtain ⟨u13, c14, h⟩ := g_bd h
  refine go_callV (pc := 71) (as := [.inl u7.1, .inl u9.1]) (st := []) (r := u13.1) (M1 := u13.2) (z_X5_blownMiddle hok g_isM27 c14) cw_X5_blownMiddle ml_X8_185 g_isM27 rfl rfl (by decide) (Nat.le_of_ble_eq_true rfl) rfl dX8_areCrossed_71 ?_
  refine go_aload_n (pc := 74) dX8_areCrossed_74 rfl ?_
  refine gf_8_58 (pc := 75) dX8_areCrossed_75 ?_
  refine go_iload (pc := 78) dX8_areCrossed_78 rfl ?_
  refine go_iload (pc := 80) dX8_areCrossed_80 rfl ?_
  obtain ⟨u15, c16, h⟩ := g_bd h
  refine go_callV (pc := 82) (as := [.inl u7.1, .inl u9.1]) (st := [.inl u13.1]) (r := u15.1) (M1 := u15.2) (z_X5_blownMiddle hok g_isM28 c16) cw_X5_blownMiddle ml_X8_185 g_isM28 rfl rfl (by decide) (Nat.le_of_ble_eq_true rfl) rfl dX8_areCrossed_82 ?_
  obtain ⟨u17, c18, h⟩ := g_bd h
  refine go_callS (pc := 85) (as := [.inl u13.1, .inl u15.1]) (st := []) (r := u17.1) (M1 := u17.2) (z_J6_compare_7cf53 hok  c18) cw_J6_compare_7cf53 ml_X8_253 (by decide) (Nat.le_of_ble_eq_true rfl) rfl dX8_areCrossed_85 ?_
  refine go_istore (pc := 88) (lv' := [some (.inr 0), some (.inl p1), some (.inl p2), some (.inl p3), some (.inl u7.1), some (.inl u9.1), some (.inl u11.1), some (.inl u17.1)]) dX8_areCrossed_88 (by decide) rfl ?_
  refine go_iload (pc := 90) dX8_areCrossed_90 rfl ?_
  refine go_if_ge (pc := 92) (tgt := 100) dX8_areCrossed_92 (by decide) (fun e20 => ?_) (fun e20 => ?_)
  · replace h := (if_pos e20).symm.trans h
    exact go_to (z_X8_areCrossed_L100 hok   h) (And.intro rfl (And.intro rfl trivial))
  · replace h := (if_neg e20).symm.trans h
    refine go_iload (pc := 95) dX8_areCrossed_95 rfl ?_
    refine go_if_gt (pc := 97) (tgt := 110) dX8_areCrossed_97 (by decide) (fun e19 => ?_) (fun e19 => ?_)
    · replace h := (if_pos e19).symm.trans h
      refine go_iconst (pc := 110) (v := (1 : Int32)) dX8_areCrossed_110 (by decide) ?_
      refine go_goto (pc := 111) (tgt := 115) dX8_areCrossed_111 (by decide) ?_
      exact go_iret (pc := 115) (Option.some.inj h).symm rfl dX8_areCrossed_115 rfl
    · replace h := (if_neg e19).symm.trans h
      exact go_to (z_X8_areCrossed_L100 hok   h) (And.intro rfl (And.intro rfl trivial))
def x_X8_crossed_L33  (k17 : Int32 → Int32 → Int32 → g_M → Option (Int32 × g_M)) : Nat → Int32 → Int32 → Int32 → Int32 → g_M → Option (Int32 × g_M)
  | 0, _, _, _, _, _ => none
  | n + 1, v1, v2, v3, v4, M => (if (M 1 6) ≤ v4 then (k17 v1 v2 (v3 + (1 : Int32)) M) else (((x_X8_areCrossed v3 v4 v1 M).bind fun u1 => if u1.1 = 0 then (x_X8_crossed_L33  k17 n v1 v2 v3 (v4 + (1 : Int32)) u1.2) else (x_X8_crossed_L33  k17 n v1 (v2 + (1 : Int32)) v3 (v4 + (1 : Int32)) u1.2))))
set_option maxHeartbeats 4000000 in
set_option maxRecDepth 100000 in
theorem z_X8_crossed_L33 {X : g_X} (hok : g_ok X)  {r : Int32 × g_M} {k17 : Int32 → Int32 → Int32 → g_M → Option (Int32 × g_M)} (hk17 : ∀ (v1 : Int32) (v2 : Int32) (v3 : Int32) (M : g_M), k17 v1 v2 v3 M = some r → g_Go X cX8_crossed RX8 5 (some .int) 5 118 r 17 [some (.inr 0), some (.inl v1), some (.inl v2), some (.inl v3), none] [] M) : ∀ (n : Nat) (v1 : Int32) (v2 : Int32) (v3 : Int32) (v4 : Int32) (M : g_M), x_X8_crossed_L33  k17 n v1 v2 v3 v4 M = some r → g_Go X cX8_crossed RX8 5 (some .int) 5 118 r 33 [some (.inr 0), some (.inl v1), some (.inl v2), some (.inl v3), some (.inl v4)] [] M := by
  intro n
  induction n with
  | zero =>
    intro v1 v2 v3 v4 M h
    rw [x_X8_crossed_L33] at h
    cases h
  | succ n ih =>
    intro v1 v2 v3 v4 M h
    rw [x_X8_crossed_L33] at h
    refine go_iload (pc := 33) dX8_crossed_33 rfl ?_
    refine go_aload_n (pc := 35) dX8_crossed_35 rfl ?_
    refine gf_8_10 (pc := 36) dX8_crossed_36 ?_
    refine gf_8_243 (pc := 39) g_isH1 dX8_crossed_39 ?_
    refine go_icmp_ge (pc := 42) (tgt := 65) dX8_crossed_42 (by decide) (fun e4 => ?_) (fun e4 => ?_)
    · replace h := (if_pos e4).symm.trans h
      refine go_iinc (pc := 65) (v := (1 : Int32)) (lv' := [some (.inr 0), some (.inl v1), some (.inl v2), some (.inl (v3 + (1 : Int32))), some (.inl v4)]) dX8_crossed_65 rfl (by decide) (by decide) rfl ?_
      refine go_goto (pc := 68) (tgt := 17) dX8_crossed_68 (by decide) ?_
      exact go_to (hk17 _ _ _ _ h) (And.intro rfl (And.intro rfl (And.intro rfl (And.intro rfl trivial))))
    · replace h := (if_neg e4).symm.trans h
      refine go_aload_n (pc := 45) dX8_crossed_45 rfl ?_
      refine go_iload_n (pc := 46) dX8_crossed_46 rfl ?_
      refine go_iload (pc := 47) dX8_crossed_47 rfl ?_
      refine go_iload_n (pc := 49) dX8_crossed_49 rfl ?_
      obtain ⟨u1, c2, h⟩ := g_bd h
      refine go_callV (pc := 50) (as := [.inl v3, .inl v4, .inl v1]) (st := []) (r := u1.1) (M1 := u1.2) (z_X8_areCrossed hok  c2) cw_X8_areCrossed ml_X8_246 (show g_lay[0]? = some _ from rfl) rfl rfl (by decide) (Nat.le_of_ble_eq_true rfl) rfl dX8_crossed_50 ?_
      refine go_if_eq (pc := 53) (tgt := 59) dX8_crossed_53 (by decide) (fun e3 => ?_) (fun e3 => ?_)
      · replace h := (if_pos e3).symm.trans h
        refine go_iinc (pc := 59) (v := (1 : Int32)) (lv' := [some (.inr 0), some (.inl v1), some (.inl v2), some (.inl v3), some (.inl (v4 + (1 : Int32)))]) dX8_crossed_59 rfl (by decide) (by decide) rfl ?_
        refine go_goto (pc := 62) (tgt := 33) dX8_crossed_62 (by decide) ?_
        exact go_to (ih _ _ _ _ _ h) (And.intro rfl (And.intro rfl (And.intro rfl (And.intro rfl (And.intro rfl trivial)))))
      · replace h := (if_neg e3).symm.trans h
        refine go_iinc (pc := 56) (v := (1 : Int32)) (lv' := [some (.inr 0), some (.inl v1), some (.inl (v2 + (1 : Int32))), some (.inl v3), some (.inl v4)]) dX8_crossed_56 rfl (by decide) (by decide) rfl ?_
        refine go_iinc (pc := 59) (v := (1 : Int32)) (lv' := [some (.inr 0), some (.inl v1), some (.inl (v2 + (1 : Int32))), some (.inl v3), some (.inl (v4 + (1 : Int32)))]) dX8_crossed_59 rfl (by decide) (by decide) rfl ?_
        refine go_goto (pc := 62) (tgt := 33) dX8_crossed_62 (by decide) ?_
        exact go_to (ih _ _ _ _ _ h) (And.intro rfl (And.intro rfl (And.intro rfl (And.intro rfl (And.intro rfl trivial)))))
def x_X8_crossed_L17   : Nat → Int32 → Int32 → Int32 → g_M → Option (Int32 × g_M)
  | 0, _, _, _, _ => none
  | n + 1, v1, v2, v3, M => (if (M 1 6) ≤ v3 then (some (v2, M)) else (x_X8_crossed_L33  (x_X8_crossed_L17   n) g_F v1 v2 v3 (v3 + (1 : Int32)) M))
set_option maxHeartbeats 4000000 in
set_option maxRecDepth 100000 in
theorem z_X8_crossed_L17 {X : g_X} (hok : g_ok X)  {r : Int32 × g_M}  : ∀ (n : Nat) (v1 : Int32) (v2 : Int32) (v3 : Int32) (M : g_M), x_X8_crossed_L17   n v1 v2 v3 M = some r → g_Go X cX8_crossed RX8 5 (some .int) 5 118 r 17 [some (.inr 0), some (.inl v1), some (.inl v2), some (.inl v3), none] [] M := by
  intro n
  induction n with
  | zero =>
    intro v1 v2 v3 M h
    rw [x_X8_crossed_L17] at h
    cases h
  | succ n ih =>
    intro v1 v2 v3 M h
    rw [x_X8_crossed_L17] at h
    refine go_iload_n (pc := 17) dX8_crossed_17 rfl ?_
    refine go_aload_n (pc := 18) dX8_crossed_18 rfl ?_
    refine gf_8_10 (pc := 19) dX8_crossed_19 ?_
    refine gf_8_243 (pc := 22) g_isH1 dX8_crossed_22 ?_
    refine go_icmp_ge (pc := 25) (tgt := 71) dX8_crossed_25 (by decide) (fun e5 => ?_) (fun e5 => ?_)
    · replace h := (if_pos e5).symm.trans h
      refine go_iload_n (pc := 71) dX8_crossed_71 rfl ?_
      exact go_iret (pc := 72) (Option.some.inj h).symm rfl dX8_crossed_72 rfl
    · replace h := (if_neg e5).symm.trans h
      refine go_iload_n (pc := 28) dX8_crossed_28 rfl ?_
      refine go_iconst (pc := 29) (v := (1 : Int32)) dX8_crossed_29 (by decide) ?_
      refine go_iadd (pc := 30) dX8_crossed_30 ?_
      refine go_istore (pc := 31) (lv' := [some (.inr 0), some (.inl v1), some (.inl v2), some (.inl v3), some (.inl (v3 + (1 : Int32)))]) dX8_crossed_31 (by decide) rfl ?_
      exact go_to (z_X8_crossed_L33 hok  (ih) g_F _ _ _ _ _ h) (And.intro rfl (And.intro rfl (And.intro rfl (And.intro rfl (And.intro rfl trivial)))))
def x_X8_crossed  (p1 : Int32) (M : g_M) : Option (Int32 × g_M) := (((x_X8_isHour p1 M).bind fun u6 => if u6.1 = 0 then (((x_X8_refused (-1 : Int32) u6.2).bind fun u8 => some (u8.1, u8.2))) else (x_X8_crossed_L17   g_F p1 (0 : Int32) (0 : Int32) u6.2)))
set_option maxHeartbeats 4000000 in
set_option maxRecDepth 100000 in
theorem z_X8_crossed {X : g_X} (hok : g_ok X)  {p1 : Int32} {M : g_M} {r : Int32 × g_M} (h : x_X8_crossed p1 M = some r) : g_Con X yX8_crossed cX8_crossed 5 (some .int) 5 118 [.inr 0, .inl p1] M r := by
  rw [x_X8_crossed] at h
  refine g_con hok (plainFor_of_name (by decide +kernel)) (Nat.le_of_ble_eq_true rfl) (go_to (lv2 := [some (.inr 0), some (.inl p1), none, none, none]) (own := RX8) ?_ (And.intro rfl (And.intro rfl trivial)))
  refine go_iload_n (pc := 0) dX8_crossed_0 rfl ?_
  obtain ⟨u6, c7, h⟩ := g_bd h
  refine go_callS (pc := 1) (as := [.inl p1]) (st := []) (r := u6.1) (M1 := u6.2) (z_X8_isHour hok  c7) cw_X8_isHour ml_X8_116 (by decide) (Nat.le_of_ble_eq_true rfl) rfl dX8_crossed_1 ?_
  refine go_if_ne (pc := 4) (tgt := 13) dX8_crossed_4 (by decide) (fun e10 => ?_) (fun e10 => ?_)
  · replace h := (if_neg e10).symm.trans h
    refine go_iconst (pc := 13) (v := (0 : Int32)) dX8_crossed_13 (by decide) ?_
    refine go_istore_n (pc := 14) (lv' := [some (.inr 0), some (.inl p1), some (.inl (0 : Int32)), none, none]) dX8_crossed_14 (by decide) rfl ?_
    refine go_iconst (pc := 15) (v := (0 : Int32)) dX8_crossed_15 (by decide) ?_
    refine go_istore_n (pc := 16) (lv' := [some (.inr 0), some (.inl p1), some (.inl (0 : Int32)), some (.inl (0 : Int32)), none]) dX8_crossed_16 (by decide) rfl ?_
    exact go_to (z_X8_crossed_L17 hok   g_F _ _ _ _ h) (And.intro rfl (And.intro rfl (And.intro rfl (And.intro rfl trivial))))
  · replace h := (if_pos e10).symm.trans h
    refine go_aload_n (pc := 7) dX8_crossed_7 rfl ?_
    refine go_iconst (pc := 8) (v := (-1 : Int32)) dX8_crossed_8 (by decide) ?_
    obtain ⟨u8, c9, h⟩ := g_bd h
    refine go_callV (pc := 9) (as := [.inl (-1 : Int32)]) (st := []) (r := u8.1) (M1 := u8.2) (z_X8_refused hok  c9) cw_X8_refused ml_X8_85 (show g_lay[0]? = some _ from rfl) rfl rfl (by decide) (Nat.le_of_ble_eq_true rfl) rfl dX8_crossed_9 ?_
    exact go_iret (pc := 12) (Option.some.inj h).symm rfl dX8_crossed_12 rfl
def x_X8_skippers  (p1 p2 p3 : Int32) (M : g_M) : Option (Int32 × g_M) := (((x_X8_areTwoBoats p1 p2 M).bind fun u1 => if u1.1 = 0 then (((x_X8_refused (-1 : Int32) u1.2).bind fun u19 => some (u19.1, u19.2))) else (((x_X8_isOneOf p3 (2 : Int32) u1.2).bind fun u3 => if u3.1 = 0 then (((x_X8_refused (-2 : Int32) u3.2).bind fun u16 => some (u16.1, u16.2))) else (((x_X5_load 27 1 p1 u3.2).bind fun u5 => ((x_X5_load 28 1 p2 u5.2).bind fun u7 => ((x_X1_weigh 27 28 (1 + 1) 12 u7.2).bind fun u9 => if p3 = 0 then (((x_X1_firstLength u9.2).bind fun u13 => some (u13.1, u13.2))) else (((x_X1_otherLength u9.2).bind fun u11 => some (u11.1, u11.2)))))))))))
set_option maxHeartbeats 4000000 in
set_option maxRecDepth 100000 in
theorem z_X8_skippers {X : g_X} (hok : g_ok X)  {p1 p2 p3 : Int32} {M : g_M} {r : Int32 × g_M} (h : x_X8_skippers p1 p2 p3 M = some r) : g_Con X yX8_skippers cX8_skippers 4 (some .int) 6 149 [.inr 0, .inl p1, .inl p2, .inl p3] M r := by
  rw [x_X8_skippers] at h
  refine g_con hok (plainFor_of_name (by decide +kernel)) (Nat.le_of_ble_eq_true rfl) (go_to (lv2 := [some (.inr 0), some (.inl p1), some (.inl p2), some (.inl p3)]) (own := RX8) ?_ (And.intro rfl (And.intro rfl (And.intro rfl (And.intro rfl trivial)))))
  refine go_aload_n (pc := 0) dX8_skippers_0 rfl ?_
  refine go_iload_n (pc := 1) dX8_skippers_1 rfl ?_
  refine go_iload_n (pc := 2) dX8_skippers_2 rfl ?_
  obtain ⟨u1, c2, h⟩ := g_bd h
  refine go_callV (pc := 3) (as := [.inl p1, .inl p2]) (st := []) (r := u1.1) (M1 := u1.2) (z_X8_areTwoBoats hok  c2) cw_X8_areTwoBoats ml_X8_236 (show g_lay[0]? = some _ from rfl) rfl rfl (by decide) (Nat.le_of_ble_eq_true rfl) rfl dX8_skippers_3 ?_
  refine go_if_ne (pc := 6) (tgt := 15) dX8_skippers_6 (by decide) (fun e21 => ?_) (fun e21 => ?_)
  · replace h := (if_neg e21).symm.trans h
    refine go_iload_n (pc := 15) dX8_skippers_15 rfl ?_
    refine go_iconst (pc := 16) (v := (2 : Int32)) dX8_skippers_16 (by decide) ?_
    obtain ⟨u3, c4, h⟩ := g_bd h
    refine go_callS (pc := 17) (as := [.inl p3, .inl (2 : Int32)]) (st := []) (r := u3.1) (M1 := u3.2) (z_X8_isOneOf hok  c4) cw_X8_isOneOf ml_X8_153 (by decide) (Nat.le_of_ble_eq_true rfl) rfl dX8_skippers_17 ?_
    refine go_if_ne (pc := 20) (tgt := 30) dX8_skippers_20 (by decide) (fun e18 => ?_) (fun e18 => ?_)
    · replace h := (if_neg e18).symm.trans h
      refine go_aload_n (pc := 30) dX8_skippers_30 rfl ?_
      refine gf_8_54 (pc := 31) dX8_skippers_31 ?_
      refine go_aload_n (pc := 34) dX8_skippers_34 rfl ?_
      refine gf_8_10 (pc := 35) dX8_skippers_35 ?_
      refine go_iload_n (pc := 38) dX8_skippers_38 rfl ?_
      obtain ⟨u5, c6, h⟩ := g_bd h
      refine go_callV (pc := 39) (as := [.inr 1, .inl p1]) (st := []) (r := u5.1) (M1 := u5.2) (z_X5_load hok g_isM27 g_isH1 c6) cw_X5_load ml_X8_166 g_isM27 rfl rfl (by decide) (Nat.le_of_ble_eq_true rfl) rfl dX8_skippers_39 ?_
      refine go_aload_n (pc := 42) dX8_skippers_42 rfl ?_
      refine gf_8_58 (pc := 43) dX8_skippers_43 ?_
      refine go_aload_n (pc := 46) dX8_skippers_46 rfl ?_
      refine gf_8_10 (pc := 47) dX8_skippers_47 ?_
      refine go_iload_n (pc := 50) dX8_skippers_50 rfl ?_
      obtain ⟨u7, c8, h⟩ := g_bd h
      refine go_callV (pc := 51) (as := [.inr 1, .inl p2]) (st := []) (r := u7.1) (M1 := u7.2) (z_X5_load hok g_isM28 g_isH1 c8) cw_X5_load ml_X8_166 g_isM28 rfl rfl (by decide) (Nat.le_of_ble_eq_true rfl) rfl dX8_skippers_51 ?_
      refine go_aload_n (pc := 54) dX8_skippers_54 rfl ?_
      refine gf_8_78 (pc := 55) dX8_skippers_55 ?_
      refine go_aload_n (pc := 58) dX8_skippers_58 rfl ?_
      refine gf_8_54 (pc := 59) dX8_skippers_59 ?_
      refine go_aload_n (pc := 62) dX8_skippers_62 rfl ?_
      refine gf_8_58 (pc := 63) dX8_skippers_63 ?_
      refine go_aload_n (pc := 66) dX8_skippers_66 rfl ?_
      refine gf_8_10 (pc := 67) dX8_skippers_67 ?_
      refine gf_8_188 (pc := 70) g_isH1 dX8_skippers_70 ?_
      obtain ⟨u9, c10, h⟩ := g_bd h
      refine go_callV (pc := 73) (as := [.inr 27, .inr 28, .inr (1 + 1)]) (st := []) (r := u9.1) (M1 := u9.2) (z_X1_weigh hok g_isM27 g_isM28 g_isH1.2.1 c10) cw_X1_weigh ml_X8_256 (show g_lay[37]? = some _ from rfl) rfl rfl (by decide) (Nat.le_of_ble_eq_true rfl) rfl dX8_skippers_73 ?_
      refine go_iload_n (pc := 76) dX8_skippers_76 rfl ?_
      refine go_if_ne (pc := 77) (tgt := 90) dX8_skippers_77 (by decide) (fun e15 => ?_) (fun e15 => ?_)
      · replace h := (if_neg e15).symm.trans h
        refine go_aload_n (pc := 90) dX8_skippers_90 rfl ?_
        refine gf_8_78 (pc := 91) dX8_skippers_91 ?_
        obtain ⟨u11, c12, h⟩ := g_bd h
        refine go_callV (pc := 94) (as := []) (st := []) (r := u11.1) (M1 := u11.2) (z_X1_otherLength hok  c12) cw_X1_otherLength ml_X8_263 (show g_lay[37]? = some _ from rfl) rfl rfl (by decide) (Nat.le_of_ble_eq_true rfl) rfl dX8_skippers_94 ?_
        exact go_iret (pc := 97) (Option.some.inj h).symm rfl dX8_skippers_97 rfl
      · replace h := (if_pos e15).symm.trans h
        refine go_aload_n (pc := 80) dX8_skippers_80 rfl ?_
        refine gf_8_78 (pc := 81) dX8_skippers_81 ?_
        obtain ⟨u13, c14, h⟩ := g_bd h
        refine go_callV (pc := 84) (as := []) (st := []) (r := u13.1) (M1 := u13.2) (z_X1_firstLength hok  c14) cw_X1_firstLength ml_X8_260 (show g_lay[37]? = some _ from rfl) rfl rfl (by decide) (Nat.le_of_ble_eq_true rfl) rfl dX8_skippers_84 ?_
        refine go_goto (pc := 87) (tgt := 97) dX8_skippers_87 (by decide) ?_
        exact go_iret (pc := 97) (Option.some.inj h).symm rfl dX8_skippers_97 rfl
    · replace h := (if_pos e18).symm.trans h
      refine go_aload_n (pc := 23) dX8_skippers_23 rfl ?_
      refine go_bipush (pc := 24) (v := (-2 : Int32)) dX8_skippers_24 (by decide) ?_
      obtain ⟨u16, c17, h⟩ := g_bd h
      refine go_callV (pc := 26) (as := [.inl (-2 : Int32)]) (st := []) (r := u16.1) (M1 := u16.2) (z_X8_refused hok  c17) cw_X8_refused ml_X8_85 (show g_lay[0]? = some _ from rfl) rfl rfl (by decide) (Nat.le_of_ble_eq_true rfl) rfl dX8_skippers_26 ?_
      exact go_iret (pc := 29) (Option.some.inj h).symm rfl dX8_skippers_29 rfl
  · replace h := (if_pos e21).symm.trans h
    refine go_aload_n (pc := 9) dX8_skippers_9 rfl ?_
    refine go_iconst (pc := 10) (v := (-1 : Int32)) dX8_skippers_10 (by decide) ?_
    obtain ⟨u19, c20, h⟩ := g_bd h
    refine go_callV (pc := 11) (as := [.inl (-1 : Int32)]) (st := []) (r := u19.1) (M1 := u19.2) (z_X8_refused hok  c20) cw_X8_refused ml_X8_85 (show g_lay[0]? = some _ from rfl) rfl rfl (by decide) (Nat.le_of_ble_eq_true rfl) rfl dX8_skippers_11 ?_
    exact go_iret (pc := 14) (Option.some.inj h).symm rfl dX8_skippers_14 rfl
def x_X8_orderByNumber_L2   : Nat → Int32 → g_M → Option (Int32 × g_M)
  | 0, _, _ => none
  | n + 1, v1, M => (if (5 : Int32) ≤ v1 then (some (0, M)) else ((if g_inb v1 5 = true then (x_X8_orderByNumber_L2   n (v1 + (1 : Int32)) (g_upd M 40 v1.toNatClampNeg v1)) else none)))
set_option maxHeartbeats 4000000 in
set_option maxRecDepth 100000 in
theorem z_X8_orderByNumber_L2 {X : g_X} (hok : g_ok X)  {r : Int32 × g_M}  : ∀ (n : Nat) (v1 : Int32) (M : g_M), x_X8_orderByNumber_L2   n v1 M = some r → g_Go X cX8_orderByNumber RX8 2 none 0 0 r 2 [some (.inr 0), some (.inl v1)] [] M := by
  intro n
  induction n with
  | zero =>
    intro v1 M h
    rw [x_X8_orderByNumber_L2] at h
    cases h
  | succ n ih =>
    intro v1 M h
    rw [x_X8_orderByNumber_L2] at h
    refine go_iload_n (pc := 2) dX8_orderByNumber_2 rfl ?_
    refine go_iconst (pc := 3) (v := (5 : Int32)) dX8_orderByNumber_3 (by decide) ?_
    refine go_icmp_ge (pc := 4) (tgt := 20) dX8_orderByNumber_4 (by decide) (fun e2 => ?_) (fun e2 => ?_)
    · replace h := (if_pos e2).symm.trans h
      exact go_vret (pc := 20) (Option.some.inj h).symm rfl dX8_orderByNumber_20
    · replace h := (if_neg e2).symm.trans h
      refine go_aload_n (pc := 7) dX8_orderByNumber_7 rfl ?_
      refine gf_8_82 (pc := 8) dX8_orderByNumber_8 ?_
      refine go_iload_n (pc := 11) dX8_orderByNumber_11 rfl ?_
      refine go_iload_n (pc := 12) dX8_orderByNumber_12 rfl ?_
      obtain ⟨i1, h⟩ := g_gd h
      refine go_iast (pc := 13) (n := 5) rfl (g_inb_ok i1) dX8_orderByNumber_13 ?_
      refine go_iinc (pc := 14) (v := (1 : Int32)) (lv' := [some (.inr 0), some (.inl (v1 + (1 : Int32)))]) dX8_orderByNumber_14 rfl (by decide) (by decide) rfl ?_
      refine go_goto (pc := 17) (tgt := 2) dX8_orderByNumber_17 (by decide) ?_
      exact go_to (ih _ _ h) (And.intro rfl (And.intro rfl trivial))
def x_X8_orderByNumber  (M : g_M) : Option (Int32 × g_M) := (x_X8_orderByNumber_L2   g_F (0 : Int32) M)
set_option maxHeartbeats 4000000 in
set_option maxRecDepth 100000 in
theorem z_X8_orderByNumber {X : g_X} (hok : g_ok X)  {M : g_M} {r : Int32 × g_M} (h : x_X8_orderByNumber  M = some r) : g_Con X yX8_orderByNumber cX8_orderByNumber 2 none 0 0 [.inr 0] M r := by
  rw [x_X8_orderByNumber] at h
  refine g_con hok (plainFor_of_name (by decide +kernel)) (Nat.le_of_ble_eq_true rfl) (go_to (lv2 := [some (.inr 0), none]) (own := RX8) ?_ (And.intro rfl trivial))
  refine go_iconst (pc := 0) (v := (0 : Int32)) dX8_orderByNumber_0 (by decide) ?_
  refine go_istore_n (pc := 1) (lv' := [some (.inr 0), some (.inl (0 : Int32))]) dX8_orderByNumber_1 (by decide) rfl ?_
  exact go_to (z_X8_orderByNumber_L2 hok   g_F _ _ h) (And.intro rfl (And.intro rfl trivial))
def x_X8_movesInOrder_L39  (k4 : Int32 → Int32 → g_M → Option (Int32 × g_M)) : Nat → Int32 → Int32 → Int32 → Int32 → g_M → Option (Int32 × g_M)
  | 0, _, _, _, _, _ => none
  | n + 1, v1, v2, v3, v4, M => (if (M 1 6) ≤ v4 then (k4 v1 (v2 + (1 : Int32)) M) else (if (5 : Int32) ≤ v4 then (k4 v1 (v2 + (1 : Int32)) M) else (if v3 = (12 : Int32) then (x_X8_movesInOrder_L39  k4 n v1 v2 v3 (v4 + (1 : Int32)) M) else ((if g_inb v4 5 = true then (((x_X6_at (M 40 v4.toNatClampNeg) M).bind fun u2 => if u2.1 ≤ v3 then (x_X8_movesInOrder_L39  k4 n v1 v2 v3 (v4 + (1 : Int32)) u2.2) else (x_X8_movesInOrder_L39  k4 n (v1 + (1 : Int32)) v2 v3 (v4 + (1 : Int32)) u2.2))) else none)))))
set_option maxHeartbeats 4000000 in
set_option maxRecDepth 100000 in
theorem z_X8_movesInOrder_L39 {X : g_X} (hok : g_ok X)  {r : Int32 × g_M} {k4 : Int32 → Int32 → g_M → Option (Int32 × g_M)} (hk4 : ∀ (v1 : Int32) (v2 : Int32) (M : g_M), k4 v1 v2 M = some r → g_Go X cX8_movesInOrder RX8 5 (some .int) 1 21 r 4 [some (.inr 0), some (.inl v1), some (.inl v2), none, none] [] M) : ∀ (n : Nat) (v1 : Int32) (v2 : Int32) (v3 : Int32) (v4 : Int32) (M : g_M), x_X8_movesInOrder_L39  k4 n v1 v2 v3 v4 M = some r → g_Go X cX8_movesInOrder RX8 5 (some .int) 1 21 r 39 [some (.inr 0), some (.inl v1), some (.inl v2), some (.inl v3), some (.inl v4)] [] M := by
  intro n
  induction n with
  | zero =>
    intro v1 v2 v3 v4 M h
    rw [x_X8_movesInOrder_L39] at h
    cases h
  | succ n ih =>
    intro v1 v2 v3 v4 M h
    rw [x_X8_movesInOrder_L39] at h
    refine go_iload (pc := 39) dX8_movesInOrder_39 rfl ?_
    refine go_aload_n (pc := 41) dX8_movesInOrder_41 rfl ?_
    refine gf_8_10 (pc := 42) dX8_movesInOrder_42 ?_
    refine gf_8_243 (pc := 45) g_isH1 dX8_movesInOrder_45 ?_
    refine go_icmp_ge (pc := 48) (tgt := 90) dX8_movesInOrder_48 (by decide) (fun e7 => ?_) (fun e7 => ?_)
    · replace h := (if_pos e7).symm.trans h
      refine go_iinc (pc := 90) (v := (1 : Int32)) (lv' := [some (.inr 0), some (.inl v1), some (.inl (v2 + (1 : Int32))), some (.inl v3), some (.inl v4)]) dX8_movesInOrder_90 rfl (by decide) (by decide) rfl ?_
      refine go_goto (pc := 93) (tgt := 4) dX8_movesInOrder_93 (by decide) ?_
      exact go_to (hk4 _ _ _ h) (And.intro rfl (And.intro rfl (And.intro rfl trivial)))
    · replace h := (if_neg e7).symm.trans h
      refine go_iload (pc := 51) dX8_movesInOrder_51 rfl ?_
      refine go_iconst (pc := 53) (v := (5 : Int32)) dX8_movesInOrder_53 (by decide) ?_
      refine go_icmp_ge (pc := 54) (tgt := 90) dX8_movesInOrder_54 (by decide) (fun e6 => ?_) (fun e6 => ?_)
      · replace h := (if_pos e6).symm.trans h
        refine go_iinc (pc := 90) (v := (1 : Int32)) (lv' := [some (.inr 0), some (.inl v1), some (.inl (v2 + (1 : Int32))), some (.inl v3), some (.inl v4)]) dX8_movesInOrder_90 rfl (by decide) (by decide) rfl ?_
        refine go_goto (pc := 93) (tgt := 4) dX8_movesInOrder_93 (by decide) ?_
        exact go_to (hk4 _ _ _ h) (And.intro rfl (And.intro rfl (And.intro rfl trivial)))
      · replace h := (if_neg e6).symm.trans h
        refine go_iload_n (pc := 57) dX8_movesInOrder_57 rfl ?_
        refine go_bipush (pc := 58) (v := (12 : Int32)) dX8_movesInOrder_58 (by decide) ?_
        refine go_icmp_eq (pc := 60) (tgt := 84) dX8_movesInOrder_60 (by decide) (fun e5 => ?_) (fun e5 => ?_)
        · replace h := (if_pos e5).symm.trans h
          refine go_iinc (pc := 84) (v := (1 : Int32)) (lv' := [some (.inr 0), some (.inl v1), some (.inl v2), some (.inl v3), some (.inl (v4 + (1 : Int32)))]) dX8_movesInOrder_84 rfl (by decide) (by decide) rfl ?_
          refine go_goto (pc := 87) (tgt := 39) dX8_movesInOrder_87 (by decide) ?_
          exact go_to (ih _ _ _ _ _ h) (And.intro rfl (And.intro rfl (And.intro rfl (And.intro rfl (And.intro rfl trivial)))))
        · replace h := (if_neg e5).symm.trans h
          refine go_aload_n (pc := 63) dX8_movesInOrder_63 rfl ?_
          refine gf_8_36 (pc := 64) dX8_movesInOrder_64 ?_
          refine go_aload_n (pc := 67) dX8_movesInOrder_67 rfl ?_
          refine gf_8_82 (pc := 68) dX8_movesInOrder_68 ?_
          refine go_iload (pc := 71) dX8_movesInOrder_71 rfl ?_
          obtain ⟨i1, h⟩ := g_gd h
          refine go_iald (pc := 73) (n := 5) rfl (g_inb_ok i1) dX8_movesInOrder_73 ?_
          obtain ⟨u2, c3, h⟩ := g_bd h
          refine go_callV (pc := 74) (as := [.inl (M 40 v4.toNatClampNeg)]) (st := []) (r := u2.1) (M1 := u2.2) (z_X6_at hok  c3) cw_X6_at ml_X8_282 (show g_lay[21]? = some _ from rfl) rfl rfl (by decide) (Nat.le_of_ble_eq_true rfl) rfl dX8_movesInOrder_74 ?_
          refine go_iload_n (pc := 77) dX8_movesInOrder_77 rfl ?_
          refine go_icmp_le (pc := 78) (tgt := 84) dX8_movesInOrder_78 (by decide) (fun e4 => ?_) (fun e4 => ?_)
          · replace h := (if_pos e4).symm.trans h
            refine go_iinc (pc := 84) (v := (1 : Int32)) (lv' := [some (.inr 0), some (.inl v1), some (.inl v2), some (.inl v3), some (.inl (v4 + (1 : Int32)))]) dX8_movesInOrder_84 rfl (by decide) (by decide) rfl ?_
            refine go_goto (pc := 87) (tgt := 39) dX8_movesInOrder_87 (by decide) ?_
            exact go_to (ih _ _ _ _ _ h) (And.intro rfl (And.intro rfl (And.intro rfl (And.intro rfl (And.intro rfl trivial)))))
          · replace h := (if_neg e4).symm.trans h
            refine go_iinc (pc := 81) (v := (1 : Int32)) (lv' := [some (.inr 0), some (.inl (v1 + (1 : Int32))), some (.inl v2), some (.inl v3), some (.inl v4)]) dX8_movesInOrder_81 rfl (by decide) (by decide) rfl ?_
            refine go_iinc (pc := 84) (v := (1 : Int32)) (lv' := [some (.inr 0), some (.inl (v1 + (1 : Int32))), some (.inl v2), some (.inl v3), some (.inl (v4 + (1 : Int32)))]) dX8_movesInOrder_84 rfl (by decide) (by decide) rfl ?_
            refine go_goto (pc := 87) (tgt := 39) dX8_movesInOrder_87 (by decide) ?_
            exact go_to (ih _ _ _ _ _ h) (And.intro rfl (And.intro rfl (And.intro rfl (And.intro rfl (And.intro rfl trivial)))))
def x_X8_movesInOrder_L4   : Nat → Int32 → Int32 → g_M → Option (Int32 × g_M)
  | 0, _, _, _ => none
  | n + 1, v1, v2, M => (if (M 1 6) ≤ v2 then (some (v1, M)) else (if (5 : Int32) ≤ v2 then (some (v1, M)) else ((if g_inb v2 5 = true then (((x_X6_at (M 40 v2.toNatClampNeg) M).bind fun u9 => x_X8_movesInOrder_L39  (x_X8_movesInOrder_L4   n) g_F v1 v2 u9.1 (v2 + (1 : Int32)) u9.2)) else none))))
set_option maxHeartbeats 4000000 in
set_option maxRecDepth 100000 in
theorem z_X8_movesInOrder_L4 {X : g_X} (hok : g_ok X)  {r : Int32 × g_M}  : ∀ (n : Nat) (v1 : Int32) (v2 : Int32) (M : g_M), x_X8_movesInOrder_L4   n v1 v2 M = some r → g_Go X cX8_movesInOrder RX8 5 (some .int) 1 21 r 4 [some (.inr 0), some (.inl v1), some (.inl v2), none, none] [] M := by
  intro n
  induction n with
  | zero =>
    intro v1 v2 M h
    rw [x_X8_movesInOrder_L4] at h
    cases h
  | succ n ih =>
    intro v1 v2 M h
    rw [x_X8_movesInOrder_L4] at h
    refine go_iload_n (pc := 4) dX8_movesInOrder_4 rfl ?_
    refine go_aload_n (pc := 5) dX8_movesInOrder_5 rfl ?_
    refine gf_8_10 (pc := 6) dX8_movesInOrder_6 ?_
    refine gf_8_243 (pc := 9) g_isH1 dX8_movesInOrder_9 ?_
    refine go_icmp_ge (pc := 12) (tgt := 96) dX8_movesInOrder_12 (by decide) (fun e12 => ?_) (fun e12 => ?_)
    · replace h := (if_pos e12).symm.trans h
      refine go_iload_n (pc := 96) dX8_movesInOrder_96 rfl ?_
      exact go_iret (pc := 97) (Option.some.inj h).symm rfl dX8_movesInOrder_97 rfl
    · replace h := (if_neg e12).symm.trans h
      refine go_iload_n (pc := 15) dX8_movesInOrder_15 rfl ?_
      refine go_iconst (pc := 16) (v := (5 : Int32)) dX8_movesInOrder_16 (by decide) ?_
      refine go_icmp_ge (pc := 17) (tgt := 96) dX8_movesInOrder_17 (by decide) (fun e11 => ?_) (fun e11 => ?_)
      · replace h := (if_pos e11).symm.trans h
        refine go_iload_n (pc := 96) dX8_movesInOrder_96 rfl ?_
        exact go_iret (pc := 97) (Option.some.inj h).symm rfl dX8_movesInOrder_97 rfl
      · replace h := (if_neg e11).symm.trans h
        refine go_aload_n (pc := 20) dX8_movesInOrder_20 rfl ?_
        refine gf_8_36 (pc := 21) dX8_movesInOrder_21 ?_
        refine go_aload_n (pc := 24) dX8_movesInOrder_24 rfl ?_
        refine gf_8_82 (pc := 25) dX8_movesInOrder_25 ?_
        refine go_iload_n (pc := 28) dX8_movesInOrder_28 rfl ?_
        obtain ⟨i8, h⟩ := g_gd h
        refine go_iald (pc := 29) (n := 5) rfl (g_inb_ok i8) dX8_movesInOrder_29 ?_
        obtain ⟨u9, c10, h⟩ := g_bd h
        refine go_callV (pc := 30) (as := [.inl (M 40 v2.toNatClampNeg)]) (st := []) (r := u9.1) (M1 := u9.2) (z_X6_at hok  c10) cw_X6_at ml_X8_282 (show g_lay[21]? = some _ from rfl) rfl rfl (by decide) (Nat.le_of_ble_eq_true rfl) rfl dX8_movesInOrder_30 ?_
        refine go_istore_n (pc := 33) (lv' := [some (.inr 0), some (.inl v1), some (.inl v2), some (.inl u9.1), none]) dX8_movesInOrder_33 (by decide) rfl ?_
        refine go_iload_n (pc := 34) dX8_movesInOrder_34 rfl ?_
        refine go_iconst (pc := 35) (v := (1 : Int32)) dX8_movesInOrder_35 (by decide) ?_
        refine go_iadd (pc := 36) dX8_movesInOrder_36 ?_
        refine go_istore (pc := 37) (lv' := [some (.inr 0), some (.inl v1), some (.inl v2), some (.inl u9.1), some (.inl (v2 + (1 : Int32)))]) dX8_movesInOrder_37 (by decide) rfl ?_
        exact go_to (z_X8_movesInOrder_L39 hok  (ih) g_F _ _ _ _ _ h) (And.intro rfl (And.intro rfl (And.intro rfl (And.intro rfl (And.intro rfl trivial)))))
def x_X8_movesInOrder  (M : g_M) : Option (Int32 × g_M) := (x_X8_movesInOrder_L4   g_F (0 : Int32) (0 : Int32) M)
set_option maxHeartbeats 4000000 in
set_option maxRecDepth 100000 in
theorem z_X8_movesInOrder {X : g_X} (hok : g_ok X)  {M : g_M} {r : Int32 × g_M} (h : x_X8_movesInOrder  M = some r) : g_Con X yX8_movesInOrder cX8_movesInOrder 5 (some .int) 1 21 [.inr 0] M r := by
  rw [x_X8_movesInOrder] at h
  refine g_con hok (plainFor_of_name (by decide +kernel)) (Nat.le_of_ble_eq_true rfl) (go_to (lv2 := [some (.inr 0), none, none, none, none]) (own := RX8) ?_ (And.intro rfl trivial))
  refine go_iconst (pc := 0) (v := (0 : Int32)) dX8_movesInOrder_0 (by decide) ?_
  refine go_istore_n (pc := 1) (lv' := [some (.inr 0), some (.inl (0 : Int32)), none, none, none]) dX8_movesInOrder_1 (by decide) rfl ?_
  refine go_iconst (pc := 2) (v := (0 : Int32)) dX8_movesInOrder_2 (by decide) ?_
  refine go_istore_n (pc := 3) (lv' := [some (.inr 0), some (.inl (0 : Int32)), some (.inl (0 : Int32)), none, none]) dX8_movesInOrder_3 (by decide) rfl ?_
  exact go_to (z_X8_movesInOrder_L4 hok   g_F _ _ _ h) (And.intro rfl (And.intro rfl (And.intro rfl trivial)))
def x_X8_orderLatestInmost_L11  (k5 : Int32 → Int32 → g_M → Option (Int32 × g_M)) : Nat → Int32 → Int32 → Int32 → g_M → Option (Int32 × g_M)
  | 0, _, _, _, _ => none
  | n + 1, v1, v2, v3, M => (if (M 1 6) ≤ v3 then (k5 v1 (v2 + (-1 : Int32)) M) else (((x_X6_at v3 M).bind fun u1 => if u1.1 = v2 then (if (5 : Int32) ≤ v1 then (x_X8_orderLatestInmost_L11  k5 n v1 v2 (v3 + (1 : Int32)) u1.2) else ((if g_inb v1 5 = true then (x_X8_orderLatestInmost_L11  k5 n (v1 + (1 : Int32)) v2 (v3 + (1 : Int32)) (g_upd u1.2 40 v1.toNatClampNeg v3)) else none))) else (x_X8_orderLatestInmost_L11  k5 n v1 v2 (v3 + (1 : Int32)) u1.2))))
set_option maxHeartbeats 4000000 in
set_option maxRecDepth 100000 in
theorem z_X8_orderLatestInmost_L11 {X : g_X} (hok : g_ok X)  {r : Int32 × g_M} {k5 : Int32 → Int32 → g_M → Option (Int32 × g_M)} (hk5 : ∀ (v1 : Int32) (v2 : Int32) (M : g_M), k5 v1 v2 M = some r → g_Go X cX8_orderLatestInmost RX8 4 none 1 21 r 5 [some (.inr 0), some (.inl v1), some (.inl v2), none] [] M) : ∀ (n : Nat) (v1 : Int32) (v2 : Int32) (v3 : Int32) (M : g_M), x_X8_orderLatestInmost_L11  k5 n v1 v2 v3 M = some r → g_Go X cX8_orderLatestInmost RX8 4 none 1 21 r 11 [some (.inr 0), some (.inl v1), some (.inl v2), some (.inl v3)] [] M := by
  intro n
  induction n with
  | zero =>
    intro v1 v2 v3 M h
    rw [x_X8_orderLatestInmost_L11] at h
    cases h
  | succ n ih =>
    intro v1 v2 v3 M h
    rw [x_X8_orderLatestInmost_L11] at h
    refine go_iload_n (pc := 11) dX8_orderLatestInmost_11 rfl ?_
    refine go_aload_n (pc := 12) dX8_orderLatestInmost_12 rfl ?_
    refine gf_8_10 (pc := 13) dX8_orderLatestInmost_13 ?_
    refine gf_8_243 (pc := 16) g_isH1 dX8_orderLatestInmost_16 ?_
    refine go_icmp_ge (pc := 19) (tgt := 55) dX8_orderLatestInmost_19 (by decide) (fun e6 => ?_) (fun e6 => ?_)
    · replace h := (if_pos e6).symm.trans h
      refine go_iinc (pc := 55) (v := (-1 : Int32)) (lv' := [some (.inr 0), some (.inl v1), some (.inl (v2 + (-1 : Int32))), some (.inl v3)]) dX8_orderLatestInmost_55 rfl (by decide) (by decide) rfl ?_
      refine go_goto (pc := 58) (tgt := 5) dX8_orderLatestInmost_58 (by decide) ?_
      exact go_to (hk5 _ _ _ h) (And.intro rfl (And.intro rfl (And.intro rfl trivial)))
    · replace h := (if_neg e6).symm.trans h
      refine go_aload_n (pc := 22) dX8_orderLatestInmost_22 rfl ?_
      refine gf_8_36 (pc := 23) dX8_orderLatestInmost_23 ?_
      refine go_iload_n (pc := 26) dX8_orderLatestInmost_26 rfl ?_
      obtain ⟨u1, c2, h⟩ := g_bd h
      refine go_callV (pc := 27) (as := [.inl v3]) (st := []) (r := u1.1) (M1 := u1.2) (z_X6_at hok  c2) cw_X6_at ml_X8_282 (show g_lay[21]? = some _ from rfl) rfl rfl (by decide) (Nat.le_of_ble_eq_true rfl) rfl dX8_orderLatestInmost_27 ?_
      refine go_iload_n (pc := 30) dX8_orderLatestInmost_30 rfl ?_
      refine go_icmp_ne (pc := 31) (tgt := 49) dX8_orderLatestInmost_31 (by decide) (fun e5 => ?_) (fun e5 => ?_)
      · replace h := (if_neg e5).symm.trans h
        refine go_iinc (pc := 49) (v := (1 : Int32)) (lv' := [some (.inr 0), some (.inl v1), some (.inl v2), some (.inl (v3 + (1 : Int32)))]) dX8_orderLatestInmost_49 rfl (by decide) (by decide) rfl ?_
        refine go_goto (pc := 52) (tgt := 11) dX8_orderLatestInmost_52 (by decide) ?_
        exact go_to (ih _ _ _ _ h) (And.intro rfl (And.intro rfl (And.intro rfl (And.intro rfl trivial))))
      · replace h := (if_pos e5).symm.trans h
        refine go_iload_n (pc := 34) dX8_orderLatestInmost_34 rfl ?_
        refine go_iconst (pc := 35) (v := (5 : Int32)) dX8_orderLatestInmost_35 (by decide) ?_
        refine go_icmp_ge (pc := 36) (tgt := 49) dX8_orderLatestInmost_36 (by decide) (fun e4 => ?_) (fun e4 => ?_)
        · replace h := (if_pos e4).symm.trans h
          refine go_iinc (pc := 49) (v := (1 : Int32)) (lv' := [some (.inr 0), some (.inl v1), some (.inl v2), some (.inl (v3 + (1 : Int32)))]) dX8_orderLatestInmost_49 rfl (by decide) (by decide) rfl ?_
          refine go_goto (pc := 52) (tgt := 11) dX8_orderLatestInmost_52 (by decide) ?_
          exact go_to (ih _ _ _ _ h) (And.intro rfl (And.intro rfl (And.intro rfl (And.intro rfl trivial))))
        · replace h := (if_neg e4).symm.trans h
          refine go_aload_n (pc := 39) dX8_orderLatestInmost_39 rfl ?_
          refine gf_8_82 (pc := 40) dX8_orderLatestInmost_40 ?_
          refine go_iload_n (pc := 43) dX8_orderLatestInmost_43 rfl ?_
          refine go_iload_n (pc := 44) dX8_orderLatestInmost_44 rfl ?_
          obtain ⟨i3, h⟩ := g_gd h
          refine go_iast (pc := 45) (n := 5) rfl (g_inb_ok i3) dX8_orderLatestInmost_45 ?_
          refine go_iinc (pc := 46) (v := (1 : Int32)) (lv' := [some (.inr 0), some (.inl (v1 + (1 : Int32))), some (.inl v2), some (.inl v3)]) dX8_orderLatestInmost_46 rfl (by decide) (by decide) rfl ?_
          refine go_iinc (pc := 49) (v := (1 : Int32)) (lv' := [some (.inr 0), some (.inl (v1 + (1 : Int32))), some (.inl v2), some (.inl (v3 + (1 : Int32)))]) dX8_orderLatestInmost_49 rfl (by decide) (by decide) rfl ?_
          refine go_goto (pc := 52) (tgt := 11) dX8_orderLatestInmost_52 (by decide) ?_
          exact go_to (ih _ _ _ _ h) (And.intro rfl (And.intro rfl (And.intro rfl (And.intro rfl trivial))))
def x_X8_orderLatestInmost_L5   : Nat → Int32 → Int32 → g_M → Option (Int32 × g_M)
  | 0, _, _, _ => none
  | n + 1, v1, v2, M => (if v2 < 0 then (some (0, M)) else (x_X8_orderLatestInmost_L11  (x_X8_orderLatestInmost_L5   n) g_F v1 v2 (0 : Int32) M))
set_option maxHeartbeats 4000000 in
set_option maxRecDepth 100000 in
theorem z_X8_orderLatestInmost_L5 {X : g_X} (hok : g_ok X)  {r : Int32 × g_M}  : ∀ (n : Nat) (v1 : Int32) (v2 : Int32) (M : g_M), x_X8_orderLatestInmost_L5   n v1 v2 M = some r → g_Go X cX8_orderLatestInmost RX8 4 none 1 21 r 5 [some (.inr 0), some (.inl v1), some (.inl v2), none] [] M := by
  intro n
  induction n with
  | zero =>
    intro v1 v2 M h
    rw [x_X8_orderLatestInmost_L5] at h
    cases h
  | succ n ih =>
    intro v1 v2 M h
    rw [x_X8_orderLatestInmost_L5] at h
    refine go_iload_n (pc := 5) dX8_orderLatestInmost_5 rfl ?_
    refine go_if_lt (pc := 6) (tgt := 61) dX8_orderLatestInmost_6 (by decide) (fun e7 => ?_) (fun e7 => ?_)
    · replace h := (if_pos e7).symm.trans h
      exact go_vret (pc := 61) (Option.some.inj h).symm rfl dX8_orderLatestInmost_61
    · replace h := (if_neg e7).symm.trans h
      refine go_iconst (pc := 9) (v := (0 : Int32)) dX8_orderLatestInmost_9 (by decide) ?_
      refine go_istore_n (pc := 10) (lv' := [some (.inr 0), some (.inl v1), some (.inl v2), some (.inl (0 : Int32))]) dX8_orderLatestInmost_10 (by decide) rfl ?_
      exact go_to (z_X8_orderLatestInmost_L11 hok  (ih) g_F _ _ _ _ h) (And.intro rfl (And.intro rfl (And.intro rfl (And.intro rfl trivial))))
def x_X8_orderLatestInmost  (M : g_M) : Option (Int32 × g_M) := (x_X8_orderLatestInmost_L5   g_F (0 : Int32) (12 : Int32) M)
set_option maxHeartbeats 4000000 in
set_option maxRecDepth 100000 in
theorem z_X8_orderLatestInmost {X : g_X} (hok : g_ok X)  {M : g_M} {r : Int32 × g_M} (h : x_X8_orderLatestInmost  M = some r) : g_Con X yX8_orderLatestInmost cX8_orderLatestInmost 4 none 1 21 [.inr 0] M r := by
  rw [x_X8_orderLatestInmost] at h
  refine g_con hok (plainFor_of_name (by decide +kernel)) (Nat.le_of_ble_eq_true rfl) (go_to (lv2 := [some (.inr 0), none, none, none]) (own := RX8) ?_ (And.intro rfl trivial))
  refine go_iconst (pc := 0) (v := (0 : Int32)) dX8_orderLatestInmost_0 (by decide) ?_
  refine go_istore_n (pc := 1) (lv' := [some (.inr 0), some (.inl (0 : Int32)), none, none]) dX8_orderLatestInmost_1 (by decide) rfl ?_
  refine go_bipush (pc := 2) (v := (12 : Int32)) dX8_orderLatestInmost_2 (by decide) ?_
  refine go_istore_n (pc := 4) (lv' := [some (.inr 0), some (.inl (0 : Int32)), some (.inl (12 : Int32)), none]) dX8_orderLatestInmost_4 (by decide) rfl ?_
  exact go_to (z_X8_orderLatestInmost_L5 hok   g_F _ _ _ h) (And.intro rfl (And.intro rfl (And.intro rfl trivial)))
def x_X8_orderDigits_L16   : Nat → Int32 → Int32 → g_M → Option (Int32 × g_M)
  | 0, _, _, _ => none
  | n + 1, v1, v2, M => (if v2 < 0 then (some (v1, M)) else ((if g_inb v2 5 = true then (x_X8_orderDigits_L16   n ((v1 * (10 : Int32)) + (M 40 v2.toNatClampNeg)) (v2 + (-1 : Int32)) M) else none)))
set_option maxHeartbeats 4000000 in
set_option maxRecDepth 100000 in
theorem z_X8_orderDigits_L16 {X : g_X} (hok : g_ok X)  {r : Int32 × g_M}  : ∀ (n : Nat) (v1 : Int32) (v2 : Int32) (M : g_M), x_X8_orderDigits_L16   n v1 v2 M = some r → g_Go X cX8_orderDigits RX8 3 (some .int) 1 13 r 16 [some (.inr 0), some (.inl v1), some (.inl v2)] [] M := by
  intro n
  induction n with
  | zero =>
    intro v1 v2 M h
    rw [x_X8_orderDigits_L16] at h
    cases h
  | succ n ih =>
    intro v1 v2 M h
    rw [x_X8_orderDigits_L16] at h
    refine go_iload_n (pc := 16) dX8_orderDigits_16 rfl ?_
    refine go_if_lt (pc := 17) (tgt := 38) dX8_orderDigits_17 (by decide) (fun e2 => ?_) (fun e2 => ?_)
    · replace h := (if_pos e2).symm.trans h
      refine go_iload_n (pc := 38) dX8_orderDigits_38 rfl ?_
      exact go_iret (pc := 39) (Option.some.inj h).symm rfl dX8_orderDigits_39 rfl
    · replace h := (if_neg e2).symm.trans h
      refine go_iload_n (pc := 20) dX8_orderDigits_20 rfl ?_
      refine go_bipush (pc := 21) (v := (10 : Int32)) dX8_orderDigits_21 (by decide) ?_
      refine go_imul (pc := 23) dX8_orderDigits_23 ?_
      refine go_aload_n (pc := 24) dX8_orderDigits_24 rfl ?_
      refine gf_8_82 (pc := 25) dX8_orderDigits_25 ?_
      refine go_iload_n (pc := 28) dX8_orderDigits_28 rfl ?_
      obtain ⟨i1, h⟩ := g_gd h
      refine go_iald (pc := 29) (n := 5) rfl (g_inb_ok i1) dX8_orderDigits_29 ?_
      refine go_iadd (pc := 30) dX8_orderDigits_30 ?_
      refine go_istore_n (pc := 31) (lv' := [some (.inr 0), some (.inl ((v1 * (10 : Int32)) + (M 40 v2.toNatClampNeg))), some (.inl v2)]) dX8_orderDigits_31 (by decide) rfl ?_
      refine go_iinc (pc := 32) (v := (-1 : Int32)) (lv' := [some (.inr 0), some (.inl ((v1 * (10 : Int32)) + (M 40 v2.toNatClampNeg))), some (.inl (v2 + (-1 : Int32)))]) dX8_orderDigits_32 rfl (by decide) (by decide) rfl ?_
      refine go_goto (pc := 35) (tgt := 16) dX8_orderDigits_35 (by decide) ?_
      exact go_to (ih _ _ _ h) (And.intro rfl (And.intro rfl (And.intro rfl trivial)))
def x_X8_orderDigits  (M : g_M) : Option (Int32 × g_M) := (x_X8_orderDigits_L16   g_F (0 : Int32) ((g_min (M 1 6) (5 : Int32)) - (1 : Int32)) M)
set_option maxHeartbeats 4000000 in
set_option maxRecDepth 100000 in
theorem z_X8_orderDigits {X : g_X} (hok : g_ok X)  {M : g_M} {r : Int32 × g_M} (h : x_X8_orderDigits  M = some r) : g_Con X yX8_orderDigits cX8_orderDigits 3 (some .int) 1 13 [.inr 0] M r := by
  rw [x_X8_orderDigits] at h
  refine g_con hok (plainFor_of_name (by decide +kernel)) (Nat.le_of_ble_eq_true rfl) (go_to (lv2 := [some (.inr 0), none, none]) (own := RX8) ?_ (And.intro rfl trivial))
  refine go_iconst (pc := 0) (v := (0 : Int32)) dX8_orderDigits_0 (by decide) ?_
  refine go_istore_n (pc := 1) (lv' := [some (.inr 0), some (.inl (0 : Int32)), none]) dX8_orderDigits_1 (by decide) rfl ?_
  refine go_aload_n (pc := 2) dX8_orderDigits_2 rfl ?_
  refine gf_8_10 (pc := 3) dX8_orderDigits_3 ?_
  refine gf_8_243 (pc := 6) g_isH1 dX8_orderDigits_6 ?_
  refine go_iconst (pc := 9) (v := (5 : Int32)) dX8_orderDigits_9 (by decide) ?_
  refine go_mmin (pc := 10) ml_X8_233 lm_min_s lm_i lm_min_c (by decide) (Nat.le_of_ble_eq_true rfl) dX8_orderDigits_10 ?_
  refine go_iconst (pc := 13) (v := (1 : Int32)) dX8_orderDigits_13 (by decide) ?_
  refine go_isub (pc := 14) dX8_orderDigits_14 ?_
  refine go_istore_n (pc := 15) (lv' := [some (.inr 0), some (.inl (0 : Int32)), some (.inl ((g_min (M 1 6) (5 : Int32)) - (1 : Int32)))]) dX8_orderDigits_15 (by decide) rfl ?_
  exact go_to (z_X8_orderDigits_L16 hok   g_F _ _ _ h) (And.intro rfl (And.intro rfl (And.intro rfl trivial)))
def x_X8_alongside  (p1 : Int32) (M : g_M) : Option (Int32 × g_M) := (((x_X8_isOneOf p1 (3 : Int32) M).bind fun u1 => if u1.1 = 0 then (((x_X8_refused (-2 : Int32) u1.2).bind fun u26 => some (u26.1, u26.2))) else (if (u1.2 1 6) = 0 then (((x_X8_refused (-3 : Int32) u1.2).bind fun u3 => some (u3.1, u3.2))) else (if (u1.2 21 1) = (u1.2 1 6) then (((x_X6_greatest u1.2).bind fun u7 => if u7.1 ≤ (12 : Int32) then (if p1 = 0 then (((x_X8_orderByNumber u7.2).bind fun u16 => ((x_X8_movesInOrder u16.2).bind fun u18 => some (u18.1, u18.2)))) else (((x_X8_orderLatestInmost u7.2).bind fun u9 => if p1 = (1 : Int32) then (((x_X8_movesInOrder u9.2).bind fun u13 => some (u13.1, u13.2))) else (((x_X8_orderDigits u9.2).bind fun u11 => some (u11.1, u11.2)))))) else (((x_X8_refused (-3 : Int32) u7.2).bind fun u21 => some (u21.1, u21.2))))) else (((x_X8_refused (-3 : Int32) u1.2).bind fun u5 => some (u5.1, u5.2)))))))
set_option maxHeartbeats 4000000 in
set_option maxRecDepth 100000 in
theorem z_X8_alongside {X : g_X} (hok : g_ok X)  {p1 : Int32} {M : g_M} {r : Int32 × g_M} (h : x_X8_alongside p1 M = some r) : g_Con X yX8_alongside cX8_alongside 2 (some .int) 2 45 [.inr 0, .inl p1] M r := by
  rw [x_X8_alongside] at h
  refine g_con hok (plainFor_of_name (by decide +kernel)) (Nat.le_of_ble_eq_true rfl) (go_to (lv2 := [some (.inr 0), some (.inl p1)]) (own := RX8) ?_ (And.intro rfl (And.intro rfl trivial)))
  refine go_iload_n (pc := 0) dX8_alongside_0 rfl ?_
  refine go_iconst (pc := 1) (v := (3 : Int32)) dX8_alongside_1 (by decide) ?_
  obtain ⟨u1, c2, h⟩ := g_bd h
  refine go_callS (pc := 2) (as := [.inl p1, .inl (3 : Int32)]) (st := []) (r := u1.1) (M1 := u1.2) (z_X8_isOneOf hok  c2) cw_X8_isOneOf ml_X8_153 (by decide) (Nat.le_of_ble_eq_true rfl) rfl dX8_alongside_2 ?_
  refine go_if_ne (pc := 5) (tgt := 15) dX8_alongside_5 (by decide) (fun e28 => ?_) (fun e28 => ?_)
  · replace h := (if_neg e28).symm.trans h
    refine go_aload_n (pc := 15) dX8_alongside_15 rfl ?_
    refine gf_8_10 (pc := 16) dX8_alongside_16 ?_
    refine gf_8_243 (pc := 19) g_isH1 dX8_alongside_19 ?_
    refine go_if_eq (pc := 22) (tgt := 54) dX8_alongside_22 (by decide) (fun e25 => ?_) (fun e25 => ?_)
    · replace h := (if_pos e25).symm.trans h
      refine go_aload_n (pc := 54) dX8_alongside_54 rfl ?_
      refine go_bipush (pc := 55) (v := (-3 : Int32)) dX8_alongside_55 (by decide) ?_
      obtain ⟨u3, c4, h⟩ := g_bd h
      refine go_callV (pc := 57) (as := [.inl (-3 : Int32)]) (st := []) (r := u3.1) (M1 := u3.2) (z_X8_refused hok  c4) cw_X8_refused ml_X8_85 (show g_lay[0]? = some _ from rfl) rfl rfl (by decide) (Nat.le_of_ble_eq_true rfl) rfl dX8_alongside_57 ?_
      exact go_iret (pc := 60) (Option.some.inj h).symm rfl dX8_alongside_60 rfl
    · replace h := (if_neg e25).symm.trans h
      refine go_aload_n (pc := 25) dX8_alongside_25 rfl ?_
      refine gf_8_36 (pc := 26) dX8_alongside_26 ?_
      refine gf_8_266 (pc := 29) dX8_alongside_29 ?_
      refine go_aload_n (pc := 32) dX8_alongside_32 rfl ?_
      refine gf_8_10 (pc := 33) dX8_alongside_33 ?_
      refine gf_8_243 (pc := 36) g_isH1 dX8_alongside_36 ?_
      refine go_icmp_ne (pc := 39) (tgt := 54) dX8_alongside_39 (by decide) (fun e24 => ?_) (fun e24 => ?_)
      · replace h := (if_neg e24).symm.trans h
        refine go_aload_n (pc := 54) dX8_alongside_54 rfl ?_
        refine go_bipush (pc := 55) (v := (-3 : Int32)) dX8_alongside_55 (by decide) ?_
        obtain ⟨u5, c6, h⟩ := g_bd h
        refine go_callV (pc := 57) (as := [.inl (-3 : Int32)]) (st := []) (r := u5.1) (M1 := u5.2) (z_X8_refused hok  c6) cw_X8_refused ml_X8_85 (show g_lay[0]? = some _ from rfl) rfl rfl (by decide) (Nat.le_of_ble_eq_true rfl) rfl dX8_alongside_57 ?_
        exact go_iret (pc := 60) (Option.some.inj h).symm rfl dX8_alongside_60 rfl
      · replace h := (if_pos e24).symm.trans h
        refine go_aload_n (pc := 42) dX8_alongside_42 rfl ?_
        refine gf_8_36 (pc := 43) dX8_alongside_43 ?_
        obtain ⟨u7, c8, h⟩ := g_bd h
        refine go_callV (pc := 46) (as := []) (st := []) (r := u7.1) (M1 := u7.2) (z_X6_greatest hok  c8) cw_X6_greatest ml_X8_267 (show g_lay[21]? = some _ from rfl) rfl rfl (by decide) (Nat.le_of_ble_eq_true rfl) rfl dX8_alongside_46 ?_
        refine go_bipush (pc := 49) (v := (12 : Int32)) dX8_alongside_49 (by decide) ?_
        refine go_icmp_le (pc := 51) (tgt := 61) dX8_alongside_51 (by decide) (fun e23 => ?_) (fun e23 => ?_)
        · replace h := (if_pos e23).symm.trans h
          refine go_iload_n (pc := 61) dX8_alongside_61 rfl ?_
          refine go_if_ne (pc := 62) (tgt := 74) dX8_alongside_62 (by decide) (fun e20 => ?_) (fun e20 => ?_)
          · replace h := (if_neg e20).symm.trans h
            refine go_aload_n (pc := 74) dX8_alongside_74 rfl ?_
            obtain ⟨u9, c10, h⟩ := g_bd h
            refine go_callV (pc := 75) (as := []) (st := []) (r := u9.1) (M1 := u9.2) (z_X8_orderLatestInmost hok  c10) cw_X8_orderLatestInmost ml_X8_276 (show g_lay[0]? = some _ from rfl) rfl rfl (by decide) (Nat.le_of_ble_eq_true rfl) rfl dX8_alongside_75 ?_
            refine go_iload_n (pc := 78) dX8_alongside_78 rfl ?_
            refine go_iconst (pc := 79) (v := (1 : Int32)) dX8_alongside_79 (by decide) ?_
            refine go_icmp_ne (pc := 80) (tgt := 90) dX8_alongside_80 (by decide) (fun e15 => ?_) (fun e15 => ?_)
            · replace h := (if_neg e15).symm.trans h
              refine go_aload_n (pc := 90) dX8_alongside_90 rfl ?_
              obtain ⟨u11, c12, h⟩ := g_bd h
              refine go_callV (pc := 91) (as := []) (st := []) (r := u11.1) (M1 := u11.2) (z_X8_orderDigits hok  c12) cw_X8_orderDigits ml_X8_279 (show g_lay[0]? = some _ from rfl) rfl rfl (by decide) (Nat.le_of_ble_eq_true rfl) rfl dX8_alongside_91 ?_
              exact go_iret (pc := 94) (Option.some.inj h).symm rfl dX8_alongside_94 rfl
            · replace h := (if_pos e15).symm.trans h
              refine go_aload_n (pc := 83) dX8_alongside_83 rfl ?_
              obtain ⟨u13, c14, h⟩ := g_bd h
              refine go_callV (pc := 84) (as := []) (st := []) (r := u13.1) (M1 := u13.2) (z_X8_movesInOrder hok  c14) cw_X8_movesInOrder ml_X8_273 (show g_lay[0]? = some _ from rfl) rfl rfl (by decide) (Nat.le_of_ble_eq_true rfl) rfl dX8_alongside_84 ?_
              refine go_goto (pc := 87) (tgt := 94) dX8_alongside_87 (by decide) ?_
              exact go_iret (pc := 94) (Option.some.inj h).symm rfl dX8_alongside_94 rfl
          · replace h := (if_pos e20).symm.trans h
            refine go_aload_n (pc := 65) dX8_alongside_65 rfl ?_
            obtain ⟨u16, c17, h⟩ := g_bd h
            refine go_callV (pc := 66) (as := []) (st := []) (r := u16.1) (M1 := u16.2) (z_X8_orderByNumber hok  c17) cw_X8_orderByNumber ml_X8_270 (show g_lay[0]? = some _ from rfl) rfl rfl (by decide) (Nat.le_of_ble_eq_true rfl) rfl dX8_alongside_66 ?_
            refine go_aload_n (pc := 69) dX8_alongside_69 rfl ?_
            obtain ⟨u18, c19, h⟩ := g_bd h
            refine go_callV (pc := 70) (as := []) (st := []) (r := u18.1) (M1 := u18.2) (z_X8_movesInOrder hok  c19) cw_X8_movesInOrder ml_X8_273 (show g_lay[0]? = some _ from rfl) rfl rfl (by decide) (Nat.le_of_ble_eq_true rfl) rfl dX8_alongside_70 ?_
            exact go_iret (pc := 73) (Option.some.inj h).symm rfl dX8_alongside_73 rfl
        · replace h := (if_neg e23).symm.trans h
          refine go_aload_n (pc := 54) dX8_alongside_54 rfl ?_
          refine go_bipush (pc := 55) (v := (-3 : Int32)) dX8_alongside_55 (by decide) ?_
          obtain ⟨u21, c22, h⟩ := g_bd h
          refine go_callV (pc := 57) (as := [.inl (-3 : Int32)]) (st := []) (r := u21.1) (M1 := u21.2) (z_X8_refused hok  c22) cw_X8_refused ml_X8_85 (show g_lay[0]? = some _ from rfl) rfl rfl (by decide) (Nat.le_of_ble_eq_true rfl) rfl dX8_alongside_57 ?_
          exact go_iret (pc := 60) (Option.some.inj h).symm rfl dX8_alongside_60 rfl
  · replace h := (if_pos e28).symm.trans h
    refine go_aload_n (pc := 8) dX8_alongside_8 rfl ?_
    refine go_bipush (pc := 9) (v := (-2 : Int32)) dX8_alongside_9 (by decide) ?_
    obtain ⟨u26, c27, h⟩ := g_bd h
    refine go_callV (pc := 11) (as := [.inl (-2 : Int32)]) (st := []) (r := u26.1) (M1 := u26.2) (z_X8_refused hok  c27) cw_X8_refused ml_X8_85 (show g_lay[0]? = some _ from rfl) rfl rfl (by decide) (Nat.le_of_ble_eq_true rfl) rfl dX8_alongside_11 ?_
    exact go_iret (pc := 14) (Option.some.inj h).symm rfl dX8_alongside_14 rfl
def x_X8_mud  (p1 p2 : Int32) (M : g_M) : Option (Int32 × g_M) := (if 0 ≤ p1 then (if p1 ≤ (40 : Int32) then (((x_X8_isHour p2 M).bind fun u1 => if u1.1 = 0 then (((x_X8_refused (-1 : Int32) u1.2).bind fun u5 => some (u5.1, u5.2))) else (((x_X2_firstHourWith 1 (p1 + (1 : Int32)) p2 u1.2).bind fun u3 => some (u3.1, u3.2))))) else (((x_X8_refused (-6 : Int32) M).bind fun u8 => some (u8.1, u8.2)))) else (((x_X8_refused (-4 : Int32) M).bind fun u11 => some (u11.1, u11.2))))
set_option maxHeartbeats 4000000 in
set_option maxRecDepth 100000 in
theorem z_X8_mud {X : g_X} (hok : g_ok X)  {p1 p2 : Int32} {M : g_M} {r : Int32 × g_M} (h : x_X8_mud p1 p2 M = some r) : g_Con X yX8_mud cX8_mud 3 (some .int) 3 66 [.inr 0, .inl p1, .inl p2] M r := by
  rw [x_X8_mud] at h
  refine g_con hok (plainFor_of_name (by decide +kernel)) (Nat.le_of_ble_eq_true rfl) (go_to (lv2 := [some (.inr 0), some (.inl p1), some (.inl p2)]) (own := RX8) ?_ (And.intro rfl (And.intro rfl (And.intro rfl trivial))))
  refine go_iload_n (pc := 0) dX8_mud_0 rfl ?_
  refine go_if_ge (pc := 1) (tgt := 11) dX8_mud_1 (by decide) (fun e13 => ?_) (fun e13 => ?_)
  · replace h := (if_pos e13).symm.trans h
    refine go_iload_n (pc := 11) dX8_mud_11 rfl ?_
    refine go_bipush (pc := 12) (v := (40 : Int32)) dX8_mud_12 (by decide) ?_
    refine go_icmp_le (pc := 14) (tgt := 24) dX8_mud_14 (by decide) (fun e10 => ?_) (fun e10 => ?_)
    · replace h := (if_pos e10).symm.trans h
      refine go_iload_n (pc := 24) dX8_mud_24 rfl ?_
      obtain ⟨u1, c2, h⟩ := g_bd h
      refine go_callS (pc := 25) (as := [.inl p2]) (st := []) (r := u1.1) (M1 := u1.2) (z_X8_isHour hok  c2) cw_X8_isHour ml_X8_116 (by decide) (Nat.le_of_ble_eq_true rfl) rfl dX8_mud_25 ?_
      refine go_if_ne (pc := 28) (tgt := 37) dX8_mud_28 (by decide) (fun e7 => ?_) (fun e7 => ?_)
      · replace h := (if_neg e7).symm.trans h
        refine go_aload_n (pc := 37) dX8_mud_37 rfl ?_
        refine gf_8_10 (pc := 38) dX8_mud_38 ?_
        refine go_iload_n (pc := 41) dX8_mud_41 rfl ?_
        refine go_iconst (pc := 42) (v := (1 : Int32)) dX8_mud_42 (by decide) ?_
        refine go_iadd (pc := 43) dX8_mud_43 ?_
        refine go_iload_n (pc := 44) dX8_mud_44 rfl ?_
        obtain ⟨u3, c4, h⟩ := g_bd h
        refine go_callV (pc := 45) (as := [.inl (p1 + (1 : Int32)), .inl p2]) (st := []) (r := u3.1) (M1 := u3.2) (z_X2_firstHourWith hok g_isH1 c4) cw_X2_firstHourWith ml_X8_285 g_isH1.1 rfl rfl (by decide) (Nat.le_of_ble_eq_true rfl) rfl dX8_mud_45 ?_
        exact go_iret (pc := 48) (Option.some.inj h).symm rfl dX8_mud_48 rfl
      · replace h := (if_pos e7).symm.trans h
        refine go_aload_n (pc := 31) dX8_mud_31 rfl ?_
        refine go_iconst (pc := 32) (v := (-1 : Int32)) dX8_mud_32 (by decide) ?_
        obtain ⟨u5, c6, h⟩ := g_bd h
        refine go_callV (pc := 33) (as := [.inl (-1 : Int32)]) (st := []) (r := u5.1) (M1 := u5.2) (z_X8_refused hok  c6) cw_X8_refused ml_X8_85 (show g_lay[0]? = some _ from rfl) rfl rfl (by decide) (Nat.le_of_ble_eq_true rfl) rfl dX8_mud_33 ?_
        exact go_iret (pc := 36) (Option.some.inj h).symm rfl dX8_mud_36 rfl
    · replace h := (if_neg e10).symm.trans h
      refine go_aload_n (pc := 17) dX8_mud_17 rfl ?_
      refine go_bipush (pc := 18) (v := (-6 : Int32)) dX8_mud_18 (by decide) ?_
      obtain ⟨u8, c9, h⟩ := g_bd h
      refine go_callV (pc := 20) (as := [.inl (-6 : Int32)]) (st := []) (r := u8.1) (M1 := u8.2) (z_X8_refused hok  c9) cw_X8_refused ml_X8_85 (show g_lay[0]? = some _ from rfl) rfl rfl (by decide) (Nat.le_of_ble_eq_true rfl) rfl dX8_mud_20 ?_
      exact go_iret (pc := 23) (Option.some.inj h).symm rfl dX8_mud_23 rfl
  · replace h := (if_neg e13).symm.trans h
    refine go_aload_n (pc := 4) dX8_mud_4 rfl ?_
    refine go_bipush (pc := 5) (v := (-4 : Int32)) dX8_mud_5 (by decide) ?_
    obtain ⟨u11, c12, h⟩ := g_bd h
    refine go_callV (pc := 7) (as := [.inl (-4 : Int32)]) (st := []) (r := u11.1) (M1 := u11.2) (z_X8_refused hok  c12) cw_X8_refused ml_X8_85 (show g_lay[0]? = some _ from rfl) rfl rfl (by decide) (Nat.le_of_ble_eq_true rfl) rfl dX8_mud_7 ?_
    exact go_iret (pc := 10) (Option.some.inj h).symm rfl dX8_mud_10 rfl
def x_X8_carry_L65   : Nat → Int32 → Int32 → Int32 → Int32 → Int32 → g_M → Option (Int32 × g_M)
  | 0, _, _, _, _, _, _ => none
  | n + 1, v2, v3, v4, v5, v6, M => (if v5 ≤ v6 then (((x_X2_tideAt 1 v3 M).bind fun u1 => if u1.1 ≤ v4 then (some ((-9 : Int32), u1.2)) else (some (v4, u1.2)))) else (((x_X2_tideAt 1 ((v2 + v6) - (v2 + v6) / (12 : Int32) * (12 : Int32)) M).bind fun u4 => x_X8_carry_L65   n v2 v3 (g_max v4 u4.1) v5 (v6 + (1 : Int32)) u4.2)))
set_option maxHeartbeats 4000000 in
set_option maxRecDepth 100000 in
theorem z_X8_carry_L65 {X : g_X} (hok : g_ok X)  {r : Int32 × g_M}  : ∀ (n : Nat) (v2 : Int32) (v3 : Int32) (v4 : Int32) (v5 : Int32) (v6 : Int32) (M : g_M), x_X8_carry_L65   n v2 v3 v4 v5 v6 M = some r → g_Go X cX8_carry RX8 7 (some .int) 2 42 r 65 [some (.inr 0), none, some (.inl v2), some (.inl v3), some (.inl v4), some (.inl v5), some (.inl v6)] [] M := by
  intro n
  induction n with
  | zero =>
    intro v2 v3 v4 v5 v6 M h
    rw [x_X8_carry_L65] at h
    cases h
  | succ n ih =>
    intro v2 v3 v4 v5 v6 M h
    rw [x_X8_carry_L65] at h
    refine go_iload (pc := 65) dX8_carry_65 rfl ?_
    refine go_iload (pc := 67) dX8_carry_67 rfl ?_
    refine go_icmp_ge (pc := 69) (tgt := 99) dX8_carry_69 (by decide) (fun e6 => ?_) (fun e6 => ?_)
    · replace h := (if_pos e6).symm.trans h
      refine go_aload_n (pc := 99) dX8_carry_99 rfl ?_
      refine gf_8_10 (pc := 100) dX8_carry_100 ?_
      refine go_iload_n (pc := 103) dX8_carry_103 rfl ?_
      obtain ⟨u1, c2, h⟩ := g_bd h
      refine go_callV (pc := 104) (as := [.inl v3]) (st := []) (r := u1.1) (M1 := u1.2) (z_X2_tideAt hok g_isH1 c2) cw_X2_tideAt ml_X8_120 g_isH1.1 rfl rfl (by decide) (Nat.le_of_ble_eq_true rfl) rfl dX8_carry_104 ?_
      refine go_iload (pc := 107) dX8_carry_107 rfl ?_
      refine go_icmp_le (pc := 109) (tgt := 117) dX8_carry_109 (by decide) (fun e3 => ?_) (fun e3 => ?_)
      · replace h := (if_pos e3).symm.trans h
        refine go_bipush (pc := 117) (v := (-9 : Int32)) dX8_carry_117 (by decide) ?_
        exact go_iret (pc := 119) (Option.some.inj h).symm rfl dX8_carry_119 rfl
      · replace h := (if_neg e3).symm.trans h
        refine go_iload (pc := 112) dX8_carry_112 rfl ?_
        refine go_goto (pc := 114) (tgt := 119) dX8_carry_114 (by decide) ?_
        exact go_iret (pc := 119) (Option.some.inj h).symm rfl dX8_carry_119 rfl
    · replace h := (if_neg e6).symm.trans h
      refine go_iload (pc := 72) dX8_carry_72 rfl ?_
      refine go_aload_n (pc := 74) dX8_carry_74 rfl ?_
      refine gf_8_10 (pc := 75) dX8_carry_75 ?_
      refine go_iload_n (pc := 78) dX8_carry_78 rfl ?_
      refine go_iload (pc := 79) dX8_carry_79 rfl ?_
      refine go_iadd (pc := 81) dX8_carry_81 ?_
      refine go_bipush (pc := 82) (v := (12 : Int32)) dX8_carry_82 (by decide) ?_
      refine go_irem (pc := 84) dX8_carry_84 (by decide) ?_
      obtain ⟨u4, c5, h⟩ := g_bd h
      refine go_callV (pc := 85) (as := [.inl ((v2 + v6) - (v2 + v6) / (12 : Int32) * (12 : Int32))]) (st := [.inl v4]) (r := u4.1) (M1 := u4.2) (z_X2_tideAt hok g_isH1 c5) cw_X2_tideAt ml_X8_120 g_isH1.1 rfl rfl (by decide) (Nat.le_of_ble_eq_true rfl) rfl dX8_carry_85 ?_
      refine go_mmax (pc := 88) ml_X8_214 lm_max_s lm_i lm_max_c (by decide) (Nat.le_of_ble_eq_true rfl) dX8_carry_88 ?_
      refine go_istore (pc := 91) (lv' := [some (.inr 0), none, some (.inl v2), some (.inl v3), some (.inl (g_max v4 u4.1)), some (.inl v5), some (.inl v6)]) dX8_carry_91 (by decide) rfl ?_
      refine go_iinc (pc := 93) (v := (1 : Int32)) (lv' := [some (.inr 0), none, some (.inl v2), some (.inl v3), some (.inl (g_max v4 u4.1)), some (.inl v5), some (.inl (v6 + (1 : Int32)))]) dX8_carry_93 rfl (by decide) (by decide) rfl ?_
      refine go_goto (pc := 96) (tgt := 65) dX8_carry_96 (by decide) ?_
      exact go_to (ih _ _ _ _ _ _ h) (And.intro rfl (And.intro rfl (And.intro rfl (And.intro rfl (And.intro rfl (And.intro rfl trivial))))))
def x_X8_carry  (p1 p2 p3 : Int32) (M : g_M) : Option (Int32 × g_M) := (if 0 ≤ p1 then (if p1 ≤ (40 : Int32) then (((x_X8_isHour p2 M).bind fun u7 => if u7.1 = 0 then (((x_X8_refused (-1 : Int32) u7.2).bind fun u9 => some (u9.1, u9.2))) else (((x_X8_isHour p3 u7.2).bind fun u11 => if u11.1 = 0 then (((x_X8_refused (-1 : Int32) u11.2).bind fun u13 => some (u13.1, u13.2))) else (if p2 = p3 then (((x_X8_refused (-1 : Int32) u11.2).bind fun u17 => some (u17.1, u17.2))) else (((x_J9_floorMod_7cf53 (p3 - p2) (12 : Int32) u11.2).bind fun u15 => x_X8_carry_L65   g_F p2 p3 p1 u15.1 (0 : Int32) u15.2))))))) else (((x_X8_refused (-6 : Int32) M).bind fun u22 => some (u22.1, u22.2)))) else (((x_X8_refused (-4 : Int32) M).bind fun u25 => some (u25.1, u25.2))))
set_option maxHeartbeats 4000000 in
set_option maxRecDepth 100000 in
theorem z_X8_carry {X : g_X} (hok : g_ok X)  {p1 p2 p3 : Int32} {M : g_M} {r : Int32 × g_M} (h : x_X8_carry p1 p2 p3 M = some r) : g_Con X yX8_carry cX8_carry 7 (some .int) 2 42 [.inr 0, .inl p1, .inl p2, .inl p3] M r := by
  rw [x_X8_carry] at h
  refine g_con hok (plainFor_of_name (by decide +kernel)) (Nat.le_of_ble_eq_true rfl) (go_to (lv2 := [some (.inr 0), some (.inl p1), some (.inl p2), some (.inl p3), none, none, none]) (own := RX8) ?_ (And.intro rfl (And.intro rfl (And.intro rfl (And.intro rfl trivial)))))
  refine go_iload_n (pc := 0) dX8_carry_0 rfl ?_
  refine go_if_ge (pc := 1) (tgt := 11) dX8_carry_1 (by decide) (fun e27 => ?_) (fun e27 => ?_)
  · replace h := (if_pos e27).symm.trans h
    refine go_iload_n (pc := 11) dX8_carry_11 rfl ?_
    refine go_bipush (pc := 12) (v := (40 : Int32)) dX8_carry_12 (by decide) ?_
    refine go_icmp_le (pc := 14) (tgt := 24) dX8_carry_14 (by decide) (fun e24 => ?_) (fun e24 => ?_)
    · replace h := (if_pos e24).symm.trans h
      refine go_iload_n (pc := 24) dX8_carry_24 rfl ?_
      obtain ⟨u7, c8, h⟩ := g_bd h
      refine go_callS (pc := 25) (as := [.inl p2]) (st := []) (r := u7.1) (M1 := u7.2) (z_X8_isHour hok  c8) cw_X8_isHour ml_X8_116 (by decide) (Nat.le_of_ble_eq_true rfl) rfl dX8_carry_25 ?_
      refine go_if_eq (pc := 28) (tgt := 43) dX8_carry_28 (by decide) (fun e21 => ?_) (fun e21 => ?_)
      · replace h := (if_pos e21).symm.trans h
        refine go_aload_n (pc := 43) dX8_carry_43 rfl ?_
        refine go_iconst (pc := 44) (v := (-1 : Int32)) dX8_carry_44 (by decide) ?_
        obtain ⟨u9, c10, h⟩ := g_bd h
        refine go_callV (pc := 45) (as := [.inl (-1 : Int32)]) (st := []) (r := u9.1) (M1 := u9.2) (z_X8_refused hok  c10) cw_X8_refused ml_X8_85 (show g_lay[0]? = some _ from rfl) rfl rfl (by decide) (Nat.le_of_ble_eq_true rfl) rfl dX8_carry_45 ?_
        exact go_iret (pc := 48) (Option.some.inj h).symm rfl dX8_carry_48 rfl
      · replace h := (if_neg e21).symm.trans h
        refine go_iload_n (pc := 31) dX8_carry_31 rfl ?_
        obtain ⟨u11, c12, h⟩ := g_bd h
        refine go_callS (pc := 32) (as := [.inl p3]) (st := []) (r := u11.1) (M1 := u11.2) (z_X8_isHour hok  c12) cw_X8_isHour ml_X8_116 (by decide) (Nat.le_of_ble_eq_true rfl) rfl dX8_carry_32 ?_
        refine go_if_eq (pc := 35) (tgt := 43) dX8_carry_35 (by decide) (fun e20 => ?_) (fun e20 => ?_)
        · replace h := (if_pos e20).symm.trans h
          refine go_aload_n (pc := 43) dX8_carry_43 rfl ?_
          refine go_iconst (pc := 44) (v := (-1 : Int32)) dX8_carry_44 (by decide) ?_
          obtain ⟨u13, c14, h⟩ := g_bd h
          refine go_callV (pc := 45) (as := [.inl (-1 : Int32)]) (st := []) (r := u13.1) (M1 := u13.2) (z_X8_refused hok  c14) cw_X8_refused ml_X8_85 (show g_lay[0]? = some _ from rfl) rfl rfl (by decide) (Nat.le_of_ble_eq_true rfl) rfl dX8_carry_45 ?_
          exact go_iret (pc := 48) (Option.some.inj h).symm rfl dX8_carry_48 rfl
        · replace h := (if_neg e20).symm.trans h
          refine go_iload_n (pc := 38) dX8_carry_38 rfl ?_
          refine go_iload_n (pc := 39) dX8_carry_39 rfl ?_
          refine go_icmp_ne (pc := 40) (tgt := 49) dX8_carry_40 (by decide) (fun e19 => ?_) (fun e19 => ?_)
          · replace h := (if_neg e19).symm.trans h
            refine go_iload_n (pc := 49) dX8_carry_49 rfl ?_
            refine go_istore (pc := 50) (lv' := [some (.inr 0), some (.inl p1), some (.inl p2), some (.inl p3), some (.inl p1), none, none]) dX8_carry_50 (by decide) rfl ?_
            refine go_iload_n (pc := 52) dX8_carry_52 rfl ?_
            refine go_iload_n (pc := 53) dX8_carry_53 rfl ?_
            refine go_isub (pc := 54) dX8_carry_54 ?_
            refine go_bipush (pc := 55) (v := (12 : Int32)) dX8_carry_55 (by decide) ?_
            obtain ⟨u15, c16, h⟩ := g_bd h
            refine go_callS (pc := 57) (as := [.inl (p3 - p2), .inl (12 : Int32)]) (st := []) (r := u15.1) (M1 := u15.2) (z_J9_floorMod_7cf53 hok  c16) cw_J9_floorMod_7cf53 ml_X8_288 (by decide) (Nat.le_of_ble_eq_true rfl) rfl dX8_carry_57 ?_
            refine go_istore (pc := 60) (lv' := [some (.inr 0), some (.inl p1), some (.inl p2), some (.inl p3), some (.inl p1), some (.inl u15.1), none]) dX8_carry_60 (by decide) rfl ?_
            refine go_iconst (pc := 62) (v := (0 : Int32)) dX8_carry_62 (by decide) ?_
            refine go_istore (pc := 63) (lv' := [some (.inr 0), some (.inl p1), some (.inl p2), some (.inl p3), some (.inl p1), some (.inl u15.1), some (.inl (0 : Int32))]) dX8_carry_63 (by decide) rfl ?_
            exact go_to (z_X8_carry_L65 hok   g_F _ _ _ _ _ _ h) (And.intro rfl (And.intro rfl (And.intro rfl (And.intro rfl (And.intro rfl (And.intro rfl trivial))))))
          · replace h := (if_pos e19).symm.trans h
            refine go_aload_n (pc := 43) dX8_carry_43 rfl ?_
            refine go_iconst (pc := 44) (v := (-1 : Int32)) dX8_carry_44 (by decide) ?_
            obtain ⟨u17, c18, h⟩ := g_bd h
            refine go_callV (pc := 45) (as := [.inl (-1 : Int32)]) (st := []) (r := u17.1) (M1 := u17.2) (z_X8_refused hok  c18) cw_X8_refused ml_X8_85 (show g_lay[0]? = some _ from rfl) rfl rfl (by decide) (Nat.le_of_ble_eq_true rfl) rfl dX8_carry_45 ?_
            exact go_iret (pc := 48) (Option.some.inj h).symm rfl dX8_carry_48 rfl
    · replace h := (if_neg e24).symm.trans h
      refine go_aload_n (pc := 17) dX8_carry_17 rfl ?_
      refine go_bipush (pc := 18) (v := (-6 : Int32)) dX8_carry_18 (by decide) ?_
      obtain ⟨u22, c23, h⟩ := g_bd h
      refine go_callV (pc := 20) (as := [.inl (-6 : Int32)]) (st := []) (r := u22.1) (M1 := u22.2) (z_X8_refused hok  c23) cw_X8_refused ml_X8_85 (show g_lay[0]? = some _ from rfl) rfl rfl (by decide) (Nat.le_of_ble_eq_true rfl) rfl dX8_carry_20 ?_
      exact go_iret (pc := 23) (Option.some.inj h).symm rfl dX8_carry_23 rfl
  · replace h := (if_neg e27).symm.trans h
    refine go_aload_n (pc := 4) dX8_carry_4 rfl ?_
    refine go_bipush (pc := 5) (v := (-4 : Int32)) dX8_carry_5 (by decide) ?_
    obtain ⟨u25, c26, h⟩ := g_bd h
    refine go_callV (pc := 7) (as := [.inl (-4 : Int32)]) (st := []) (r := u25.1) (M1 := u25.2) (z_X8_refused hok  c26) cw_X8_refused ml_X8_85 (show g_lay[0]? = some _ from rfl) rfl rfl (by decide) (Nat.le_of_ble_eq_true rfl) rfl dX8_carry_7 ?_
    exact go_iret (pc := 10) (Option.some.inj h).symm rfl dX8_carry_10 rfl
def x_X8_passes  (p1 p2 p3 : Int32) (M : g_M) : Option (Int32 × g_M) := (if p1 < 0 then (((x_X8_refused (-4 : Int32) M).bind fun u1 => some (u1.1, u1.2))) else (if 0 ≤ p2 then (if (40 : Int32) < p1 then (((x_X8_refused (-6 : Int32) M).bind fun u3 => some (u3.1, u3.2))) else (if p2 ≤ (9 : Int32) then (((x_X8_isHour p3 M).bind fun u5 => if u5.1 = 0 then (((x_X8_refused (-1 : Int32) u5.2).bind fun u9 => some (u9.1, u9.2))) else (((x_X2_firstHourWith 1 (p1 + p2) p3 u5.2).bind fun u7 => some (u7.1, u7.2))))) else (((x_X8_refused (-6 : Int32) M).bind fun u12 => some (u12.1, u12.2))))) else (((x_X8_refused (-4 : Int32) M).bind fun u16 => some (u16.1, u16.2)))))
set_option maxHeartbeats 4000000 in
set_option maxRecDepth 100000 in
theorem z_X8_passes {X : g_X} (hok : g_ok X)  {p1 p2 p3 : Int32} {M : g_M} {r : Int32 × g_M} (h : x_X8_passes p1 p2 p3 M = some r) : g_Con X yX8_passes cX8_passes 4 (some .int) 3 66 [.inr 0, .inl p1, .inl p2, .inl p3] M r := by
  rw [x_X8_passes] at h
  refine g_con hok (plainFor_of_name (by decide +kernel)) (Nat.le_of_ble_eq_true rfl) (go_to (lv2 := [some (.inr 0), some (.inl p1), some (.inl p2), some (.inl p3)]) (own := RX8) ?_ (And.intro rfl (And.intro rfl (And.intro rfl (And.intro rfl trivial)))))
  refine go_iload_n (pc := 0) dX8_passes_0 rfl ?_
  refine go_if_lt (pc := 1) (tgt := 8) dX8_passes_1 (by decide) (fun e19 => ?_) (fun e19 => ?_)
  · replace h := (if_pos e19).symm.trans h
    refine go_aload_n (pc := 8) dX8_passes_8 rfl ?_
    refine go_bipush (pc := 9) (v := (-4 : Int32)) dX8_passes_9 (by decide) ?_
    obtain ⟨u1, c2, h⟩ := g_bd h
    refine go_callV (pc := 11) (as := [.inl (-4 : Int32)]) (st := []) (r := u1.1) (M1 := u1.2) (z_X8_refused hok  c2) cw_X8_refused ml_X8_85 (show g_lay[0]? = some _ from rfl) rfl rfl (by decide) (Nat.le_of_ble_eq_true rfl) rfl dX8_passes_11 ?_
    exact go_iret (pc := 14) (Option.some.inj h).symm rfl dX8_passes_14 rfl
  · replace h := (if_neg e19).symm.trans h
    refine go_iload_n (pc := 4) dX8_passes_4 rfl ?_
    refine go_if_ge (pc := 5) (tgt := 15) dX8_passes_5 (by decide) (fun e18 => ?_) (fun e18 => ?_)
    · replace h := (if_pos e18).symm.trans h
      refine go_iload_n (pc := 15) dX8_passes_15 rfl ?_
      refine go_bipush (pc := 16) (v := (40 : Int32)) dX8_passes_16 (by decide) ?_
      refine go_icmp_gt (pc := 18) (tgt := 27) dX8_passes_18 (by decide) (fun e15 => ?_) (fun e15 => ?_)
      · replace h := (if_pos e15).symm.trans h
        refine go_aload_n (pc := 27) dX8_passes_27 rfl ?_
        refine go_bipush (pc := 28) (v := (-6 : Int32)) dX8_passes_28 (by decide) ?_
        obtain ⟨u3, c4, h⟩ := g_bd h
        refine go_callV (pc := 30) (as := [.inl (-6 : Int32)]) (st := []) (r := u3.1) (M1 := u3.2) (z_X8_refused hok  c4) cw_X8_refused ml_X8_85 (show g_lay[0]? = some _ from rfl) rfl rfl (by decide) (Nat.le_of_ble_eq_true rfl) rfl dX8_passes_30 ?_
        exact go_iret (pc := 33) (Option.some.inj h).symm rfl dX8_passes_33 rfl
      · replace h := (if_neg e15).symm.trans h
        refine go_iload_n (pc := 21) dX8_passes_21 rfl ?_
        refine go_bipush (pc := 22) (v := (9 : Int32)) dX8_passes_22 (by decide) ?_
        refine go_icmp_le (pc := 24) (tgt := 34) dX8_passes_24 (by decide) (fun e14 => ?_) (fun e14 => ?_)
        · replace h := (if_pos e14).symm.trans h
          refine go_iload_n (pc := 34) dX8_passes_34 rfl ?_
          obtain ⟨u5, c6, h⟩ := g_bd h
          refine go_callS (pc := 35) (as := [.inl p3]) (st := []) (r := u5.1) (M1 := u5.2) (z_X8_isHour hok  c6) cw_X8_isHour ml_X8_116 (by decide) (Nat.le_of_ble_eq_true rfl) rfl dX8_passes_35 ?_
          refine go_if_ne (pc := 38) (tgt := 47) dX8_passes_38 (by decide) (fun e11 => ?_) (fun e11 => ?_)
          · replace h := (if_neg e11).symm.trans h
            refine go_aload_n (pc := 47) dX8_passes_47 rfl ?_
            refine gf_8_10 (pc := 48) dX8_passes_48 ?_
            refine go_iload_n (pc := 51) dX8_passes_51 rfl ?_
            refine go_iload_n (pc := 52) dX8_passes_52 rfl ?_
            refine go_iadd (pc := 53) dX8_passes_53 ?_
            refine go_iload_n (pc := 54) dX8_passes_54 rfl ?_
            obtain ⟨u7, c8, h⟩ := g_bd h
            refine go_callV (pc := 55) (as := [.inl (p1 + p2), .inl p3]) (st := []) (r := u7.1) (M1 := u7.2) (z_X2_firstHourWith hok g_isH1 c8) cw_X2_firstHourWith ml_X8_285 g_isH1.1 rfl rfl (by decide) (Nat.le_of_ble_eq_true rfl) rfl dX8_passes_55 ?_
            exact go_iret (pc := 58) (Option.some.inj h).symm rfl dX8_passes_58 rfl
          · replace h := (if_pos e11).symm.trans h
            refine go_aload_n (pc := 41) dX8_passes_41 rfl ?_
            refine go_iconst (pc := 42) (v := (-1 : Int32)) dX8_passes_42 (by decide) ?_
            obtain ⟨u9, c10, h⟩ := g_bd h
            refine go_callV (pc := 43) (as := [.inl (-1 : Int32)]) (st := []) (r := u9.1) (M1 := u9.2) (z_X8_refused hok  c10) cw_X8_refused ml_X8_85 (show g_lay[0]? = some _ from rfl) rfl rfl (by decide) (Nat.le_of_ble_eq_true rfl) rfl dX8_passes_43 ?_
            exact go_iret (pc := 46) (Option.some.inj h).symm rfl dX8_passes_46 rfl
        · replace h := (if_neg e14).symm.trans h
          refine go_aload_n (pc := 27) dX8_passes_27 rfl ?_
          refine go_bipush (pc := 28) (v := (-6 : Int32)) dX8_passes_28 (by decide) ?_
          obtain ⟨u12, c13, h⟩ := g_bd h
          refine go_callV (pc := 30) (as := [.inl (-6 : Int32)]) (st := []) (r := u12.1) (M1 := u12.2) (z_X8_refused hok  c13) cw_X8_refused ml_X8_85 (show g_lay[0]? = some _ from rfl) rfl rfl (by decide) (Nat.le_of_ble_eq_true rfl) rfl dX8_passes_30 ?_
          exact go_iret (pc := 33) (Option.some.inj h).symm rfl dX8_passes_33 rfl
    · replace h := (if_neg e18).symm.trans h
      refine go_aload_n (pc := 8) dX8_passes_8 rfl ?_
      refine go_bipush (pc := 9) (v := (-4 : Int32)) dX8_passes_9 (by decide) ?_
      obtain ⟨u16, c17, h⟩ := g_bd h
      refine go_callV (pc := 11) (as := [.inl (-4 : Int32)]) (st := []) (r := u16.1) (M1 := u16.2) (z_X8_refused hok  c17) cw_X8_refused ml_X8_85 (show g_lay[0]? = some _ from rfl) rfl rfl (by decide) (Nat.le_of_ble_eq_true rfl) rfl dX8_passes_11 ?_
      exact go_iret (pc := 14) (Option.some.inj h).symm rfl dX8_passes_14 rfl
def x_X8_waited_L58   : Nat → Int32 → Int32 → Int32 → Int32 → g_M → Option (Int32 × g_M)
  | 0, _, _, _, _, _ => none
  | n + 1, v1, v2, v3, v4, M => (if (M 21 1) ≤ v4 then (some (v3, M)) else (((x_X6_at v4 M).bind fun u1 => ((x_X2_firstHourWith 1 (v1 + v2) u1.1 u1.2).bind fun u3 => if u3.1 = (-9 : Int32) then (some ((-9 : Int32), u3.2)) else (((x_J9_floorMod_7cf53 (u3.1 - u1.1) (12 : Int32) u3.2).bind fun u5 => x_X8_waited_L58   n v1 v2 (v3 + u5.1) (v4 + (1 : Int32)) u5.2))))))
set_option maxHeartbeats 4000000 in
set_option maxRecDepth 100000 in
theorem z_X8_waited_L58 {X : g_X} (hok : g_ok X)  {r : Int32 × g_M}  : ∀ (n : Nat) (v1 : Int32) (v2 : Int32) (v3 : Int32) (v4 : Int32) (M : g_M), x_X8_waited_L58   n v1 v2 v3 v4 M = some r → g_Go X cX8_waited RX8 7 (some .int) 3 66 r 58 [some (.inr 0), some (.inl v1), some (.inl v2), some (.inl v3), some (.inl v4), none, none] [] M := by
  intro n
  induction n with
  | zero =>
    intro v1 v2 v3 v4 M h
    rw [x_X8_waited_L58] at h
    cases h
  | succ n ih =>
    intro v1 v2 v3 v4 M h
    rw [x_X8_waited_L58] at h
    refine go_iload (pc := 58) dX8_waited_58 rfl ?_
    refine go_aload_n (pc := 60) dX8_waited_60 rfl ?_
    refine gf_8_36 (pc := 61) dX8_waited_61 ?_
    refine gf_8_266 (pc := 64) dX8_waited_64 ?_
    refine go_icmp_ge (pc := 67) (tgt := 124) dX8_waited_67 (by decide) (fun e8 => ?_) (fun e8 => ?_)
    · replace h := (if_pos e8).symm.trans h
      refine go_iload_n (pc := 124) dX8_waited_124 rfl ?_
      exact go_iret (pc := 125) (Option.some.inj h).symm rfl dX8_waited_125 rfl
    · replace h := (if_neg e8).symm.trans h
      refine go_aload_n (pc := 70) dX8_waited_70 rfl ?_
      refine gf_8_36 (pc := 71) dX8_waited_71 ?_
      refine go_iload (pc := 74) dX8_waited_74 rfl ?_
      obtain ⟨u1, c2, h⟩ := g_bd h
      refine go_callV (pc := 76) (as := [.inl v4]) (st := []) (r := u1.1) (M1 := u1.2) (z_X6_at hok  c2) cw_X6_at ml_X8_282 (show g_lay[21]? = some _ from rfl) rfl rfl (by decide) (Nat.le_of_ble_eq_true rfl) rfl dX8_waited_76 ?_
      refine go_istore (pc := 79) (lv' := [some (.inr 0), some (.inl v1), some (.inl v2), some (.inl v3), some (.inl v4), some (.inl u1.1), none]) dX8_waited_79 (by decide) rfl ?_
      refine go_aload_n (pc := 81) dX8_waited_81 rfl ?_
      refine gf_8_10 (pc := 82) dX8_waited_82 ?_
      refine go_iload_n (pc := 85) dX8_waited_85 rfl ?_
      refine go_iload_n (pc := 86) dX8_waited_86 rfl ?_
      refine go_iadd (pc := 87) dX8_waited_87 ?_
      refine go_iload (pc := 88) dX8_waited_88 rfl ?_
      obtain ⟨u3, c4, h⟩ := g_bd h
      refine go_callV (pc := 90) (as := [.inl (v1 + v2), .inl u1.1]) (st := []) (r := u3.1) (M1 := u3.2) (z_X2_firstHourWith hok g_isH1 c4) cw_X2_firstHourWith ml_X8_285 g_isH1.1 rfl rfl (by decide) (Nat.le_of_ble_eq_true rfl) rfl dX8_waited_90 ?_
      refine go_istore (pc := 93) (lv' := [some (.inr 0), some (.inl v1), some (.inl v2), some (.inl v3), some (.inl v4), some (.inl u1.1), some (.inl u3.1)]) dX8_waited_93 (by decide) rfl ?_
      refine go_iload (pc := 95) dX8_waited_95 rfl ?_
      refine go_bipush (pc := 97) (v := (-9 : Int32)) dX8_waited_97 (by decide) ?_
      refine go_icmp_ne (pc := 99) (tgt := 105) dX8_waited_99 (by decide) (fun e7 => ?_) (fun e7 => ?_)
      · replace h := (if_neg e7).symm.trans h
        refine go_iload_n (pc := 105) dX8_waited_105 rfl ?_
        refine go_iload (pc := 106) dX8_waited_106 rfl ?_
        refine go_iload (pc := 108) dX8_waited_108 rfl ?_
        refine go_isub (pc := 110) dX8_waited_110 ?_
        refine go_bipush (pc := 111) (v := (12 : Int32)) dX8_waited_111 (by decide) ?_
        obtain ⟨u5, c6, h⟩ := g_bd h
        refine go_callS (pc := 113) (as := [.inl (u3.1 - u1.1), .inl (12 : Int32)]) (st := [.inl v3]) (r := u5.1) (M1 := u5.2) (z_J9_floorMod_7cf53 hok  c6) cw_J9_floorMod_7cf53 ml_X8_288 (by decide) (Nat.le_of_ble_eq_true rfl) rfl dX8_waited_113 ?_
        refine go_iadd (pc := 116) dX8_waited_116 ?_
        refine go_istore_n (pc := 117) (lv' := [some (.inr 0), some (.inl v1), some (.inl v2), some (.inl (v3 + u5.1)), some (.inl v4), some (.inl u1.1), some (.inl u3.1)]) dX8_waited_117 (by decide) rfl ?_
        refine go_iinc (pc := 118) (v := (1 : Int32)) (lv' := [some (.inr 0), some (.inl v1), some (.inl v2), some (.inl (v3 + u5.1)), some (.inl (v4 + (1 : Int32))), some (.inl u1.1), some (.inl u3.1)]) dX8_waited_118 rfl (by decide) (by decide) rfl ?_
        refine go_goto (pc := 121) (tgt := 58) dX8_waited_121 (by decide) ?_
        exact go_to (ih _ _ _ _ _ h) (And.intro rfl (And.intro rfl (And.intro rfl (And.intro rfl (And.intro rfl trivial)))))
      · replace h := (if_pos e7).symm.trans h
        refine go_bipush (pc := 102) (v := (-9 : Int32)) dX8_waited_102 (by decide) ?_
        exact go_iret (pc := 104) (Option.some.inj h).symm rfl dX8_waited_104 rfl
def x_X8_waited  (p1 p2 : Int32) (M : g_M) : Option (Int32 × g_M) := (if p1 < 0 then (((x_X8_refused (-4 : Int32) M).bind fun u9 => some (u9.1, u9.2))) else (if 0 ≤ p2 then (if (40 : Int32) < p1 then (((x_X8_refused (-6 : Int32) M).bind fun u11 => some (u11.1, u11.2))) else (if p2 ≤ (9 : Int32) then (((x_X6_greatest M).bind fun u13 => if u13.1 < (12 : Int32) then (x_X8_waited_L58   g_F p1 p2 (0 : Int32) (0 : Int32) u13.2) else (((x_X8_refused (-3 : Int32) u13.2).bind fun u15 => some (u15.1, u15.2))))) else (((x_X8_refused (-6 : Int32) M).bind fun u18 => some (u18.1, u18.2))))) else (((x_X8_refused (-4 : Int32) M).bind fun u22 => some (u22.1, u22.2)))))
set_option maxHeartbeats 4000000 in
set_option maxRecDepth 100000 in
theorem z_X8_waited {X : g_X} (hok : g_ok X)  {p1 p2 : Int32} {M : g_M} {r : Int32 × g_M} (h : x_X8_waited p1 p2 M = some r) : g_Con X yX8_waited cX8_waited 7 (some .int) 3 66 [.inr 0, .inl p1, .inl p2] M r := by
  rw [x_X8_waited] at h
  refine g_con hok (plainFor_of_name (by decide +kernel)) (Nat.le_of_ble_eq_true rfl) (go_to (lv2 := [some (.inr 0), some (.inl p1), some (.inl p2), none, none, none, none]) (own := RX8) ?_ (And.intro rfl (And.intro rfl (And.intro rfl trivial))))
  refine go_iload_n (pc := 0) dX8_waited_0 rfl ?_
  refine go_if_lt (pc := 1) (tgt := 8) dX8_waited_1 (by decide) (fun e25 => ?_) (fun e25 => ?_)
  · replace h := (if_pos e25).symm.trans h
    refine go_aload_n (pc := 8) dX8_waited_8 rfl ?_
    refine go_bipush (pc := 9) (v := (-4 : Int32)) dX8_waited_9 (by decide) ?_
    obtain ⟨u9, c10, h⟩ := g_bd h
    refine go_callV (pc := 11) (as := [.inl (-4 : Int32)]) (st := []) (r := u9.1) (M1 := u9.2) (z_X8_refused hok  c10) cw_X8_refused ml_X8_85 (show g_lay[0]? = some _ from rfl) rfl rfl (by decide) (Nat.le_of_ble_eq_true rfl) rfl dX8_waited_11 ?_
    exact go_iret (pc := 14) (Option.some.inj h).symm rfl dX8_waited_14 rfl
  · replace h := (if_neg e25).symm.trans h
    refine go_iload_n (pc := 4) dX8_waited_4 rfl ?_
    refine go_if_ge (pc := 5) (tgt := 15) dX8_waited_5 (by decide) (fun e24 => ?_) (fun e24 => ?_)
    · replace h := (if_pos e24).symm.trans h
      refine go_iload_n (pc := 15) dX8_waited_15 rfl ?_
      refine go_bipush (pc := 16) (v := (40 : Int32)) dX8_waited_16 (by decide) ?_
      refine go_icmp_gt (pc := 18) (tgt := 27) dX8_waited_18 (by decide) (fun e21 => ?_) (fun e21 => ?_)
      · replace h := (if_pos e21).symm.trans h
        refine go_aload_n (pc := 27) dX8_waited_27 rfl ?_
        refine go_bipush (pc := 28) (v := (-6 : Int32)) dX8_waited_28 (by decide) ?_
        obtain ⟨u11, c12, h⟩ := g_bd h
        refine go_callV (pc := 30) (as := [.inl (-6 : Int32)]) (st := []) (r := u11.1) (M1 := u11.2) (z_X8_refused hok  c12) cw_X8_refused ml_X8_85 (show g_lay[0]? = some _ from rfl) rfl rfl (by decide) (Nat.le_of_ble_eq_true rfl) rfl dX8_waited_30 ?_
        exact go_iret (pc := 33) (Option.some.inj h).symm rfl dX8_waited_33 rfl
      · replace h := (if_neg e21).symm.trans h
        refine go_iload_n (pc := 21) dX8_waited_21 rfl ?_
        refine go_bipush (pc := 22) (v := (9 : Int32)) dX8_waited_22 (by decide) ?_
        refine go_icmp_le (pc := 24) (tgt := 34) dX8_waited_24 (by decide) (fun e20 => ?_) (fun e20 => ?_)
        · replace h := (if_pos e20).symm.trans h
          refine go_aload_n (pc := 34) dX8_waited_34 rfl ?_
          refine gf_8_36 (pc := 35) dX8_waited_35 ?_
          obtain ⟨u13, c14, h⟩ := g_bd h
          refine go_callV (pc := 38) (as := []) (st := []) (r := u13.1) (M1 := u13.2) (z_X6_greatest hok  c14) cw_X6_greatest ml_X8_267 (show g_lay[21]? = some _ from rfl) rfl rfl (by decide) (Nat.le_of_ble_eq_true rfl) rfl dX8_waited_38 ?_
          refine go_bipush (pc := 41) (v := (12 : Int32)) dX8_waited_41 (by decide) ?_
          refine go_icmp_lt (pc := 43) (tgt := 53) dX8_waited_43 (by decide) (fun e17 => ?_) (fun e17 => ?_)
          · replace h := (if_pos e17).symm.trans h
            refine go_iconst (pc := 53) (v := (0 : Int32)) dX8_waited_53 (by decide) ?_
            refine go_istore_n (pc := 54) (lv' := [some (.inr 0), some (.inl p1), some (.inl p2), some (.inl (0 : Int32)), none, none, none]) dX8_waited_54 (by decide) rfl ?_
            refine go_iconst (pc := 55) (v := (0 : Int32)) dX8_waited_55 (by decide) ?_
            refine go_istore (pc := 56) (lv' := [some (.inr 0), some (.inl p1), some (.inl p2), some (.inl (0 : Int32)), some (.inl (0 : Int32)), none, none]) dX8_waited_56 (by decide) rfl ?_
            exact go_to (z_X8_waited_L58 hok   g_F _ _ _ _ _ h) (And.intro rfl (And.intro rfl (And.intro rfl (And.intro rfl (And.intro rfl trivial)))))
          · replace h := (if_neg e17).symm.trans h
            refine go_aload_n (pc := 46) dX8_waited_46 rfl ?_
            refine go_bipush (pc := 47) (v := (-3 : Int32)) dX8_waited_47 (by decide) ?_
            obtain ⟨u15, c16, h⟩ := g_bd h
            refine go_callV (pc := 49) (as := [.inl (-3 : Int32)]) (st := []) (r := u15.1) (M1 := u15.2) (z_X8_refused hok  c16) cw_X8_refused ml_X8_85 (show g_lay[0]? = some _ from rfl) rfl rfl (by decide) (Nat.le_of_ble_eq_true rfl) rfl dX8_waited_49 ?_
            exact go_iret (pc := 52) (Option.some.inj h).symm rfl dX8_waited_52 rfl
        · replace h := (if_neg e20).symm.trans h
          refine go_aload_n (pc := 27) dX8_waited_27 rfl ?_
          refine go_bipush (pc := 28) (v := (-6 : Int32)) dX8_waited_28 (by decide) ?_
          obtain ⟨u18, c19, h⟩ := g_bd h
          refine go_callV (pc := 30) (as := [.inl (-6 : Int32)]) (st := []) (r := u18.1) (M1 := u18.2) (z_X8_refused hok  c19) cw_X8_refused ml_X8_85 (show g_lay[0]? = some _ from rfl) rfl rfl (by decide) (Nat.le_of_ble_eq_true rfl) rfl dX8_waited_30 ?_
          exact go_iret (pc := 33) (Option.some.inj h).symm rfl dX8_waited_33 rfl
    · replace h := (if_neg e24).symm.trans h
      refine go_aload_n (pc := 8) dX8_waited_8 rfl ?_
      refine go_bipush (pc := 9) (v := (-4 : Int32)) dX8_waited_9 (by decide) ?_
      obtain ⟨u22, c23, h⟩ := g_bd h
      refine go_callV (pc := 11) (as := [.inl (-4 : Int32)]) (st := []) (r := u22.1) (M1 := u22.2) (z_X8_refused hok  c23) cw_X8_refused ml_X8_85 (show g_lay[0]? = some _ from rfl) rfl rfl (by decide) (Nat.le_of_ble_eq_true rfl) rfl dX8_waited_11 ?_
      exact go_iret (pc := 14) (Option.some.inj h).symm rfl dX8_waited_14 rfl
def x_X8_ramp  (p1 p2 : Int32) (M : g_M) : Option (Int32 × g_M) := (if p1 < 0 then (((x_X8_refused (-4 : Int32) M).bind fun u1 => some (u1.1, u1.2))) else (if (1 : Int32) ≤ p2 then (if (60 : Int32) < p1 then (((x_X8_refused (-6 : Int32) M).bind fun u3 => some (u3.1, u3.2))) else (if (40 : Int32) < p2 then (((x_X8_refused (-6 : Int32) M).bind fun u5 => some (u5.1, u5.2))) else (if (M 1 7) < (3 : Int32) then (((x_X2_addRamp 1 p1 p2 M).bind fun u7 => some (((u7.2 1 7) - (1 : Int32)), u7.2))) else (((x_X8_refused (-6 : Int32) M).bind fun u9 => some (u9.1, u9.2)))))) else (((x_X8_refused (-4 : Int32) M).bind fun u14 => some (u14.1, u14.2)))))
set_option maxHeartbeats 4000000 in
set_option maxRecDepth 100000 in
theorem z_X8_ramp {X : g_X} (hok : g_ok X)  {p1 p2 : Int32} {M : g_M} {r : Int32 × g_M} (h : x_X8_ramp p1 p2 M = some r) : g_Con X yX8_ramp cX8_ramp 3 (some .int) 2 44 [.inr 0, .inl p1, .inl p2] M r := by
  rw [x_X8_ramp] at h
  refine g_con hok (plainFor_of_name (by decide +kernel)) (Nat.le_of_ble_eq_true rfl) (go_to (lv2 := [some (.inr 0), some (.inl p1), some (.inl p2)]) (own := RX8) ?_ (And.intro rfl (And.intro rfl (And.intro rfl trivial))))
  refine go_iload_n (pc := 0) dX8_ramp_0 rfl ?_
  refine go_if_lt (pc := 1) (tgt := 9) dX8_ramp_1 (by decide) (fun e17 => ?_) (fun e17 => ?_)
  · replace h := (if_pos e17).symm.trans h
    refine go_aload_n (pc := 9) dX8_ramp_9 rfl ?_
    refine go_bipush (pc := 10) (v := (-4 : Int32)) dX8_ramp_10 (by decide) ?_
    obtain ⟨u1, c2, h⟩ := g_bd h
    refine go_callV (pc := 12) (as := [.inl (-4 : Int32)]) (st := []) (r := u1.1) (M1 := u1.2) (z_X8_refused hok  c2) cw_X8_refused ml_X8_85 (show g_lay[0]? = some _ from rfl) rfl rfl (by decide) (Nat.le_of_ble_eq_true rfl) rfl dX8_ramp_12 ?_
    exact go_iret (pc := 15) (Option.some.inj h).symm rfl dX8_ramp_15 rfl
  · replace h := (if_neg e17).symm.trans h
    refine go_iload_n (pc := 4) dX8_ramp_4 rfl ?_
    refine go_iconst (pc := 5) (v := (1 : Int32)) dX8_ramp_5 (by decide) ?_
    refine go_icmp_ge (pc := 6) (tgt := 16) dX8_ramp_6 (by decide) (fun e16 => ?_) (fun e16 => ?_)
    · replace h := (if_pos e16).symm.trans h
      refine go_iload_n (pc := 16) dX8_ramp_16 rfl ?_
      refine go_bipush (pc := 17) (v := (60 : Int32)) dX8_ramp_17 (by decide) ?_
      refine go_icmp_gt (pc := 19) (tgt := 39) dX8_ramp_19 (by decide) (fun e13 => ?_) (fun e13 => ?_)
      · replace h := (if_pos e13).symm.trans h
        refine go_aload_n (pc := 39) dX8_ramp_39 rfl ?_
        refine go_bipush (pc := 40) (v := (-6 : Int32)) dX8_ramp_40 (by decide) ?_
        obtain ⟨u3, c4, h⟩ := g_bd h
        refine go_callV (pc := 42) (as := [.inl (-6 : Int32)]) (st := []) (r := u3.1) (M1 := u3.2) (z_X8_refused hok  c4) cw_X8_refused ml_X8_85 (show g_lay[0]? = some _ from rfl) rfl rfl (by decide) (Nat.le_of_ble_eq_true rfl) rfl dX8_ramp_42 ?_
        exact go_iret (pc := 45) (Option.some.inj h).symm rfl dX8_ramp_45 rfl
      · replace h := (if_neg e13).symm.trans h
        refine go_iload_n (pc := 22) dX8_ramp_22 rfl ?_
        refine go_bipush (pc := 23) (v := (40 : Int32)) dX8_ramp_23 (by decide) ?_
        refine go_icmp_gt (pc := 25) (tgt := 39) dX8_ramp_25 (by decide) (fun e12 => ?_) (fun e12 => ?_)
        · replace h := (if_pos e12).symm.trans h
          refine go_aload_n (pc := 39) dX8_ramp_39 rfl ?_
          refine go_bipush (pc := 40) (v := (-6 : Int32)) dX8_ramp_40 (by decide) ?_
          obtain ⟨u5, c6, h⟩ := g_bd h
          refine go_callV (pc := 42) (as := [.inl (-6 : Int32)]) (st := []) (r := u5.1) (M1 := u5.2) (z_X8_refused hok  c6) cw_X8_refused ml_X8_85 (show g_lay[0]? = some _ from rfl) rfl rfl (by decide) (Nat.le_of_ble_eq_true rfl) rfl dX8_ramp_42 ?_
          exact go_iret (pc := 45) (Option.some.inj h).symm rfl dX8_ramp_45 rfl
        · replace h := (if_neg e12).symm.trans h
          refine go_aload_n (pc := 28) dX8_ramp_28 rfl ?_
          refine gf_8_10 (pc := 29) dX8_ramp_29 ?_
          refine gf_8_291 (pc := 32) g_isH1 dX8_ramp_32 ?_
          refine go_iconst (pc := 35) (v := (3 : Int32)) dX8_ramp_35 (by decide) ?_
          refine go_icmp_lt (pc := 36) (tgt := 46) dX8_ramp_36 (by decide) (fun e11 => ?_) (fun e11 => ?_)
          · replace h := (if_pos e11).symm.trans h
            refine go_aload_n (pc := 46) dX8_ramp_46 rfl ?_
            refine gf_8_10 (pc := 47) dX8_ramp_47 ?_
            refine go_iload_n (pc := 50) dX8_ramp_50 rfl ?_
            refine go_iload_n (pc := 51) dX8_ramp_51 rfl ?_
            obtain ⟨u7, c8, h⟩ := g_bd h
            refine go_callV (pc := 52) (as := [.inl p1, .inl p2]) (st := []) (r := u7.1) (M1 := u7.2) (z_X2_addRamp hok g_isH1 c8) cw_X2_addRamp ml_X8_294 g_isH1.1 rfl rfl (by decide) (Nat.le_of_ble_eq_true rfl) rfl dX8_ramp_52 ?_
            refine go_aload_n (pc := 55) dX8_ramp_55 rfl ?_
            refine gf_8_10 (pc := 56) dX8_ramp_56 ?_
            refine gf_8_291 (pc := 59) g_isH1 dX8_ramp_59 ?_
            refine go_iconst (pc := 62) (v := (1 : Int32)) dX8_ramp_62 (by decide) ?_
            refine go_isub (pc := 63) dX8_ramp_63 ?_
            exact go_iret (pc := 64) (Option.some.inj h).symm rfl dX8_ramp_64 rfl
          · replace h := (if_neg e11).symm.trans h
            refine go_aload_n (pc := 39) dX8_ramp_39 rfl ?_
            refine go_bipush (pc := 40) (v := (-6 : Int32)) dX8_ramp_40 (by decide) ?_
            obtain ⟨u9, c10, h⟩ := g_bd h
            refine go_callV (pc := 42) (as := [.inl (-6 : Int32)]) (st := []) (r := u9.1) (M1 := u9.2) (z_X8_refused hok  c10) cw_X8_refused ml_X8_85 (show g_lay[0]? = some _ from rfl) rfl rfl (by decide) (Nat.le_of_ble_eq_true rfl) rfl dX8_ramp_42 ?_
            exact go_iret (pc := 45) (Option.some.inj h).symm rfl dX8_ramp_45 rfl
    · replace h := (if_neg e16).symm.trans h
      refine go_aload_n (pc := 9) dX8_ramp_9 rfl ?_
      refine go_bipush (pc := 10) (v := (-4 : Int32)) dX8_ramp_10 (by decide) ?_
      obtain ⟨u14, c15, h⟩ := g_bd h
      refine go_callV (pc := 12) (as := [.inl (-4 : Int32)]) (st := []) (r := u14.1) (M1 := u14.2) (z_X8_refused hok  c15) cw_X8_refused ml_X8_85 (show g_lay[0]? = some _ from rfl) rfl rfl (by decide) (Nat.le_of_ble_eq_true rfl) rfl dX8_ramp_12 ?_
      exact go_iret (pc := 15) (Option.some.inj h).symm rfl dX8_ramp_15 rfl
def x_X8_slope  (p1 p2 : Int32) (M : g_M) : Option (Int32 × g_M) := (((x_X2_hasRamp 1 p1 M).bind fun u1 => if u1.1 = 0 then (((x_X8_refused (-1 : Int32) u1.2).bind fun u3 => some (u3.1, u3.2))) else (((x_X8_isHour p2 u1.2).bind fun u5 => if u5.1 = 0 then (((x_X8_refused (-1 : Int32) u5.2).bind fun u13 => some (u13.1, u13.2))) else (((x_X2_rampCell 1 p1 (0 : Int32) u5.2).bind fun u7 => ((x_X2_rampCell 1 p1 (1 : Int32) u7.2).bind fun u9 => ((x_X2_slopeOf 1 u7.1 u9.1 p2 u9.2).bind fun u11 => some (u11.1, u11.2)))))))))
set_option maxHeartbeats 4000000 in
set_option maxRecDepth 100000 in
theorem z_X8_slope {X : g_X} (hok : g_ok X)  {p1 p2 : Int32} {M : g_M} {r : Int32 × g_M} (h : x_X8_slope p1 p2 M = some r) : g_Con X yX8_slope cX8_slope 3 (some .int) 3 65 [.inr 0, .inl p1, .inl p2] M r := by
  rw [x_X8_slope] at h
  refine g_con hok (plainFor_of_name (by decide +kernel)) (Nat.le_of_ble_eq_true rfl) (go_to (lv2 := [some (.inr 0), some (.inl p1), some (.inl p2)]) (own := RX8) ?_ (And.intro rfl (And.intro rfl (And.intro rfl trivial))))
  refine go_aload_n (pc := 0) dX8_slope_0 rfl ?_
  refine gf_8_10 (pc := 1) dX8_slope_1 ?_
  refine go_iload_n (pc := 4) dX8_slope_4 rfl ?_
  obtain ⟨u1, c2, h⟩ := g_bd h
  refine go_callV (pc := 5) (as := [.inl p1]) (st := []) (r := u1.1) (M1 := u1.2) (z_X2_hasRamp hok g_isH1 c2) cw_X2_hasRamp ml_X8_297 g_isH1.1 rfl rfl (by decide) (Nat.le_of_ble_eq_true rfl) rfl dX8_slope_5 ?_
  refine go_if_eq (pc := 8) (tgt := 18) dX8_slope_8 (by decide) (fun e16 => ?_) (fun e16 => ?_)
  · replace h := (if_pos e16).symm.trans h
    refine go_aload_n (pc := 18) dX8_slope_18 rfl ?_
    refine go_iconst (pc := 19) (v := (-1 : Int32)) dX8_slope_19 (by decide) ?_
    obtain ⟨u3, c4, h⟩ := g_bd h
    refine go_callV (pc := 20) (as := [.inl (-1 : Int32)]) (st := []) (r := u3.1) (M1 := u3.2) (z_X8_refused hok  c4) cw_X8_refused ml_X8_85 (show g_lay[0]? = some _ from rfl) rfl rfl (by decide) (Nat.le_of_ble_eq_true rfl) rfl dX8_slope_20 ?_
    exact go_iret (pc := 23) (Option.some.inj h).symm rfl dX8_slope_23 rfl
  · replace h := (if_neg e16).symm.trans h
    refine go_iload_n (pc := 11) dX8_slope_11 rfl ?_
    obtain ⟨u5, c6, h⟩ := g_bd h
    refine go_callS (pc := 12) (as := [.inl p2]) (st := []) (r := u5.1) (M1 := u5.2) (z_X8_isHour hok  c6) cw_X8_isHour ml_X8_116 (by decide) (Nat.le_of_ble_eq_true rfl) rfl dX8_slope_12 ?_
    refine go_if_ne (pc := 15) (tgt := 24) dX8_slope_15 (by decide) (fun e15 => ?_) (fun e15 => ?_)
    · replace h := (if_neg e15).symm.trans h
      refine go_aload_n (pc := 24) dX8_slope_24 rfl ?_
      refine gf_8_10 (pc := 25) dX8_slope_25 ?_
      refine go_aload_n (pc := 28) dX8_slope_28 rfl ?_
      refine gf_8_10 (pc := 29) dX8_slope_29 ?_
      refine go_iload_n (pc := 32) dX8_slope_32 rfl ?_
      refine go_iconst (pc := 33) (v := (0 : Int32)) dX8_slope_33 (by decide) ?_
      obtain ⟨u7, c8, h⟩ := g_bd h
      refine go_callV (pc := 34) (as := [.inl p1, .inl (0 : Int32)]) (st := [.inr 1]) (r := u7.1) (M1 := u7.2) (z_X2_rampCell hok g_isH1 c8) cw_X2_rampCell ml_X8_300 g_isH1.1 rfl rfl (by decide) (Nat.le_of_ble_eq_true rfl) rfl dX8_slope_34 ?_
      refine go_aload_n (pc := 37) dX8_slope_37 rfl ?_
      refine gf_8_10 (pc := 38) dX8_slope_38 ?_
      refine go_iload_n (pc := 41) dX8_slope_41 rfl ?_
      refine go_iconst (pc := 42) (v := (1 : Int32)) dX8_slope_42 (by decide) ?_
      obtain ⟨u9, c10, h⟩ := g_bd h
      refine go_callV (pc := 43) (as := [.inl p1, .inl (1 : Int32)]) (st := [.inl u7.1, .inr 1]) (r := u9.1) (M1 := u9.2) (z_X2_rampCell hok g_isH1 c10) cw_X2_rampCell ml_X8_300 g_isH1.1 rfl rfl (by decide) (Nat.le_of_ble_eq_true rfl) rfl dX8_slope_43 ?_
      refine go_iload_n (pc := 46) dX8_slope_46 rfl ?_
      obtain ⟨u11, c12, h⟩ := g_bd h
      refine go_callV (pc := 47) (as := [.inl u7.1, .inl u9.1, .inl p2]) (st := []) (r := u11.1) (M1 := u11.2) (z_X2_slopeOf hok g_isH1 c12) cw_X2_slopeOf ml_X8_303 g_isH1.1 rfl rfl (by decide) (Nat.le_of_ble_eq_true rfl) rfl dX8_slope_47 ?_
      exact go_iret (pc := 50) (Option.some.inj h).symm rfl dX8_slope_50 rfl
    · replace h := (if_pos e15).symm.trans h
      refine go_aload_n (pc := 18) dX8_slope_18 rfl ?_
      refine go_iconst (pc := 19) (v := (-1 : Int32)) dX8_slope_19 (by decide) ?_
      obtain ⟨u13, c14, h⟩ := g_bd h
      refine go_callV (pc := 20) (as := [.inl (-1 : Int32)]) (st := []) (r := u13.1) (M1 := u13.2) (z_X8_refused hok  c14) cw_X8_refused ml_X8_85 (show g_lay[0]? = some _ from rfl) rfl rfl (by decide) (Nat.le_of_ble_eq_true rfl) rfl dX8_slope_20 ?_
      exact go_iret (pc := 23) (Option.some.inj h).symm rfl dX8_slope_23 rfl
def x_X8_open  (p1 p2 : Int32) (M : g_M) : Option (Int32 × g_M) := (((x_X2_hasRamp 1 p1 M).bind fun u1 => if u1.1 = 0 then (((x_X8_refused (-1 : Int32) u1.2).bind fun u15 => some (u15.1, u15.2))) else (if 0 ≤ p2 then (if p2 ≤ (999 : Int32) then (((x_X2_rampCell 1 p1 (0 : Int32) u1.2).bind fun u3 => ((x_X2_rampCell 1 p1 (1 : Int32) u3.2).bind fun u5 => ((x_X2_hoursOpen 1 u3.1 u5.1 p2 u5.2).bind fun u7 => some (u7.1, u7.2))))) else (((x_X8_refused (-6 : Int32) u1.2).bind fun u9 => some (u9.1, u9.2)))) else (((x_X8_refused (-4 : Int32) u1.2).bind fun u12 => some (u12.1, u12.2))))))
set_option maxHeartbeats 4000000 in
set_option maxRecDepth 100000 in
theorem z_X8_open {X : g_X} (hok : g_ok X)  {p1 p2 : Int32} {M : g_M} {r : Int32 × g_M} (h : x_X8_open p1 p2 M = some r) : g_Con X yX8_open cX8_open 3 (some .int) 4 90 [.inr 0, .inl p1, .inl p2] M r := by
  rw [x_X8_open] at h
  refine g_con hok (plainFor_of_name (by decide +kernel)) (Nat.le_of_ble_eq_true rfl) (go_to (lv2 := [some (.inr 0), some (.inl p1), some (.inl p2)]) (own := RX8) ?_ (And.intro rfl (And.intro rfl (And.intro rfl trivial))))
  refine go_aload_n (pc := 0) dX8_open_0 rfl ?_
  refine gf_8_10 (pc := 1) dX8_open_1 ?_
  refine go_iload_n (pc := 4) dX8_open_4 rfl ?_
  obtain ⟨u1, c2, h⟩ := g_bd h
  refine go_callV (pc := 5) (as := [.inl p1]) (st := []) (r := u1.1) (M1 := u1.2) (z_X2_hasRamp hok g_isH1 c2) cw_X2_hasRamp ml_X8_297 g_isH1.1 rfl rfl (by decide) (Nat.le_of_ble_eq_true rfl) rfl dX8_open_5 ?_
  refine go_if_ne (pc := 8) (tgt := 17) dX8_open_8 (by decide) (fun e17 => ?_) (fun e17 => ?_)
  · replace h := (if_neg e17).symm.trans h
    refine go_iload_n (pc := 17) dX8_open_17 rfl ?_
    refine go_if_ge (pc := 18) (tgt := 28) dX8_open_18 (by decide) (fun e14 => ?_) (fun e14 => ?_)
    · replace h := (if_pos e14).symm.trans h
      refine go_iload_n (pc := 28) dX8_open_28 rfl ?_
      refine go_sipush (pc := 29) (v := (999 : Int32)) dX8_open_29 (by decide) ?_
      refine go_icmp_le (pc := 32) (tgt := 42) dX8_open_32 (by decide) (fun e11 => ?_) (fun e11 => ?_)
      · replace h := (if_pos e11).symm.trans h
        refine go_aload_n (pc := 42) dX8_open_42 rfl ?_
        refine gf_8_10 (pc := 43) dX8_open_43 ?_
        refine go_aload_n (pc := 46) dX8_open_46 rfl ?_
        refine gf_8_10 (pc := 47) dX8_open_47 ?_
        refine go_iload_n (pc := 50) dX8_open_50 rfl ?_
        refine go_iconst (pc := 51) (v := (0 : Int32)) dX8_open_51 (by decide) ?_
        obtain ⟨u3, c4, h⟩ := g_bd h
        refine go_callV (pc := 52) (as := [.inl p1, .inl (0 : Int32)]) (st := [.inr 1]) (r := u3.1) (M1 := u3.2) (z_X2_rampCell hok g_isH1 c4) cw_X2_rampCell ml_X8_300 g_isH1.1 rfl rfl (by decide) (Nat.le_of_ble_eq_true rfl) rfl dX8_open_52 ?_
        refine go_aload_n (pc := 55) dX8_open_55 rfl ?_
        refine gf_8_10 (pc := 56) dX8_open_56 ?_
        refine go_iload_n (pc := 59) dX8_open_59 rfl ?_
        refine go_iconst (pc := 60) (v := (1 : Int32)) dX8_open_60 (by decide) ?_
        obtain ⟨u5, c6, h⟩ := g_bd h
        refine go_callV (pc := 61) (as := [.inl p1, .inl (1 : Int32)]) (st := [.inl u3.1, .inr 1]) (r := u5.1) (M1 := u5.2) (z_X2_rampCell hok g_isH1 c6) cw_X2_rampCell ml_X8_300 g_isH1.1 rfl rfl (by decide) (Nat.le_of_ble_eq_true rfl) rfl dX8_open_61 ?_
        refine go_iload_n (pc := 64) dX8_open_64 rfl ?_
        obtain ⟨u7, c8, h⟩ := g_bd h
        refine go_callV (pc := 65) (as := [.inl u3.1, .inl u5.1, .inl p2]) (st := []) (r := u7.1) (M1 := u7.2) (z_X2_hoursOpen hok g_isH1 c8) cw_X2_hoursOpen ml_X8_307 g_isH1.1 rfl rfl (by decide) (Nat.le_of_ble_eq_true rfl) rfl dX8_open_65 ?_
        exact go_iret (pc := 68) (Option.some.inj h).symm rfl dX8_open_68 rfl
      · replace h := (if_neg e11).symm.trans h
        refine go_aload_n (pc := 35) dX8_open_35 rfl ?_
        refine go_bipush (pc := 36) (v := (-6 : Int32)) dX8_open_36 (by decide) ?_
        obtain ⟨u9, c10, h⟩ := g_bd h
        refine go_callV (pc := 38) (as := [.inl (-6 : Int32)]) (st := []) (r := u9.1) (M1 := u9.2) (z_X8_refused hok  c10) cw_X8_refused ml_X8_85 (show g_lay[0]? = some _ from rfl) rfl rfl (by decide) (Nat.le_of_ble_eq_true rfl) rfl dX8_open_38 ?_
        exact go_iret (pc := 41) (Option.some.inj h).symm rfl dX8_open_41 rfl
    · replace h := (if_neg e14).symm.trans h
      refine go_aload_n (pc := 21) dX8_open_21 rfl ?_
      refine go_bipush (pc := 22) (v := (-4 : Int32)) dX8_open_22 (by decide) ?_
      obtain ⟨u12, c13, h⟩ := g_bd h
      refine go_callV (pc := 24) (as := [.inl (-4 : Int32)]) (st := []) (r := u12.1) (M1 := u12.2) (z_X8_refused hok  c13) cw_X8_refused ml_X8_85 (show g_lay[0]? = some _ from rfl) rfl rfl (by decide) (Nat.le_of_ble_eq_true rfl) rfl dX8_open_24 ?_
      exact go_iret (pc := 27) (Option.some.inj h).symm rfl dX8_open_27 rfl
  · replace h := (if_pos e17).symm.trans h
    refine go_aload_n (pc := 11) dX8_open_11 rfl ?_
    refine go_iconst (pc := 12) (v := (-1 : Int32)) dX8_open_12 (by decide) ?_
    obtain ⟨u15, c16, h⟩ := g_bd h
    refine go_callV (pc := 13) (as := [.inl (-1 : Int32)]) (st := []) (r := u15.1) (M1 := u15.2) (z_X8_refused hok  c16) cw_X8_refused ml_X8_85 (show g_lay[0]? = some _ from rfl) rfl rfl (by decide) (Nat.le_of_ble_eq_true rfl) rfl dX8_open_13 ?_
    exact go_iret (pc := 16) (Option.some.inj h).symm rfl dX8_open_16 rfl
def x_X8_bridge_L48   : Nat → Int32 → Int32 → Int32 → Int32 → g_M → Option (Int32 × g_M)
  | 0, _, _, _, _, _ => none
  | n + 1, v1, v2, v3, v4, M => (if (40 : Int32) < v4 then (some ((-9 : Int32), M)) else (((x_X2_hoursOpen 1 v1 v4 v2 M).bind fun u1 => ((x_J6_bitCount_0f7a4 u1.1 u1.2).bind fun u3 => if u3.1 < v3 then (x_X8_bridge_L48   n v1 v2 v3 (v4 + (1 : Int32)) u3.2) else (some (v4, u3.2))))))
set_option maxHeartbeats 4000000 in
set_option maxRecDepth 100000 in
theorem z_X8_bridge_L48 {X : g_X} (hok : g_ok X)  {r : Int32 × g_M}  : ∀ (n : Nat) (v1 : Int32) (v2 : Int32) (v3 : Int32) (v4 : Int32) (M : g_M), x_X8_bridge_L48   n v1 v2 v3 v4 M = some r → g_Go X cX8_bridge RX8 5 (some .int) 4 90 r 48 [some (.inr 0), some (.inl v1), some (.inl v2), some (.inl v3), some (.inl v4)] [] M := by
  intro n
  induction n with
  | zero =>
    intro v1 v2 v3 v4 M h
    rw [x_X8_bridge_L48] at h
    cases h
  | succ n ih =>
    intro v1 v2 v3 v4 M h
    rw [x_X8_bridge_L48] at h
    refine go_iload (pc := 48) dX8_bridge_48 rfl ?_
    refine go_bipush (pc := 50) (v := (40 : Int32)) dX8_bridge_50 (by decide) ?_
    refine go_icmp_gt (pc := 52) (tgt := 82) dX8_bridge_52 (by decide) (fun e6 => ?_) (fun e6 => ?_)
    · replace h := (if_pos e6).symm.trans h
      refine go_bipush (pc := 82) (v := (-9 : Int32)) dX8_bridge_82 (by decide) ?_
      exact go_iret (pc := 84) (Option.some.inj h).symm rfl dX8_bridge_84 rfl
    · replace h := (if_neg e6).symm.trans h
      refine go_aload_n (pc := 55) dX8_bridge_55 rfl ?_
      refine gf_8_10 (pc := 56) dX8_bridge_56 ?_
      refine go_iload_n (pc := 59) dX8_bridge_59 rfl ?_
      refine go_iload (pc := 60) dX8_bridge_60 rfl ?_
      refine go_iload_n (pc := 62) dX8_bridge_62 rfl ?_
      obtain ⟨u1, c2, h⟩ := g_bd h
      refine go_callV (pc := 63) (as := [.inl v1, .inl v4, .inl v2]) (st := []) (r := u1.1) (M1 := u1.2) (z_X2_hoursOpen hok g_isH1 c2) cw_X2_hoursOpen ml_X8_307 g_isH1.1 rfl rfl (by decide) (Nat.le_of_ble_eq_true rfl) rfl dX8_bridge_63 ?_
      obtain ⟨u3, c4, h⟩ := g_bd h
      refine go_callS (pc := 66) (as := [.inl u1.1]) (st := []) (r := u3.1) (M1 := u3.2) (z_J6_bitCount_0f7a4 hok  c4) cw_J6_bitCount_0f7a4 ml_X8_222 (by decide) (Nat.le_of_ble_eq_true rfl) rfl dX8_bridge_66 ?_
      refine go_iload_n (pc := 69) dX8_bridge_69 rfl ?_
      refine go_icmp_lt (pc := 70) (tgt := 76) dX8_bridge_70 (by decide) (fun e5 => ?_) (fun e5 => ?_)
      · replace h := (if_pos e5).symm.trans h
        refine go_iinc (pc := 76) (v := (1 : Int32)) (lv' := [some (.inr 0), some (.inl v1), some (.inl v2), some (.inl v3), some (.inl (v4 + (1 : Int32)))]) dX8_bridge_76 rfl (by decide) (by decide) rfl ?_
        refine go_goto (pc := 79) (tgt := 48) dX8_bridge_79 (by decide) ?_
        exact go_to (ih _ _ _ _ _ h) (And.intro rfl (And.intro rfl (And.intro rfl (And.intro rfl (And.intro rfl trivial)))))
      · replace h := (if_neg e5).symm.trans h
        refine go_iload (pc := 73) dX8_bridge_73 rfl ?_
        exact go_iret (pc := 75) (Option.some.inj h).symm rfl dX8_bridge_75 rfl
def x_X8_bridge  (p1 p2 p3 : Int32) (M : g_M) : Option (Int32 × g_M) := (if p1 < 0 then (((x_X8_refused (-4 : Int32) M).bind fun u7 => some (u7.1, u7.2))) else (if p2 < 0 then (((x_X8_refused (-4 : Int32) M).bind fun u9 => some (u9.1, u9.2))) else (if 0 ≤ p3 then (if (60 : Int32) < p1 then (((x_X8_refused (-6 : Int32) M).bind fun u11 => some (u11.1, u11.2))) else (if (999 : Int32) < p2 then (((x_X8_refused (-6 : Int32) M).bind fun u13 => some (u13.1, u13.2))) else (if p3 ≤ (12 : Int32) then (x_X8_bridge_L48   g_F p1 p2 p3 (1 : Int32) M) else (((x_X8_refused (-6 : Int32) M).bind fun u15 => some (u15.1, u15.2)))))) else (((x_X8_refused (-4 : Int32) M).bind fun u20 => some (u20.1, u20.2))))))
set_option maxHeartbeats 4000000 in
set_option maxRecDepth 100000 in
theorem z_X8_bridge {X : g_X} (hok : g_ok X)  {p1 p2 p3 : Int32} {M : g_M} {r : Int32 × g_M} (h : x_X8_bridge p1 p2 p3 M = some r) : g_Con X yX8_bridge cX8_bridge 5 (some .int) 4 90 [.inr 0, .inl p1, .inl p2, .inl p3] M r := by
  rw [x_X8_bridge] at h
  refine g_con hok (plainFor_of_name (by decide +kernel)) (Nat.le_of_ble_eq_true rfl) (go_to (lv2 := [some (.inr 0), some (.inl p1), some (.inl p2), some (.inl p3), none]) (own := RX8) ?_ (And.intro rfl (And.intro rfl (And.intro rfl (And.intro rfl trivial)))))
  refine go_iload_n (pc := 0) dX8_bridge_0 rfl ?_
  refine go_if_lt (pc := 1) (tgt := 12) dX8_bridge_1 (by decide) (fun e24 => ?_) (fun e24 => ?_)
  · replace h := (if_pos e24).symm.trans h
    refine go_aload_n (pc := 12) dX8_bridge_12 rfl ?_
    refine go_bipush (pc := 13) (v := (-4 : Int32)) dX8_bridge_13 (by decide) ?_
    obtain ⟨u7, c8, h⟩ := g_bd h
    refine go_callV (pc := 15) (as := [.inl (-4 : Int32)]) (st := []) (r := u7.1) (M1 := u7.2) (z_X8_refused hok  c8) cw_X8_refused ml_X8_85 (show g_lay[0]? = some _ from rfl) rfl rfl (by decide) (Nat.le_of_ble_eq_true rfl) rfl dX8_bridge_15 ?_
    exact go_iret (pc := 18) (Option.some.inj h).symm rfl dX8_bridge_18 rfl
  · replace h := (if_neg e24).symm.trans h
    refine go_iload_n (pc := 4) dX8_bridge_4 rfl ?_
    refine go_if_lt (pc := 5) (tgt := 12) dX8_bridge_5 (by decide) (fun e23 => ?_) (fun e23 => ?_)
    · replace h := (if_pos e23).symm.trans h
      refine go_aload_n (pc := 12) dX8_bridge_12 rfl ?_
      refine go_bipush (pc := 13) (v := (-4 : Int32)) dX8_bridge_13 (by decide) ?_
      obtain ⟨u9, c10, h⟩ := g_bd h
      refine go_callV (pc := 15) (as := [.inl (-4 : Int32)]) (st := []) (r := u9.1) (M1 := u9.2) (z_X8_refused hok  c10) cw_X8_refused ml_X8_85 (show g_lay[0]? = some _ from rfl) rfl rfl (by decide) (Nat.le_of_ble_eq_true rfl) rfl dX8_bridge_15 ?_
      exact go_iret (pc := 18) (Option.some.inj h).symm rfl dX8_bridge_18 rfl
    · replace h := (if_neg e23).symm.trans h
      refine go_iload_n (pc := 8) dX8_bridge_8 rfl ?_
      refine go_if_ge (pc := 9) (tgt := 19) dX8_bridge_9 (by decide) (fun e22 => ?_) (fun e22 => ?_)
      · replace h := (if_pos e22).symm.trans h
        refine go_iload_n (pc := 19) dX8_bridge_19 rfl ?_
        refine go_bipush (pc := 20) (v := (60 : Int32)) dX8_bridge_20 (by decide) ?_
        refine go_icmp_gt (pc := 22) (tgt := 38) dX8_bridge_22 (by decide) (fun e19 => ?_) (fun e19 => ?_)
        · replace h := (if_pos e19).symm.trans h
          refine go_aload_n (pc := 38) dX8_bridge_38 rfl ?_
          refine go_bipush (pc := 39) (v := (-6 : Int32)) dX8_bridge_39 (by decide) ?_
          obtain ⟨u11, c12, h⟩ := g_bd h
          refine go_callV (pc := 41) (as := [.inl (-6 : Int32)]) (st := []) (r := u11.1) (M1 := u11.2) (z_X8_refused hok  c12) cw_X8_refused ml_X8_85 (show g_lay[0]? = some _ from rfl) rfl rfl (by decide) (Nat.le_of_ble_eq_true rfl) rfl dX8_bridge_41 ?_
          exact go_iret (pc := 44) (Option.some.inj h).symm rfl dX8_bridge_44 rfl
        · replace h := (if_neg e19).symm.trans h
          refine go_iload_n (pc := 25) dX8_bridge_25 rfl ?_
          refine go_sipush (pc := 26) (v := (999 : Int32)) dX8_bridge_26 (by decide) ?_
          refine go_icmp_gt (pc := 29) (tgt := 38) dX8_bridge_29 (by decide) (fun e18 => ?_) (fun e18 => ?_)
          · replace h := (if_pos e18).symm.trans h
            refine go_aload_n (pc := 38) dX8_bridge_38 rfl ?_
            refine go_bipush (pc := 39) (v := (-6 : Int32)) dX8_bridge_39 (by decide) ?_
            obtain ⟨u13, c14, h⟩ := g_bd h
            refine go_callV (pc := 41) (as := [.inl (-6 : Int32)]) (st := []) (r := u13.1) (M1 := u13.2) (z_X8_refused hok  c14) cw_X8_refused ml_X8_85 (show g_lay[0]? = some _ from rfl) rfl rfl (by decide) (Nat.le_of_ble_eq_true rfl) rfl dX8_bridge_41 ?_
            exact go_iret (pc := 44) (Option.some.inj h).symm rfl dX8_bridge_44 rfl
          · replace h := (if_neg e18).symm.trans h
            refine go_iload_n (pc := 32) dX8_bridge_32 rfl ?_
            refine go_bipush (pc := 33) (v := (12 : Int32)) dX8_bridge_33 (by decide) ?_
            refine go_icmp_le (pc := 35) (tgt := 45) dX8_bridge_35 (by decide) (fun e17 => ?_) (fun e17 => ?_)
            · replace h := (if_pos e17).symm.trans h
              refine go_iconst (pc := 45) (v := (1 : Int32)) dX8_bridge_45 (by decide) ?_
              refine go_istore (pc := 46) (lv' := [some (.inr 0), some (.inl p1), some (.inl p2), some (.inl p3), some (.inl (1 : Int32))]) dX8_bridge_46 (by decide) rfl ?_
              exact go_to (z_X8_bridge_L48 hok   g_F _ _ _ _ _ h) (And.intro rfl (And.intro rfl (And.intro rfl (And.intro rfl (And.intro rfl trivial)))))
            · replace h := (if_neg e17).symm.trans h
              refine go_aload_n (pc := 38) dX8_bridge_38 rfl ?_
              refine go_bipush (pc := 39) (v := (-6 : Int32)) dX8_bridge_39 (by decide) ?_
              obtain ⟨u15, c16, h⟩ := g_bd h
              refine go_callV (pc := 41) (as := [.inl (-6 : Int32)]) (st := []) (r := u15.1) (M1 := u15.2) (z_X8_refused hok  c16) cw_X8_refused ml_X8_85 (show g_lay[0]? = some _ from rfl) rfl rfl (by decide) (Nat.le_of_ble_eq_true rfl) rfl dX8_bridge_41 ?_
              exact go_iret (pc := 44) (Option.some.inj h).symm rfl dX8_bridge_44 rfl
      · replace h := (if_neg e22).symm.trans h
        refine go_aload_n (pc := 12) dX8_bridge_12 rfl ?_
        refine go_bipush (pc := 13) (v := (-4 : Int32)) dX8_bridge_13 (by decide) ?_
        obtain ⟨u20, c21, h⟩ := g_bd h
        refine go_callV (pc := 15) (as := [.inl (-4 : Int32)]) (st := []) (r := u20.1) (M1 := u20.2) (z_X8_refused hok  c21) cw_X8_refused ml_X8_85 (show g_lay[0]? = some _ from rfl) rfl rfl (by decide) (Nat.le_of_ble_eq_true rfl) rfl dX8_bridge_15 ?_
        exact go_iret (pc := 18) (Option.some.inj h).symm rfl dX8_bridge_18 rfl
def x_X8_isWellAllDay  (M : g_M) : Option (Int32 × g_M) := (((x_X2_hoursUnder 1 M).bind fun u1 => if u1.1 = 0 then (((x_X5_hangingHours 27 (1 + 1) 12 u1.2).bind fun u3 => if u3.1 = 0 then (((x_X5_tooFarHours 27 (1 + 1) 12 u3.2).bind fun u5 => if u5.1 = 0 then (some ((1 : Int32), u5.2)) else (some ((0 : Int32), u5.2)))) else (some ((0 : Int32), u3.2)))) else (some ((0 : Int32), u1.2))))
set_option maxHeartbeats 4000000 in
set_option maxRecDepth 100000 in
theorem z_X8_isWellAllDay {X : g_X} (hok : g_ok X)  {M : g_M} {r : Int32 × g_M} (h : x_X8_isWellAllDay  M = some r) : g_Con X yX8_isWellAllDay cX8_isWellAllDay 1 (some .boolean) 5 111 [.inr 0] M r := by
  rw [x_X8_isWellAllDay] at h
  refine g_con hok (plainFor_of_name (by decide +kernel)) (Nat.le_of_ble_eq_true rfl) (go_to (lv2 := [some (.inr 0)]) (own := RX8) ?_ (And.intro rfl trivial))
  refine go_aload_n (pc := 0) dX8_isWellAllDay_0 rfl ?_
  refine gf_8_10 (pc := 1) dX8_isWellAllDay_1 ?_
  obtain ⟨u1, c2, h⟩ := g_bd h
  refine go_callV (pc := 4) (as := []) (st := []) (r := u1.1) (M1 := u1.2) (z_X2_hoursUnder hok g_isH1 c2) cw_X2_hoursUnder ml_X8_198 g_isH1.1 rfl rfl (by decide) (Nat.le_of_ble_eq_true rfl) rfl dX8_isWellAllDay_4 ?_
  refine go_if_ne (pc := 7) (tgt := 48) dX8_isWellAllDay_7 (by decide) (fun e9 => ?_) (fun e9 => ?_)
  · replace h := (if_neg e9).symm.trans h
    refine go_iconst (pc := 48) (v := (0 : Int32)) dX8_isWellAllDay_48 (by decide) ?_
    exact go_iret (pc := 49) (Option.some.inj h).symm rfl dX8_isWellAllDay_49 rfl
  · replace h := (if_pos e9).symm.trans h
    refine go_aload_n (pc := 10) dX8_isWellAllDay_10 rfl ?_
    refine gf_8_54 (pc := 11) dX8_isWellAllDay_11 ?_
    refine go_aload_n (pc := 14) dX8_isWellAllDay_14 rfl ?_
    refine gf_8_10 (pc := 15) dX8_isWellAllDay_15 ?_
    refine gf_8_188 (pc := 18) g_isH1 dX8_isWellAllDay_18 ?_
    obtain ⟨u3, c4, h⟩ := g_bd h
    refine go_callV (pc := 21) (as := [.inr (1 + 1)]) (st := []) (r := u3.1) (M1 := u3.2) (z_X5_hangingHours hok g_isM27 g_isH1.2.1 c4) cw_X5_hangingHours ml_X8_191 g_isM27 rfl rfl (by decide) (Nat.le_of_ble_eq_true rfl) rfl dX8_isWellAllDay_21 ?_
    refine go_if_ne (pc := 24) (tgt := 48) dX8_isWellAllDay_24 (by decide) (fun e8 => ?_) (fun e8 => ?_)
    · replace h := (if_neg e8).symm.trans h
      refine go_iconst (pc := 48) (v := (0 : Int32)) dX8_isWellAllDay_48 (by decide) ?_
      exact go_iret (pc := 49) (Option.some.inj h).symm rfl dX8_isWellAllDay_49 rfl
    · replace h := (if_pos e8).symm.trans h
      refine go_aload_n (pc := 27) dX8_isWellAllDay_27 rfl ?_
      refine gf_8_54 (pc := 28) dX8_isWellAllDay_28 ?_
      refine go_aload_n (pc := 31) dX8_isWellAllDay_31 rfl ?_
      refine gf_8_10 (pc := 32) dX8_isWellAllDay_32 ?_
      refine gf_8_188 (pc := 35) g_isH1 dX8_isWellAllDay_35 ?_
      obtain ⟨u5, c6, h⟩ := g_bd h
      refine go_callV (pc := 38) (as := [.inr (1 + 1)]) (st := []) (r := u5.1) (M1 := u5.2) (z_X5_tooFarHours hok g_isM27 g_isH1.2.1 c6) cw_X5_tooFarHours ml_X8_195 g_isM27 rfl rfl (by decide) (Nat.le_of_ble_eq_true rfl) rfl dX8_isWellAllDay_38 ?_
      refine go_if_ne (pc := 41) (tgt := 48) dX8_isWellAllDay_41 (by decide) (fun e7 => ?_) (fun e7 => ?_)
      · replace h := (if_neg e7).symm.trans h
        refine go_iconst (pc := 48) (v := (0 : Int32)) dX8_isWellAllDay_48 (by decide) ?_
        exact go_iret (pc := 49) (Option.some.inj h).symm rfl dX8_isWellAllDay_49 rfl
      · replace h := (if_pos e7).symm.trans h
        refine go_iconst (pc := 44) (v := (1 : Int32)) dX8_isWellAllDay_44 (by decide) ?_
        refine go_goto (pc := 45) (tgt := 49) dX8_isWellAllDay_45 (by decide) ?_
        exact go_iret (pc := 49) (Option.some.inj h).symm rfl dX8_isWellAllDay_49 rfl
def x_X8_berths_L59  (k34 : Int32 → Int32 → g_M → Option (Int32 × g_M)) : Nat → Int32 → Int32 → Int32 → g_M → Option (Int32 × g_M)
  | 0, _, _, _, _ => none
  | n + 1, v1, v2, v3, M => (if (M 1 5) ≤ v3 then (k34 v1 (v2 + (1 : Int32)) M) else (((x_X5_moveTo 27 1 v3 M).bind fun u1 => ((x_X8_isWellAllDay u1.2).bind fun u3 => if u3.1 = 0 then (((x_X0_setCost v2 v3 (0 : Int32) u3.2).bind fun u5 => x_X8_berths_L59  k34 n v1 v2 (v3 + (1 : Int32)) u5.2)) else (((x_X0_setCost v2 v3 (-1 : Int32) u3.2).bind fun u7 => x_X8_berths_L59  k34 n v1 v2 (v3 + (1 : Int32)) u7.2))))))
set_option maxHeartbeats 4000000 in
set_option maxRecDepth 100000 in
theorem z_X8_berths_L59 {X : g_X} (hok : g_ok X)  {r : Int32 × g_M} {k34 : Int32 → Int32 → g_M → Option (Int32 × g_M)} (hk34 : ∀ (v1 : Int32) (v2 : Int32) (M : g_M), k34 v1 v2 M = some r → g_Go X cX8_berths RX8 4 (some .int) 6 131 r 34 [some (.inr 0), some (.inl v1), some (.inl v2), none] [] M) : ∀ (n : Nat) (v1 : Int32) (v2 : Int32) (v3 : Int32) (M : g_M), x_X8_berths_L59  k34 n v1 v2 v3 M = some r → g_Go X cX8_berths RX8 4 (some .int) 6 131 r 59 [some (.inr 0), some (.inl v1), some (.inl v2), some (.inl v3)] [] M := by
  intro n
  induction n with
  | zero =>
    intro v1 v2 v3 M h
    rw [x_X8_berths_L59] at h
    cases h
  | succ n ih =>
    intro v1 v2 v3 M h
    rw [x_X8_berths_L59] at h
    refine go_iload_n (pc := 59) dX8_berths_59 rfl ?_
    refine go_aload_n (pc := 60) dX8_berths_60 rfl ?_
    refine gf_8_10 (pc := 61) dX8_berths_61 ?_
    refine gf_8_310 (pc := 64) g_isH1 dX8_berths_64 ?_
    refine go_icmp_ge (pc := 67) (tgt := 109) dX8_berths_67 (by decide) (fun e10 => ?_) (fun e10 => ?_)
    · replace h := (if_pos e10).symm.trans h
      refine go_iinc (pc := 109) (v := (1 : Int32)) (lv' := [some (.inr 0), some (.inl v1), some (.inl (v2 + (1 : Int32))), some (.inl v3)]) dX8_berths_109 rfl (by decide) (by decide) rfl ?_
      refine go_goto (pc := 112) (tgt := 34) dX8_berths_112 (by decide) ?_
      exact go_to (hk34 _ _ _ h) (And.intro rfl (And.intro rfl (And.intro rfl trivial)))
    · replace h := (if_neg e10).symm.trans h
      refine go_aload_n (pc := 70) dX8_berths_70 rfl ?_
      refine gf_8_54 (pc := 71) dX8_berths_71 ?_
      refine go_aload_n (pc := 74) dX8_berths_74 rfl ?_
      refine gf_8_10 (pc := 75) dX8_berths_75 ?_
      refine go_iload_n (pc := 78) dX8_berths_78 rfl ?_
      obtain ⟨u1, c2, h⟩ := g_bd h
      refine go_callV (pc := 79) (as := [.inr 1, .inl v3]) (st := []) (r := u1.1) (M1 := u1.2) (z_X5_moveTo hok g_isM27 g_isH1 c2) cw_X5_moveTo ml_X8_313 g_isM27 rfl rfl (by decide) (Nat.le_of_ble_eq_true rfl) rfl dX8_berths_79 ?_
      refine go_aload_n (pc := 82) dX8_berths_82 rfl ?_
      refine gf_8_71 (pc := 83) dX8_berths_83 ?_
      refine go_iload_n (pc := 86) dX8_berths_86 rfl ?_
      refine go_iload_n (pc := 87) dX8_berths_87 rfl ?_
      refine go_aload_n (pc := 88) dX8_berths_88 rfl ?_
      obtain ⟨u3, c4, h⟩ := g_bd h
      refine go_callV (pc := 89) (as := []) (st := [.inl v3, .inl v2, .inr 34]) (r := u3.1) (M1 := u3.2) (z_X8_isWellAllDay hok  c4) cw_X8_isWellAllDay ml_X8_316 (show g_lay[0]? = some _ from rfl) rfl rfl (by decide) (Nat.le_of_ble_eq_true rfl) rfl dX8_berths_89 ?_
      refine go_if_eq (pc := 92) (tgt := 99) dX8_berths_92 (by decide) (fun e9 => ?_) (fun e9 => ?_)
      · replace h := (if_pos e9).symm.trans h
        refine go_iconst (pc := 99) (v := (0 : Int32)) dX8_berths_99 (by decide) ?_
        obtain ⟨u5, c6, h⟩ := g_bd h
        refine go_callV (pc := 100) (as := [.inl v2, .inl v3, .inl (0 : Int32)]) (st := []) (r := u5.1) (M1 := u5.2) (z_X0_setCost hok  c6) cw_X0_setCost ml_X8_320 (show g_lay[34]? = some _ from rfl) rfl rfl (by decide) (Nat.le_of_ble_eq_true rfl) rfl dX8_berths_100 ?_
        refine go_iinc (pc := 103) (v := (1 : Int32)) (lv' := [some (.inr 0), some (.inl v1), some (.inl v2), some (.inl (v3 + (1 : Int32)))]) dX8_berths_103 rfl (by decide) (by decide) rfl ?_
        refine go_goto (pc := 106) (tgt := 59) dX8_berths_106 (by decide) ?_
        exact go_to (ih _ _ _ _ h) (And.intro rfl (And.intro rfl (And.intro rfl (And.intro rfl trivial))))
      · replace h := (if_neg e9).symm.trans h
        refine go_iconst (pc := 95) (v := (-1 : Int32)) dX8_berths_95 (by decide) ?_
        refine go_goto (pc := 96) (tgt := 100) dX8_berths_96 (by decide) ?_
        obtain ⟨u7, c8, h⟩ := g_bd h
        refine go_callV (pc := 100) (as := [.inl v2, .inl v3, .inl (-1 : Int32)]) (st := []) (r := u7.1) (M1 := u7.2) (z_X0_setCost hok  c8) cw_X0_setCost ml_X8_320 (show g_lay[34]? = some _ from rfl) rfl rfl (by decide) (Nat.le_of_ble_eq_true rfl) rfl dX8_berths_100 ?_
        refine go_iinc (pc := 103) (v := (1 : Int32)) (lv' := [some (.inr 0), some (.inl v1), some (.inl v2), some (.inl (v3 + (1 : Int32)))]) dX8_berths_103 rfl (by decide) (by decide) rfl ?_
        refine go_goto (pc := 106) (tgt := 59) dX8_berths_106 (by decide) ?_
        exact go_to (ih _ _ _ _ h) (And.intro rfl (And.intro rfl (And.intro rfl (And.intro rfl trivial))))
def x_X8_berths_L34   : Nat → Int32 → Int32 → g_M → Option (Int32 × g_M)
  | 0, _, _, _ => none
  | n + 1, v1, v2, M => (if (M 1 6) ≤ v2 then (((x_X0_solve (M 1 6) (M 1 5) (0 : Int32) M).bind fun u11 => if v1 = 0 then (((x_X0_leastCost u11.2).bind fun u15 => some ((-u15.1), u15.2))) else (((x_X0_ringDigits u11.2).bind fun u13 => some (u13.1, u13.2))))) else (((x_X5_load 27 1 v2 M).bind fun u18 => x_X8_berths_L59  (x_X8_berths_L34   n) g_F v1 v2 (0 : Int32) u18.2)))
set_option maxHeartbeats 4000000 in
set_option maxRecDepth 100000 in
theorem z_X8_berths_L34 {X : g_X} (hok : g_ok X)  {r : Int32 × g_M}  : ∀ (n : Nat) (v1 : Int32) (v2 : Int32) (M : g_M), x_X8_berths_L34   n v1 v2 M = some r → g_Go X cX8_berths RX8 4 (some .int) 6 131 r 34 [some (.inr 0), some (.inl v1), some (.inl v2), none] [] M := by
  intro n
  induction n with
  | zero =>
    intro v1 v2 M h
    rw [x_X8_berths_L34] at h
    cases h
  | succ n ih =>
    intro v1 v2 M h
    rw [x_X8_berths_L34] at h
    refine go_iload_n (pc := 34) dX8_berths_34 rfl ?_
    refine go_aload_n (pc := 35) dX8_berths_35 rfl ?_
    refine gf_8_10 (pc := 36) dX8_berths_36 ?_
    refine gf_8_243 (pc := 39) g_isH1 dX8_berths_39 ?_
    refine go_icmp_ge (pc := 42) (tgt := 115) dX8_berths_42 (by decide) (fun e20 => ?_) (fun e20 => ?_)
    · replace h := (if_pos e20).symm.trans h
      refine go_aload_n (pc := 115) dX8_berths_115 rfl ?_
      refine gf_8_71 (pc := 116) dX8_berths_116 ?_
      refine go_aload_n (pc := 119) dX8_berths_119 rfl ?_
      refine gf_8_10 (pc := 120) dX8_berths_120 ?_
      refine gf_8_243 (pc := 123) g_isH1 dX8_berths_123 ?_
      refine go_aload_n (pc := 126) dX8_berths_126 rfl ?_
      refine gf_8_10 (pc := 127) dX8_berths_127 ?_
      refine gf_8_310 (pc := 130) g_isH1 dX8_berths_130 ?_
      refine go_iconst (pc := 133) (v := (0 : Int32)) dX8_berths_133 (by decide) ?_
      obtain ⟨u11, c12, h⟩ := g_bd h
      refine go_callV (pc := 134) (as := [.inl (M 1 6), .inl (M 1 5), .inl (0 : Int32)]) (st := []) (r := u11.1) (M1 := u11.2) (z_X0_solve hok  c12) cw_X0_solve ml_X8_323 (show g_lay[34]? = some _ from rfl) rfl rfl (by decide) (Nat.le_of_ble_eq_true rfl) rfl dX8_berths_134 ?_
      refine go_iload_n (pc := 137) dX8_berths_137 rfl ?_
      refine go_if_ne (pc := 138) (tgt := 152) dX8_berths_138 (by decide) (fun e17 => ?_) (fun e17 => ?_)
      · replace h := (if_neg e17).symm.trans h
        refine go_aload_n (pc := 152) dX8_berths_152 rfl ?_
        refine gf_8_71 (pc := 153) dX8_berths_153 ?_
        obtain ⟨u13, c14, h⟩ := g_bd h
        refine go_callV (pc := 156) (as := []) (st := []) (r := u13.1) (M1 := u13.2) (z_X0_ringDigits hok  c14) cw_X0_ringDigits ml_X8_329 (show g_lay[34]? = some _ from rfl) rfl rfl (by decide) (Nat.le_of_ble_eq_true rfl) rfl dX8_berths_156 ?_
        exact go_iret (pc := 159) (Option.some.inj h).symm rfl dX8_berths_159 rfl
      · replace h := (if_pos e17).symm.trans h
        refine go_aload_n (pc := 141) dX8_berths_141 rfl ?_
        refine gf_8_71 (pc := 142) dX8_berths_142 ?_
        obtain ⟨u15, c16, h⟩ := g_bd h
        refine go_callV (pc := 145) (as := []) (st := []) (r := u15.1) (M1 := u15.2) (z_X0_leastCost hok  c16) cw_X0_leastCost ml_X8_326 (show g_lay[34]? = some _ from rfl) rfl rfl (by decide) (Nat.le_of_ble_eq_true rfl) rfl dX8_berths_145 ?_
        refine go_ineg (pc := 148) dX8_berths_148 ?_
        refine go_goto (pc := 149) (tgt := 159) dX8_berths_149 (by decide) ?_
        exact go_iret (pc := 159) (Option.some.inj h).symm rfl dX8_berths_159 rfl
    · replace h := (if_neg e20).symm.trans h
      refine go_aload_n (pc := 45) dX8_berths_45 rfl ?_
      refine gf_8_54 (pc := 46) dX8_berths_46 ?_
      refine go_aload_n (pc := 49) dX8_berths_49 rfl ?_
      refine gf_8_10 (pc := 50) dX8_berths_50 ?_
      refine go_iload_n (pc := 53) dX8_berths_53 rfl ?_
      obtain ⟨u18, c19, h⟩ := g_bd h
      refine go_callV (pc := 54) (as := [.inr 1, .inl v2]) (st := []) (r := u18.1) (M1 := u18.2) (z_X5_load hok g_isM27 g_isH1 c19) cw_X5_load ml_X8_166 g_isM27 rfl rfl (by decide) (Nat.le_of_ble_eq_true rfl) rfl dX8_berths_54 ?_
      refine go_iconst (pc := 57) (v := (0 : Int32)) dX8_berths_57 (by decide) ?_
      refine go_istore_n (pc := 58) (lv' := [some (.inr 0), some (.inl v1), some (.inl v2), some (.inl (0 : Int32))]) dX8_berths_58 (by decide) rfl ?_
      exact go_to (z_X8_berths_L59 hok  (ih) g_F _ _ _ _ h) (And.intro rfl (And.intro rfl (And.intro rfl (And.intro rfl trivial))))
def x_X8_berths  (p1 : Int32) (M : g_M) : Option (Int32 × g_M) := (((x_X8_isOneOf p1 (2 : Int32) M).bind fun u21 => if u21.1 = 0 then (((x_X8_refused (-2 : Int32) u21.2).bind fun u26 => some (u26.1, u26.2))) else (if (u21.2 1 6) = 0 then (((x_X8_refused (-3 : Int32) u21.2).bind fun u23 => some (u23.1, u23.2))) else (x_X8_berths_L34   g_F p1 (0 : Int32) u21.2))))
set_option maxHeartbeats 4000000 in
set_option maxRecDepth 100000 in
theorem z_X8_berths {X : g_X} (hok : g_ok X)  {p1 : Int32} {M : g_M} {r : Int32 × g_M} (h : x_X8_berths p1 M = some r) : g_Con X yX8_berths cX8_berths 4 (some .int) 6 131 [.inr 0, .inl p1] M r := by
  rw [x_X8_berths] at h
  refine g_con hok (plainFor_of_name (by decide +kernel)) (Nat.le_of_ble_eq_true rfl) (go_to (lv2 := [some (.inr 0), some (.inl p1), none, none]) (own := RX8) ?_ (And.intro rfl (And.intro rfl trivial)))
  refine go_iload_n (pc := 0) dX8_berths_0 rfl ?_
  refine go_iconst (pc := 1) (v := (2 : Int32)) dX8_berths_1 (by decide) ?_
  obtain ⟨u21, c22, h⟩ := g_bd h
  refine go_callS (pc := 2) (as := [.inl p1, .inl (2 : Int32)]) (st := []) (r := u21.1) (M1 := u21.2) (z_X8_isOneOf hok  c22) cw_X8_isOneOf ml_X8_153 (by decide) (Nat.le_of_ble_eq_true rfl) rfl dX8_berths_2 ?_
  refine go_if_ne (pc := 5) (tgt := 15) dX8_berths_5 (by decide) (fun e28 => ?_) (fun e28 => ?_)
  · replace h := (if_neg e28).symm.trans h
    refine go_aload_n (pc := 15) dX8_berths_15 rfl ?_
    refine gf_8_10 (pc := 16) dX8_berths_16 ?_
    refine gf_8_243 (pc := 19) g_isH1 dX8_berths_19 ?_
    refine go_if_ne (pc := 22) (tgt := 32) dX8_berths_22 (by decide) (fun e25 => ?_) (fun e25 => ?_)
    · replace h := (if_neg e25).symm.trans h
      refine go_iconst (pc := 32) (v := (0 : Int32)) dX8_berths_32 (by decide) ?_
      refine go_istore_n (pc := 33) (lv' := [some (.inr 0), some (.inl p1), some (.inl (0 : Int32)), none]) dX8_berths_33 (by decide) rfl ?_
      exact go_to (z_X8_berths_L34 hok   g_F _ _ _ h) (And.intro rfl (And.intro rfl (And.intro rfl trivial)))
    · replace h := (if_pos e25).symm.trans h
      refine go_aload_n (pc := 25) dX8_berths_25 rfl ?_
      refine go_bipush (pc := 26) (v := (-3 : Int32)) dX8_berths_26 (by decide) ?_
      obtain ⟨u23, c24, h⟩ := g_bd h
      refine go_callV (pc := 28) (as := [.inl (-3 : Int32)]) (st := []) (r := u23.1) (M1 := u23.2) (z_X8_refused hok  c24) cw_X8_refused ml_X8_85 (show g_lay[0]? = some _ from rfl) rfl rfl (by decide) (Nat.le_of_ble_eq_true rfl) rfl dX8_berths_28 ?_
      exact go_iret (pc := 31) (Option.some.inj h).symm rfl dX8_berths_31 rfl
  · replace h := (if_pos e28).symm.trans h
    refine go_aload_n (pc := 8) dX8_berths_8 rfl ?_
    refine go_bipush (pc := 9) (v := (-2 : Int32)) dX8_berths_9 (by decide) ?_
    obtain ⟨u26, c27, h⟩ := g_bd h
    refine go_callV (pc := 11) (as := [.inl (-2 : Int32)]) (st := []) (r := u26.1) (M1 := u26.2) (z_X8_refused hok  c27) cw_X8_refused ml_X8_85 (show g_lay[0]? = some _ from rfl) rfl rfl (by decide) (Nat.le_of_ble_eq_true rfl) rfl dX8_berths_11 ?_
    exact go_iret (pc := 14) (Option.some.inj h).symm rfl dX8_berths_14 rfl
def x_X8_cheapest_L59  (k34 : Int32 → Int32 → g_M → Option (Int32 × g_M)) : Nat → Int32 → Int32 → Int32 → g_M → Option (Int32 × g_M)
  | 0, _, _, _, _ => none
  | n + 1, v1, v2, v3, M => (if (M 1 5) ≤ v3 then (k34 v1 (v2 + (1 : Int32)) M) else (((x_X5_moveTo 27 1 v3 M).bind fun u1 => ((x_X5_leastFor 27 (1 + 1) 12 u1.2).bind fun u3 => if u3.1 ≤ (99 : Int32) then (((x_X0_setCost v2 v3 u3.1 u3.2).bind fun u5 => x_X8_cheapest_L59  k34 n v1 v2 (v3 + (1 : Int32)) u5.2)) else (((x_X0_setCost v2 v3 (1000000 : Int32) u3.2).bind fun u7 => x_X8_cheapest_L59  k34 n v1 v2 (v3 + (1 : Int32)) u7.2))))))
set_option maxHeartbeats 4000000 in
set_option maxRecDepth 100000 in
theorem z_X8_cheapest_L59 {X : g_X} (hok : g_ok X)  {r : Int32 × g_M} {k34 : Int32 → Int32 → g_M → Option (Int32 × g_M)} (hk34 : ∀ (v1 : Int32) (v2 : Int32) (M : g_M), k34 v1 v2 M = some r → g_Go X cX8_cheapest RX8 5 (some .int) 4 90 r 34 [some (.inr 0), some (.inl v1), some (.inl v2), none, none] [] M) : ∀ (n : Nat) (v1 : Int32) (v2 : Int32) (v3 : Int32) (M : g_M), x_X8_cheapest_L59  k34 n v1 v2 v3 M = some r → g_Go X cX8_cheapest RX8 5 (some .int) 4 90 r 59 [some (.inr 0), some (.inl v1), some (.inl v2), some (.inl v3), none] [] M := by
  intro n
  induction n with
  | zero =>
    intro v1 v2 v3 M h
    rw [x_X8_cheapest_L59] at h
    cases h
  | succ n ih =>
    intro v1 v2 v3 M h
    rw [x_X8_cheapest_L59] at h
    refine go_iload_n (pc := 59) dX8_cheapest_59 rfl ?_
    refine go_aload_n (pc := 60) dX8_cheapest_60 rfl ?_
    refine gf_8_10 (pc := 61) dX8_cheapest_61 ?_
    refine gf_8_310 (pc := 64) g_isH1 dX8_cheapest_64 ?_
    refine go_icmp_ge (pc := 67) (tgt := 128) dX8_cheapest_67 (by decide) (fun e10 => ?_) (fun e10 => ?_)
    · replace h := (if_pos e10).symm.trans h
      refine go_iinc (pc := 128) (v := (1 : Int32)) (lv' := [some (.inr 0), some (.inl v1), some (.inl (v2 + (1 : Int32))), some (.inl v3), none]) dX8_cheapest_128 rfl (by decide) (by decide) rfl ?_
      refine go_goto (pc := 131) (tgt := 34) dX8_cheapest_131 (by decide) ?_
      exact go_to (hk34 _ _ _ h) (And.intro rfl (And.intro rfl (And.intro rfl trivial)))
    · replace h := (if_neg e10).symm.trans h
      refine go_aload_n (pc := 70) dX8_cheapest_70 rfl ?_
      refine gf_8_54 (pc := 71) dX8_cheapest_71 ?_
      refine go_aload_n (pc := 74) dX8_cheapest_74 rfl ?_
      refine gf_8_10 (pc := 75) dX8_cheapest_75 ?_
      refine go_iload_n (pc := 78) dX8_cheapest_78 rfl ?_
      obtain ⟨u1, c2, h⟩ := g_bd h
      refine go_callV (pc := 79) (as := [.inr 1, .inl v3]) (st := []) (r := u1.1) (M1 := u1.2) (z_X5_moveTo hok g_isM27 g_isH1 c2) cw_X5_moveTo ml_X8_313 g_isM27 rfl rfl (by decide) (Nat.le_of_ble_eq_true rfl) rfl dX8_cheapest_79 ?_
      refine go_aload_n (pc := 82) dX8_cheapest_82 rfl ?_
      refine gf_8_54 (pc := 83) dX8_cheapest_83 ?_
      refine go_aload_n (pc := 86) dX8_cheapest_86 rfl ?_
      refine gf_8_10 (pc := 87) dX8_cheapest_87 ?_
      refine gf_8_188 (pc := 90) g_isH1 dX8_cheapest_90 ?_
      obtain ⟨u3, c4, h⟩ := g_bd h
      refine go_callV (pc := 93) (as := [.inr (1 + 1)]) (st := []) (r := u3.1) (M1 := u3.2) (z_X5_leastFor hok g_isM27 g_isH1.2.1 c4) cw_X5_leastFor ml_X8_227 g_isM27 rfl rfl (by decide) (Nat.le_of_ble_eq_true rfl) rfl dX8_cheapest_93 ?_
      refine go_istore (pc := 96) (lv' := [some (.inr 0), some (.inl v1), some (.inl v2), some (.inl v3), some (.inl u3.1)]) dX8_cheapest_96 (by decide) rfl ?_
      refine go_aload_n (pc := 98) dX8_cheapest_98 rfl ?_
      refine gf_8_71 (pc := 99) dX8_cheapest_99 ?_
      refine go_iload_n (pc := 102) dX8_cheapest_102 rfl ?_
      refine go_iload_n (pc := 103) dX8_cheapest_103 rfl ?_
      refine go_iload (pc := 104) dX8_cheapest_104 rfl ?_
      refine go_bipush (pc := 106) (v := (99 : Int32)) dX8_cheapest_106 (by decide) ?_
      refine go_icmp_le (pc := 108) (tgt := 117) dX8_cheapest_108 (by decide) (fun e9 => ?_) (fun e9 => ?_)
      · replace h := (if_pos e9).symm.trans h
        refine go_iload (pc := 117) dX8_cheapest_117 rfl ?_
        obtain ⟨u5, c6, h⟩ := g_bd h
        refine go_callV (pc := 119) (as := [.inl v2, .inl v3, .inl u3.1]) (st := []) (r := u5.1) (M1 := u5.2) (z_X0_setCost hok  c6) cw_X0_setCost ml_X8_320 (show g_lay[34]? = some _ from rfl) rfl rfl (by decide) (Nat.le_of_ble_eq_true rfl) rfl dX8_cheapest_119 ?_
        refine go_iinc (pc := 122) (v := (1 : Int32)) (lv' := [some (.inr 0), some (.inl v1), some (.inl v2), some (.inl (v3 + (1 : Int32))), some (.inl u3.1)]) dX8_cheapest_122 rfl (by decide) (by decide) rfl ?_
        refine go_goto (pc := 125) (tgt := 59) dX8_cheapest_125 (by decide) ?_
        exact go_to (ih _ _ _ _ h) (And.intro rfl (And.intro rfl (And.intro rfl (And.intro rfl trivial))))
      · replace h := (if_neg e9).symm.trans h
        refine go_ldcw (pc := 111) (v := (1000000 : Int32)) kc_X8_332 dX8_cheapest_111 ?_
        refine go_goto (pc := 114) (tgt := 119) dX8_cheapest_114 (by decide) ?_
        obtain ⟨u7, c8, h⟩ := g_bd h
        refine go_callV (pc := 119) (as := [.inl v2, .inl v3, .inl (1000000 : Int32)]) (st := []) (r := u7.1) (M1 := u7.2) (z_X0_setCost hok  c8) cw_X0_setCost ml_X8_320 (show g_lay[34]? = some _ from rfl) rfl rfl (by decide) (Nat.le_of_ble_eq_true rfl) rfl dX8_cheapest_119 ?_
        refine go_iinc (pc := 122) (v := (1 : Int32)) (lv' := [some (.inr 0), some (.inl v1), some (.inl v2), some (.inl (v3 + (1 : Int32))), some (.inl u3.1)]) dX8_cheapest_122 rfl (by decide) (by decide) rfl ?_
        refine go_goto (pc := 125) (tgt := 59) dX8_cheapest_125 (by decide) ?_
        exact go_to (ih _ _ _ _ h) (And.intro rfl (And.intro rfl (And.intro rfl (And.intro rfl trivial))))
def x_X8_cheapest_L34   : Nat → Int32 → Int32 → g_M → Option (Int32 × g_M)
  | 0, _, _, _ => none
  | n + 1, v1, v2, M => (if (M 1 6) ≤ v2 then (((x_X0_solve (M 1 6) (M 1 5) (1000000 : Int32) M).bind fun u11 => ((x_X0_leastCost u11.2).bind fun u13 => if u13.1 < (1000000 : Int32) then (if v1 = 0 then (((x_X0_leastCost u13.2).bind fun u17 => some (u17.1, u17.2))) else (((x_X0_ringDigits u13.2).bind fun u15 => some (u15.1, u15.2)))) else (some ((-9 : Int32), u13.2))))) else (((x_X5_load 27 1 v2 M).bind fun u21 => x_X8_cheapest_L59  (x_X8_cheapest_L34   n) g_F v1 v2 (0 : Int32) u21.2)))
set_option maxHeartbeats 4000000 in
set_option maxRecDepth 100000 in
theorem z_X8_cheapest_L34 {X : g_X} (hok : g_ok X)  {r : Int32 × g_M}  : ∀ (n : Nat) (v1 : Int32) (v2 : Int32) (M : g_M), x_X8_cheapest_L34   n v1 v2 M = some r → g_Go X cX8_cheapest RX8 5 (some .int) 4 90 r 34 [some (.inr 0), some (.inl v1), some (.inl v2), none, none] [] M := by
  intro n
  induction n with
  | zero =>
    intro v1 v2 M h
    rw [x_X8_cheapest_L34] at h
    cases h
  | succ n ih =>
    intro v1 v2 M h
    rw [x_X8_cheapest_L34] at h
    refine go_iload_n (pc := 34) dX8_cheapest_34 rfl ?_
    refine go_aload_n (pc := 35) dX8_cheapest_35 rfl ?_
    refine gf_8_10 (pc := 36) dX8_cheapest_36 ?_
    refine gf_8_243 (pc := 39) g_isH1 dX8_cheapest_39 ?_
    refine go_icmp_ge (pc := 42) (tgt := 134) dX8_cheapest_42 (by decide) (fun e23 => ?_) (fun e23 => ?_)
    · replace h := (if_pos e23).symm.trans h
      refine go_aload_n (pc := 134) dX8_cheapest_134 rfl ?_
      refine gf_8_71 (pc := 135) dX8_cheapest_135 ?_
      refine go_aload_n (pc := 138) dX8_cheapest_138 rfl ?_
      refine gf_8_10 (pc := 139) dX8_cheapest_139 ?_
      refine gf_8_243 (pc := 142) g_isH1 dX8_cheapest_142 ?_
      refine go_aload_n (pc := 145) dX8_cheapest_145 rfl ?_
      refine gf_8_10 (pc := 146) dX8_cheapest_146 ?_
      refine gf_8_310 (pc := 149) g_isH1 dX8_cheapest_149 ?_
      refine go_ldcw (pc := 152) (v := (1000000 : Int32)) kc_X8_332 dX8_cheapest_152 ?_
      obtain ⟨u11, c12, h⟩ := g_bd h
      refine go_callV (pc := 155) (as := [.inl (M 1 6), .inl (M 1 5), .inl (1000000 : Int32)]) (st := []) (r := u11.1) (M1 := u11.2) (z_X0_solve hok  c12) cw_X0_solve ml_X8_323 (show g_lay[34]? = some _ from rfl) rfl rfl (by decide) (Nat.le_of_ble_eq_true rfl) rfl dX8_cheapest_155 ?_
      refine go_aload_n (pc := 158) dX8_cheapest_158 rfl ?_
      refine gf_8_71 (pc := 159) dX8_cheapest_159 ?_
      obtain ⟨u13, c14, h⟩ := g_bd h
      refine go_callV (pc := 162) (as := []) (st := []) (r := u13.1) (M1 := u13.2) (z_X0_leastCost hok  c14) cw_X0_leastCost ml_X8_326 (show g_lay[34]? = some _ from rfl) rfl rfl (by decide) (Nat.le_of_ble_eq_true rfl) rfl dX8_cheapest_162 ?_
      refine go_ldcw (pc := 165) (v := (1000000 : Int32)) kc_X8_332 dX8_cheapest_165 ?_
      refine go_icmp_lt (pc := 168) (tgt := 174) dX8_cheapest_168 (by decide) (fun e20 => ?_) (fun e20 => ?_)
      · replace h := (if_pos e20).symm.trans h
        refine go_iload_n (pc := 174) dX8_cheapest_174 rfl ?_
        refine go_if_ne (pc := 175) (tgt := 188) dX8_cheapest_175 (by decide) (fun e19 => ?_) (fun e19 => ?_)
        · replace h := (if_neg e19).symm.trans h
          refine go_aload_n (pc := 188) dX8_cheapest_188 rfl ?_
          refine gf_8_71 (pc := 189) dX8_cheapest_189 ?_
          obtain ⟨u15, c16, h⟩ := g_bd h
          refine go_callV (pc := 192) (as := []) (st := []) (r := u15.1) (M1 := u15.2) (z_X0_ringDigits hok  c16) cw_X0_ringDigits ml_X8_329 (show g_lay[34]? = some _ from rfl) rfl rfl (by decide) (Nat.le_of_ble_eq_true rfl) rfl dX8_cheapest_192 ?_
          exact go_iret (pc := 195) (Option.some.inj h).symm rfl dX8_cheapest_195 rfl
        · replace h := (if_pos e19).symm.trans h
          refine go_aload_n (pc := 178) dX8_cheapest_178 rfl ?_
          refine gf_8_71 (pc := 179) dX8_cheapest_179 ?_
          obtain ⟨u17, c18, h⟩ := g_bd h
          refine go_callV (pc := 182) (as := []) (st := []) (r := u17.1) (M1 := u17.2) (z_X0_leastCost hok  c18) cw_X0_leastCost ml_X8_326 (show g_lay[34]? = some _ from rfl) rfl rfl (by decide) (Nat.le_of_ble_eq_true rfl) rfl dX8_cheapest_182 ?_
          refine go_goto (pc := 185) (tgt := 195) dX8_cheapest_185 (by decide) ?_
          exact go_iret (pc := 195) (Option.some.inj h).symm rfl dX8_cheapest_195 rfl
      · replace h := (if_neg e20).symm.trans h
        refine go_bipush (pc := 171) (v := (-9 : Int32)) dX8_cheapest_171 (by decide) ?_
        exact go_iret (pc := 173) (Option.some.inj h).symm rfl dX8_cheapest_173 rfl
    · replace h := (if_neg e23).symm.trans h
      refine go_aload_n (pc := 45) dX8_cheapest_45 rfl ?_
      refine gf_8_54 (pc := 46) dX8_cheapest_46 ?_
      refine go_aload_n (pc := 49) dX8_cheapest_49 rfl ?_
      refine gf_8_10 (pc := 50) dX8_cheapest_50 ?_
      refine go_iload_n (pc := 53) dX8_cheapest_53 rfl ?_
      obtain ⟨u21, c22, h⟩ := g_bd h
      refine go_callV (pc := 54) (as := [.inr 1, .inl v2]) (st := []) (r := u21.1) (M1 := u21.2) (z_X5_load hok g_isM27 g_isH1 c22) cw_X5_load ml_X8_166 g_isM27 rfl rfl (by decide) (Nat.le_of_ble_eq_true rfl) rfl dX8_cheapest_54 ?_
      refine go_iconst (pc := 57) (v := (0 : Int32)) dX8_cheapest_57 (by decide) ?_
      refine go_istore_n (pc := 58) (lv' := [some (.inr 0), some (.inl v1), some (.inl v2), some (.inl (0 : Int32)), none]) dX8_cheapest_58 (by decide) rfl ?_
      exact go_to (z_X8_cheapest_L59 hok  (ih) g_F _ _ _ _ h) (And.intro rfl (And.intro rfl (And.intro rfl (And.intro rfl trivial))))
def x_X8_cheapest  (p1 : Int32) (M : g_M) : Option (Int32 × g_M) := (((x_X8_isOneOf p1 (2 : Int32) M).bind fun u24 => if u24.1 = 0 then (((x_X8_refused (-2 : Int32) u24.2).bind fun u29 => some (u29.1, u29.2))) else (if (u24.2 1 6) = 0 then (((x_X8_refused (-3 : Int32) u24.2).bind fun u26 => some (u26.1, u26.2))) else (x_X8_cheapest_L34   g_F p1 (0 : Int32) u24.2))))
set_option maxHeartbeats 4000000 in
set_option maxRecDepth 100000 in
theorem z_X8_cheapest {X : g_X} (hok : g_ok X)  {p1 : Int32} {M : g_M} {r : Int32 × g_M} (h : x_X8_cheapest p1 M = some r) : g_Con X yX8_cheapest cX8_cheapest 5 (some .int) 4 90 [.inr 0, .inl p1] M r := by
  rw [x_X8_cheapest] at h
  refine g_con hok (plainFor_of_name (by decide +kernel)) (Nat.le_of_ble_eq_true rfl) (go_to (lv2 := [some (.inr 0), some (.inl p1), none, none, none]) (own := RX8) ?_ (And.intro rfl (And.intro rfl trivial)))
  refine go_iload_n (pc := 0) dX8_cheapest_0 rfl ?_
  refine go_iconst (pc := 1) (v := (2 : Int32)) dX8_cheapest_1 (by decide) ?_
  obtain ⟨u24, c25, h⟩ := g_bd h
  refine go_callS (pc := 2) (as := [.inl p1, .inl (2 : Int32)]) (st := []) (r := u24.1) (M1 := u24.2) (z_X8_isOneOf hok  c25) cw_X8_isOneOf ml_X8_153 (by decide) (Nat.le_of_ble_eq_true rfl) rfl dX8_cheapest_2 ?_
  refine go_if_ne (pc := 5) (tgt := 15) dX8_cheapest_5 (by decide) (fun e31 => ?_) (fun e31 => ?_)
  · replace h := (if_neg e31).symm.trans h
    refine go_aload_n (pc := 15) dX8_cheapest_15 rfl ?_
    refine gf_8_10 (pc := 16) dX8_cheapest_16 ?_
    refine gf_8_243 (pc := 19) g_isH1 dX8_cheapest_19 ?_
    refine go_if_ne (pc := 22) (tgt := 32) dX8_cheapest_22 (by decide) (fun e28 => ?_) (fun e28 => ?_)
    · replace h := (if_neg e28).symm.trans h
      refine go_iconst (pc := 32) (v := (0 : Int32)) dX8_cheapest_32 (by decide) ?_
      refine go_istore_n (pc := 33) (lv' := [some (.inr 0), some (.inl p1), some (.inl (0 : Int32)), none, none]) dX8_cheapest_33 (by decide) rfl ?_
      exact go_to (z_X8_cheapest_L34 hok   g_F _ _ _ h) (And.intro rfl (And.intro rfl (And.intro rfl trivial)))
    · replace h := (if_pos e28).symm.trans h
      refine go_aload_n (pc := 25) dX8_cheapest_25 rfl ?_
      refine go_bipush (pc := 26) (v := (-3 : Int32)) dX8_cheapest_26 (by decide) ?_
      obtain ⟨u26, c27, h⟩ := g_bd h
      refine go_callV (pc := 28) (as := [.inl (-3 : Int32)]) (st := []) (r := u26.1) (M1 := u26.2) (z_X8_refused hok  c27) cw_X8_refused ml_X8_85 (show g_lay[0]? = some _ from rfl) rfl rfl (by decide) (Nat.le_of_ble_eq_true rfl) rfl dX8_cheapest_28 ?_
      exact go_iret (pc := 31) (Option.some.inj h).symm rfl dX8_cheapest_31 rfl
  · replace h := (if_pos e31).symm.trans h
    refine go_aload_n (pc := 8) dX8_cheapest_8 rfl ?_
    refine go_bipush (pc := 9) (v := (-2 : Int32)) dX8_cheapest_9 (by decide) ?_
    obtain ⟨u29, c30, h⟩ := g_bd h
    refine go_callV (pc := 11) (as := [.inl (-2 : Int32)]) (st := []) (r := u29.1) (M1 := u29.2) (z_X8_refused hok  c30) cw_X8_refused ml_X8_85 (show g_lay[0]? = some _ from rfl) rfl rfl (by decide) (Nat.le_of_ble_eq_true rfl) rfl dX8_cheapest_11 ?_
    exact go_iret (pc := 14) (Option.some.inj h).symm rfl dX8_cheapest_14 rfl
def x_X8_wrongOfMarks  (p1 p2 p3 : Int32) (M : g_M) : Option (Int32 × g_M) := (((x_X2_hasBoat 1 p1 M).bind fun u1 => if u1.1 = 0 then (some ((-1 : Int32), u1.2)) else (if 0 ≤ p2 then (if p2 ≤ (4095 : Int32) then (((x_X8_isOneOf p3 (2 : Int32) u1.2).bind fun u3 => if u3.1 = 0 then (some ((-2 : Int32), u3.2)) else (some ((0 : Int32), u3.2)))) else (some ((-6 : Int32), u1.2))) else (some ((-4 : Int32), u1.2)))))
set_option maxHeartbeats 4000000 in
set_option maxRecDepth 100000 in
theorem z_X8_wrongOfMarks {X : g_X} (hok : g_ok X)  {p1 p2 p3 : Int32} {M : g_M} {r : Int32 × g_M} (h : x_X8_wrongOfMarks p1 p2 p3 M = some r) : g_Con X yX8_wrongOfMarks cX8_wrongOfMarks 4 (some .int) 1 21 [.inr 0, .inl p1, .inl p2, .inl p3] M r := by
  rw [x_X8_wrongOfMarks] at h
  refine g_con hok (plainFor_of_name (by decide +kernel)) (Nat.le_of_ble_eq_true rfl) (go_to (lv2 := [some (.inr 0), some (.inl p1), some (.inl p2), some (.inl p3)]) (own := RX8) ?_ (And.intro rfl (And.intro rfl (And.intro rfl (And.intro rfl trivial)))))
  refine go_aload_n (pc := 0) dX8_wrongOfMarks_0 rfl ?_
  refine gf_8_10 (pc := 1) dX8_wrongOfMarks_1 ?_
  refine go_iload_n (pc := 4) dX8_wrongOfMarks_4 rfl ?_
  obtain ⟨u1, c2, h⟩ := g_bd h
  refine go_callV (pc := 5) (as := [.inl p1]) (st := []) (r := u1.1) (M1 := u1.2) (z_X2_hasBoat hok g_isH1 c2) cw_X2_hasBoat ml_X8_140 g_isH1.1 rfl rfl (by decide) (Nat.le_of_ble_eq_true rfl) rfl dX8_wrongOfMarks_5 ?_
  refine go_if_ne (pc := 8) (tgt := 13) dX8_wrongOfMarks_8 (by decide) (fun e8 => ?_) (fun e8 => ?_)
  · replace h := (if_neg e8).symm.trans h
    refine go_iload_n (pc := 13) dX8_wrongOfMarks_13 rfl ?_
    refine go_if_ge (pc := 14) (tgt := 20) dX8_wrongOfMarks_14 (by decide) (fun e7 => ?_) (fun e7 => ?_)
    · replace h := (if_pos e7).symm.trans h
      refine go_iload_n (pc := 20) dX8_wrongOfMarks_20 rfl ?_
      refine go_sipush (pc := 21) (v := (4095 : Int32)) dX8_wrongOfMarks_21 (by decide) ?_
      refine go_icmp_le (pc := 24) (tgt := 30) dX8_wrongOfMarks_24 (by decide) (fun e6 => ?_) (fun e6 => ?_)
      · replace h := (if_pos e6).symm.trans h
        refine go_iload_n (pc := 30) dX8_wrongOfMarks_30 rfl ?_
        refine go_iconst (pc := 31) (v := (2 : Int32)) dX8_wrongOfMarks_31 (by decide) ?_
        obtain ⟨u3, c4, h⟩ := g_bd h
        refine go_callS (pc := 32) (as := [.inl p3, .inl (2 : Int32)]) (st := []) (r := u3.1) (M1 := u3.2) (z_X8_isOneOf hok  c4) cw_X8_isOneOf ml_X8_153 (by decide) (Nat.le_of_ble_eq_true rfl) rfl dX8_wrongOfMarks_32 ?_
        refine go_if_eq (pc := 35) (tgt := 42) dX8_wrongOfMarks_35 (by decide) (fun e5 => ?_) (fun e5 => ?_)
        · replace h := (if_pos e5).symm.trans h
          refine go_bipush (pc := 42) (v := (-2 : Int32)) dX8_wrongOfMarks_42 (by decide) ?_
          exact go_iret (pc := 44) (Option.some.inj h).symm rfl dX8_wrongOfMarks_44 rfl
        · replace h := (if_neg e5).symm.trans h
          refine go_iconst (pc := 38) (v := (0 : Int32)) dX8_wrongOfMarks_38 (by decide) ?_
          refine go_goto (pc := 39) (tgt := 44) dX8_wrongOfMarks_39 (by decide) ?_
          exact go_iret (pc := 44) (Option.some.inj h).symm rfl dX8_wrongOfMarks_44 rfl
      · replace h := (if_neg e6).symm.trans h
        refine go_bipush (pc := 27) (v := (-6 : Int32)) dX8_wrongOfMarks_27 (by decide) ?_
        exact go_iret (pc := 29) (Option.some.inj h).symm rfl dX8_wrongOfMarks_29 rfl
    · replace h := (if_neg e7).symm.trans h
      refine go_bipush (pc := 17) (v := (-4 : Int32)) dX8_wrongOfMarks_17 (by decide) ?_
      exact go_iret (pc := 19) (Option.some.inj h).symm rfl dX8_wrongOfMarks_19 rfl
  · replace h := (if_pos e8).symm.trans h
    refine go_iconst (pc := 11) (v := (-1 : Int32)) dX8_wrongOfMarks_11 (by decide) ?_
    exact go_iret (pc := 12) (Option.some.inj h).symm rfl dX8_wrongOfMarks_12 rfl
def x_X8_marks_L44   : Nat → Int32 → Int32 → Int32 → Int32 → Int32 → g_M → Option (Int32 × g_M)
  | 0, _, _, _, _, _, _ => none
  | n + 1, v2, v3, v5, v6, v7, M => (if v7 < 0 then (if v3 = 0 then (some (v5, M)) else (some (v6, M))) else (((x_X5_hangingWith 27 (1 + 1) 12 v7 M).bind fun u2 => if u2.1 = v2 then (x_X8_marks_L44   n v2 v3 (v5 + (1 : Int32)) v7 (v7 + (-1 : Int32)) u2.2) else (x_X8_marks_L44   n v2 v3 v5 v6 (v7 + (-1 : Int32)) u2.2))))
set_option maxHeartbeats 4000000 in
set_option maxRecDepth 100000 in
theorem z_X8_marks_L44 {X : g_X} (hok : g_ok X)  {r : Int32 × g_M}  : ∀ (n : Nat) (v2 : Int32) (v3 : Int32) (v5 : Int32) (v6 : Int32) (v7 : Int32) (M : g_M), x_X8_marks_L44   n v2 v3 v5 v6 v7 M = some r → g_Go X cX8_marks RX8 8 (some .int) 4 90 r 44 [some (.inr 0), none, some (.inl v2), some (.inl v3), none, some (.inl v5), some (.inl v6), some (.inl v7)] [] M := by
  intro n
  induction n with
  | zero =>
    intro v2 v3 v5 v6 v7 M h
    rw [x_X8_marks_L44] at h
    cases h
  | succ n ih =>
    intro v2 v3 v5 v6 v7 M h
    rw [x_X8_marks_L44] at h
    refine go_iload (pc := 44) dX8_marks_44 rfl ?_
    refine go_if_lt (pc := 46) (tgt := 82) dX8_marks_46 (by decide) (fun e5 => ?_) (fun e5 => ?_)
    · replace h := (if_pos e5).symm.trans h
      refine go_iload_n (pc := 82) dX8_marks_82 rfl ?_
      refine go_if_ne (pc := 83) (tgt := 91) dX8_marks_83 (by decide) (fun e1 => ?_) (fun e1 => ?_)
      · replace h := (if_neg e1).symm.trans h
        refine go_iload (pc := 91) dX8_marks_91 rfl ?_
        exact go_iret (pc := 93) (Option.some.inj h).symm rfl dX8_marks_93 rfl
      · replace h := (if_pos e1).symm.trans h
        refine go_iload (pc := 86) dX8_marks_86 rfl ?_
        refine go_goto (pc := 88) (tgt := 93) dX8_marks_88 (by decide) ?_
        exact go_iret (pc := 93) (Option.some.inj h).symm rfl dX8_marks_93 rfl
    · replace h := (if_neg e5).symm.trans h
      refine go_aload_n (pc := 49) dX8_marks_49 rfl ?_
      refine gf_8_54 (pc := 50) dX8_marks_50 ?_
      refine go_iload (pc := 53) dX8_marks_53 rfl ?_
      refine go_aload_n (pc := 55) dX8_marks_55 rfl ?_
      refine gf_8_10 (pc := 56) dX8_marks_56 ?_
      refine gf_8_188 (pc := 59) g_isH1 dX8_marks_59 ?_
      obtain ⟨u2, c3, h⟩ := g_bd h
      refine go_callV (pc := 62) (as := [.inl v7, .inr (1 + 1)]) (st := []) (r := u2.1) (M1 := u2.2) (z_X5_hangingWith hok g_isM27 g_isH1.2.1 c3) cw_X5_hangingWith ml_X8_336 g_isM27 rfl rfl (by decide) (Nat.le_of_ble_eq_true rfl) rfl dX8_marks_62 ?_
      refine go_iload_n (pc := 65) dX8_marks_65 rfl ?_
      refine go_icmp_ne (pc := 66) (tgt := 76) dX8_marks_66 (by decide) (fun e4 => ?_) (fun e4 => ?_)
      · replace h := (if_neg e4).symm.trans h
        refine go_iinc (pc := 76) (v := (-1 : Int32)) (lv' := [some (.inr 0), none, some (.inl v2), some (.inl v3), none, some (.inl v5), some (.inl v6), some (.inl (v7 + (-1 : Int32)))]) dX8_marks_76 rfl (by decide) (by decide) rfl ?_
        refine go_goto (pc := 79) (tgt := 44) dX8_marks_79 (by decide) ?_
        exact go_to (ih _ _ _ _ _ _ h) (And.intro rfl (And.intro rfl (And.intro rfl (And.intro rfl (And.intro rfl (And.intro rfl trivial))))))
      · replace h := (if_pos e4).symm.trans h
        refine go_iinc (pc := 69) (v := (1 : Int32)) (lv' := [some (.inr 0), none, some (.inl v2), some (.inl v3), none, some (.inl (v5 + (1 : Int32))), some (.inl v6), some (.inl v7)]) dX8_marks_69 rfl (by decide) (by decide) rfl ?_
        refine go_iload (pc := 72) dX8_marks_72 rfl ?_
        refine go_istore (pc := 74) (lv' := [some (.inr 0), none, some (.inl v2), some (.inl v3), none, some (.inl (v5 + (1 : Int32))), some (.inl v7), some (.inl v7)]) dX8_marks_74 (by decide) rfl ?_
        refine go_iinc (pc := 76) (v := (-1 : Int32)) (lv' := [some (.inr 0), none, some (.inl v2), some (.inl v3), none, some (.inl (v5 + (1 : Int32))), some (.inl v7), some (.inl (v7 + (-1 : Int32)))]) dX8_marks_76 rfl (by decide) (by decide) rfl ?_
        refine go_goto (pc := 79) (tgt := 44) dX8_marks_79 (by decide) ?_
        exact go_to (ih _ _ _ _ _ _ h) (And.intro rfl (And.intro rfl (And.intro rfl (And.intro rfl (And.intro rfl (And.intro rfl trivial))))))
def x_X8_marks  (p1 p2 p3 : Int32) (M : g_M) : Option (Int32 × g_M) := (((x_X8_wrongOfMarks p1 p2 p3 M).bind fun u6 => if u6.1 = 0 then (((x_X5_load 27 1 p1 u6.2).bind fun u8 => x_X8_marks_L44   g_F p2 p3 (0 : Int32) (-9 : Int32) (99 : Int32) u8.2)) else (((x_X8_refused u6.1 u6.2).bind fun u10 => some (u10.1, u10.2)))))
set_option maxHeartbeats 4000000 in
set_option maxRecDepth 100000 in
theorem z_X8_marks {X : g_X} (hok : g_ok X)  {p1 p2 p3 : Int32} {M : g_M} {r : Int32 × g_M} (h : x_X8_marks p1 p2 p3 M = some r) : g_Con X yX8_marks cX8_marks 8 (some .int) 4 90 [.inr 0, .inl p1, .inl p2, .inl p3] M r := by
  rw [x_X8_marks] at h
  refine g_con hok (plainFor_of_name (by decide +kernel)) (Nat.le_of_ble_eq_true rfl) (go_to (lv2 := [some (.inr 0), some (.inl p1), some (.inl p2), some (.inl p3), none, none, none, none]) (own := RX8) ?_ (And.intro rfl (And.intro rfl (And.intro rfl (And.intro rfl trivial)))))
  refine go_aload_n (pc := 0) dX8_marks_0 rfl ?_
  refine go_iload_n (pc := 1) dX8_marks_1 rfl ?_
  refine go_iload_n (pc := 2) dX8_marks_2 rfl ?_
  refine go_iload_n (pc := 3) dX8_marks_3 rfl ?_
  obtain ⟨u6, c7, h⟩ := g_bd h
  refine go_callV (pc := 4) (as := [.inl p1, .inl p2, .inl p3]) (st := []) (r := u6.1) (M1 := u6.2) (z_X8_wrongOfMarks hok  c7) cw_X8_wrongOfMarks ml_X8_333 (show g_lay[0]? = some _ from rfl) rfl rfl (by decide) (Nat.le_of_ble_eq_true rfl) rfl dX8_marks_4 ?_
  refine go_istore (pc := 7) (lv' := [some (.inr 0), some (.inl p1), some (.inl p2), some (.inl p3), some (.inl u6.1), none, none, none]) dX8_marks_7 (by decide) rfl ?_
  refine go_iload (pc := 9) dX8_marks_9 rfl ?_
  refine go_if_eq (pc := 11) (tgt := 21) dX8_marks_11 (by decide) (fun e12 => ?_) (fun e12 => ?_)
  · replace h := (if_pos e12).symm.trans h
    refine go_aload_n (pc := 21) dX8_marks_21 rfl ?_
    refine gf_8_54 (pc := 22) dX8_marks_22 ?_
    refine go_aload_n (pc := 25) dX8_marks_25 rfl ?_
    refine gf_8_10 (pc := 26) dX8_marks_26 ?_
    refine go_iload_n (pc := 29) dX8_marks_29 rfl ?_
    obtain ⟨u8, c9, h⟩ := g_bd h
    refine go_callV (pc := 30) (as := [.inr 1, .inl p1]) (st := []) (r := u8.1) (M1 := u8.2) (z_X5_load hok g_isM27 g_isH1 c9) cw_X5_load ml_X8_166 g_isM27 rfl rfl (by decide) (Nat.le_of_ble_eq_true rfl) rfl dX8_marks_30 ?_
    refine go_iconst (pc := 33) (v := (0 : Int32)) dX8_marks_33 (by decide) ?_
    refine go_istore (pc := 34) (lv' := [some (.inr 0), some (.inl p1), some (.inl p2), some (.inl p3), some (.inl u6.1), some (.inl (0 : Int32)), none, none]) dX8_marks_34 (by decide) rfl ?_
    refine go_bipush (pc := 36) (v := (-9 : Int32)) dX8_marks_36 (by decide) ?_
    refine go_istore (pc := 38) (lv' := [some (.inr 0), some (.inl p1), some (.inl p2), some (.inl p3), some (.inl u6.1), some (.inl (0 : Int32)), some (.inl (-9 : Int32)), none]) dX8_marks_38 (by decide) rfl ?_
    refine go_bipush (pc := 40) (v := (99 : Int32)) dX8_marks_40 (by decide) ?_
    refine go_istore (pc := 42) (lv' := [some (.inr 0), some (.inl p1), some (.inl p2), some (.inl p3), some (.inl u6.1), some (.inl (0 : Int32)), some (.inl (-9 : Int32)), some (.inl (99 : Int32))]) dX8_marks_42 (by decide) rfl ?_
    exact go_to (z_X8_marks_L44 hok   g_F _ _ _ _ _ _ h) (And.intro rfl (And.intro rfl (And.intro rfl (And.intro rfl (And.intro rfl (And.intro rfl trivial))))))
  · replace h := (if_neg e12).symm.trans h
    refine go_aload_n (pc := 14) dX8_marks_14 rfl ?_
    refine go_iload (pc := 15) dX8_marks_15 rfl ?_
    obtain ⟨u10, c11, h⟩ := g_bd h
    refine go_callV (pc := 17) (as := [.inl u6.1]) (st := []) (r := u10.1) (M1 := u10.2) (z_X8_refused hok  c11) cw_X8_refused ml_X8_85 (show g_lay[0]? = some _ from rfl) rfl rfl (by decide) (Nat.le_of_ble_eq_true rfl) rfl dX8_marks_17 ?_
    exact go_iret (pc := 20) (Option.some.inj h).symm rfl dX8_marks_20 rfl
def x_X8_whose_L29   : Nat → Int32 → Int32 → Int32 → g_M → Option (Int32 × g_M)
  | 0, _, _, _, _ => none
  | n + 1, v1, v2, v3, M => (if (M 1 6) ≤ v3 then (some (v2, M)) else (((x_X5_load 27 1 v3 M).bind fun u1 => ((x_X5_hangingHours 27 (1 + 1) 12 u1.2).bind fun u3 => if u3.1 = v1 then (x_X8_whose_L29   n v1 (v2 ||| ((1 : Int32) <<< (v3 &&& 31))) (v3 + (1 : Int32)) u3.2) else (x_X8_whose_L29   n v1 v2 (v3 + (1 : Int32)) u3.2)))))
set_option maxHeartbeats 4000000 in
set_option maxRecDepth 100000 in
theorem z_X8_whose_L29 {X : g_X} (hok : g_ok X)  {r : Int32 × g_M}  : ∀ (n : Nat) (v1 : Int32) (v2 : Int32) (v3 : Int32) (M : g_M), x_X8_whose_L29   n v1 v2 v3 M = some r → g_Go X cX8_whose RX8 4 (some .int) 5 111 r 29 [some (.inr 0), some (.inl v1), some (.inl v2), some (.inl v3)] [] M := by
  intro n
  induction n with
  | zero =>
    intro v1 v2 v3 M h
    rw [x_X8_whose_L29] at h
    cases h
  | succ n ih =>
    intro v1 v2 v3 M h
    rw [x_X8_whose_L29] at h
    refine go_iload_n (pc := 29) dX8_whose_29 rfl ?_
    refine go_aload_n (pc := 30) dX8_whose_30 rfl ?_
    refine gf_8_10 (pc := 31) dX8_whose_31 ?_
    refine gf_8_243 (pc := 34) g_isH1 dX8_whose_34 ?_
    refine go_icmp_ge (pc := 37) (tgt := 82) dX8_whose_37 (by decide) (fun e6 => ?_) (fun e6 => ?_)
    · replace h := (if_pos e6).symm.trans h
      refine go_iload_n (pc := 82) dX8_whose_82 rfl ?_
      exact go_iret (pc := 83) (Option.some.inj h).symm rfl dX8_whose_83 rfl
    · replace h := (if_neg e6).symm.trans h
      refine go_aload_n (pc := 40) dX8_whose_40 rfl ?_
      refine gf_8_54 (pc := 41) dX8_whose_41 ?_
      refine go_aload_n (pc := 44) dX8_whose_44 rfl ?_
      refine gf_8_10 (pc := 45) dX8_whose_45 ?_
      refine go_iload_n (pc := 48) dX8_whose_48 rfl ?_
      obtain ⟨u1, c2, h⟩ := g_bd h
      refine go_callV (pc := 49) (as := [.inr 1, .inl v3]) (st := []) (r := u1.1) (M1 := u1.2) (z_X5_load hok g_isM27 g_isH1 c2) cw_X5_load ml_X8_166 g_isM27 rfl rfl (by decide) (Nat.le_of_ble_eq_true rfl) rfl dX8_whose_49 ?_
      refine go_aload_n (pc := 52) dX8_whose_52 rfl ?_
      refine gf_8_54 (pc := 53) dX8_whose_53 ?_
      refine go_aload_n (pc := 56) dX8_whose_56 rfl ?_
      refine gf_8_10 (pc := 57) dX8_whose_57 ?_
      refine gf_8_188 (pc := 60) g_isH1 dX8_whose_60 ?_
      obtain ⟨u3, c4, h⟩ := g_bd h
      refine go_callV (pc := 63) (as := [.inr (1 + 1)]) (st := []) (r := u3.1) (M1 := u3.2) (z_X5_hangingHours hok g_isM27 g_isH1.2.1 c4) cw_X5_hangingHours ml_X8_191 g_isM27 rfl rfl (by decide) (Nat.le_of_ble_eq_true rfl) rfl dX8_whose_63 ?_
      refine go_iload_n (pc := 66) dX8_whose_66 rfl ?_
      refine go_icmp_ne (pc := 67) (tgt := 76) dX8_whose_67 (by decide) (fun e5 => ?_) (fun e5 => ?_)
      · replace h := (if_neg e5).symm.trans h
        refine go_iinc (pc := 76) (v := (1 : Int32)) (lv' := [some (.inr 0), some (.inl v1), some (.inl v2), some (.inl (v3 + (1 : Int32)))]) dX8_whose_76 rfl (by decide) (by decide) rfl ?_
        refine go_goto (pc := 79) (tgt := 29) dX8_whose_79 (by decide) ?_
        exact go_to (ih _ _ _ _ h) (And.intro rfl (And.intro rfl (And.intro rfl (And.intro rfl trivial))))
      · replace h := (if_pos e5).symm.trans h
        refine go_iload_n (pc := 70) dX8_whose_70 rfl ?_
        refine go_iconst (pc := 71) (v := (1 : Int32)) dX8_whose_71 (by decide) ?_
        refine go_iload_n (pc := 72) dX8_whose_72 rfl ?_
        refine go_ishl (pc := 73) dX8_whose_73 ?_
        refine go_ior (pc := 74) dX8_whose_74 ?_
        refine go_istore_n (pc := 75) (lv' := [some (.inr 0), some (.inl v1), some (.inl (v2 ||| ((1 : Int32) <<< (v3 &&& 31)))), some (.inl v3)]) dX8_whose_75 (by decide) rfl ?_
        refine go_iinc (pc := 76) (v := (1 : Int32)) (lv' := [some (.inr 0), some (.inl v1), some (.inl (v2 ||| ((1 : Int32) <<< (v3 &&& 31)))), some (.inl (v3 + (1 : Int32)))]) dX8_whose_76 rfl (by decide) (by decide) rfl ?_
        refine go_goto (pc := 79) (tgt := 29) dX8_whose_79 (by decide) ?_
        exact go_to (ih _ _ _ _ h) (And.intro rfl (And.intro rfl (And.intro rfl (And.intro rfl trivial))))
def x_X8_whose  (p1 : Int32) (M : g_M) : Option (Int32 × g_M) := (if 0 ≤ p1 then (if p1 ≤ (4095 : Int32) then (x_X8_whose_L29   g_F p1 (0 : Int32) (0 : Int32) M) else (((x_X8_refused (-6 : Int32) M).bind fun u7 => some (u7.1, u7.2)))) else (((x_X8_refused (-4 : Int32) M).bind fun u10 => some (u10.1, u10.2))))
set_option maxHeartbeats 4000000 in
set_option maxRecDepth 100000 in
theorem z_X8_whose {X : g_X} (hok : g_ok X)  {p1 : Int32} {M : g_M} {r : Int32 × g_M} (h : x_X8_whose p1 M = some r) : g_Con X yX8_whose cX8_whose 4 (some .int) 5 111 [.inr 0, .inl p1] M r := by
  rw [x_X8_whose] at h
  refine g_con hok (plainFor_of_name (by decide +kernel)) (Nat.le_of_ble_eq_true rfl) (go_to (lv2 := [some (.inr 0), some (.inl p1), none, none]) (own := RX8) ?_ (And.intro rfl (And.intro rfl trivial)))
  refine go_iload_n (pc := 0) dX8_whose_0 rfl ?_
  refine go_if_ge (pc := 1) (tgt := 11) dX8_whose_1 (by decide) (fun e12 => ?_) (fun e12 => ?_)
  · replace h := (if_pos e12).symm.trans h
    refine go_iload_n (pc := 11) dX8_whose_11 rfl ?_
    refine go_sipush (pc := 12) (v := (4095 : Int32)) dX8_whose_12 (by decide) ?_
    refine go_icmp_le (pc := 15) (tgt := 25) dX8_whose_15 (by decide) (fun e9 => ?_) (fun e9 => ?_)
    · replace h := (if_pos e9).symm.trans h
      refine go_iconst (pc := 25) (v := (0 : Int32)) dX8_whose_25 (by decide) ?_
      refine go_istore_n (pc := 26) (lv' := [some (.inr 0), some (.inl p1), some (.inl (0 : Int32)), none]) dX8_whose_26 (by decide) rfl ?_
      refine go_iconst (pc := 27) (v := (0 : Int32)) dX8_whose_27 (by decide) ?_
      refine go_istore_n (pc := 28) (lv' := [some (.inr 0), some (.inl p1), some (.inl (0 : Int32)), some (.inl (0 : Int32))]) dX8_whose_28 (by decide) rfl ?_
      exact go_to (z_X8_whose_L29 hok   g_F _ _ _ _ h) (And.intro rfl (And.intro rfl (And.intro rfl (And.intro rfl trivial))))
    · replace h := (if_neg e9).symm.trans h
      refine go_aload_n (pc := 18) dX8_whose_18 rfl ?_
      refine go_bipush (pc := 19) (v := (-6 : Int32)) dX8_whose_19 (by decide) ?_
      obtain ⟨u7, c8, h⟩ := g_bd h
      refine go_callV (pc := 21) (as := [.inl (-6 : Int32)]) (st := []) (r := u7.1) (M1 := u7.2) (z_X8_refused hok  c8) cw_X8_refused ml_X8_85 (show g_lay[0]? = some _ from rfl) rfl rfl (by decide) (Nat.le_of_ble_eq_true rfl) rfl dX8_whose_21 ?_
      exact go_iret (pc := 24) (Option.some.inj h).symm rfl dX8_whose_24 rfl
  · replace h := (if_neg e12).symm.trans h
    refine go_aload_n (pc := 4) dX8_whose_4 rfl ?_
    refine go_bipush (pc := 5) (v := (-4 : Int32)) dX8_whose_5 (by decide) ?_
    obtain ⟨u10, c11, h⟩ := g_bd h
    refine go_callV (pc := 7) (as := [.inl (-4 : Int32)]) (st := []) (r := u10.1) (M1 := u10.2) (z_X8_refused hok  c11) cw_X8_refused ml_X8_85 (show g_lay[0]? = some _ from rfl) rfl rfl (by decide) (Nat.le_of_ble_eq_true rfl) rfl dX8_whose_7 ?_
    exact go_iret (pc := 10) (Option.some.inj h).symm rfl dX8_whose_10 rfl
def x_X8_hung_L73  (k51 : Int32 → Int32 → Int32 → Int32 → Int32 → g_M → Option (Int32 × g_M)) : Nat → Int32 → Int32 → Int32 → Int32 → Int32 → Int32 → g_M → Option (Int32 × g_M)
  | 0, _, _, _, _, _, _, _ => none
  | n + 1, v2, v3, v5, v6, v7, v8, M => (if v8 < 0 then (k51 v2 v3 v5 v6 (v7 + (-1 : Int32)) M) else (((x_X5_hangingWith 27 (1 + 1) 12 v8 M).bind fun u1 => if u1.1 = v2 then (x_X8_hung_L73  k51 n v2 v3 (v5 + (1 : Int32)) (((100 : Int32) * v7) + v8) v7 (v8 + (-1 : Int32)) u1.2) else (x_X8_hung_L73  k51 n v2 v3 v5 v6 v7 (v8 + (-1 : Int32)) u1.2))))
set_option maxHeartbeats 4000000 in
set_option maxRecDepth 100000 in
theorem z_X8_hung_L73 {X : g_X} (hok : g_ok X)  {r : Int32 × g_M} {k51 : Int32 → Int32 → Int32 → Int32 → Int32 → g_M → Option (Int32 × g_M)} (hk51 : ∀ (v2 : Int32) (v3 : Int32) (v5 : Int32) (v6 : Int32) (v7 : Int32) (M : g_M), k51 v2 v3 v5 v6 v7 M = some r → g_Go X cX8_hung RX8 9 (some .int) 4 90 r 51 [some (.inr 0), none, some (.inl v2), some (.inl v3), none, some (.inl v5), some (.inl v6), some (.inl v7), none] [] M) : ∀ (n : Nat) (v2 : Int32) (v3 : Int32) (v5 : Int32) (v6 : Int32) (v7 : Int32) (v8 : Int32) (M : g_M), x_X8_hung_L73  k51 n v2 v3 v5 v6 v7 v8 M = some r → g_Go X cX8_hung RX8 9 (some .int) 4 90 r 73 [some (.inr 0), none, some (.inl v2), some (.inl v3), none, some (.inl v5), some (.inl v6), some (.inl v7), some (.inl v8)] [] M := by
  intro n
  induction n with
  | zero =>
    intro v2 v3 v5 v6 v7 v8 M h
    rw [x_X8_hung_L73] at h
    cases h
  | succ n ih =>
    intro v2 v3 v5 v6 v7 v8 M h
    rw [x_X8_hung_L73] at h
    refine go_iload (pc := 73) dX8_hung_73 rfl ?_
    refine go_if_lt (pc := 75) (tgt := 117) dX8_hung_75 (by decide) (fun e4 => ?_) (fun e4 => ?_)
    · replace h := (if_pos e4).symm.trans h
      refine go_iinc (pc := 117) (v := (-1 : Int32)) (lv' := [some (.inr 0), none, some (.inl v2), some (.inl v3), none, some (.inl v5), some (.inl v6), some (.inl (v7 + (-1 : Int32))), some (.inl v8)]) dX8_hung_117 rfl (by decide) (by decide) rfl ?_
      refine go_goto (pc := 120) (tgt := 51) dX8_hung_120 (by decide) ?_
      exact go_to (hk51 _ _ _ _ _ _ h) (And.intro rfl (And.intro rfl (And.intro rfl (And.intro rfl (And.intro rfl (And.intro rfl trivial))))))
    · replace h := (if_neg e4).symm.trans h
      refine go_aload_n (pc := 78) dX8_hung_78 rfl ?_
      refine gf_8_54 (pc := 79) dX8_hung_79 ?_
      refine go_iload (pc := 82) dX8_hung_82 rfl ?_
      refine go_aload_n (pc := 84) dX8_hung_84 rfl ?_
      refine gf_8_10 (pc := 85) dX8_hung_85 ?_
      refine gf_8_188 (pc := 88) g_isH1 dX8_hung_88 ?_
      obtain ⟨u1, c2, h⟩ := g_bd h
      refine go_callV (pc := 91) (as := [.inl v8, .inr (1 + 1)]) (st := []) (r := u1.1) (M1 := u1.2) (z_X5_hangingWith hok g_isM27 g_isH1.2.1 c2) cw_X5_hangingWith ml_X8_336 g_isM27 rfl rfl (by decide) (Nat.le_of_ble_eq_true rfl) rfl dX8_hung_91 ?_
      refine go_iload_n (pc := 94) dX8_hung_94 rfl ?_
      refine go_icmp_ne (pc := 95) (tgt := 111) dX8_hung_95 (by decide) (fun e3 => ?_) (fun e3 => ?_)
      · replace h := (if_neg e3).symm.trans h
        refine go_iinc (pc := 111) (v := (-1 : Int32)) (lv' := [some (.inr 0), none, some (.inl v2), some (.inl v3), none, some (.inl v5), some (.inl v6), some (.inl v7), some (.inl (v8 + (-1 : Int32)))]) dX8_hung_111 rfl (by decide) (by decide) rfl ?_
        refine go_goto (pc := 114) (tgt := 73) dX8_hung_114 (by decide) ?_
        exact go_to (ih _ _ _ _ _ _ _ h) (And.intro rfl (And.intro rfl (And.intro rfl (And.intro rfl (And.intro rfl (And.intro rfl (And.intro rfl trivial)))))))
      · replace h := (if_pos e3).symm.trans h
        refine go_iinc (pc := 98) (v := (1 : Int32)) (lv' := [some (.inr 0), none, some (.inl v2), some (.inl v3), none, some (.inl (v5 + (1 : Int32))), some (.inl v6), some (.inl v7), some (.inl v8)]) dX8_hung_98 rfl (by decide) (by decide) rfl ?_
        refine go_bipush (pc := 101) (v := (100 : Int32)) dX8_hung_101 (by decide) ?_
        refine go_iload (pc := 103) dX8_hung_103 rfl ?_
        refine go_imul (pc := 105) dX8_hung_105 ?_
        refine go_iload (pc := 106) dX8_hung_106 rfl ?_
        refine go_iadd (pc := 108) dX8_hung_108 ?_
        refine go_istore (pc := 109) (lv' := [some (.inr 0), none, some (.inl v2), some (.inl v3), none, some (.inl (v5 + (1 : Int32))), some (.inl (((100 : Int32) * v7) + v8)), some (.inl v7), some (.inl v8)]) dX8_hung_109 (by decide) rfl ?_
        refine go_iinc (pc := 111) (v := (-1 : Int32)) (lv' := [some (.inr 0), none, some (.inl v2), some (.inl v3), none, some (.inl (v5 + (1 : Int32))), some (.inl (((100 : Int32) * v7) + v8)), some (.inl v7), some (.inl (v8 + (-1 : Int32)))]) dX8_hung_111 rfl (by decide) (by decide) rfl ?_
        refine go_goto (pc := 114) (tgt := 73) dX8_hung_114 (by decide) ?_
        exact go_to (ih _ _ _ _ _ _ _ h) (And.intro rfl (And.intro rfl (And.intro rfl (And.intro rfl (And.intro rfl (And.intro rfl (And.intro rfl trivial)))))))
def x_X8_hung_L51   : Nat → Int32 → Int32 → Int32 → Int32 → Int32 → g_M → Option (Int32 × g_M)
  | 0, _, _, _, _, _, _ => none
  | n + 1, v2, v3, v5, v6, v7, M => (if v7 < 0 then (if v3 = 0 then (some (v5, M)) else (some (v6, M))) else (((x_X5_moveTo 27 1 v7 M).bind fun u6 => x_X8_hung_L73  (x_X8_hung_L51   n) g_F v2 v3 v5 v6 v7 (99 : Int32) u6.2)))
set_option maxHeartbeats 4000000 in
set_option maxRecDepth 100000 in
theorem z_X8_hung_L51 {X : g_X} (hok : g_ok X)  {r : Int32 × g_M}  : ∀ (n : Nat) (v2 : Int32) (v3 : Int32) (v5 : Int32) (v6 : Int32) (v7 : Int32) (M : g_M), x_X8_hung_L51   n v2 v3 v5 v6 v7 M = some r → g_Go X cX8_hung RX8 9 (some .int) 4 90 r 51 [some (.inr 0), none, some (.inl v2), some (.inl v3), none, some (.inl v5), some (.inl v6), some (.inl v7), none] [] M := by
  intro n
  induction n with
  | zero =>
    intro v2 v3 v5 v6 v7 M h
    rw [x_X8_hung_L51] at h
    cases h
  | succ n ih =>
    intro v2 v3 v5 v6 v7 M h
    rw [x_X8_hung_L51] at h
    refine go_iload (pc := 51) dX8_hung_51 rfl ?_
    refine go_if_lt (pc := 53) (tgt := 123) dX8_hung_53 (by decide) (fun e8 => ?_) (fun e8 => ?_)
    · replace h := (if_pos e8).symm.trans h
      refine go_iload_n (pc := 123) dX8_hung_123 rfl ?_
      refine go_if_ne (pc := 124) (tgt := 132) dX8_hung_124 (by decide) (fun e5 => ?_) (fun e5 => ?_)
      · replace h := (if_neg e5).symm.trans h
        refine go_iload (pc := 132) dX8_hung_132 rfl ?_
        exact go_iret (pc := 134) (Option.some.inj h).symm rfl dX8_hung_134 rfl
      · replace h := (if_pos e5).symm.trans h
        refine go_iload (pc := 127) dX8_hung_127 rfl ?_
        refine go_goto (pc := 129) (tgt := 134) dX8_hung_129 (by decide) ?_
        exact go_iret (pc := 134) (Option.some.inj h).symm rfl dX8_hung_134 rfl
    · replace h := (if_neg e8).symm.trans h
      refine go_aload_n (pc := 56) dX8_hung_56 rfl ?_
      refine gf_8_54 (pc := 57) dX8_hung_57 ?_
      refine go_aload_n (pc := 60) dX8_hung_60 rfl ?_
      refine gf_8_10 (pc := 61) dX8_hung_61 ?_
      refine go_iload (pc := 64) dX8_hung_64 rfl ?_
      obtain ⟨u6, c7, h⟩ := g_bd h
      refine go_callV (pc := 66) (as := [.inr 1, .inl v7]) (st := []) (r := u6.1) (M1 := u6.2) (z_X5_moveTo hok g_isM27 g_isH1 c7) cw_X5_moveTo ml_X8_313 g_isM27 rfl rfl (by decide) (Nat.le_of_ble_eq_true rfl) rfl dX8_hung_66 ?_
      refine go_bipush (pc := 69) (v := (99 : Int32)) dX8_hung_69 (by decide) ?_
      refine go_istore (pc := 71) (lv' := [some (.inr 0), none, some (.inl v2), some (.inl v3), none, some (.inl v5), some (.inl v6), some (.inl v7), some (.inl (99 : Int32))]) dX8_hung_71 (by decide) rfl ?_
      exact go_to (z_X8_hung_L73 hok  (ih) g_F _ _ _ _ _ _ _ h) (And.intro rfl (And.intro rfl (And.intro rfl (And.intro rfl (And.intro rfl (And.intro rfl (And.intro rfl trivial)))))))
def x_X8_hung  (p1 p2 p3 : Int32) (M : g_M) : Option (Int32 × g_M) := (((x_X8_wrongOfMarks p1 p2 p3 M).bind fun u9 => if u9.1 = 0 then (((x_X5_load 27 1 p1 u9.2).bind fun u11 => x_X8_hung_L51   g_F p2 p3 (0 : Int32) (-9 : Int32) ((u11.2 1 5) - (1 : Int32)) u11.2)) else (((x_X8_refused u9.1 u9.2).bind fun u13 => some (u13.1, u13.2)))))
set_option maxHeartbeats 4000000 in
set_option maxRecDepth 100000 in
theorem z_X8_hung {X : g_X} (hok : g_ok X)  {p1 p2 p3 : Int32} {M : g_M} {r : Int32 × g_M} (h : x_X8_hung p1 p2 p3 M = some r) : g_Con X yX8_hung cX8_hung 9 (some .int) 4 90 [.inr 0, .inl p1, .inl p2, .inl p3] M r := by
  rw [x_X8_hung] at h
  refine g_con hok (plainFor_of_name (by decide +kernel)) (Nat.le_of_ble_eq_true rfl) (go_to (lv2 := [some (.inr 0), some (.inl p1), some (.inl p2), some (.inl p3), none, none, none, none, none]) (own := RX8) ?_ (And.intro rfl (And.intro rfl (And.intro rfl (And.intro rfl trivial)))))
  refine go_aload_n (pc := 0) dX8_hung_0 rfl ?_
  refine go_iload_n (pc := 1) dX8_hung_1 rfl ?_
  refine go_iload_n (pc := 2) dX8_hung_2 rfl ?_
  refine go_iload_n (pc := 3) dX8_hung_3 rfl ?_
  obtain ⟨u9, c10, h⟩ := g_bd h
  refine go_callV (pc := 4) (as := [.inl p1, .inl p2, .inl p3]) (st := []) (r := u9.1) (M1 := u9.2) (z_X8_wrongOfMarks hok  c10) cw_X8_wrongOfMarks ml_X8_333 (show g_lay[0]? = some _ from rfl) rfl rfl (by decide) (Nat.le_of_ble_eq_true rfl) rfl dX8_hung_4 ?_
  refine go_istore (pc := 7) (lv' := [some (.inr 0), some (.inl p1), some (.inl p2), some (.inl p3), some (.inl u9.1), none, none, none, none]) dX8_hung_7 (by decide) rfl ?_
  refine go_iload (pc := 9) dX8_hung_9 rfl ?_
  refine go_if_eq (pc := 11) (tgt := 21) dX8_hung_11 (by decide) (fun e15 => ?_) (fun e15 => ?_)
  · replace h := (if_pos e15).symm.trans h
    refine go_aload_n (pc := 21) dX8_hung_21 rfl ?_
    refine gf_8_54 (pc := 22) dX8_hung_22 ?_
    refine go_aload_n (pc := 25) dX8_hung_25 rfl ?_
    refine gf_8_10 (pc := 26) dX8_hung_26 ?_
    refine go_iload_n (pc := 29) dX8_hung_29 rfl ?_
    obtain ⟨u11, c12, h⟩ := g_bd h
    refine go_callV (pc := 30) (as := [.inr 1, .inl p1]) (st := []) (r := u11.1) (M1 := u11.2) (z_X5_load hok g_isM27 g_isH1 c12) cw_X5_load ml_X8_166 g_isM27 rfl rfl (by decide) (Nat.le_of_ble_eq_true rfl) rfl dX8_hung_30 ?_
    refine go_iconst (pc := 33) (v := (0 : Int32)) dX8_hung_33 (by decide) ?_
    refine go_istore (pc := 34) (lv' := [some (.inr 0), some (.inl p1), some (.inl p2), some (.inl p3), some (.inl u9.1), some (.inl (0 : Int32)), none, none, none]) dX8_hung_34 (by decide) rfl ?_
    refine go_bipush (pc := 36) (v := (-9 : Int32)) dX8_hung_36 (by decide) ?_
    refine go_istore (pc := 38) (lv' := [some (.inr 0), some (.inl p1), some (.inl p2), some (.inl p3), some (.inl u9.1), some (.inl (0 : Int32)), some (.inl (-9 : Int32)), none, none]) dX8_hung_38 (by decide) rfl ?_
    refine go_aload_n (pc := 40) dX8_hung_40 rfl ?_
    refine gf_8_10 (pc := 41) dX8_hung_41 ?_
    refine gf_8_310 (pc := 44) g_isH1 dX8_hung_44 ?_
    refine go_iconst (pc := 47) (v := (1 : Int32)) dX8_hung_47 (by decide) ?_
    refine go_isub (pc := 48) dX8_hung_48 ?_
    refine go_istore (pc := 49) (lv' := [some (.inr 0), some (.inl p1), some (.inl p2), some (.inl p3), some (.inl u9.1), some (.inl (0 : Int32)), some (.inl (-9 : Int32)), some (.inl ((u11.2 1 5) - (1 : Int32))), none]) dX8_hung_49 (by decide) rfl ?_
    exact go_to (z_X8_hung_L51 hok   g_F _ _ _ _ _ _ h) (And.intro rfl (And.intro rfl (And.intro rfl (And.intro rfl (And.intro rfl (And.intro rfl trivial))))))
  · replace h := (if_neg e15).symm.trans h
    refine go_aload_n (pc := 14) dX8_hung_14 rfl ?_
    refine go_iload (pc := 15) dX8_hung_15 rfl ?_
    obtain ⟨u13, c14, h⟩ := g_bd h
    refine go_callV (pc := 17) (as := [.inl u9.1]) (st := []) (r := u13.1) (M1 := u13.2) (z_X8_refused hok  c14) cw_X8_refused ml_X8_85 (show g_lay[0]? = some _ from rfl) rfl rfl (by decide) (Nat.le_of_ble_eq_true rfl) rfl dX8_hung_17 ?_
    exact go_iret (pc := 20) (Option.some.inj h).symm rfl dX8_hung_20 rfl
def x_X8_row  (p1 : Int32) (M : g_M) : Option (Int32 × g_M) := (if 0 ≤ p1 then (if (99 : Int32) < p1 then (((x_X8_refused (-6 : Int32) M).bind fun u1 => some (u1.1, u1.2))) else (if (M 21 1) < (12 : Int32) then (((x_X6_append p1 M).bind fun u3 => some ((u3.2 21 1), u3.2))) else (((x_X8_refused (-6 : Int32) M).bind fun u5 => some (u5.1, u5.2))))) else (((x_X8_refused (-4 : Int32) M).bind fun u9 => some (u9.1, u9.2))))
set_option maxHeartbeats 4000000 in
set_option maxRecDepth 100000 in
theorem z_X8_row {X : g_X} (hok : g_ok X)  {p1 : Int32} {M : g_M} {r : Int32 × g_M} (h : x_X8_row p1 M = some r) : g_Con X yX8_row cX8_row 2 (some .int) 1 21 [.inr 0, .inl p1] M r := by
  rw [x_X8_row] at h
  refine g_con hok (plainFor_of_name (by decide +kernel)) (Nat.le_of_ble_eq_true rfl) (go_to (lv2 := [some (.inr 0), some (.inl p1)]) (own := RX8) ?_ (And.intro rfl (And.intro rfl trivial)))
  refine go_iload_n (pc := 0) dX8_row_0 rfl ?_
  refine go_if_ge (pc := 1) (tgt := 11) dX8_row_1 (by decide) (fun e11 => ?_) (fun e11 => ?_)
  · replace h := (if_pos e11).symm.trans h
    refine go_iload_n (pc := 11) dX8_row_11 rfl ?_
    refine go_bipush (pc := 12) (v := (99 : Int32)) dX8_row_12 (by decide) ?_
    refine go_icmp_gt (pc := 14) (tgt := 29) dX8_row_14 (by decide) (fun e8 => ?_) (fun e8 => ?_)
    · replace h := (if_pos e8).symm.trans h
      refine go_aload_n (pc := 29) dX8_row_29 rfl ?_
      refine go_bipush (pc := 30) (v := (-6 : Int32)) dX8_row_30 (by decide) ?_
      obtain ⟨u1, c2, h⟩ := g_bd h
      refine go_callV (pc := 32) (as := [.inl (-6 : Int32)]) (st := []) (r := u1.1) (M1 := u1.2) (z_X8_refused hok  c2) cw_X8_refused ml_X8_85 (show g_lay[0]? = some _ from rfl) rfl rfl (by decide) (Nat.le_of_ble_eq_true rfl) rfl dX8_row_32 ?_
      exact go_iret (pc := 35) (Option.some.inj h).symm rfl dX8_row_35 rfl
    · replace h := (if_neg e8).symm.trans h
      refine go_aload_n (pc := 17) dX8_row_17 rfl ?_
      refine gf_8_36 (pc := 18) dX8_row_18 ?_
      refine gf_8_266 (pc := 21) dX8_row_21 ?_
      refine go_bipush (pc := 24) (v := (12 : Int32)) dX8_row_24 (by decide) ?_
      refine go_icmp_lt (pc := 26) (tgt := 36) dX8_row_26 (by decide) (fun e7 => ?_) (fun e7 => ?_)
      · replace h := (if_pos e7).symm.trans h
        refine go_aload_n (pc := 36) dX8_row_36 rfl ?_
        refine gf_8_36 (pc := 37) dX8_row_37 ?_
        refine go_iload_n (pc := 40) dX8_row_40 rfl ?_
        obtain ⟨u3, c4, h⟩ := g_bd h
        refine go_callV (pc := 41) (as := [.inl p1]) (st := []) (r := u3.1) (M1 := u3.2) (z_X6_append hok  c4) cw_X6_append ml_X8_340 (show g_lay[21]? = some _ from rfl) rfl rfl (by decide) (Nat.le_of_ble_eq_true rfl) rfl dX8_row_41 ?_
        refine go_aload_n (pc := 44) dX8_row_44 rfl ?_
        refine gf_8_36 (pc := 45) dX8_row_45 ?_
        refine gf_8_266 (pc := 48) dX8_row_48 ?_
        exact go_iret (pc := 51) (Option.some.inj h).symm rfl dX8_row_51 rfl
      · replace h := (if_neg e7).symm.trans h
        refine go_aload_n (pc := 29) dX8_row_29 rfl ?_
        refine go_bipush (pc := 30) (v := (-6 : Int32)) dX8_row_30 (by decide) ?_
        obtain ⟨u5, c6, h⟩ := g_bd h
        refine go_callV (pc := 32) (as := [.inl (-6 : Int32)]) (st := []) (r := u5.1) (M1 := u5.2) (z_X8_refused hok  c6) cw_X8_refused ml_X8_85 (show g_lay[0]? = some _ from rfl) rfl rfl (by decide) (Nat.le_of_ble_eq_true rfl) rfl dX8_row_32 ?_
        exact go_iret (pc := 35) (Option.some.inj h).symm rfl dX8_row_35 rfl
  · replace h := (if_neg e11).symm.trans h
    refine go_aload_n (pc := 4) dX8_row_4 rfl ?_
    refine go_bipush (pc := 5) (v := (-4 : Int32)) dX8_row_5 (by decide) ?_
    obtain ⟨u9, c10, h⟩ := g_bd h
    refine go_callV (pc := 7) (as := [.inl (-4 : Int32)]) (st := []) (r := u9.1) (M1 := u9.2) (z_X8_refused hok  c10) cw_X8_refused ml_X8_85 (show g_lay[0]? = some _ from rfl) rfl rfl (by decide) (Nat.le_of_ble_eq_true rfl) rfl dX8_row_7 ?_
    exact go_iret (pc := 10) (Option.some.inj h).symm rfl dX8_row_10 rfl
def x_X8_judge_L42   : Nat → Int32 → Int32 → g_M → Option (Int32 × g_M)
  | 0, _, _, _ => none
  | n + 1, v2, v3, M => (if v3 < 0 then (some (v2, (g_upd M 21 1 (0 : Int32)))) else (((x_X2_tideAt 1 (((M 1 10) + v3) - ((M 1 10) + v3) / (12 : Int32) * (12 : Int32)) M).bind fun u1 => ((x_X5_reach 27 (u1.2 27 5) u1.1 u1.2).bind fun u3 => ((x_X6_at v3 u3.2).bind fun u5 => if u3.1 = u5.1 then (x_X8_judge_L42   n v2 (v3 + (-1 : Int32)) u5.2) else (x_X8_judge_L42   n v3 (v3 + (-1 : Int32)) u5.2))))))
set_option maxHeartbeats 4000000 in
set_option maxRecDepth 100000 in
theorem z_X8_judge_L42 {X : g_X} (hok : g_ok X)  {r : Int32 × g_M}  : ∀ (n : Nat) (v2 : Int32) (v3 : Int32) (M : g_M), x_X8_judge_L42   n v2 v3 M = some r → g_Go X cX8_judge RX8 5 (some .int) 4 87 r 42 [some (.inr 0), none, some (.inl v2), some (.inl v3), none] [] M := by
  intro n
  induction n with
  | zero =>
    intro v2 v3 M h
    rw [x_X8_judge_L42] at h
    cases h
  | succ n ih =>
    intro v2 v3 M h
    rw [x_X8_judge_L42] at h
    refine go_iload_n (pc := 42) dX8_judge_42 rfl ?_
    refine go_if_lt (pc := 43) (tgt := 102) dX8_judge_43 (by decide) (fun e8 => ?_) (fun e8 => ?_)
    · replace h := (if_pos e8).symm.trans h
      refine go_aload_n (pc := 102) dX8_judge_102 rfl ?_
      refine gf_8_36 (pc := 103) dX8_judge_103 ?_
      refine go_iconst (pc := 106) (v := (0 : Int32)) dX8_judge_106 (by decide) ?_
      refine gp_8_266 (pc := 107) dX8_judge_107 ?_
      refine go_iload_n (pc := 110) dX8_judge_110 rfl ?_
      exact go_iret (pc := 111) (Option.some.inj h).symm rfl dX8_judge_111 rfl
    · replace h := (if_neg e8).symm.trans h
      refine go_aload_n (pc := 46) dX8_judge_46 rfl ?_
      refine gf_8_10 (pc := 47) dX8_judge_47 ?_
      refine go_aload_n (pc := 50) dX8_judge_50 rfl ?_
      refine gf_8_10 (pc := 51) dX8_judge_51 ?_
      refine gf_8_163 (pc := 54) g_isH1 dX8_judge_54 ?_
      refine go_iload_n (pc := 57) dX8_judge_57 rfl ?_
      refine go_iadd (pc := 58) dX8_judge_58 ?_
      refine go_bipush (pc := 59) (v := (12 : Int32)) dX8_judge_59 (by decide) ?_
      refine go_irem (pc := 61) dX8_judge_61 (by decide) ?_
      obtain ⟨u1, c2, h⟩ := g_bd h
      refine go_callV (pc := 62) (as := [.inl (((M 1 10) + v3) - ((M 1 10) + v3) / (12 : Int32) * (12 : Int32))]) (st := []) (r := u1.1) (M1 := u1.2) (z_X2_tideAt hok g_isH1 c2) cw_X2_tideAt ml_X8_120 g_isH1.1 rfl rfl (by decide) (Nat.le_of_ble_eq_true rfl) rfl dX8_judge_62 ?_
      refine go_istore (pc := 65) (lv' := [some (.inr 0), none, some (.inl v2), some (.inl v3), some (.inl u1.1)]) dX8_judge_65 (by decide) rfl ?_
      refine go_aload_n (pc := 67) dX8_judge_67 rfl ?_
      refine gf_8_54 (pc := 68) dX8_judge_68 ?_
      refine go_aload_n (pc := 71) dX8_judge_71 rfl ?_
      refine gf_8_54 (pc := 72) dX8_judge_72 ?_
      refine gf_8_173 (pc := 75) g_isM27 dX8_judge_75 ?_
      refine go_iload (pc := 78) dX8_judge_78 rfl ?_
      obtain ⟨u3, c4, h⟩ := g_bd h
      refine go_callV (pc := 80) (as := [.inl (u1.2 27 5), .inl u1.1]) (st := []) (r := u3.1) (M1 := u3.2) (z_X5_reach hok g_isM27 c4) cw_X5_reach ml_X8_176 g_isM27 rfl rfl (by decide) (Nat.le_of_ble_eq_true rfl) rfl dX8_judge_80 ?_
      refine go_aload_n (pc := 83) dX8_judge_83 rfl ?_
      refine gf_8_36 (pc := 84) dX8_judge_84 ?_
      refine go_iload_n (pc := 87) dX8_judge_87 rfl ?_
      obtain ⟨u5, c6, h⟩ := g_bd h
      refine go_callV (pc := 88) (as := [.inl v3]) (st := [.inl u3.1]) (r := u5.1) (M1 := u5.2) (z_X6_at hok  c6) cw_X6_at ml_X8_282 (show g_lay[21]? = some _ from rfl) rfl rfl (by decide) (Nat.le_of_ble_eq_true rfl) rfl dX8_judge_88 ?_
      refine go_icmp_eq (pc := 91) (tgt := 96) dX8_judge_91 (by decide) (fun e7 => ?_) (fun e7 => ?_)
      · replace h := (if_pos e7).symm.trans h
        refine go_iinc (pc := 96) (v := (-1 : Int32)) (lv' := [some (.inr 0), none, some (.inl v2), some (.inl (v3 + (-1 : Int32))), some (.inl u1.1)]) dX8_judge_96 rfl (by decide) (by decide) rfl ?_
        refine go_goto (pc := 99) (tgt := 42) dX8_judge_99 (by decide) ?_
        exact go_to (ih _ _ _ h) (And.intro rfl (And.intro rfl (And.intro rfl trivial)))
      · replace h := (if_neg e7).symm.trans h
        refine go_iload_n (pc := 94) dX8_judge_94 rfl ?_
        refine go_istore_n (pc := 95) (lv' := [some (.inr 0), none, some (.inl v3), some (.inl v3), some (.inl u1.1)]) dX8_judge_95 (by decide) rfl ?_
        refine go_iinc (pc := 96) (v := (-1 : Int32)) (lv' := [some (.inr 0), none, some (.inl v3), some (.inl (v3 + (-1 : Int32))), some (.inl u1.1)]) dX8_judge_96 rfl (by decide) (by decide) rfl ?_
        refine go_goto (pc := 99) (tgt := 42) dX8_judge_99 (by decide) ?_
        exact go_to (ih _ _ _ h) (And.intro rfl (And.intro rfl (And.intro rfl trivial)))
def x_X8_judge  (p1 : Int32) (M : g_M) : Option (Int32 × g_M) := (((x_X2_hasBoat 1 p1 M).bind fun u9 => if u9.1 = 0 then (((x_X8_refused (-1 : Int32) u9.2).bind fun u13 => some (u13.1, u13.2))) else (((x_X5_load 27 1 p1 u9.2).bind fun u11 => x_X8_judge_L42   g_F (-9 : Int32) ((u11.2 21 1) - (1 : Int32)) u11.2))))
set_option maxHeartbeats 4000000 in
set_option maxRecDepth 100000 in
theorem z_X8_judge {X : g_X} (hok : g_ok X)  {p1 : Int32} {M : g_M} {r : Int32 × g_M} (h : x_X8_judge p1 M = some r) : g_Con X yX8_judge cX8_judge 5 (some .int) 4 87 [.inr 0, .inl p1] M r := by
  rw [x_X8_judge] at h
  refine g_con hok (plainFor_of_name (by decide +kernel)) (Nat.le_of_ble_eq_true rfl) (go_to (lv2 := [some (.inr 0), some (.inl p1), none, none, none]) (own := RX8) ?_ (And.intro rfl (And.intro rfl trivial)))
  refine go_aload_n (pc := 0) dX8_judge_0 rfl ?_
  refine gf_8_10 (pc := 1) dX8_judge_1 ?_
  refine go_iload_n (pc := 4) dX8_judge_4 rfl ?_
  obtain ⟨u9, c10, h⟩ := g_bd h
  refine go_callV (pc := 5) (as := [.inl p1]) (st := []) (r := u9.1) (M1 := u9.2) (z_X2_hasBoat hok g_isH1 c10) cw_X2_hasBoat ml_X8_140 g_isH1.1 rfl rfl (by decide) (Nat.le_of_ble_eq_true rfl) rfl dX8_judge_5 ?_
  refine go_if_ne (pc := 8) (tgt := 17) dX8_judge_8 (by decide) (fun e15 => ?_) (fun e15 => ?_)
  · replace h := (if_neg e15).symm.trans h
    refine go_aload_n (pc := 17) dX8_judge_17 rfl ?_
    refine gf_8_54 (pc := 18) dX8_judge_18 ?_
    refine go_aload_n (pc := 21) dX8_judge_21 rfl ?_
    refine gf_8_10 (pc := 22) dX8_judge_22 ?_
    refine go_iload_n (pc := 25) dX8_judge_25 rfl ?_
    obtain ⟨u11, c12, h⟩ := g_bd h
    refine go_callV (pc := 26) (as := [.inr 1, .inl p1]) (st := []) (r := u11.1) (M1 := u11.2) (z_X5_load hok g_isM27 g_isH1 c12) cw_X5_load ml_X8_166 g_isM27 rfl rfl (by decide) (Nat.le_of_ble_eq_true rfl) rfl dX8_judge_26 ?_
    refine go_bipush (pc := 29) (v := (-9 : Int32)) dX8_judge_29 (by decide) ?_
    refine go_istore_n (pc := 31) (lv' := [some (.inr 0), some (.inl p1), some (.inl (-9 : Int32)), none, none]) dX8_judge_31 (by decide) rfl ?_
    refine go_aload_n (pc := 32) dX8_judge_32 rfl ?_
    refine gf_8_36 (pc := 33) dX8_judge_33 ?_
    refine gf_8_266 (pc := 36) dX8_judge_36 ?_
    refine go_iconst (pc := 39) (v := (1 : Int32)) dX8_judge_39 (by decide) ?_
    refine go_isub (pc := 40) dX8_judge_40 ?_
    refine go_istore_n (pc := 41) (lv' := [some (.inr 0), some (.inl p1), some (.inl (-9 : Int32)), some (.inl ((u11.2 21 1) - (1 : Int32))), none]) dX8_judge_41 (by decide) rfl ?_
    exact go_to (z_X8_judge_L42 hok   g_F _ _ _ h) (And.intro rfl (And.intro rfl (And.intro rfl trivial)))
  · replace h := (if_pos e15).symm.trans h
    refine go_aload_n (pc := 11) dX8_judge_11 rfl ?_
    refine go_iconst (pc := 12) (v := (-1 : Int32)) dX8_judge_12 (by decide) ?_
    obtain ⟨u13, c14, h⟩ := g_bd h
    refine go_callV (pc := 13) (as := [.inl (-1 : Int32)]) (st := []) (r := u13.1) (M1 := u13.2) (z_X8_refused hok  c14) cw_X8_refused ml_X8_85 (show g_lay[0]? = some _ from rfl) rfl rfl (by decide) (Nat.le_of_ble_eq_true rfl) rfl dX8_judge_13 ?_
    exact go_iret (pc := 16) (Option.some.inj h).symm rfl dX8_judge_16 rfl
def x_X8_drop  (M : g_M) : Option (Int32 × g_M) := (some ((M 21 1), (g_upd M 21 1 (0 : Int32))))
set_option maxHeartbeats 4000000 in
set_option maxRecDepth 100000 in
theorem z_X8_drop {X : g_X} (hok : g_ok X)  {M : g_M} {r : Int32 × g_M} (h : x_X8_drop  M = some r) : g_Con X yX8_drop cX8_drop 2 (some .int) 0 0 [.inr 0] M r := by
  rw [x_X8_drop] at h
  refine g_con hok (plainFor_of_name (by decide +kernel)) (Nat.le_of_ble_eq_true rfl) (go_to (lv2 := [some (.inr 0), none]) (own := RX8) ?_ (And.intro rfl trivial))
  refine go_aload_n (pc := 0) dX8_drop_0 rfl ?_
  refine gf_8_36 (pc := 1) dX8_drop_1 ?_
  refine gf_8_266 (pc := 4) dX8_drop_4 ?_
  refine go_istore_n (pc := 7) (lv' := [some (.inr 0), some (.inl (M 21 1))]) dX8_drop_7 (by decide) rfl ?_
  refine go_aload_n (pc := 8) dX8_drop_8 rfl ?_
  refine gf_8_36 (pc := 9) dX8_drop_9 ?_
  refine go_iconst (pc := 12) (v := (0 : Int32)) dX8_drop_12 (by decide) ?_
  refine gp_8_266 (pc := 13) dX8_drop_13 ?_
  refine go_iload_n (pc := 16) dX8_drop_16 rfl ?_
  exact go_iret (pc := 17) (Option.some.inj h).symm rfl dX8_drop_17 rfl
def x_X8_drawBelow  (p0 p1 : Int32) (M : g_M) : Option (Int32 × g_M) := (if (1 : Int32) ≤ p1 then ((if p1 = 0 then none else some ((((p0 &&& (2147483647 : Int32)) / (65536 : Int32)) - ((p0 &&& (2147483647 : Int32)) / (65536 : Int32)) / p1 * p1), M))) else (some ((0 : Int32), M)))
set_option maxHeartbeats 4000000 in
set_option maxRecDepth 100000 in
theorem z_X8_drawBelow {X : g_X} (hok : g_ok X)  {p0 p1 : Int32} {M : g_M} {r : Int32 × g_M} (h : x_X8_drawBelow p0 p1 M = some r) : g_Con X yX8_drawBelow cX8_drawBelow 2 (some .int) 0 0 [.inl p0, .inl p1] M r := by
  rw [x_X8_drawBelow] at h
  refine g_con hok (plainFor_of_name (by decide +kernel)) (Nat.le_of_ble_eq_true rfl) (go_to (lv2 := [some (.inl p0), some (.inl p1)]) (own := RX8) ?_ (And.intro rfl (And.intro rfl trivial)))
  refine go_iload_n (pc := 0) dX8_drawBelow_0 rfl ?_
  refine go_iconst (pc := 1) (v := (1 : Int32)) dX8_drawBelow_1 (by decide) ?_
  refine go_icmp_ge (pc := 2) (tgt := 9) dX8_drawBelow_2 (by decide) (fun e2 => ?_) (fun e2 => ?_)
  · replace h := (if_pos e2).symm.trans h
    refine go_iload_n (pc := 9) dX8_drawBelow_9 rfl ?_
    refine go_ldcw (pc := 10) (v := (2147483647 : Int32)) kc_X8_348 dX8_drawBelow_10 ?_
    refine go_iand (pc := 13) dX8_drawBelow_13 ?_
    refine go_ldcw (pc := 14) (v := (65536 : Int32)) kc_X8_349 dX8_drawBelow_14 ?_
    refine go_idiv (pc := 17) dX8_drawBelow_17 (by decide) ?_
    refine go_iload_n (pc := 18) dX8_drawBelow_18 rfl ?_
    obtain ⟨z1, h⟩ := g_nz h
    refine go_irem (pc := 19) dX8_drawBelow_19 z1 ?_
    exact go_iret (pc := 20) (Option.some.inj h).symm rfl dX8_drawBelow_20 rfl
  · replace h := (if_neg e2).symm.trans h
    refine go_iconst (pc := 5) (v := (0 : Int32)) dX8_drawBelow_5 (by decide) ?_
    refine go_goto (pc := 6) (tgt := 20) dX8_drawBelow_6 (by decide) ?_
    exact go_iret (pc := 20) (Option.some.inj h).symm rfl dX8_drawBelow_20 rfl
def x_X8_seeds_L95  (k82 : Int32 → Int32 → Int32 → Int32 → Int32 → Int32 → g_M → Option (Int32 × g_M)) : Nat → Int32 → Int32 → Int32 → Int32 → Int32 → Int32 → Int32 → Int32 → g_M → Option (Int32 × g_M)
  | 0, _, _, _, _, _, _, _, _, _ => none
  | n + 1, v2, v4, v5, v6, v7, v8, v9, v10, M => (if (12 : Int32) ≤ v10 then (if v6 = v9 then (k82 v2 v4 v5 v6 (v7 + (1 : Int32)) (v8 + (1 : Int32)) M) else (k82 v2 v4 v5 v6 v7 (v8 + (1 : Int32)) M)) else (((x_X8_drawBelow ((v5 * (1103515245 : Int32)) + (12345 : Int32)) (41 : Int32) M).bind fun u2 => ((x_X5_hangs 27 (M 27 5) u2.1 u2.2).bind fun u4 => if u4.1 = 0 then (x_X8_seeds_L95  k82 n v2 v4 ((v5 * (1103515245 : Int32)) + (12345 : Int32)) v6 v7 v8 v9 (v10 + (1 : Int32)) u4.2) else (x_X8_seeds_L95  k82 n v2 v4 ((v5 * (1103515245 : Int32)) + (12345 : Int32)) (v6 + (1 : Int32)) v7 v8 v9 (v10 + (1 : Int32)) u4.2)))))
set_option maxHeartbeats 4000000 in
set_option maxRecDepth 100000 in
theorem z_X8_seeds_L95 {X : g_X} (hok : g_ok X)  {r : Int32 × g_M} {k82 : Int32 → Int32 → Int32 → Int32 → Int32 → Int32 → g_M → Option (Int32 × g_M)} (hk82 : ∀ (v2 : Int32) (v4 : Int32) (v5 : Int32) (v6 : Int32) (v7 : Int32) (v8 : Int32) (M : g_M), k82 v2 v4 v5 v6 v7 v8 M = some r → g_Go X cX8_seeds RX8 11 (some .int) 4 87 r 82 [some (.inr 0), none, some (.inl v2), none, some (.inl v4), some (.inl v5), some (.inl v6), some (.inl v7), some (.inl v8), none, none] [] M) : ∀ (n : Nat) (v2 : Int32) (v4 : Int32) (v5 : Int32) (v6 : Int32) (v7 : Int32) (v8 : Int32) (v9 : Int32) (v10 : Int32) (M : g_M), x_X8_seeds_L95  k82 n v2 v4 v5 v6 v7 v8 v9 v10 M = some r → g_Go X cX8_seeds RX8 11 (some .int) 4 87 r 95 [some (.inr 0), none, some (.inl v2), none, some (.inl v4), some (.inl v5), some (.inl v6), some (.inl v7), some (.inl v8), some (.inl v9), some (.inl v10)] [] M := by
  intro n
  induction n with
  | zero =>
    intro v2 v4 v5 v6 v7 v8 v9 v10 M h
    rw [x_X8_seeds_L95] at h
    cases h
  | succ n ih =>
    intro v2 v4 v5 v6 v7 v8 v9 v10 M h
    rw [x_X8_seeds_L95] at h
    refine go_iload (pc := 95) dX8_seeds_95 rfl ?_
    refine go_bipush (pc := 97) (v := (12 : Int32)) dX8_seeds_97 (by decide) ?_
    refine go_icmp_ge (pc := 99) (tgt := 147) dX8_seeds_99 (by decide) (fun e7 => ?_) (fun e7 => ?_)
    · replace h := (if_pos e7).symm.trans h
      refine go_iload (pc := 147) dX8_seeds_147 rfl ?_
      refine go_iload (pc := 149) dX8_seeds_149 rfl ?_
      refine go_icmp_ne (pc := 151) (tgt := 157) dX8_seeds_151 (by decide) (fun e1 => ?_) (fun e1 => ?_)
      · replace h := (if_neg e1).symm.trans h
        refine go_iinc (pc := 157) (v := (1 : Int32)) (lv' := [some (.inr 0), none, some (.inl v2), none, some (.inl v4), some (.inl v5), some (.inl v6), some (.inl v7), some (.inl (v8 + (1 : Int32))), some (.inl v9), some (.inl v10)]) dX8_seeds_157 rfl (by decide) (by decide) rfl ?_
        refine go_goto (pc := 160) (tgt := 82) dX8_seeds_160 (by decide) ?_
        exact go_to (hk82 _ _ _ _ _ _ _ h) (And.intro rfl (And.intro rfl (And.intro rfl (And.intro rfl (And.intro rfl (And.intro rfl (And.intro rfl trivial)))))))
      · replace h := (if_pos e1).symm.trans h
        refine go_iinc (pc := 154) (v := (1 : Int32)) (lv' := [some (.inr 0), none, some (.inl v2), none, some (.inl v4), some (.inl v5), some (.inl v6), some (.inl (v7 + (1 : Int32))), some (.inl v8), some (.inl v9), some (.inl v10)]) dX8_seeds_154 rfl (by decide) (by decide) rfl ?_
        refine go_iinc (pc := 157) (v := (1 : Int32)) (lv' := [some (.inr 0), none, some (.inl v2), none, some (.inl v4), some (.inl v5), some (.inl v6), some (.inl (v7 + (1 : Int32))), some (.inl (v8 + (1 : Int32))), some (.inl v9), some (.inl v10)]) dX8_seeds_157 rfl (by decide) (by decide) rfl ?_
        refine go_goto (pc := 160) (tgt := 82) dX8_seeds_160 (by decide) ?_
        exact go_to (hk82 _ _ _ _ _ _ _ h) (And.intro rfl (And.intro rfl (And.intro rfl (And.intro rfl (And.intro rfl (And.intro rfl (And.intro rfl trivial)))))))
    · replace h := (if_neg e7).symm.trans h
      refine go_iload (pc := 102) dX8_seeds_102 rfl ?_
      refine go_ldcw (pc := 104) (v := (1103515245 : Int32)) kc_X8_341 dX8_seeds_104 ?_
      refine go_imul (pc := 107) dX8_seeds_107 ?_
      refine go_sipush (pc := 108) (v := (12345 : Int32)) dX8_seeds_108 (by decide) ?_
      refine go_iadd (pc := 111) dX8_seeds_111 ?_
      refine go_istore (pc := 112) (lv' := [some (.inr 0), none, some (.inl v2), none, some (.inl v4), some (.inl ((v5 * (1103515245 : Int32)) + (12345 : Int32))), some (.inl v6), some (.inl v7), some (.inl v8), some (.inl v9), some (.inl v10)]) dX8_seeds_112 (by decide) rfl ?_
      refine go_aload_n (pc := 114) dX8_seeds_114 rfl ?_
      refine gf_8_54 (pc := 115) dX8_seeds_115 ?_
      refine go_aload_n (pc := 118) dX8_seeds_118 rfl ?_
      refine gf_8_54 (pc := 119) dX8_seeds_119 ?_
      refine gf_8_173 (pc := 122) g_isM27 dX8_seeds_122 ?_
      refine go_iload (pc := 125) dX8_seeds_125 rfl ?_
      refine go_bipush (pc := 127) (v := (41 : Int32)) dX8_seeds_127 (by decide) ?_
      obtain ⟨u2, c3, h⟩ := g_bd h
      refine go_callS (pc := 129) (as := [.inl ((v5 * (1103515245 : Int32)) + (12345 : Int32)), .inl (41 : Int32)]) (st := [.inl (M 27 5), .inr 27]) (r := u2.1) (M1 := u2.2) (z_X8_drawBelow hok  c3) cw_X8_drawBelow ml_X8_342 (by decide) (Nat.le_of_ble_eq_true rfl) rfl dX8_seeds_129 ?_
      obtain ⟨u4, c5, h⟩ := g_bd h
      refine go_callV (pc := 132) (as := [.inl (M 27 5), .inl u2.1]) (st := []) (r := u4.1) (M1 := u4.2) (z_X5_hangs hok g_isM27 c5) cw_X5_hangs ml_X8_345 g_isM27 rfl rfl (by decide) (Nat.le_of_ble_eq_true rfl) rfl dX8_seeds_132 ?_
      refine go_if_eq (pc := 135) (tgt := 141) dX8_seeds_135 (by decide) (fun e6 => ?_) (fun e6 => ?_)
      · replace h := (if_pos e6).symm.trans h
        refine go_iinc (pc := 141) (v := (1 : Int32)) (lv' := [some (.inr 0), none, some (.inl v2), none, some (.inl v4), some (.inl ((v5 * (1103515245 : Int32)) + (12345 : Int32))), some (.inl v6), some (.inl v7), some (.inl v8), some (.inl v9), some (.inl (v10 + (1 : Int32)))]) dX8_seeds_141 rfl (by decide) (by decide) rfl ?_
        refine go_goto (pc := 144) (tgt := 95) dX8_seeds_144 (by decide) ?_
        exact go_to (ih _ _ _ _ _ _ _ _ _ h) (And.intro rfl (And.intro rfl (And.intro rfl (And.intro rfl (And.intro rfl (And.intro rfl (And.intro rfl (And.intro rfl (And.intro rfl trivial)))))))))
      · replace h := (if_neg e6).symm.trans h
        refine go_iinc (pc := 138) (v := (1 : Int32)) (lv' := [some (.inr 0), none, some (.inl v2), none, some (.inl v4), some (.inl ((v5 * (1103515245 : Int32)) + (12345 : Int32))), some (.inl (v6 + (1 : Int32))), some (.inl v7), some (.inl v8), some (.inl v9), some (.inl v10)]) dX8_seeds_138 rfl (by decide) (by decide) rfl ?_
        refine go_iinc (pc := 141) (v := (1 : Int32)) (lv' := [some (.inr 0), none, some (.inl v2), none, some (.inl v4), some (.inl ((v5 * (1103515245 : Int32)) + (12345 : Int32))), some (.inl (v6 + (1 : Int32))), some (.inl v7), some (.inl v8), some (.inl v9), some (.inl (v10 + (1 : Int32)))]) dX8_seeds_141 rfl (by decide) (by decide) rfl ?_
        refine go_goto (pc := 144) (tgt := 95) dX8_seeds_144 (by decide) ?_
        exact go_to (ih _ _ _ _ _ _ _ _ _ h) (And.intro rfl (And.intro rfl (And.intro rfl (And.intro rfl (And.intro rfl (And.intro rfl (And.intro rfl (And.intro rfl (And.intro rfl trivial)))))))))
def x_X8_seeds_L82   : Nat → Int32 → Int32 → Int32 → Int32 → Int32 → Int32 → g_M → Option (Int32 × g_M)
  | 0, _, _, _, _, _, _, _ => none
  | n + 1, v2, v4, v5, v6, v7, v8, M => (if v2 ≤ v8 then (if v4 = 0 then (some (v6, M)) else (some (v7, M))) else (x_X8_seeds_L95  (x_X8_seeds_L82   n) g_F v2 v4 v5 v6 v7 v8 v6 (0 : Int32) M))
set_option maxHeartbeats 4000000 in
set_option maxRecDepth 100000 in
theorem z_X8_seeds_L82 {X : g_X} (hok : g_ok X)  {r : Int32 × g_M}  : ∀ (n : Nat) (v2 : Int32) (v4 : Int32) (v5 : Int32) (v6 : Int32) (v7 : Int32) (v8 : Int32) (M : g_M), x_X8_seeds_L82   n v2 v4 v5 v6 v7 v8 M = some r → g_Go X cX8_seeds RX8 11 (some .int) 4 87 r 82 [some (.inr 0), none, some (.inl v2), none, some (.inl v4), some (.inl v5), some (.inl v6), some (.inl v7), some (.inl v8), none, none] [] M := by
  intro n
  induction n with
  | zero =>
    intro v2 v4 v5 v6 v7 v8 M h
    rw [x_X8_seeds_L82] at h
    cases h
  | succ n ih =>
    intro v2 v4 v5 v6 v7 v8 M h
    rw [x_X8_seeds_L82] at h
    refine go_iload (pc := 82) dX8_seeds_82 rfl ?_
    refine go_iload_n (pc := 84) dX8_seeds_84 rfl ?_
    refine go_icmp_ge (pc := 85) (tgt := 163) dX8_seeds_85 (by decide) (fun e9 => ?_) (fun e9 => ?_)
    · replace h := (if_pos e9).symm.trans h
      refine go_iload (pc := 163) dX8_seeds_163 rfl ?_
      refine go_if_ne (pc := 165) (tgt := 173) dX8_seeds_165 (by decide) (fun e8 => ?_) (fun e8 => ?_)
      · replace h := (if_neg e8).symm.trans h
        refine go_iload (pc := 173) dX8_seeds_173 rfl ?_
        exact go_iret (pc := 175) (Option.some.inj h).symm rfl dX8_seeds_175 rfl
      · replace h := (if_pos e8).symm.trans h
        refine go_iload (pc := 168) dX8_seeds_168 rfl ?_
        refine go_goto (pc := 170) (tgt := 175) dX8_seeds_170 (by decide) ?_
        exact go_iret (pc := 175) (Option.some.inj h).symm rfl dX8_seeds_175 rfl
    · replace h := (if_neg e9).symm.trans h
      refine go_iload (pc := 88) dX8_seeds_88 rfl ?_
      refine go_istore (pc := 90) (lv' := [some (.inr 0), none, some (.inl v2), none, some (.inl v4), some (.inl v5), some (.inl v6), some (.inl v7), some (.inl v8), some (.inl v6), none]) dX8_seeds_90 (by decide) rfl ?_
      refine go_iconst (pc := 92) (v := (0 : Int32)) dX8_seeds_92 (by decide) ?_
      refine go_istore (pc := 93) (lv' := [some (.inr 0), none, some (.inl v2), none, some (.inl v4), some (.inl v5), some (.inl v6), some (.inl v7), some (.inl v8), some (.inl v6), some (.inl (0 : Int32))]) dX8_seeds_93 (by decide) rfl ?_
      exact go_to (z_X8_seeds_L95 hok  (ih) g_F _ _ _ _ _ _ _ _ _ h) (And.intro rfl (And.intro rfl (And.intro rfl (And.intro rfl (And.intro rfl (And.intro rfl (And.intro rfl (And.intro rfl (And.intro rfl trivial)))))))))
def x_X8_seeds  (p1 p2 p3 p4 : Int32) (M : g_M) : Option (Int32 × g_M) := (((x_X2_hasBoat 1 p1 M).bind fun u10 => if u10.1 = 0 then (((x_X8_refused (-1 : Int32) u10.2).bind fun u25 => some (u25.1, u25.2))) else (if (1 : Int32) ≤ p2 then (if p2 ≤ (20 : Int32) then (((x_X8_isOneOf p4 (2 : Int32) u10.2).bind fun u12 => if u12.1 = 0 then (((x_X8_refused (-2 : Int32) u12.2).bind fun u16 => some (u16.1, u16.2))) else (((x_X5_load 27 1 p1 u12.2).bind fun u14 => x_X8_seeds_L82   g_F p2 p4 p3 (0 : Int32) (0 : Int32) (0 : Int32) u14.2)))) else (((x_X8_refused (-6 : Int32) u10.2).bind fun u19 => some (u19.1, u19.2)))) else (((x_X8_refused (-4 : Int32) u10.2).bind fun u22 => some (u22.1, u22.2))))))
set_option maxHeartbeats 4000000 in
set_option maxRecDepth 100000 in
theorem z_X8_seeds {X : g_X} (hok : g_ok X)  {p1 p2 p3 p4 : Int32} {M : g_M} {r : Int32 × g_M} (h : x_X8_seeds p1 p2 p3 p4 M = some r) : g_Con X yX8_seeds cX8_seeds 11 (some .int) 4 87 [.inr 0, .inl p1, .inl p2, .inl p3, .inl p4] M r := by
  rw [x_X8_seeds] at h
  refine g_con hok (plainFor_of_name (by decide +kernel)) (Nat.le_of_ble_eq_true rfl) (go_to (lv2 := [some (.inr 0), some (.inl p1), some (.inl p2), some (.inl p3), some (.inl p4), none, none, none, none, none, none]) (own := RX8) ?_ (And.intro rfl (And.intro rfl (And.intro rfl (And.intro rfl (And.intro rfl trivial))))))
  refine go_aload_n (pc := 0) dX8_seeds_0 rfl ?_
  refine gf_8_10 (pc := 1) dX8_seeds_1 ?_
  refine go_iload_n (pc := 4) dX8_seeds_4 rfl ?_
  obtain ⟨u10, c11, h⟩ := g_bd h
  refine go_callV (pc := 5) (as := [.inl p1]) (st := []) (r := u10.1) (M1 := u10.2) (z_X2_hasBoat hok g_isH1 c11) cw_X2_hasBoat ml_X8_140 g_isH1.1 rfl rfl (by decide) (Nat.le_of_ble_eq_true rfl) rfl dX8_seeds_5 ?_
  refine go_if_ne (pc := 8) (tgt := 17) dX8_seeds_8 (by decide) (fun e27 => ?_) (fun e27 => ?_)
  · replace h := (if_neg e27).symm.trans h
    refine go_iload_n (pc := 17) dX8_seeds_17 rfl ?_
    refine go_iconst (pc := 18) (v := (1 : Int32)) dX8_seeds_18 (by decide) ?_
    refine go_icmp_ge (pc := 19) (tgt := 29) dX8_seeds_19 (by decide) (fun e24 => ?_) (fun e24 => ?_)
    · replace h := (if_pos e24).symm.trans h
      refine go_iload_n (pc := 29) dX8_seeds_29 rfl ?_
      refine go_bipush (pc := 30) (v := (20 : Int32)) dX8_seeds_30 (by decide) ?_
      refine go_icmp_le (pc := 32) (tgt := 42) dX8_seeds_32 (by decide) (fun e21 => ?_) (fun e21 => ?_)
      · replace h := (if_pos e21).symm.trans h
        refine go_iload (pc := 42) dX8_seeds_42 rfl ?_
        refine go_iconst (pc := 44) (v := (2 : Int32)) dX8_seeds_44 (by decide) ?_
        obtain ⟨u12, c13, h⟩ := g_bd h
        refine go_callS (pc := 45) (as := [.inl p4, .inl (2 : Int32)]) (st := []) (r := u12.1) (M1 := u12.2) (z_X8_isOneOf hok  c13) cw_X8_isOneOf ml_X8_153 (by decide) (Nat.le_of_ble_eq_true rfl) rfl dX8_seeds_45 ?_
        refine go_if_ne (pc := 48) (tgt := 58) dX8_seeds_48 (by decide) (fun e18 => ?_) (fun e18 => ?_)
        · replace h := (if_neg e18).symm.trans h
          refine go_aload_n (pc := 58) dX8_seeds_58 rfl ?_
          refine gf_8_54 (pc := 59) dX8_seeds_59 ?_
          refine go_aload_n (pc := 62) dX8_seeds_62 rfl ?_
          refine gf_8_10 (pc := 63) dX8_seeds_63 ?_
          refine go_iload_n (pc := 66) dX8_seeds_66 rfl ?_
          obtain ⟨u14, c15, h⟩ := g_bd h
          refine go_callV (pc := 67) (as := [.inr 1, .inl p1]) (st := []) (r := u14.1) (M1 := u14.2) (z_X5_load hok g_isM27 g_isH1 c15) cw_X5_load ml_X8_166 g_isM27 rfl rfl (by decide) (Nat.le_of_ble_eq_true rfl) rfl dX8_seeds_67 ?_
          refine go_iload_n (pc := 70) dX8_seeds_70 rfl ?_
          refine go_istore (pc := 71) (lv' := [some (.inr 0), some (.inl p1), some (.inl p2), some (.inl p3), some (.inl p4), some (.inl p3), none, none, none, none, none]) dX8_seeds_71 (by decide) rfl ?_
          refine go_iconst (pc := 73) (v := (0 : Int32)) dX8_seeds_73 (by decide) ?_
          refine go_istore (pc := 74) (lv' := [some (.inr 0), some (.inl p1), some (.inl p2), some (.inl p3), some (.inl p4), some (.inl p3), some (.inl (0 : Int32)), none, none, none, none]) dX8_seeds_74 (by decide) rfl ?_
          refine go_iconst (pc := 76) (v := (0 : Int32)) dX8_seeds_76 (by decide) ?_
          refine go_istore (pc := 77) (lv' := [some (.inr 0), some (.inl p1), some (.inl p2), some (.inl p3), some (.inl p4), some (.inl p3), some (.inl (0 : Int32)), some (.inl (0 : Int32)), none, none, none]) dX8_seeds_77 (by decide) rfl ?_
          refine go_iconst (pc := 79) (v := (0 : Int32)) dX8_seeds_79 (by decide) ?_
          refine go_istore (pc := 80) (lv' := [some (.inr 0), some (.inl p1), some (.inl p2), some (.inl p3), some (.inl p4), some (.inl p3), some (.inl (0 : Int32)), some (.inl (0 : Int32)), some (.inl (0 : Int32)), none, none]) dX8_seeds_80 (by decide) rfl ?_
          exact go_to (z_X8_seeds_L82 hok   g_F _ _ _ _ _ _ _ h) (And.intro rfl (And.intro rfl (And.intro rfl (And.intro rfl (And.intro rfl (And.intro rfl (And.intro rfl trivial)))))))
        · replace h := (if_pos e18).symm.trans h
          refine go_aload_n (pc := 51) dX8_seeds_51 rfl ?_
          refine go_bipush (pc := 52) (v := (-2 : Int32)) dX8_seeds_52 (by decide) ?_
          obtain ⟨u16, c17, h⟩ := g_bd h
          refine go_callV (pc := 54) (as := [.inl (-2 : Int32)]) (st := []) (r := u16.1) (M1 := u16.2) (z_X8_refused hok  c17) cw_X8_refused ml_X8_85 (show g_lay[0]? = some _ from rfl) rfl rfl (by decide) (Nat.le_of_ble_eq_true rfl) rfl dX8_seeds_54 ?_
          exact go_iret (pc := 57) (Option.some.inj h).symm rfl dX8_seeds_57 rfl
      · replace h := (if_neg e21).symm.trans h
        refine go_aload_n (pc := 35) dX8_seeds_35 rfl ?_
        refine go_bipush (pc := 36) (v := (-6 : Int32)) dX8_seeds_36 (by decide) ?_
        obtain ⟨u19, c20, h⟩ := g_bd h
        refine go_callV (pc := 38) (as := [.inl (-6 : Int32)]) (st := []) (r := u19.1) (M1 := u19.2) (z_X8_refused hok  c20) cw_X8_refused ml_X8_85 (show g_lay[0]? = some _ from rfl) rfl rfl (by decide) (Nat.le_of_ble_eq_true rfl) rfl dX8_seeds_38 ?_
        exact go_iret (pc := 41) (Option.some.inj h).symm rfl dX8_seeds_41 rfl
    · replace h := (if_neg e24).symm.trans h
      refine go_aload_n (pc := 22) dX8_seeds_22 rfl ?_
      refine go_bipush (pc := 23) (v := (-4 : Int32)) dX8_seeds_23 (by decide) ?_
      obtain ⟨u22, c23, h⟩ := g_bd h
      refine go_callV (pc := 25) (as := [.inl (-4 : Int32)]) (st := []) (r := u22.1) (M1 := u22.2) (z_X8_refused hok  c23) cw_X8_refused ml_X8_85 (show g_lay[0]? = some _ from rfl) rfl rfl (by decide) (Nat.le_of_ble_eq_true rfl) rfl dX8_seeds_25 ?_
      exact go_iret (pc := 28) (Option.some.inj h).symm rfl dX8_seeds_28 rfl
  · replace h := (if_pos e27).symm.trans h
    refine go_aload_n (pc := 11) dX8_seeds_11 rfl ?_
    refine go_iconst (pc := 12) (v := (-1 : Int32)) dX8_seeds_12 (by decide) ?_
    obtain ⟨u25, c26, h⟩ := g_bd h
    refine go_callV (pc := 13) (as := [.inl (-1 : Int32)]) (st := []) (r := u25.1) (M1 := u25.2) (z_X8_refused hok  c26) cw_X8_refused ml_X8_85 (show g_lay[0]? = some _ from rfl) rfl rfl (by decide) (Nat.le_of_ble_eq_true rfl) rfl dX8_seeds_13 ?_
    exact go_iret (pc := 16) (Option.some.inj h).symm rfl dX8_seeds_16 rfl
def x_X8_back  (M : g_M) : Option (Int32 × g_M) := (if (M 23 2) = 0 then (((x_X8_refused (-3 : Int32) M).bind fun u7 => some (u7.1, u7.2))) else (((x_X7_lastBoat M).bind fun u1 => ((x_X7_lastLength u1.2).bind fun u3 => ((x_X2_setBoatCell 1 u1.1 (4 : Int32) u3.1 u3.2).bind fun u5 => some (u1.1, (g_upd u5.2 23 2 ((u5.2 23 2) - (1 : Int32)))))))))
set_option maxHeartbeats 4000000 in
set_option maxRecDepth 100000 in
theorem z_X8_back {X : g_X} (hok : g_ok X)  {M : g_M} {r : Int32 × g_M} (h : x_X8_back  M = some r) : g_Con X yX8_back cX8_back 2 (some .int) 2 45 [.inr 0] M r := by
  rw [x_X8_back] at h
  refine g_con hok (plainFor_of_name (by decide +kernel)) (Nat.le_of_ble_eq_true rfl) (go_to (lv2 := [some (.inr 0), none]) (own := RX8) ?_ (And.intro rfl trivial))
  refine go_aload_n (pc := 0) dX8_back_0 rfl ?_
  refine gf_8_43 (pc := 1) dX8_back_1 ?_
  refine gf_8_115 (pc := 4) dX8_back_4 ?_
  refine go_if_ne (pc := 7) (tgt := 17) dX8_back_7 (by decide) (fun e9 => ?_) (fun e9 => ?_)
  · replace h := (if_neg e9).symm.trans h
    refine go_aload_n (pc := 17) dX8_back_17 rfl ?_
    refine gf_8_43 (pc := 18) dX8_back_18 ?_
    obtain ⟨u1, c2, h⟩ := g_bd h
    refine go_callV (pc := 21) (as := []) (st := []) (r := u1.1) (M1 := u1.2) (z_X7_lastBoat hok  c2) cw_X7_lastBoat ml_X8_350 (show g_lay[23]? = some _ from rfl) rfl rfl (by decide) (Nat.le_of_ble_eq_true rfl) rfl dX8_back_21 ?_
    refine go_istore_n (pc := 24) (lv' := [some (.inr 0), some (.inl u1.1)]) dX8_back_24 (by decide) rfl ?_
    refine go_aload_n (pc := 25) dX8_back_25 rfl ?_
    refine gf_8_10 (pc := 26) dX8_back_26 ?_
    refine go_iload_n (pc := 29) dX8_back_29 rfl ?_
    refine go_iconst (pc := 30) (v := (4 : Int32)) dX8_back_30 (by decide) ?_
    refine go_aload_n (pc := 31) dX8_back_31 rfl ?_
    refine gf_8_43 (pc := 32) dX8_back_32 ?_
    obtain ⟨u3, c4, h⟩ := g_bd h
    refine go_callV (pc := 35) (as := []) (st := [.inl (4 : Int32), .inl u1.1, .inr 1]) (r := u3.1) (M1 := u3.2) (z_X7_lastLength hok  c4) cw_X7_lastLength ml_X8_353 (show g_lay[23]? = some _ from rfl) rfl rfl (by decide) (Nat.le_of_ble_eq_true rfl) rfl dX8_back_35 ?_
    obtain ⟨u5, c6, h⟩ := g_bd h
    refine go_callV (pc := 38) (as := [.inl u1.1, .inl (4 : Int32), .inl u3.1]) (st := []) (r := u5.1) (M1 := u5.2) (z_X2_setBoatCell hok g_isH1 c6) cw_X2_setBoatCell ml_X8_149 g_isH1.1 rfl rfl (by decide) (Nat.le_of_ble_eq_true rfl) rfl dX8_back_38 ?_
    refine go_aload_n (pc := 41) dX8_back_41 rfl ?_
    refine gf_8_43 (pc := 42) dX8_back_42 ?_
    refine go_dup (pc := 45) dX8_back_45 ?_
    refine gf_8_115 (pc := 46) dX8_back_46 ?_
    refine go_iconst (pc := 49) (v := (1 : Int32)) dX8_back_49 (by decide) ?_
    refine go_isub (pc := 50) dX8_back_50 ?_
    refine gp_8_115 (pc := 51) dX8_back_51 ?_
    refine go_iload_n (pc := 54) dX8_back_54 rfl ?_
    exact go_iret (pc := 55) (Option.some.inj h).symm rfl dX8_back_55 rfl
  · replace h := (if_pos e9).symm.trans h
    refine go_aload_n (pc := 10) dX8_back_10 rfl ?_
    refine go_bipush (pc := 11) (v := (-3 : Int32)) dX8_back_11 (by decide) ?_
    obtain ⟨u7, c8, h⟩ := g_bd h
    refine go_callV (pc := 13) (as := [.inl (-3 : Int32)]) (st := []) (r := u7.1) (M1 := u7.2) (z_X8_refused hok  c8) cw_X8_refused ml_X8_85 (show g_lay[0]? = some _ from rfl) rfl rfl (by decide) (Nat.le_of_ble_eq_true rfl) rfl dX8_back_13 ?_
    exact go_iret (pc := 16) (Option.some.inj h).symm rfl dX8_back_16 rfl
def x_X8_spring  (p1 : Int32) (M : g_M) : Option (Int32 × g_M) := (if 0 ≤ p1 then (if p1 ≤ (9 : Int32) then (some ((M 1 11), (g_upd M 1 11 p1))) else (((x_X8_refused (-6 : Int32) M).bind fun u1 => some (u1.1, u1.2)))) else (((x_X8_refused (-4 : Int32) M).bind fun u4 => some (u4.1, u4.2))))
set_option maxHeartbeats 4000000 in
set_option maxRecDepth 100000 in
theorem z_X8_spring {X : g_X} (hok : g_ok X)  {p1 : Int32} {M : g_M} {r : Int32 × g_M} (h : x_X8_spring p1 M = some r) : g_Con X yX8_spring cX8_spring 3 (some .int) 1 21 [.inr 0, .inl p1] M r := by
  rw [x_X8_spring] at h
  refine g_con hok (plainFor_of_name (by decide +kernel)) (Nat.le_of_ble_eq_true rfl) (go_to (lv2 := [some (.inr 0), some (.inl p1), none]) (own := RX8) ?_ (And.intro rfl (And.intro rfl trivial)))
  refine go_iload_n (pc := 0) dX8_spring_0 rfl ?_
  refine go_if_ge (pc := 1) (tgt := 11) dX8_spring_1 (by decide) (fun e6 => ?_) (fun e6 => ?_)
  · replace h := (if_pos e6).symm.trans h
    refine go_iload_n (pc := 11) dX8_spring_11 rfl ?_
    refine go_bipush (pc := 12) (v := (9 : Int32)) dX8_spring_12 (by decide) ?_
    refine go_icmp_le (pc := 14) (tgt := 24) dX8_spring_14 (by decide) (fun e3 => ?_) (fun e3 => ?_)
    · replace h := (if_pos e3).symm.trans h
      refine go_aload_n (pc := 24) dX8_spring_24 rfl ?_
      refine gf_8_10 (pc := 25) dX8_spring_25 ?_
      refine gf_8_356 (pc := 28) g_isH1 dX8_spring_28 ?_
      refine go_istore_n (pc := 31) (lv' := [some (.inr 0), some (.inl p1), some (.inl (M 1 11))]) dX8_spring_31 (by decide) rfl ?_
      refine go_aload_n (pc := 32) dX8_spring_32 rfl ?_
      refine gf_8_10 (pc := 33) dX8_spring_33 ?_
      refine go_iload_n (pc := 36) dX8_spring_36 rfl ?_
      refine gp_8_356 (pc := 37) g_isH1 dX8_spring_37 ?_
      refine go_iload_n (pc := 40) dX8_spring_40 rfl ?_
      exact go_iret (pc := 41) (Option.some.inj h).symm rfl dX8_spring_41 rfl
    · replace h := (if_neg e3).symm.trans h
      refine go_aload_n (pc := 17) dX8_spring_17 rfl ?_
      refine go_bipush (pc := 18) (v := (-6 : Int32)) dX8_spring_18 (by decide) ?_
      obtain ⟨u1, c2, h⟩ := g_bd h
      refine go_callV (pc := 20) (as := [.inl (-6 : Int32)]) (st := []) (r := u1.1) (M1 := u1.2) (z_X8_refused hok  c2) cw_X8_refused ml_X8_85 (show g_lay[0]? = some _ from rfl) rfl rfl (by decide) (Nat.le_of_ble_eq_true rfl) rfl dX8_spring_20 ?_
      exact go_iret (pc := 23) (Option.some.inj h).symm rfl dX8_spring_23 rfl
  · replace h := (if_neg e6).symm.trans h
    refine go_aload_n (pc := 4) dX8_spring_4 rfl ?_
    refine go_bipush (pc := 5) (v := (-4 : Int32)) dX8_spring_5 (by decide) ?_
    obtain ⟨u4, c5, h⟩ := g_bd h
    refine go_callV (pc := 7) (as := [.inl (-4 : Int32)]) (st := []) (r := u4.1) (M1 := u4.2) (z_X8_refused hok  c5) cw_X8_refused ml_X8_85 (show g_lay[0]? = some _ from rfl) rfl rfl (by decide) (Nat.le_of_ble_eq_true rfl) rfl dX8_spring_7 ?_
    exact go_iret (pc := 10) (Option.some.inj h).symm rfl dX8_spring_10 rfl
def x_X8_swells  (p1 p2 : Int32) (M : g_M) : Option (Int32 × g_M) := (((x_X8_isHour p1 M).bind fun u1 => if u1.1 = 0 then (((x_X8_refused (-1 : Int32) u1.2).bind fun u11 => some (u11.1, u11.2))) else (if 0 ≤ p2 then (if p2 < (14 : Int32) then (((x_X2_tideOn 1 p1 p2 u1.2).bind fun u3 => some (u3.1, u3.2))) else (((x_X8_refused (-6 : Int32) u1.2).bind fun u5 => some (u5.1, u5.2)))) else (((x_X8_refused (-4 : Int32) u1.2).bind fun u8 => some (u8.1, u8.2))))))
set_option maxHeartbeats 4000000 in
set_option maxRecDepth 100000 in
theorem z_X8_swells {X : g_X} (hok : g_ok X)  {p1 p2 : Int32} {M : g_M} {r : Int32 × g_M} (h : x_X8_swells p1 p2 M = some r) : g_Con X yX8_swells cX8_swells 3 (some .int) 3 66 [.inr 0, .inl p1, .inl p2] M r := by
  rw [x_X8_swells] at h
  refine g_con hok (plainFor_of_name (by decide +kernel)) (Nat.le_of_ble_eq_true rfl) (go_to (lv2 := [some (.inr 0), some (.inl p1), some (.inl p2)]) (own := RX8) ?_ (And.intro rfl (And.intro rfl (And.intro rfl trivial))))
  refine go_iload_n (pc := 0) dX8_swells_0 rfl ?_
  obtain ⟨u1, c2, h⟩ := g_bd h
  refine go_callS (pc := 1) (as := [.inl p1]) (st := []) (r := u1.1) (M1 := u1.2) (z_X8_isHour hok  c2) cw_X8_isHour ml_X8_116 (by decide) (Nat.le_of_ble_eq_true rfl) rfl dX8_swells_1 ?_
  refine go_if_ne (pc := 4) (tgt := 13) dX8_swells_4 (by decide) (fun e13 => ?_) (fun e13 => ?_)
  · replace h := (if_neg e13).symm.trans h
    refine go_iload_n (pc := 13) dX8_swells_13 rfl ?_
    refine go_if_ge (pc := 14) (tgt := 24) dX8_swells_14 (by decide) (fun e10 => ?_) (fun e10 => ?_)
    · replace h := (if_pos e10).symm.trans h
      refine go_iload_n (pc := 24) dX8_swells_24 rfl ?_
      refine go_bipush (pc := 25) (v := (14 : Int32)) dX8_swells_25 (by decide) ?_
      refine go_icmp_lt (pc := 27) (tgt := 37) dX8_swells_27 (by decide) (fun e7 => ?_) (fun e7 => ?_)
      · replace h := (if_pos e7).symm.trans h
        refine go_aload_n (pc := 37) dX8_swells_37 rfl ?_
        refine gf_8_10 (pc := 38) dX8_swells_38 ?_
        refine go_iload_n (pc := 41) dX8_swells_41 rfl ?_
        refine go_iload_n (pc := 42) dX8_swells_42 rfl ?_
        obtain ⟨u3, c4, h⟩ := g_bd h
        refine go_callV (pc := 43) (as := [.inl p1, .inl p2]) (st := []) (r := u3.1) (M1 := u3.2) (z_X2_tideOn hok g_isH1 c4) cw_X2_tideOn ml_X8_359 g_isH1.1 rfl rfl (by decide) (Nat.le_of_ble_eq_true rfl) rfl dX8_swells_43 ?_
        exact go_iret (pc := 46) (Option.some.inj h).symm rfl dX8_swells_46 rfl
      · replace h := (if_neg e7).symm.trans h
        refine go_aload_n (pc := 30) dX8_swells_30 rfl ?_
        refine go_bipush (pc := 31) (v := (-6 : Int32)) dX8_swells_31 (by decide) ?_
        obtain ⟨u5, c6, h⟩ := g_bd h
        refine go_callV (pc := 33) (as := [.inl (-6 : Int32)]) (st := []) (r := u5.1) (M1 := u5.2) (z_X8_refused hok  c6) cw_X8_refused ml_X8_85 (show g_lay[0]? = some _ from rfl) rfl rfl (by decide) (Nat.le_of_ble_eq_true rfl) rfl dX8_swells_33 ?_
        exact go_iret (pc := 36) (Option.some.inj h).symm rfl dX8_swells_36 rfl
    · replace h := (if_neg e10).symm.trans h
      refine go_aload_n (pc := 17) dX8_swells_17 rfl ?_
      refine go_bipush (pc := 18) (v := (-4 : Int32)) dX8_swells_18 (by decide) ?_
      obtain ⟨u8, c9, h⟩ := g_bd h
      refine go_callV (pc := 20) (as := [.inl (-4 : Int32)]) (st := []) (r := u8.1) (M1 := u8.2) (z_X8_refused hok  c9) cw_X8_refused ml_X8_85 (show g_lay[0]? = some _ from rfl) rfl rfl (by decide) (Nat.le_of_ble_eq_true rfl) rfl dX8_swells_20 ?_
      exact go_iret (pc := 23) (Option.some.inj h).symm rfl dX8_swells_23 rfl
  · replace h := (if_pos e13).symm.trans h
    refine go_aload_n (pc := 7) dX8_swells_7 rfl ?_
    refine go_iconst (pc := 8) (v := (-1 : Int32)) dX8_swells_8 (by decide) ?_
    obtain ⟨u11, c12, h⟩ := g_bd h
    refine go_callV (pc := 9) (as := [.inl (-1 : Int32)]) (st := []) (r := u11.1) (M1 := u11.2) (z_X8_refused hok  c12) cw_X8_refused ml_X8_85 (show g_lay[0]? = some _ from rfl) rfl rfl (by decide) (Nat.le_of_ble_eq_true rfl) rfl dX8_swells_9 ?_
    exact go_iret (pc := 12) (Option.some.inj h).symm rfl dX8_swells_12 rfl
def x_X8_leastOnDay_L4   : Nat → Int32 → Int32 → Int32 → g_M → Option (Int32 × g_M)
  | 0, _, _, _, _ => none
  | n + 1, v1, v2, v3, M => (if (12 : Int32) ≤ v3 then (some (v2, M)) else (((x_X2_tideOn 1 v3 v1 M).bind fun u1 => ((x_X5_leastAt 27 u1.1 u1.2).bind fun u3 => x_X8_leastOnDay_L4   n v1 (g_max v2 u3.1) (v3 + (1 : Int32)) u3.2))))
set_option maxHeartbeats 4000000 in
set_option maxRecDepth 100000 in
theorem z_X8_leastOnDay_L4 {X : g_X} (hok : g_ok X)  {r : Int32 × g_M}  : ∀ (n : Nat) (v1 : Int32) (v2 : Int32) (v3 : Int32) (M : g_M), x_X8_leastOnDay_L4   n v1 v2 v3 M = some r → g_Go X cX8_leastOnDay RX8 4 (some .int) 3 67 r 4 [some (.inr 0), some (.inl v1), some (.inl v2), some (.inl v3)] [] M := by
  intro n
  induction n with
  | zero =>
    intro v1 v2 v3 M h
    rw [x_X8_leastOnDay_L4] at h
    cases h
  | succ n ih =>
    intro v1 v2 v3 M h
    rw [x_X8_leastOnDay_L4] at h
    refine go_iload_n (pc := 4) dX8_leastOnDay_4 rfl ?_
    refine go_bipush (pc := 5) (v := (12 : Int32)) dX8_leastOnDay_5 (by decide) ?_
    refine go_icmp_ge (pc := 7) (tgt := 37) dX8_leastOnDay_7 (by decide) (fun e5 => ?_) (fun e5 => ?_)
    · replace h := (if_pos e5).symm.trans h
      refine go_iload_n (pc := 37) dX8_leastOnDay_37 rfl ?_
      exact go_iret (pc := 38) (Option.some.inj h).symm rfl dX8_leastOnDay_38 rfl
    · replace h := (if_neg e5).symm.trans h
      refine go_iload_n (pc := 10) dX8_leastOnDay_10 rfl ?_
      refine go_aload_n (pc := 11) dX8_leastOnDay_11 rfl ?_
      refine gf_8_54 (pc := 12) dX8_leastOnDay_12 ?_
      refine go_aload_n (pc := 15) dX8_leastOnDay_15 rfl ?_
      refine gf_8_10 (pc := 16) dX8_leastOnDay_16 ?_
      refine go_iload_n (pc := 19) dX8_leastOnDay_19 rfl ?_
      refine go_iload_n (pc := 20) dX8_leastOnDay_20 rfl ?_
      obtain ⟨u1, c2, h⟩ := g_bd h
      refine go_callV (pc := 21) (as := [.inl v3, .inl v1]) (st := [.inr 27, .inl v2]) (r := u1.1) (M1 := u1.2) (z_X2_tideOn hok g_isH1 c2) cw_X2_tideOn ml_X8_359 g_isH1.1 rfl rfl (by decide) (Nat.le_of_ble_eq_true rfl) rfl dX8_leastOnDay_21 ?_
      obtain ⟨u3, c4, h⟩ := g_bd h
      refine go_callV (pc := 24) (as := [.inl u1.1]) (st := [.inl v2]) (r := u3.1) (M1 := u3.2) (z_X5_leastAt hok g_isM27 c4) cw_X5_leastAt ml_X8_365 g_isM27 rfl rfl (by decide) (Nat.le_of_ble_eq_true rfl) rfl dX8_leastOnDay_24 ?_
      refine go_mmax (pc := 27) ml_X8_214 lm_max_s lm_i lm_max_c (by decide) (Nat.le_of_ble_eq_true rfl) dX8_leastOnDay_27 ?_
      refine go_istore_n (pc := 30) (lv' := [some (.inr 0), some (.inl v1), some (.inl (g_max v2 u3.1)), some (.inl v3)]) dX8_leastOnDay_30 (by decide) rfl ?_
      refine go_iinc (pc := 31) (v := (1 : Int32)) (lv' := [some (.inr 0), some (.inl v1), some (.inl (g_max v2 u3.1)), some (.inl (v3 + (1 : Int32)))]) dX8_leastOnDay_31 rfl (by decide) (by decide) rfl ?_
      refine go_goto (pc := 34) (tgt := 4) dX8_leastOnDay_34 (by decide) ?_
      exact go_to (ih _ _ _ _ h) (And.intro rfl (And.intro rfl (And.intro rfl (And.intro rfl trivial))))
def x_X8_leastOnDay  (p1 : Int32) (M : g_M) : Option (Int32 × g_M) := (x_X8_leastOnDay_L4   g_F p1 (0 : Int32) (0 : Int32) M)
set_option maxHeartbeats 4000000 in
set_option maxRecDepth 100000 in
theorem z_X8_leastOnDay {X : g_X} (hok : g_ok X)  {p1 : Int32} {M : g_M} {r : Int32 × g_M} (h : x_X8_leastOnDay p1 M = some r) : g_Con X yX8_leastOnDay cX8_leastOnDay 4 (some .int) 3 67 [.inr 0, .inl p1] M r := by
  rw [x_X8_leastOnDay] at h
  refine g_con hok (plainFor_of_name (by decide +kernel)) (Nat.le_of_ble_eq_true rfl) (go_to (lv2 := [some (.inr 0), some (.inl p1), none, none]) (own := RX8) ?_ (And.intro rfl (And.intro rfl trivial)))
  refine go_iconst (pc := 0) (v := (0 : Int32)) dX8_leastOnDay_0 (by decide) ?_
  refine go_istore_n (pc := 1) (lv' := [some (.inr 0), some (.inl p1), some (.inl (0 : Int32)), none]) dX8_leastOnDay_1 (by decide) rfl ?_
  refine go_iconst (pc := 2) (v := (0 : Int32)) dX8_leastOnDay_2 (by decide) ?_
  refine go_istore_n (pc := 3) (lv' := [some (.inr 0), some (.inl p1), some (.inl (0 : Int32)), some (.inl (0 : Int32))]) dX8_leastOnDay_3 (by decide) rfl ?_
  exact go_to (z_X8_leastOnDay_L4 hok   g_F _ _ _ _ h) (And.intro rfl (And.intro rfl (And.intro rfl (And.intro rfl trivial))))
def x_X8_fortnight_L57   : Nat → Int32 → Int32 → Int32 → Int32 → Int32 → g_M → Option (Int32 × g_M)
  | 0, _, _, _, _, _, _ => none
  | n + 1, v2, v3, v4, v5, v6, M => (if v6 < 0 then (if v2 = 0 then (some (v3, M)) else (if v2 = (1 : Int32) then (some (v4, M)) else (((x_X8_lengthOrNone v5 M).bind fun u1 => some (u1.1, u1.2))))) else (((x_X8_leastOnDay v6 M).bind fun u5 => if u5.1 ≤ (u5.2 27 5) then (x_X8_fortnight_L57   n v2 v3 v4 (g_max v5 u5.1) (v6 + (-1 : Int32)) u5.2) else (x_X8_fortnight_L57   n v2 (v3 ||| ((1 : Int32) <<< (v6 &&& 31))) v6 (g_max v5 u5.1) (v6 + (-1 : Int32)) u5.2))))
set_option maxHeartbeats 4000000 in
set_option maxRecDepth 100000 in
theorem z_X8_fortnight_L57 {X : g_X} (hok : g_ok X)  {r : Int32 × g_M}  : ∀ (n : Nat) (v2 : Int32) (v3 : Int32) (v4 : Int32) (v5 : Int32) (v6 : Int32) (M : g_M), x_X8_fortnight_L57   n v2 v3 v4 v5 v6 M = some r → g_Go X cX8_fortnight RX8 8 (some .int) 4 90 r 57 [some (.inr 0), none, some (.inl v2), some (.inl v3), some (.inl v4), some (.inl v5), some (.inl v6), none] [] M := by
  intro n
  induction n with
  | zero =>
    intro v2 v3 v4 v5 v6 M h
    rw [x_X8_fortnight_L57] at h
    cases h
  | succ n ih =>
    intro v2 v3 v4 v5 v6 M h
    rw [x_X8_fortnight_L57] at h
    refine go_iload (pc := 57) dX8_fortnight_57 rfl ?_
    refine go_if_lt (pc := 59) (tgt := 108) dX8_fortnight_59 (by decide) (fun e8 => ?_) (fun e8 => ?_)
    · replace h := (if_pos e8).symm.trans h
      refine go_iload_n (pc := 108) dX8_fortnight_108 rfl ?_
      refine go_if_ne (pc := 109) (tgt := 114) dX8_fortnight_109 (by decide) (fun e4 => ?_) (fun e4 => ?_)
      · replace h := (if_neg e4).symm.trans h
        refine go_iload_n (pc := 114) dX8_fortnight_114 rfl ?_
        refine go_iconst (pc := 115) (v := (1 : Int32)) dX8_fortnight_115 (by decide) ?_
        refine go_icmp_ne (pc := 116) (tgt := 124) dX8_fortnight_116 (by decide) (fun e3 => ?_) (fun e3 => ?_)
        · replace h := (if_neg e3).symm.trans h
          refine go_iload (pc := 124) dX8_fortnight_124 rfl ?_
          obtain ⟨u1, c2, h⟩ := g_bd h
          refine go_callS (pc := 126) (as := [.inl v5]) (st := []) (r := u1.1) (M1 := u1.2) (z_X8_lengthOrNone hok  c2) cw_X8_lengthOrNone ml_X8_208 (by decide) (Nat.le_of_ble_eq_true rfl) rfl dX8_fortnight_126 ?_
          exact go_iret (pc := 129) (Option.some.inj h).symm rfl dX8_fortnight_129 rfl
        · replace h := (if_pos e3).symm.trans h
          refine go_iload (pc := 119) dX8_fortnight_119 rfl ?_
          refine go_goto (pc := 121) (tgt := 129) dX8_fortnight_121 (by decide) ?_
          exact go_iret (pc := 129) (Option.some.inj h).symm rfl dX8_fortnight_129 rfl
      · replace h := (if_pos e4).symm.trans h
        refine go_iload_n (pc := 112) dX8_fortnight_112 rfl ?_
        exact go_iret (pc := 113) (Option.some.inj h).symm rfl dX8_fortnight_113 rfl
    · replace h := (if_neg e8).symm.trans h
      refine go_aload_n (pc := 62) dX8_fortnight_62 rfl ?_
      refine go_iload (pc := 63) dX8_fortnight_63 rfl ?_
      obtain ⟨u5, c6, h⟩ := g_bd h
      refine go_callV (pc := 65) (as := [.inl v6]) (st := []) (r := u5.1) (M1 := u5.2) (z_X8_leastOnDay hok  c6) cw_X8_leastOnDay ml_X8_362 (show g_lay[0]? = some _ from rfl) rfl rfl (by decide) (Nat.le_of_ble_eq_true rfl) rfl dX8_fortnight_65 ?_
      refine go_istore (pc := 68) (lv' := [some (.inr 0), none, some (.inl v2), some (.inl v3), some (.inl v4), some (.inl v5), some (.inl v6), some (.inl u5.1)]) dX8_fortnight_68 (by decide) rfl ?_
      refine go_iload (pc := 70) dX8_fortnight_70 rfl ?_
      refine go_iload (pc := 72) dX8_fortnight_72 rfl ?_
      refine go_mmax (pc := 74) ml_X8_214 lm_max_s lm_i lm_max_c (by decide) (Nat.le_of_ble_eq_true rfl) dX8_fortnight_74 ?_
      refine go_istore (pc := 77) (lv' := [some (.inr 0), none, some (.inl v2), some (.inl v3), some (.inl v4), some (.inl (g_max v5 u5.1)), some (.inl v6), some (.inl u5.1)]) dX8_fortnight_77 (by decide) rfl ?_
      refine go_aload_n (pc := 79) dX8_fortnight_79 rfl ?_
      refine gf_8_54 (pc := 80) dX8_fortnight_80 ?_
      refine gf_8_173 (pc := 83) g_isM27 dX8_fortnight_83 ?_
      refine go_iload (pc := 86) dX8_fortnight_86 rfl ?_
      refine go_icmp_ge (pc := 88) (tgt := 102) dX8_fortnight_88 (by decide) (fun e7 => ?_) (fun e7 => ?_)
      · replace h := (if_pos e7).symm.trans h
        refine go_iinc (pc := 102) (v := (-1 : Int32)) (lv' := [some (.inr 0), none, some (.inl v2), some (.inl v3), some (.inl v4), some (.inl (g_max v5 u5.1)), some (.inl (v6 + (-1 : Int32))), some (.inl u5.1)]) dX8_fortnight_102 rfl (by decide) (by decide) rfl ?_
        refine go_goto (pc := 105) (tgt := 57) dX8_fortnight_105 (by decide) ?_
        exact go_to (ih _ _ _ _ _ _ h) (And.intro rfl (And.intro rfl (And.intro rfl (And.intro rfl (And.intro rfl (And.intro rfl trivial))))))
      · replace h := (if_neg e7).symm.trans h
        refine go_iload_n (pc := 91) dX8_fortnight_91 rfl ?_
        refine go_iconst (pc := 92) (v := (1 : Int32)) dX8_fortnight_92 (by decide) ?_
        refine go_iload (pc := 93) dX8_fortnight_93 rfl ?_
        refine go_ishl (pc := 95) dX8_fortnight_95 ?_
        refine go_ior (pc := 96) dX8_fortnight_96 ?_
        refine go_istore_n (pc := 97) (lv' := [some (.inr 0), none, some (.inl v2), some (.inl (v3 ||| ((1 : Int32) <<< (v6 &&& 31)))), some (.inl v4), some (.inl (g_max v5 u5.1)), some (.inl v6), some (.inl u5.1)]) dX8_fortnight_97 (by decide) rfl ?_
        refine go_iload (pc := 98) dX8_fortnight_98 rfl ?_
        refine go_istore (pc := 100) (lv' := [some (.inr 0), none, some (.inl v2), some (.inl (v3 ||| ((1 : Int32) <<< (v6 &&& 31)))), some (.inl v6), some (.inl (g_max v5 u5.1)), some (.inl v6), some (.inl u5.1)]) dX8_fortnight_100 (by decide) rfl ?_
        refine go_iinc (pc := 102) (v := (-1 : Int32)) (lv' := [some (.inr 0), none, some (.inl v2), some (.inl (v3 ||| ((1 : Int32) <<< (v6 &&& 31)))), some (.inl v6), some (.inl (g_max v5 u5.1)), some (.inl (v6 + (-1 : Int32))), some (.inl u5.1)]) dX8_fortnight_102 rfl (by decide) (by decide) rfl ?_
        refine go_goto (pc := 105) (tgt := 57) dX8_fortnight_105 (by decide) ?_
        exact go_to (ih _ _ _ _ _ _ h) (And.intro rfl (And.intro rfl (And.intro rfl (And.intro rfl (And.intro rfl (And.intro rfl trivial))))))
def x_X8_fortnight  (p1 p2 : Int32) (M : g_M) : Option (Int32 × g_M) := (((x_X2_hasBoat 1 p1 M).bind fun u9 => if u9.1 = 0 then (((x_X8_refused (-1 : Int32) u9.2).bind fun u18 => some (u18.1, u18.2))) else (((x_X8_isOneOf p2 (3 : Int32) u9.2).bind fun u11 => if u11.1 = 0 then (((x_X8_refused (-2 : Int32) u11.2).bind fun u15 => some (u15.1, u15.2))) else (((x_X5_load 27 1 p1 u11.2).bind fun u13 => x_X8_fortnight_L57   g_F p2 (0 : Int32) (-9 : Int32) (0 : Int32) (13 : Int32) u13.2))))))
set_option maxHeartbeats 4000000 in
set_option maxRecDepth 100000 in
theorem z_X8_fortnight {X : g_X} (hok : g_ok X)  {p1 p2 : Int32} {M : g_M} {r : Int32 × g_M} (h : x_X8_fortnight p1 p2 M = some r) : g_Con X yX8_fortnight cX8_fortnight 8 (some .int) 4 90 [.inr 0, .inl p1, .inl p2] M r := by
  rw [x_X8_fortnight] at h
  refine g_con hok (plainFor_of_name (by decide +kernel)) (Nat.le_of_ble_eq_true rfl) (go_to (lv2 := [some (.inr 0), some (.inl p1), some (.inl p2), none, none, none, none, none]) (own := RX8) ?_ (And.intro rfl (And.intro rfl (And.intro rfl trivial))))
  refine go_aload_n (pc := 0) dX8_fortnight_0 rfl ?_
  refine gf_8_10 (pc := 1) dX8_fortnight_1 ?_
  refine go_iload_n (pc := 4) dX8_fortnight_4 rfl ?_
  obtain ⟨u9, c10, h⟩ := g_bd h
  refine go_callV (pc := 5) (as := [.inl p1]) (st := []) (r := u9.1) (M1 := u9.2) (z_X2_hasBoat hok g_isH1 c10) cw_X2_hasBoat ml_X8_140 g_isH1.1 rfl rfl (by decide) (Nat.le_of_ble_eq_true rfl) rfl dX8_fortnight_5 ?_
  refine go_if_ne (pc := 8) (tgt := 17) dX8_fortnight_8 (by decide) (fun e20 => ?_) (fun e20 => ?_)
  · replace h := (if_neg e20).symm.trans h
    refine go_iload_n (pc := 17) dX8_fortnight_17 rfl ?_
    refine go_iconst (pc := 18) (v := (3 : Int32)) dX8_fortnight_18 (by decide) ?_
    obtain ⟨u11, c12, h⟩ := g_bd h
    refine go_callS (pc := 19) (as := [.inl p2, .inl (3 : Int32)]) (st := []) (r := u11.1) (M1 := u11.2) (z_X8_isOneOf hok  c12) cw_X8_isOneOf ml_X8_153 (by decide) (Nat.le_of_ble_eq_true rfl) rfl dX8_fortnight_19 ?_
    refine go_if_ne (pc := 22) (tgt := 32) dX8_fortnight_22 (by decide) (fun e17 => ?_) (fun e17 => ?_)
    · replace h := (if_neg e17).symm.trans h
      refine go_aload_n (pc := 32) dX8_fortnight_32 rfl ?_
      refine gf_8_54 (pc := 33) dX8_fortnight_33 ?_
      refine go_aload_n (pc := 36) dX8_fortnight_36 rfl ?_
      refine gf_8_10 (pc := 37) dX8_fortnight_37 ?_
      refine go_iload_n (pc := 40) dX8_fortnight_40 rfl ?_
      obtain ⟨u13, c14, h⟩ := g_bd h
      refine go_callV (pc := 41) (as := [.inr 1, .inl p1]) (st := []) (r := u13.1) (M1 := u13.2) (z_X5_load hok g_isM27 g_isH1 c14) cw_X5_load ml_X8_166 g_isM27 rfl rfl (by decide) (Nat.le_of_ble_eq_true rfl) rfl dX8_fortnight_41 ?_
      refine go_iconst (pc := 44) (v := (0 : Int32)) dX8_fortnight_44 (by decide) ?_
      refine go_istore_n (pc := 45) (lv' := [some (.inr 0), some (.inl p1), some (.inl p2), some (.inl (0 : Int32)), none, none, none, none]) dX8_fortnight_45 (by decide) rfl ?_
      refine go_bipush (pc := 46) (v := (-9 : Int32)) dX8_fortnight_46 (by decide) ?_
      refine go_istore (pc := 48) (lv' := [some (.inr 0), some (.inl p1), some (.inl p2), some (.inl (0 : Int32)), some (.inl (-9 : Int32)), none, none, none]) dX8_fortnight_48 (by decide) rfl ?_
      refine go_iconst (pc := 50) (v := (0 : Int32)) dX8_fortnight_50 (by decide) ?_
      refine go_istore (pc := 51) (lv' := [some (.inr 0), some (.inl p1), some (.inl p2), some (.inl (0 : Int32)), some (.inl (-9 : Int32)), some (.inl (0 : Int32)), none, none]) dX8_fortnight_51 (by decide) rfl ?_
      refine go_bipush (pc := 53) (v := (13 : Int32)) dX8_fortnight_53 (by decide) ?_
      refine go_istore (pc := 55) (lv' := [some (.inr 0), some (.inl p1), some (.inl p2), some (.inl (0 : Int32)), some (.inl (-9 : Int32)), some (.inl (0 : Int32)), some (.inl (13 : Int32)), none]) dX8_fortnight_55 (by decide) rfl ?_
      exact go_to (z_X8_fortnight_L57 hok   g_F _ _ _ _ _ _ h) (And.intro rfl (And.intro rfl (And.intro rfl (And.intro rfl (And.intro rfl (And.intro rfl trivial))))))
    · replace h := (if_pos e17).symm.trans h
      refine go_aload_n (pc := 25) dX8_fortnight_25 rfl ?_
      refine go_bipush (pc := 26) (v := (-2 : Int32)) dX8_fortnight_26 (by decide) ?_
      obtain ⟨u15, c16, h⟩ := g_bd h
      refine go_callV (pc := 28) (as := [.inl (-2 : Int32)]) (st := []) (r := u15.1) (M1 := u15.2) (z_X8_refused hok  c16) cw_X8_refused ml_X8_85 (show g_lay[0]? = some _ from rfl) rfl rfl (by decide) (Nat.le_of_ble_eq_true rfl) rfl dX8_fortnight_28 ?_
      exact go_iret (pc := 31) (Option.some.inj h).symm rfl dX8_fortnight_31 rfl
  · replace h := (if_pos e20).symm.trans h
    refine go_aload_n (pc := 11) dX8_fortnight_11 rfl ?_
    refine go_iconst (pc := 12) (v := (-1 : Int32)) dX8_fortnight_12 (by decide) ?_
    obtain ⟨u18, c19, h⟩ := g_bd h
    refine go_callV (pc := 13) (as := [.inl (-1 : Int32)]) (st := []) (r := u18.1) (M1 := u18.2) (z_X8_refused hok  c19) cw_X8_refused ml_X8_85 (show g_lay[0]? = some _ from rfl) rfl rfl (by decide) (Nat.le_of_ble_eq_true rfl) rfl dX8_fortnight_13 ?_
    exact go_iret (pc := 16) (Option.some.inj h).symm rfl dX8_fortnight_16 rfl
def x_X8_watch  (p1 p2 : Int32) (M : g_M) : Option (Int32 × g_M) := (((x_X2_hasBoat 1 p1 M).bind fun u1 => if u1.1 = 0 then (((x_X8_refused (-1 : Int32) u1.2).bind fun u15 => some (u15.1, u15.2))) else (if (1 : Int32) ≤ p2 then (if p2 ≤ (6 : Int32) then (((x_X5_load 27 1 p1 u1.2).bind fun u3 => ((x_X4_measure 27 (1 + 1) 12 u3.2).bind fun u5 => ((x_X4_changesEach p2 u5.2).bind fun u7 => some (u7.1, u7.2))))) else (((x_X8_refused (-6 : Int32) u1.2).bind fun u9 => some (u9.1, u9.2)))) else (((x_X8_refused (-4 : Int32) u1.2).bind fun u12 => some (u12.1, u12.2))))))
set_option maxHeartbeats 4000000 in
set_option maxRecDepth 100000 in
theorem z_X8_watch {X : g_X} (hok : g_ok X)  {p1 p2 : Int32} {M : g_M} {r : Int32 × g_M} (h : x_X8_watch p1 p2 M = some r) : g_Con X yX8_watch cX8_watch 3 (some .int) 5 115 [.inr 0, .inl p1, .inl p2] M r := by
  rw [x_X8_watch] at h
  refine g_con hok (plainFor_of_name (by decide +kernel)) (Nat.le_of_ble_eq_true rfl) (go_to (lv2 := [some (.inr 0), some (.inl p1), some (.inl p2)]) (own := RX8) ?_ (And.intro rfl (And.intro rfl (And.intro rfl trivial))))
  refine go_aload_n (pc := 0) dX8_watch_0 rfl ?_
  refine gf_8_10 (pc := 1) dX8_watch_1 ?_
  refine go_iload_n (pc := 4) dX8_watch_4 rfl ?_
  obtain ⟨u1, c2, h⟩ := g_bd h
  refine go_callV (pc := 5) (as := [.inl p1]) (st := []) (r := u1.1) (M1 := u1.2) (z_X2_hasBoat hok g_isH1 c2) cw_X2_hasBoat ml_X8_140 g_isH1.1 rfl rfl (by decide) (Nat.le_of_ble_eq_true rfl) rfl dX8_watch_5 ?_
  refine go_if_ne (pc := 8) (tgt := 17) dX8_watch_8 (by decide) (fun e17 => ?_) (fun e17 => ?_)
  · replace h := (if_neg e17).symm.trans h
    refine go_iload_n (pc := 17) dX8_watch_17 rfl ?_
    refine go_iconst (pc := 18) (v := (1 : Int32)) dX8_watch_18 (by decide) ?_
    refine go_icmp_ge (pc := 19) (tgt := 29) dX8_watch_19 (by decide) (fun e14 => ?_) (fun e14 => ?_)
    · replace h := (if_pos e14).symm.trans h
      refine go_iload_n (pc := 29) dX8_watch_29 rfl ?_
      refine go_bipush (pc := 30) (v := (6 : Int32)) dX8_watch_30 (by decide) ?_
      refine go_icmp_le (pc := 32) (tgt := 42) dX8_watch_32 (by decide) (fun e11 => ?_) (fun e11 => ?_)
      · replace h := (if_pos e11).symm.trans h
        refine go_aload_n (pc := 42) dX8_watch_42 rfl ?_
        refine gf_8_54 (pc := 43) dX8_watch_43 ?_
        refine go_aload_n (pc := 46) dX8_watch_46 rfl ?_
        refine gf_8_10 (pc := 47) dX8_watch_47 ?_
        refine go_iload_n (pc := 50) dX8_watch_50 rfl ?_
        obtain ⟨u3, c4, h⟩ := g_bd h
        refine go_callV (pc := 51) (as := [.inr 1, .inl p1]) (st := []) (r := u3.1) (M1 := u3.2) (z_X5_load hok g_isM27 g_isH1 c4) cw_X5_load ml_X8_166 g_isM27 rfl rfl (by decide) (Nat.le_of_ble_eq_true rfl) rfl dX8_watch_51 ?_
        refine go_aload_n (pc := 54) dX8_watch_54 rfl ?_
        refine gf_8_64 (pc := 55) dX8_watch_55 ?_
        refine go_aload_n (pc := 58) dX8_watch_58 rfl ?_
        refine gf_8_54 (pc := 59) dX8_watch_59 ?_
        refine go_aload_n (pc := 62) dX8_watch_62 rfl ?_
        refine gf_8_10 (pc := 63) dX8_watch_63 ?_
        refine gf_8_188 (pc := 66) g_isH1 dX8_watch_66 ?_
        obtain ⟨u5, c6, h⟩ := g_bd h
        refine go_callV (pc := 69) (as := [.inr 27, .inr (1 + 1)]) (st := []) (r := u5.1) (M1 := u5.2) (z_X4_measure hok g_isM27 g_isH1.2.1 c6) cw_X4_measure ml_X8_201 (show g_lay[29]? = some _ from rfl) rfl rfl (by decide) (Nat.le_of_ble_eq_true rfl) rfl dX8_watch_69 ?_
        refine go_aload_n (pc := 72) dX8_watch_72 rfl ?_
        refine gf_8_64 (pc := 73) dX8_watch_73 ?_
        refine go_iload_n (pc := 76) dX8_watch_76 rfl ?_
        obtain ⟨u7, c8, h⟩ := g_bd h
        refine go_callV (pc := 77) (as := [.inl p2]) (st := []) (r := u7.1) (M1 := u7.2) (z_X4_changesEach hok  c8) cw_X4_changesEach ml_X8_368 (show g_lay[29]? = some _ from rfl) rfl rfl (by decide) (Nat.le_of_ble_eq_true rfl) rfl dX8_watch_77 ?_
        exact go_iret (pc := 80) (Option.some.inj h).symm rfl dX8_watch_80 rfl
      · replace h := (if_neg e11).symm.trans h
        refine go_aload_n (pc := 35) dX8_watch_35 rfl ?_
        refine go_bipush (pc := 36) (v := (-6 : Int32)) dX8_watch_36 (by decide) ?_
        obtain ⟨u9, c10, h⟩ := g_bd h
        refine go_callV (pc := 38) (as := [.inl (-6 : Int32)]) (st := []) (r := u9.1) (M1 := u9.2) (z_X8_refused hok  c10) cw_X8_refused ml_X8_85 (show g_lay[0]? = some _ from rfl) rfl rfl (by decide) (Nat.le_of_ble_eq_true rfl) rfl dX8_watch_38 ?_
        exact go_iret (pc := 41) (Option.some.inj h).symm rfl dX8_watch_41 rfl
    · replace h := (if_neg e14).symm.trans h
      refine go_aload_n (pc := 22) dX8_watch_22 rfl ?_
      refine go_bipush (pc := 23) (v := (-4 : Int32)) dX8_watch_23 (by decide) ?_
      obtain ⟨u12, c13, h⟩ := g_bd h
      refine go_callV (pc := 25) (as := [.inl (-4 : Int32)]) (st := []) (r := u12.1) (M1 := u12.2) (z_X8_refused hok  c13) cw_X8_refused ml_X8_85 (show g_lay[0]? = some _ from rfl) rfl rfl (by decide) (Nat.le_of_ble_eq_true rfl) rfl dX8_watch_25 ?_
      exact go_iret (pc := 28) (Option.some.inj h).symm rfl dX8_watch_28 rfl
  · replace h := (if_pos e17).symm.trans h
    refine go_aload_n (pc := 11) dX8_watch_11 rfl ?_
    refine go_iconst (pc := 12) (v := (-1 : Int32)) dX8_watch_12 (by decide) ?_
    obtain ⟨u15, c16, h⟩ := g_bd h
    refine go_callV (pc := 13) (as := [.inl (-1 : Int32)]) (st := []) (r := u15.1) (M1 := u15.2) (z_X8_refused hok  c16) cw_X8_refused ml_X8_85 (show g_lay[0]? = some _ from rfl) rfl rfl (by decide) (Nat.le_of_ble_eq_true rfl) rfl dX8_watch_13 ?_
    exact go_iret (pc := 16) (Option.some.inj h).symm rfl dX8_watch_16 rfl
def x_X8_seldom_L50   : Nat → Int32 → g_M → Option (Int32 × g_M)
  | 0, _, _ => none
  | n + 1, v2, M => (if v2 < (1 : Int32) then (some ((-9 : Int32), M)) else (((x_X4_changesEach v2 M).bind fun u1 => if u1.1 = (-9 : Int32) then (x_X8_seldom_L50   n (v2 + (-1 : Int32)) u1.2) else (some (v2, u1.2)))))
set_option maxHeartbeats 4000000 in
set_option maxRecDepth 100000 in
theorem z_X8_seldom_L50 {X : g_X} (hok : g_ok X)  {r : Int32 × g_M}  : ∀ (n : Nat) (v2 : Int32) (M : g_M), x_X8_seldom_L50   n v2 M = some r → g_Go X cX8_seldom RX8 3 (some .int) 5 115 r 50 [some (.inr 0), none, some (.inl v2)] [] M := by
  intro n
  induction n with
  | zero =>
    intro v2 M h
    rw [x_X8_seldom_L50] at h
    cases h
  | succ n ih =>
    intro v2 M h
    rw [x_X8_seldom_L50] at h
    refine go_iload_n (pc := 50) dX8_seldom_50 rfl ?_
    refine go_iconst (pc := 51) (v := (1 : Int32)) dX8_seldom_51 (by decide) ?_
    refine go_icmp_lt (pc := 52) (tgt := 76) dX8_seldom_52 (by decide) (fun e4 => ?_) (fun e4 => ?_)
    · replace h := (if_pos e4).symm.trans h
      refine go_bipush (pc := 76) (v := (-9 : Int32)) dX8_seldom_76 (by decide) ?_
      exact go_iret (pc := 78) (Option.some.inj h).symm rfl dX8_seldom_78 rfl
    · replace h := (if_neg e4).symm.trans h
      refine go_aload_n (pc := 55) dX8_seldom_55 rfl ?_
      refine gf_8_64 (pc := 56) dX8_seldom_56 ?_
      refine go_iload_n (pc := 59) dX8_seldom_59 rfl ?_
      obtain ⟨u1, c2, h⟩ := g_bd h
      refine go_callV (pc := 60) (as := [.inl v2]) (st := []) (r := u1.1) (M1 := u1.2) (z_X4_changesEach hok  c2) cw_X4_changesEach ml_X8_368 (show g_lay[29]? = some _ from rfl) rfl rfl (by decide) (Nat.le_of_ble_eq_true rfl) rfl dX8_seldom_60 ?_
      refine go_bipush (pc := 63) (v := (-9 : Int32)) dX8_seldom_63 (by decide) ?_
      refine go_icmp_eq (pc := 65) (tgt := 70) dX8_seldom_65 (by decide) (fun e3 => ?_) (fun e3 => ?_)
      · replace h := (if_pos e3).symm.trans h
        refine go_iinc (pc := 70) (v := (-1 : Int32)) (lv' := [some (.inr 0), none, some (.inl (v2 + (-1 : Int32)))]) dX8_seldom_70 rfl (by decide) (by decide) rfl ?_
        refine go_goto (pc := 73) (tgt := 50) dX8_seldom_73 (by decide) ?_
        exact go_to (ih _ _ h) (And.intro rfl (And.intro rfl trivial))
      · replace h := (if_neg e3).symm.trans h
        refine go_iload_n (pc := 68) dX8_seldom_68 rfl ?_
        exact go_iret (pc := 69) (Option.some.inj h).symm rfl dX8_seldom_69 rfl
def x_X8_seldom  (p1 : Int32) (M : g_M) : Option (Int32 × g_M) := (((x_X2_hasBoat 1 p1 M).bind fun u5 => if u5.1 = 0 then (((x_X8_refused (-1 : Int32) u5.2).bind fun u11 => some (u11.1, u11.2))) else (((x_X5_load 27 1 p1 u5.2).bind fun u7 => ((x_X4_measure 27 (1 + 1) 12 u7.2).bind fun u9 => x_X8_seldom_L50   g_F (6 : Int32) u9.2)))))
set_option maxHeartbeats 4000000 in
set_option maxRecDepth 100000 in
theorem z_X8_seldom {X : g_X} (hok : g_ok X)  {p1 : Int32} {M : g_M} {r : Int32 × g_M} (h : x_X8_seldom p1 M = some r) : g_Con X yX8_seldom cX8_seldom 3 (some .int) 5 115 [.inr 0, .inl p1] M r := by
  rw [x_X8_seldom] at h
  refine g_con hok (plainFor_of_name (by decide +kernel)) (Nat.le_of_ble_eq_true rfl) (go_to (lv2 := [some (.inr 0), some (.inl p1), none]) (own := RX8) ?_ (And.intro rfl (And.intro rfl trivial)))
  refine go_aload_n (pc := 0) dX8_seldom_0 rfl ?_
  refine gf_8_10 (pc := 1) dX8_seldom_1 ?_
  refine go_iload_n (pc := 4) dX8_seldom_4 rfl ?_
  obtain ⟨u5, c6, h⟩ := g_bd h
  refine go_callV (pc := 5) (as := [.inl p1]) (st := []) (r := u5.1) (M1 := u5.2) (z_X2_hasBoat hok g_isH1 c6) cw_X2_hasBoat ml_X8_140 g_isH1.1 rfl rfl (by decide) (Nat.le_of_ble_eq_true rfl) rfl dX8_seldom_5 ?_
  refine go_if_ne (pc := 8) (tgt := 17) dX8_seldom_8 (by decide) (fun e13 => ?_) (fun e13 => ?_)
  · replace h := (if_neg e13).symm.trans h
    refine go_aload_n (pc := 17) dX8_seldom_17 rfl ?_
    refine gf_8_54 (pc := 18) dX8_seldom_18 ?_
    refine go_aload_n (pc := 21) dX8_seldom_21 rfl ?_
    refine gf_8_10 (pc := 22) dX8_seldom_22 ?_
    refine go_iload_n (pc := 25) dX8_seldom_25 rfl ?_
    obtain ⟨u7, c8, h⟩ := g_bd h
    refine go_callV (pc := 26) (as := [.inr 1, .inl p1]) (st := []) (r := u7.1) (M1 := u7.2) (z_X5_load hok g_isM27 g_isH1 c8) cw_X5_load ml_X8_166 g_isM27 rfl rfl (by decide) (Nat.le_of_ble_eq_true rfl) rfl dX8_seldom_26 ?_
    refine go_aload_n (pc := 29) dX8_seldom_29 rfl ?_
    refine gf_8_64 (pc := 30) dX8_seldom_30 ?_
    refine go_aload_n (pc := 33) dX8_seldom_33 rfl ?_
    refine gf_8_54 (pc := 34) dX8_seldom_34 ?_
    refine go_aload_n (pc := 37) dX8_seldom_37 rfl ?_
    refine gf_8_10 (pc := 38) dX8_seldom_38 ?_
    refine gf_8_188 (pc := 41) g_isH1 dX8_seldom_41 ?_
    obtain ⟨u9, c10, h⟩ := g_bd h
    refine go_callV (pc := 44) (as := [.inr 27, .inr (1 + 1)]) (st := []) (r := u9.1) (M1 := u9.2) (z_X4_measure hok g_isM27 g_isH1.2.1 c10) cw_X4_measure ml_X8_201 (show g_lay[29]? = some _ from rfl) rfl rfl (by decide) (Nat.le_of_ble_eq_true rfl) rfl dX8_seldom_44 ?_
    refine go_bipush (pc := 47) (v := (6 : Int32)) dX8_seldom_47 (by decide) ?_
    refine go_istore_n (pc := 49) (lv' := [some (.inr 0), some (.inl p1), some (.inl (6 : Int32))]) dX8_seldom_49 (by decide) rfl ?_
    exact go_to (z_X8_seldom_L50 hok   g_F _ _ h) (And.intro rfl (And.intro rfl trivial))
  · replace h := (if_pos e13).symm.trans h
    refine go_aload_n (pc := 11) dX8_seldom_11 rfl ?_
    refine go_iconst (pc := 12) (v := (-1 : Int32)) dX8_seldom_12 (by decide) ?_
    obtain ⟨u11, c12, h⟩ := g_bd h
    refine go_callV (pc := 13) (as := [.inl (-1 : Int32)]) (st := []) (r := u11.1) (M1 := u11.2) (z_X8_refused hok  c12) cw_X8_refused ml_X8_85 (show g_lay[0]? = some _ from rfl) rfl rfl (by decide) (Nat.le_of_ble_eq_true rfl) rfl dX8_seldom_13 ?_
    exact go_iret (pc := 16) (Option.some.inj h).symm rfl dX8_seldom_16 rfl
def x_X8_wake  (p1 p2 : Int32) (M : g_M) : Option (Int32 × g_M) := (((x_X2_hasBoat 1 p1 M).bind fun u1 => if u1.1 = 0 then (((x_X8_refused (-1 : Int32) u1.2).bind fun u15 => some (u15.1, u15.2))) else (if 0 ≤ p2 then (if p2 ≤ (3 : Int32) then (((x_X5_load 27 1 p1 u1.2).bind fun u3 => ((x_X4_measure 27 (1 + 1) 12 u3.2).bind fun u5 => ((x_X4_mostGoodHours p2 u5.2).bind fun u7 => some (u7.1, u7.2))))) else (((x_X8_refused (-6 : Int32) u1.2).bind fun u9 => some (u9.1, u9.2)))) else (((x_X8_refused (-4 : Int32) u1.2).bind fun u12 => some (u12.1, u12.2))))))
set_option maxHeartbeats 4000000 in
set_option maxRecDepth 100000 in
theorem z_X8_wake {X : g_X} (hok : g_ok X)  {p1 p2 : Int32} {M : g_M} {r : Int32 × g_M} (h : x_X8_wake p1 p2 M = some r) : g_Con X yX8_wake cX8_wake 3 (some .int) 5 115 [.inr 0, .inl p1, .inl p2] M r := by
  rw [x_X8_wake] at h
  refine g_con hok (plainFor_of_name (by decide +kernel)) (Nat.le_of_ble_eq_true rfl) (go_to (lv2 := [some (.inr 0), some (.inl p1), some (.inl p2)]) (own := RX8) ?_ (And.intro rfl (And.intro rfl (And.intro rfl trivial))))
  refine go_aload_n (pc := 0) dX8_wake_0 rfl ?_
  refine gf_8_10 (pc := 1) dX8_wake_1 ?_
  refine go_iload_n (pc := 4) dX8_wake_4 rfl ?_
  obtain ⟨u1, c2, h⟩ := g_bd h
  refine go_callV (pc := 5) (as := [.inl p1]) (st := []) (r := u1.1) (M1 := u1.2) (z_X2_hasBoat hok g_isH1 c2) cw_X2_hasBoat ml_X8_140 g_isH1.1 rfl rfl (by decide) (Nat.le_of_ble_eq_true rfl) rfl dX8_wake_5 ?_
  refine go_if_ne (pc := 8) (tgt := 17) dX8_wake_8 (by decide) (fun e17 => ?_) (fun e17 => ?_)
  · replace h := (if_neg e17).symm.trans h
    refine go_iload_n (pc := 17) dX8_wake_17 rfl ?_
    refine go_if_ge (pc := 18) (tgt := 28) dX8_wake_18 (by decide) (fun e14 => ?_) (fun e14 => ?_)
    · replace h := (if_pos e14).symm.trans h
      refine go_iload_n (pc := 28) dX8_wake_28 rfl ?_
      refine go_iconst (pc := 29) (v := (3 : Int32)) dX8_wake_29 (by decide) ?_
      refine go_icmp_le (pc := 30) (tgt := 40) dX8_wake_30 (by decide) (fun e11 => ?_) (fun e11 => ?_)
      · replace h := (if_pos e11).symm.trans h
        refine go_aload_n (pc := 40) dX8_wake_40 rfl ?_
        refine gf_8_54 (pc := 41) dX8_wake_41 ?_
        refine go_aload_n (pc := 44) dX8_wake_44 rfl ?_
        refine gf_8_10 (pc := 45) dX8_wake_45 ?_
        refine go_iload_n (pc := 48) dX8_wake_48 rfl ?_
        obtain ⟨u3, c4, h⟩ := g_bd h
        refine go_callV (pc := 49) (as := [.inr 1, .inl p1]) (st := []) (r := u3.1) (M1 := u3.2) (z_X5_load hok g_isM27 g_isH1 c4) cw_X5_load ml_X8_166 g_isM27 rfl rfl (by decide) (Nat.le_of_ble_eq_true rfl) rfl dX8_wake_49 ?_
        refine go_aload_n (pc := 52) dX8_wake_52 rfl ?_
        refine gf_8_64 (pc := 53) dX8_wake_53 ?_
        refine go_aload_n (pc := 56) dX8_wake_56 rfl ?_
        refine gf_8_54 (pc := 57) dX8_wake_57 ?_
        refine go_aload_n (pc := 60) dX8_wake_60 rfl ?_
        refine gf_8_10 (pc := 61) dX8_wake_61 ?_
        refine gf_8_188 (pc := 64) g_isH1 dX8_wake_64 ?_
        obtain ⟨u5, c6, h⟩ := g_bd h
        refine go_callV (pc := 67) (as := [.inr 27, .inr (1 + 1)]) (st := []) (r := u5.1) (M1 := u5.2) (z_X4_measure hok g_isM27 g_isH1.2.1 c6) cw_X4_measure ml_X8_201 (show g_lay[29]? = some _ from rfl) rfl rfl (by decide) (Nat.le_of_ble_eq_true rfl) rfl dX8_wake_67 ?_
        refine go_aload_n (pc := 70) dX8_wake_70 rfl ?_
        refine gf_8_64 (pc := 71) dX8_wake_71 ?_
        refine go_iload_n (pc := 74) dX8_wake_74 rfl ?_
        obtain ⟨u7, c8, h⟩ := g_bd h
        refine go_callV (pc := 75) (as := [.inl p2]) (st := []) (r := u7.1) (M1 := u7.2) (z_X4_mostGoodHours hok  c8) cw_X4_mostGoodHours ml_X8_371 (show g_lay[29]? = some _ from rfl) rfl rfl (by decide) (Nat.le_of_ble_eq_true rfl) rfl dX8_wake_75 ?_
        exact go_iret (pc := 78) (Option.some.inj h).symm rfl dX8_wake_78 rfl
      · replace h := (if_neg e11).symm.trans h
        refine go_aload_n (pc := 33) dX8_wake_33 rfl ?_
        refine go_bipush (pc := 34) (v := (-6 : Int32)) dX8_wake_34 (by decide) ?_
        obtain ⟨u9, c10, h⟩ := g_bd h
        refine go_callV (pc := 36) (as := [.inl (-6 : Int32)]) (st := []) (r := u9.1) (M1 := u9.2) (z_X8_refused hok  c10) cw_X8_refused ml_X8_85 (show g_lay[0]? = some _ from rfl) rfl rfl (by decide) (Nat.le_of_ble_eq_true rfl) rfl dX8_wake_36 ?_
        exact go_iret (pc := 39) (Option.some.inj h).symm rfl dX8_wake_39 rfl
    · replace h := (if_neg e14).symm.trans h
      refine go_aload_n (pc := 21) dX8_wake_21 rfl ?_
      refine go_bipush (pc := 22) (v := (-4 : Int32)) dX8_wake_22 (by decide) ?_
      obtain ⟨u12, c13, h⟩ := g_bd h
      refine go_callV (pc := 24) (as := [.inl (-4 : Int32)]) (st := []) (r := u12.1) (M1 := u12.2) (z_X8_refused hok  c13) cw_X8_refused ml_X8_85 (show g_lay[0]? = some _ from rfl) rfl rfl (by decide) (Nat.le_of_ble_eq_true rfl) rfl dX8_wake_24 ?_
      exact go_iret (pc := 27) (Option.some.inj h).symm rfl dX8_wake_27 rfl
  · replace h := (if_pos e17).symm.trans h
    refine go_aload_n (pc := 11) dX8_wake_11 rfl ?_
    refine go_iconst (pc := 12) (v := (-1 : Int32)) dX8_wake_12 (by decide) ?_
    obtain ⟨u15, c16, h⟩ := g_bd h
    refine go_callV (pc := 13) (as := [.inl (-1 : Int32)]) (st := []) (r := u15.1) (M1 := u15.2) (z_X8_refused hok  c16) cw_X8_refused ml_X8_85 (show g_lay[0]? = some _ from rfl) rfl rfl (by decide) (Nat.le_of_ble_eq_true rfl) rfl dX8_wake_13 ?_
    exact go_iret (pc := 16) (Option.some.inj h).symm rfl dX8_wake_16 rfl
def x_X8_image  (M : g_M) : Option (Int32 × g_M) := (((x_X2_copyFrom 7 1 M).bind fun u1 => some (((g_upd u1.2 0 3 (1 : Int32)) 1 10), (g_upd u1.2 0 3 (1 : Int32)))))
set_option maxHeartbeats 4000000 in
set_option maxRecDepth 100000 in
theorem z_X8_image {X : g_X} (hok : g_ok X)  {M : g_M} {r : Int32 × g_M} (h : x_X8_image  M = some r) : g_Con X yX8_image cX8_image 1 (some .int) 3 112 [.inr 0] M r := by
  rw [x_X8_image] at h
  refine g_con hok (plainFor_of_name (by decide +kernel)) (Nat.le_of_ble_eq_true rfl) (go_to (lv2 := [some (.inr 0)]) (own := RX8) ?_ (And.intro rfl trivial))
  refine go_aload_n (pc := 0) dX8_image_0 rfl ?_
  refine gf_8_16 (pc := 1) dX8_image_1 ?_
  refine go_aload_n (pc := 4) dX8_image_4 rfl ?_
  refine gf_8_10 (pc := 5) dX8_image_5 ?_
  obtain ⟨u1, c2, h⟩ := g_bd h
  refine go_callV (pc := 8) (as := [.inr 1]) (st := []) (r := u1.1) (M1 := u1.2) (z_X2_copyFrom hok g_isH7 g_isH1 c2) cw_X2_copyFrom ml_X8_104 g_isH7.1 rfl rfl (by decide) (Nat.le_of_ble_eq_true rfl) rfl dX8_image_8 ?_
  refine go_aload_n (pc := 11) dX8_image_11 rfl ?_
  refine go_iconst (pc := 12) (v := (1 : Int32)) dX8_image_12 (by decide) ?_
  refine gp_8_22 (pc := 13) (by decide) dX8_image_13 ?_
  refine go_aload_n (pc := 16) dX8_image_16 rfl ?_
  refine gf_8_10 (pc := 17) dX8_image_17 ?_
  refine gf_8_163 (pc := 20) g_isH1 dX8_image_20 ?_
  exact go_iret (pc := 23) (Option.some.inj h).symm rfl dX8_image_23 rfl
def x_X8_restore  (M : g_M) : Option (Int32 × g_M) := (if (M 0 3) = 0 then (((x_X8_refused (-3 : Int32) M).bind fun u3 => some (u3.1, u3.2))) else (((x_X2_copyFrom 1 7 M).bind fun u1 => some (((g_upd u1.2 23 2 (0 : Int32)) 1 10), (g_upd u1.2 23 2 (0 : Int32))))))
set_option maxHeartbeats 4000000 in
set_option maxRecDepth 100000 in
theorem z_X8_restore {X : g_X} (hok : g_ok X)  {M : g_M} {r : Int32 × g_M} (h : x_X8_restore  M = some r) : g_Con X yX8_restore cX8_restore 1 (some .int) 3 112 [.inr 0] M r := by
  rw [x_X8_restore] at h
  refine g_con hok (plainFor_of_name (by decide +kernel)) (Nat.le_of_ble_eq_true rfl) (go_to (lv2 := [some (.inr 0)]) (own := RX8) ?_ (And.intro rfl trivial))
  refine go_aload_n (pc := 0) dX8_restore_0 rfl ?_
  refine gf_8_22 (pc := 1) dX8_restore_1 ?_
  refine go_if_ne (pc := 4) (tgt := 14) dX8_restore_4 (by decide) (fun e5 => ?_) (fun e5 => ?_)
  · replace h := (if_neg e5).symm.trans h
    refine go_aload_n (pc := 14) dX8_restore_14 rfl ?_
    refine gf_8_10 (pc := 15) dX8_restore_15 ?_
    refine go_aload_n (pc := 18) dX8_restore_18 rfl ?_
    refine gf_8_16 (pc := 19) dX8_restore_19 ?_
    obtain ⟨u1, c2, h⟩ := g_bd h
    refine go_callV (pc := 22) (as := [.inr 7]) (st := []) (r := u1.1) (M1 := u1.2) (z_X2_copyFrom hok g_isH1 g_isH7 c2) cw_X2_copyFrom ml_X8_104 g_isH1.1 rfl rfl (by decide) (Nat.le_of_ble_eq_true rfl) rfl dX8_restore_22 ?_
    refine go_aload_n (pc := 25) dX8_restore_25 rfl ?_
    refine gf_8_43 (pc := 26) dX8_restore_26 ?_
    refine go_iconst (pc := 29) (v := (0 : Int32)) dX8_restore_29 (by decide) ?_
    refine gp_8_115 (pc := 30) dX8_restore_30 ?_
    refine go_aload_n (pc := 33) dX8_restore_33 rfl ?_
    refine gf_8_10 (pc := 34) dX8_restore_34 ?_
    refine gf_8_163 (pc := 37) g_isH1 dX8_restore_37 ?_
    exact go_iret (pc := 40) (Option.some.inj h).symm rfl dX8_restore_40 rfl
  · replace h := (if_pos e5).symm.trans h
    refine go_aload_n (pc := 7) dX8_restore_7 rfl ?_
    refine go_bipush (pc := 8) (v := (-3 : Int32)) dX8_restore_8 (by decide) ?_
    obtain ⟨u3, c4, h⟩ := g_bd h
    refine go_callV (pc := 10) (as := [.inl (-3 : Int32)]) (st := []) (r := u3.1) (M1 := u3.2) (z_X8_refused hok  c4) cw_X8_refused ml_X8_85 (show g_lay[0]? = some _ from rfl) rfl rfl (by decide) (Nat.le_of_ble_eq_true rfl) rfl dX8_restore_10 ?_
    exact go_iret (pc := 13) (Option.some.inj h).symm rfl dX8_restore_13 rfl
def x_X8_lengthsTogether_L4   : Nat → Int32 → Int32 → g_M → Option (Int32 × g_M)
  | 0, _, _, _ => none
  | n + 1, v1, v2, M => (if (M 1 6) ≤ v2 then (some (v1, M)) else (((x_X2_boatCell 1 v2 (4 : Int32) M).bind fun u1 => x_X8_lengthsTogether_L4   n (v1 + u1.1) (v2 + (1 : Int32)) u1.2)))
set_option maxHeartbeats 4000000 in
set_option maxRecDepth 100000 in
theorem z_X8_lengthsTogether_L4 {X : g_X} (hok : g_ok X)  {r : Int32 × g_M}  : ∀ (n : Nat) (v1 : Int32) (v2 : Int32) (M : g_M), x_X8_lengthsTogether_L4   n v1 v2 M = some r → g_Go X cX8_lengthsTogether RX8 3 (some .int) 2 43 r 4 [some (.inr 0), some (.inl v1), some (.inl v2)] [] M := by
  intro n
  induction n with
  | zero =>
    intro v1 v2 M h
    rw [x_X8_lengthsTogether_L4] at h
    cases h
  | succ n ih =>
    intro v1 v2 M h
    rw [x_X8_lengthsTogether_L4] at h
    refine go_iload_n (pc := 4) dX8_lengthsTogether_4 rfl ?_
    refine go_aload_n (pc := 5) dX8_lengthsTogether_5 rfl ?_
    refine gf_8_10 (pc := 6) dX8_lengthsTogether_6 ?_
    refine gf_8_243 (pc := 9) g_isH1 dX8_lengthsTogether_9 ?_
    refine go_icmp_ge (pc := 12) (tgt := 33) dX8_lengthsTogether_12 (by decide) (fun e3 => ?_) (fun e3 => ?_)
    · replace h := (if_pos e3).symm.trans h
      refine go_iload_n (pc := 33) dX8_lengthsTogether_33 rfl ?_
      exact go_iret (pc := 34) (Option.some.inj h).symm rfl dX8_lengthsTogether_34 rfl
    · replace h := (if_neg e3).symm.trans h
      refine go_iload_n (pc := 15) dX8_lengthsTogether_15 rfl ?_
      refine go_aload_n (pc := 16) dX8_lengthsTogether_16 rfl ?_
      refine gf_8_10 (pc := 17) dX8_lengthsTogether_17 ?_
      refine go_iload_n (pc := 20) dX8_lengthsTogether_20 rfl ?_
      refine go_iconst (pc := 21) (v := (4 : Int32)) dX8_lengthsTogether_21 (by decide) ?_
      obtain ⟨u1, c2, h⟩ := g_bd h
      refine go_callV (pc := 22) (as := [.inl v2, .inl (4 : Int32)]) (st := [.inl v1]) (r := u1.1) (M1 := u1.2) (z_X2_boatCell hok g_isH1 c2) cw_X2_boatCell ml_X8_143 g_isH1.1 rfl rfl (by decide) (Nat.le_of_ble_eq_true rfl) rfl dX8_lengthsTogether_22 ?_
      refine go_iadd (pc := 25) dX8_lengthsTogether_25 ?_
      refine go_istore_n (pc := 26) (lv' := [some (.inr 0), some (.inl (v1 + u1.1)), some (.inl v2)]) dX8_lengthsTogether_26 (by decide) rfl ?_
      refine go_iinc (pc := 27) (v := (1 : Int32)) (lv' := [some (.inr 0), some (.inl (v1 + u1.1)), some (.inl (v2 + (1 : Int32)))]) dX8_lengthsTogether_27 rfl (by decide) (by decide) rfl ?_
      refine go_goto (pc := 30) (tgt := 4) dX8_lengthsTogether_30 (by decide) ?_
      exact go_to (ih _ _ _ h) (And.intro rfl (And.intro rfl (And.intro rfl trivial)))
def x_X8_lengthsTogether  (M : g_M) : Option (Int32 × g_M) := (x_X8_lengthsTogether_L4   g_F (0 : Int32) (0 : Int32) M)
set_option maxHeartbeats 4000000 in
set_option maxRecDepth 100000 in
theorem z_X8_lengthsTogether {X : g_X} (hok : g_ok X)  {M : g_M} {r : Int32 × g_M} (h : x_X8_lengthsTogether  M = some r) : g_Con X yX8_lengthsTogether cX8_lengthsTogether 3 (some .int) 2 43 [.inr 0] M r := by
  rw [x_X8_lengthsTogether] at h
  refine g_con hok (plainFor_of_name (by decide +kernel)) (Nat.le_of_ble_eq_true rfl) (go_to (lv2 := [some (.inr 0), none, none]) (own := RX8) ?_ (And.intro rfl trivial))
  refine go_iconst (pc := 0) (v := (0 : Int32)) dX8_lengthsTogether_0 (by decide) ?_
  refine go_istore_n (pc := 1) (lv' := [some (.inr 0), some (.inl (0 : Int32)), none]) dX8_lengthsTogether_1 (by decide) rfl ?_
  refine go_iconst (pc := 2) (v := (0 : Int32)) dX8_lengthsTogether_2 (by decide) ?_
  refine go_istore_n (pc := 3) (lv' := [some (.inr 0), some (.inl (0 : Int32)), some (.inl (0 : Int32))]) dX8_lengthsTogether_3 (by decide) rfl ?_
  exact go_to (z_X8_lengthsTogether_L4 hok   g_F _ _ _ h) (And.intro rfl (And.intro rfl (And.intro rfl trivial)))
def x_X8_boatsHangingNow_L4   : Nat → Int32 → Int32 → g_M → Option (Int32 × g_M)
  | 0, _, _, _ => none
  | n + 1, v1, v2, M => (if (M 1 6) ≤ v2 then (some (v1, M)) else (((x_X5_load 27 1 v2 M).bind fun u1 => ((x_X2_tideAt 1 (u1.2 1 10) u1.2).bind fun u3 => ((x_X5_hangs 27 (u1.2 27 5) u3.1 u3.2).bind fun u5 => if u5.1 = 0 then (x_X8_boatsHangingNow_L4   n v1 (v2 + (1 : Int32)) u5.2) else (x_X8_boatsHangingNow_L4   n (v1 + (1 : Int32)) (v2 + (1 : Int32)) u5.2))))))
set_option maxHeartbeats 4000000 in
set_option maxRecDepth 100000 in
theorem z_X8_boatsHangingNow_L4 {X : g_X} (hok : g_ok X)  {r : Int32 × g_M}  : ∀ (n : Nat) (v1 : Int32) (v2 : Int32) (M : g_M), x_X8_boatsHangingNow_L4   n v1 v2 M = some r → g_Go X cX8_boatsHangingNow RX8 3 (some .int) 4 87 r 4 [some (.inr 0), some (.inl v1), some (.inl v2)] [] M := by
  intro n
  induction n with
  | zero =>
    intro v1 v2 M h
    rw [x_X8_boatsHangingNow_L4] at h
    cases h
  | succ n ih =>
    intro v1 v2 M h
    rw [x_X8_boatsHangingNow_L4] at h
    refine go_iload_n (pc := 4) dX8_boatsHangingNow_4 rfl ?_
    refine go_aload_n (pc := 5) dX8_boatsHangingNow_5 rfl ?_
    refine gf_8_10 (pc := 6) dX8_boatsHangingNow_6 ?_
    refine gf_8_243 (pc := 9) g_isH1 dX8_boatsHangingNow_9 ?_
    refine go_icmp_ge (pc := 12) (tgt := 67) dX8_boatsHangingNow_12 (by decide) (fun e8 => ?_) (fun e8 => ?_)
    · replace h := (if_pos e8).symm.trans h
      refine go_iload_n (pc := 67) dX8_boatsHangingNow_67 rfl ?_
      exact go_iret (pc := 68) (Option.some.inj h).symm rfl dX8_boatsHangingNow_68 rfl
    · replace h := (if_neg e8).symm.trans h
      refine go_aload_n (pc := 15) dX8_boatsHangingNow_15 rfl ?_
      refine gf_8_54 (pc := 16) dX8_boatsHangingNow_16 ?_
      refine go_aload_n (pc := 19) dX8_boatsHangingNow_19 rfl ?_
      refine gf_8_10 (pc := 20) dX8_boatsHangingNow_20 ?_
      refine go_iload_n (pc := 23) dX8_boatsHangingNow_23 rfl ?_
      obtain ⟨u1, c2, h⟩ := g_bd h
      refine go_callV (pc := 24) (as := [.inr 1, .inl v2]) (st := []) (r := u1.1) (M1 := u1.2) (z_X5_load hok g_isM27 g_isH1 c2) cw_X5_load ml_X8_166 g_isM27 rfl rfl (by decide) (Nat.le_of_ble_eq_true rfl) rfl dX8_boatsHangingNow_24 ?_
      refine go_aload_n (pc := 27) dX8_boatsHangingNow_27 rfl ?_
      refine gf_8_54 (pc := 28) dX8_boatsHangingNow_28 ?_
      refine go_aload_n (pc := 31) dX8_boatsHangingNow_31 rfl ?_
      refine gf_8_54 (pc := 32) dX8_boatsHangingNow_32 ?_
      refine gf_8_173 (pc := 35) g_isM27 dX8_boatsHangingNow_35 ?_
      refine go_aload_n (pc := 38) dX8_boatsHangingNow_38 rfl ?_
      refine gf_8_10 (pc := 39) dX8_boatsHangingNow_39 ?_
      refine go_aload_n (pc := 42) dX8_boatsHangingNow_42 rfl ?_
      refine gf_8_10 (pc := 43) dX8_boatsHangingNow_43 ?_
      refine gf_8_163 (pc := 46) g_isH1 dX8_boatsHangingNow_46 ?_
      obtain ⟨u3, c4, h⟩ := g_bd h
      refine go_callV (pc := 49) (as := [.inl (u1.2 1 10)]) (st := [.inl (u1.2 27 5), .inr 27]) (r := u3.1) (M1 := u3.2) (z_X2_tideAt hok g_isH1 c4) cw_X2_tideAt ml_X8_120 g_isH1.1 rfl rfl (by decide) (Nat.le_of_ble_eq_true rfl) rfl dX8_boatsHangingNow_49 ?_
      obtain ⟨u5, c6, h⟩ := g_bd h
      refine go_callV (pc := 52) (as := [.inl (u1.2 27 5), .inl u3.1]) (st := []) (r := u5.1) (M1 := u5.2) (z_X5_hangs hok g_isM27 c6) cw_X5_hangs ml_X8_345 g_isM27 rfl rfl (by decide) (Nat.le_of_ble_eq_true rfl) rfl dX8_boatsHangingNow_52 ?_
      refine go_if_eq (pc := 55) (tgt := 61) dX8_boatsHangingNow_55 (by decide) (fun e7 => ?_) (fun e7 => ?_)
      · replace h := (if_pos e7).symm.trans h
        refine go_iinc (pc := 61) (v := (1 : Int32)) (lv' := [some (.inr 0), some (.inl v1), some (.inl (v2 + (1 : Int32)))]) dX8_boatsHangingNow_61 rfl (by decide) (by decide) rfl ?_
        refine go_goto (pc := 64) (tgt := 4) dX8_boatsHangingNow_64 (by decide) ?_
        exact go_to (ih _ _ _ h) (And.intro rfl (And.intro rfl (And.intro rfl trivial)))
      · replace h := (if_neg e7).symm.trans h
        refine go_iinc (pc := 58) (v := (1 : Int32)) (lv' := [some (.inr 0), some (.inl (v1 + (1 : Int32))), some (.inl v2)]) dX8_boatsHangingNow_58 rfl (by decide) (by decide) rfl ?_
        refine go_iinc (pc := 61) (v := (1 : Int32)) (lv' := [some (.inr 0), some (.inl (v1 + (1 : Int32))), some (.inl (v2 + (1 : Int32)))]) dX8_boatsHangingNow_61 rfl (by decide) (by decide) rfl ?_
        refine go_goto (pc := 64) (tgt := 4) dX8_boatsHangingNow_64 (by decide) ?_
        exact go_to (ih _ _ _ h) (And.intro rfl (And.intro rfl (And.intro rfl trivial)))
def x_X8_boatsHangingNow  (M : g_M) : Option (Int32 × g_M) := (x_X8_boatsHangingNow_L4   g_F (0 : Int32) (0 : Int32) M)
set_option maxHeartbeats 4000000 in
set_option maxRecDepth 100000 in
theorem z_X8_boatsHangingNow {X : g_X} (hok : g_ok X)  {M : g_M} {r : Int32 × g_M} (h : x_X8_boatsHangingNow  M = some r) : g_Con X yX8_boatsHangingNow cX8_boatsHangingNow 3 (some .int) 4 87 [.inr 0] M r := by
  rw [x_X8_boatsHangingNow] at h
  refine g_con hok (plainFor_of_name (by decide +kernel)) (Nat.le_of_ble_eq_true rfl) (go_to (lv2 := [some (.inr 0), none, none]) (own := RX8) ?_ (And.intro rfl trivial))
  refine go_iconst (pc := 0) (v := (0 : Int32)) dX8_boatsHangingNow_0 (by decide) ?_
  refine go_istore_n (pc := 1) (lv' := [some (.inr 0), some (.inl (0 : Int32)), none]) dX8_boatsHangingNow_1 (by decide) rfl ?_
  refine go_iconst (pc := 2) (v := (0 : Int32)) dX8_boatsHangingNow_2 (by decide) ?_
  refine go_istore_n (pc := 3) (lv' := [some (.inr 0), some (.inl (0 : Int32)), some (.inl (0 : Int32))]) dX8_boatsHangingNow_3 (by decide) rfl ?_
  exact go_to (z_X8_boatsHangingNow_L4 hok   g_F _ _ _ h) (And.intro rfl (And.intro rfl (And.intro rfl trivial)))
def x_X8_count_L24   (v1 : Int32) (M : g_M) : Option (Int32 × g_M) := (if v1 = (0 : Int32) then (some ((M 1 6), M)) else if v1 = (1 : Int32) then (some ((M 1 5), M)) else if v1 = (2 : Int32) then (some ((M 1 10), M)) else if v1 = (3 : Int32) then (some ((M 1 8), M)) else if v1 = (4 : Int32) then (some ((M 1 9), M)) else if v1 = (5 : Int32) then (((x_X8_lengthsTogether M).bind fun u1 => some (u1.1, u1.2))) else if v1 = (6 : Int32) then (((x_X8_boatsHangingNow M).bind fun u3 => some (u3.1, u3.2))) else if v1 = (7 : Int32) then (some ((M 19 1), M)) else if v1 = (8 : Int32) then (some ((M 21 1), M)) else if v1 = (9 : Int32) then (some ((M 1 11), M)) else if v1 = (10 : Int32) then (some ((M 1 7), M)) else if v1 = (11 : Int32) then (some ((-9 : Int32), M)) else if v1 = (12 : Int32) then (some ((-9 : Int32), M)) else if v1 = (13 : Int32) then (some ((-9 : Int32), M)) else if v1 = (14 : Int32) then (some ((-9 : Int32), M)) else if v1 = (15 : Int32) then (some ((-9 : Int32), M)) else if v1 = (16 : Int32) then (some ((-9 : Int32), M)) else if v1 = (17 : Int32) then (some ((M 23 2), M)) else (some ((-9 : Int32), M)))
set_option maxHeartbeats 4000000 in
set_option maxRecDepth 100000 in
theorem z_X8_count_L24 {X : g_X} (hok : g_ok X)  {r : Int32 × g_M}  {v1 : Int32} {M : g_M} (h : x_X8_count_L24   v1 M = some r) : g_Go X cX8_count RX8 2 (some .int) 5 109 r 24 [some (.inr 0), some (.inl v1)] [] M := by
  rw [x_X8_count_L24] at h
  refine go_iload_n (pc := 24) dX8_count_24 rfl ?_
  by_cases e5 : v1 = (0 : Int32)
  · replace h := (if_pos e5).symm.trans h
    refine go_tabIn (pc := 25) (off := 87) (tgt := 112) dX8_count_25 (by rw [e5]; decide) (by rw [e5]; decide) (by rw [e5]; decide) (by decide) ?_
    refine go_aload_n (pc := 112) dX8_count_112 rfl ?_
    refine gf_8_10 (pc := 113) dX8_count_113 ?_
    refine gf_8_243 (pc := 116) g_isH1 dX8_count_116 ?_
    exact go_iret (pc := 119) (Option.some.inj h).symm rfl dX8_count_119 rfl
  · replace h := (if_neg e5).symm.trans h
    by_cases e6 : v1 = (1 : Int32)
    · replace h := (if_pos e6).symm.trans h
      refine go_tabIn (pc := 25) (off := 95) (tgt := 120) dX8_count_25 (by rw [e6]; decide) (by rw [e6]; decide) (by rw [e6]; decide) (by decide) ?_
      refine go_aload_n (pc := 120) dX8_count_120 rfl ?_
      refine gf_8_10 (pc := 121) dX8_count_121 ?_
      refine gf_8_310 (pc := 124) g_isH1 dX8_count_124 ?_
      exact go_iret (pc := 127) (Option.some.inj h).symm rfl dX8_count_127 rfl
    · replace h := (if_neg e6).symm.trans h
      by_cases e7 : v1 = (2 : Int32)
      · replace h := (if_pos e7).symm.trans h
        refine go_tabIn (pc := 25) (off := 103) (tgt := 128) dX8_count_25 (by rw [e7]; decide) (by rw [e7]; decide) (by rw [e7]; decide) (by decide) ?_
        refine go_aload_n (pc := 128) dX8_count_128 rfl ?_
        refine gf_8_10 (pc := 129) dX8_count_129 ?_
        refine gf_8_163 (pc := 132) g_isH1 dX8_count_132 ?_
        exact go_iret (pc := 135) (Option.some.inj h).symm rfl dX8_count_135 rfl
      · replace h := (if_neg e7).symm.trans h
        by_cases e8 : v1 = (3 : Int32)
        · replace h := (if_pos e8).symm.trans h
          refine go_tabIn (pc := 25) (off := 111) (tgt := 136) dX8_count_25 (by rw [e8]; decide) (by rw [e8]; decide) (by rw [e8]; decide) (by decide) ?_
          refine go_aload_n (pc := 136) dX8_count_136 rfl ?_
          refine gf_8_10 (pc := 137) dX8_count_137 ?_
          refine gf_8_157 (pc := 140) g_isH1 dX8_count_140 ?_
          exact go_iret (pc := 143) (Option.some.inj h).symm rfl dX8_count_143 rfl
        · replace h := (if_neg e8).symm.trans h
          by_cases e9 : v1 = (4 : Int32)
          · replace h := (if_pos e9).symm.trans h
            refine go_tabIn (pc := 25) (off := 119) (tgt := 144) dX8_count_25 (by rw [e9]; decide) (by rw [e9]; decide) (by rw [e9]; decide) (by decide) ?_
            refine go_aload_n (pc := 144) dX8_count_144 rfl ?_
            refine gf_8_10 (pc := 145) dX8_count_145 ?_
            refine gf_8_160 (pc := 148) g_isH1 dX8_count_148 ?_
            exact go_iret (pc := 151) (Option.some.inj h).symm rfl dX8_count_151 rfl
          · replace h := (if_neg e9).symm.trans h
            by_cases e10 : v1 = (5 : Int32)
            · replace h := (if_pos e10).symm.trans h
              refine go_tabIn (pc := 25) (off := 127) (tgt := 152) dX8_count_25 (by rw [e10]; decide) (by rw [e10]; decide) (by rw [e10]; decide) (by decide) ?_
              refine go_aload_n (pc := 152) dX8_count_152 rfl ?_
              obtain ⟨u1, c2, h⟩ := g_bd h
              refine go_callV (pc := 153) (as := []) (st := []) (r := u1.1) (M1 := u1.2) (z_X8_lengthsTogether hok  c2) cw_X8_lengthsTogether ml_X8_374 (show g_lay[0]? = some _ from rfl) rfl rfl (by decide) (Nat.le_of_ble_eq_true rfl) rfl dX8_count_153 ?_
              exact go_iret (pc := 156) (Option.some.inj h).symm rfl dX8_count_156 rfl
            · replace h := (if_neg e10).symm.trans h
              by_cases e11 : v1 = (6 : Int32)
              · replace h := (if_pos e11).symm.trans h
                refine go_tabIn (pc := 25) (off := 132) (tgt := 157) dX8_count_25 (by rw [e11]; decide) (by rw [e11]; decide) (by rw [e11]; decide) (by decide) ?_
                refine go_aload_n (pc := 157) dX8_count_157 rfl ?_
                obtain ⟨u3, c4, h⟩ := g_bd h
                refine go_callV (pc := 158) (as := []) (st := []) (r := u3.1) (M1 := u3.2) (z_X8_boatsHangingNow hok  c4) cw_X8_boatsHangingNow ml_X8_377 (show g_lay[0]? = some _ from rfl) rfl rfl (by decide) (Nat.le_of_ble_eq_true rfl) rfl dX8_count_158 ?_
                exact go_iret (pc := 161) (Option.some.inj h).symm rfl dX8_count_161 rfl
              · replace h := (if_neg e11).symm.trans h
                by_cases e12 : v1 = (7 : Int32)
                · replace h := (if_pos e12).symm.trans h
                  refine go_tabIn (pc := 25) (off := 137) (tgt := 162) dX8_count_25 (by rw [e12]; decide) (by rw [e12]; decide) (by rw [e12]; decide) (by decide) ?_
                  refine go_aload_n (pc := 162) dX8_count_162 rfl ?_
                  refine gf_8_29 (pc := 163) dX8_count_163 ?_
                  refine gf_8_89 (pc := 166) dX8_count_166 ?_
                  exact go_iret (pc := 169) (Option.some.inj h).symm rfl dX8_count_169 rfl
                · replace h := (if_neg e12).symm.trans h
                  by_cases e13 : v1 = (8 : Int32)
                  · replace h := (if_pos e13).symm.trans h
                    refine go_tabIn (pc := 25) (off := 145) (tgt := 170) dX8_count_25 (by rw [e13]; decide) (by rw [e13]; decide) (by rw [e13]; decide) (by decide) ?_
                    refine go_aload_n (pc := 170) dX8_count_170 rfl ?_
                    refine gf_8_36 (pc := 171) dX8_count_171 ?_
                    refine gf_8_266 (pc := 174) dX8_count_174 ?_
                    exact go_iret (pc := 177) (Option.some.inj h).symm rfl dX8_count_177 rfl
                  · replace h := (if_neg e13).symm.trans h
                    by_cases e14 : v1 = (9 : Int32)
                    · replace h := (if_pos e14).symm.trans h
                      refine go_tabIn (pc := 25) (off := 153) (tgt := 178) dX8_count_25 (by rw [e14]; decide) (by rw [e14]; decide) (by rw [e14]; decide) (by decide) ?_
                      refine go_aload_n (pc := 178) dX8_count_178 rfl ?_
                      refine gf_8_10 (pc := 179) dX8_count_179 ?_
                      refine gf_8_356 (pc := 182) g_isH1 dX8_count_182 ?_
                      exact go_iret (pc := 185) (Option.some.inj h).symm rfl dX8_count_185 rfl
                    · replace h := (if_neg e14).symm.trans h
                      by_cases e15 : v1 = (10 : Int32)
                      · replace h := (if_pos e15).symm.trans h
                        refine go_tabIn (pc := 25) (off := 161) (tgt := 186) dX8_count_25 (by rw [e15]; decide) (by rw [e15]; decide) (by rw [e15]; decide) (by decide) ?_
                        refine go_aload_n (pc := 186) dX8_count_186 rfl ?_
                        refine gf_8_10 (pc := 187) dX8_count_187 ?_
                        refine gf_8_291 (pc := 190) g_isH1 dX8_count_190 ?_
                        exact go_iret (pc := 193) (Option.some.inj h).symm rfl dX8_count_193 rfl
                      · replace h := (if_neg e15).symm.trans h
                        by_cases e16 : v1 = (11 : Int32)
                        · replace h := (if_pos e16).symm.trans h
                          refine go_tabIn (pc := 25) (off := 177) (tgt := 202) dX8_count_25 (by rw [e16]; decide) (by rw [e16]; decide) (by rw [e16]; decide) (by decide) ?_
                          refine go_bipush (pc := 202) (v := (-9 : Int32)) dX8_count_202 (by decide) ?_
                          exact go_iret (pc := 204) (Option.some.inj h).symm rfl dX8_count_204 rfl
                        · replace h := (if_neg e16).symm.trans h
                          by_cases e17 : v1 = (12 : Int32)
                          · replace h := (if_pos e17).symm.trans h
                            refine go_tabIn (pc := 25) (off := 177) (tgt := 202) dX8_count_25 (by rw [e17]; decide) (by rw [e17]; decide) (by rw [e17]; decide) (by decide) ?_
                            refine go_bipush (pc := 202) (v := (-9 : Int32)) dX8_count_202 (by decide) ?_
                            exact go_iret (pc := 204) (Option.some.inj h).symm rfl dX8_count_204 rfl
                          · replace h := (if_neg e17).symm.trans h
                            by_cases e18 : v1 = (13 : Int32)
                            · replace h := (if_pos e18).symm.trans h
                              refine go_tabIn (pc := 25) (off := 177) (tgt := 202) dX8_count_25 (by rw [e18]; decide) (by rw [e18]; decide) (by rw [e18]; decide) (by decide) ?_
                              refine go_bipush (pc := 202) (v := (-9 : Int32)) dX8_count_202 (by decide) ?_
                              exact go_iret (pc := 204) (Option.some.inj h).symm rfl dX8_count_204 rfl
                            · replace h := (if_neg e18).symm.trans h
                              by_cases e19 : v1 = (14 : Int32)
                              · replace h := (if_pos e19).symm.trans h
                                refine go_tabIn (pc := 25) (off := 177) (tgt := 202) dX8_count_25 (by rw [e19]; decide) (by rw [e19]; decide) (by rw [e19]; decide) (by decide) ?_
                                refine go_bipush (pc := 202) (v := (-9 : Int32)) dX8_count_202 (by decide) ?_
                                exact go_iret (pc := 204) (Option.some.inj h).symm rfl dX8_count_204 rfl
                              · replace h := (if_neg e19).symm.trans h
                                by_cases e20 : v1 = (15 : Int32)
                                · replace h := (if_pos e20).symm.trans h
                                  refine go_tabIn (pc := 25) (off := 177) (tgt := 202) dX8_count_25 (by rw [e20]; decide) (by rw [e20]; decide) (by rw [e20]; decide) (by decide) ?_
                                  refine go_bipush (pc := 202) (v := (-9 : Int32)) dX8_count_202 (by decide) ?_
                                  exact go_iret (pc := 204) (Option.some.inj h).symm rfl dX8_count_204 rfl
                                · replace h := (if_neg e20).symm.trans h
                                  by_cases e21 : v1 = (16 : Int32)
                                  · replace h := (if_pos e21).symm.trans h
                                    refine go_tabIn (pc := 25) (off := 177) (tgt := 202) dX8_count_25 (by rw [e21]; decide) (by rw [e21]; decide) (by rw [e21]; decide) (by decide) ?_
                                    refine go_bipush (pc := 202) (v := (-9 : Int32)) dX8_count_202 (by decide) ?_
                                    exact go_iret (pc := 204) (Option.some.inj h).symm rfl dX8_count_204 rfl
                                  · replace h := (if_neg e21).symm.trans h
                                    by_cases e22 : v1 = (17 : Int32)
                                    · replace h := (if_pos e22).symm.trans h
                                      refine go_tabIn (pc := 25) (off := 169) (tgt := 194) dX8_count_25 (by rw [e22]; decide) (by rw [e22]; decide) (by rw [e22]; decide) (by decide) ?_
                                      refine go_aload_n (pc := 194) dX8_count_194 rfl ?_
                                      refine gf_8_43 (pc := 195) dX8_count_195 ?_
                                      refine gf_8_115 (pc := 198) dX8_count_198 ?_
                                      exact go_iret (pc := 201) (Option.some.inj h).symm rfl dX8_count_201 rfl
                                    · replace h := (if_neg e22).symm.trans h
                                      refine go_tabOut (pc := 25) (tgt := 202) dX8_count_25 (by have q0 := g_out e5 (show (0 : Int32).toInt = 0 by decide); have q1 := g_out e6 (show (1 : Int32).toInt = 1 by decide); have q2 := g_out e7 (show (2 : Int32).toInt = 2 by decide); have q3 := g_out e8 (show (3 : Int32).toInt = 3 by decide); have q4 := g_out e9 (show (4 : Int32).toInt = 4 by decide); have q5 := g_out e10 (show (5 : Int32).toInt = 5 by decide); have q6 := g_out e11 (show (6 : Int32).toInt = 6 by decide); have q7 := g_out e12 (show (7 : Int32).toInt = 7 by decide); have q8 := g_out e13 (show (8 : Int32).toInt = 8 by decide); have q9 := g_out e14 (show (9 : Int32).toInt = 9 by decide); have q10 := g_out e15 (show (10 : Int32).toInt = 10 by decide); have q11 := g_out e16 (show (11 : Int32).toInt = 11 by decide); have q12 := g_out e17 (show (12 : Int32).toInt = 12 by decide); have q13 := g_out e18 (show (13 : Int32).toInt = 13 by decide); have q14 := g_out e19 (show (14 : Int32).toInt = 14 by decide); have q15 := g_out e20 (show (15 : Int32).toInt = 15 by decide); have q16 := g_out e21 (show (16 : Int32).toInt = 16 by decide); have q17 := g_out e22 (show (17 : Int32).toInt = 17 by decide); omega) (by decide) ?_
                                      refine go_bipush (pc := 202) (v := (-9 : Int32)) dX8_count_202 (by decide) ?_
                                      exact go_iret (pc := 204) (Option.some.inj h).symm rfl dX8_count_204 rfl
def x_X8_count  (p1 : Int32) (M : g_M) : Option (Int32 × g_M) := (if p1 < (11 : Int32) then (x_X8_count_L24   p1 M) else (if (16 : Int32) < p1 then (x_X8_count_L24   p1 M) else ((if g_inb ((p1 - (11 : Int32)) + (1 : Int32)) 7 = true then (some ((M 26 ((p1 - (11 : Int32)) + (1 : Int32)).toNatClampNeg), M)) else none))))
set_option maxHeartbeats 4000000 in
set_option maxRecDepth 100000 in
theorem z_X8_count {X : g_X} (hok : g_ok X)  {p1 : Int32} {M : g_M} {r : Int32 × g_M} (h : x_X8_count p1 M = some r) : g_Con X yX8_count cX8_count 2 (some .int) 5 109 [.inr 0, .inl p1] M r := by
  rw [x_X8_count] at h
  refine g_con hok (plainFor_of_name (by decide +kernel)) (Nat.le_of_ble_eq_true rfl) (go_to (lv2 := [some (.inr 0), some (.inl p1)]) (own := RX8) ?_ (And.intro rfl (And.intro rfl trivial)))
  refine go_iload_n (pc := 0) dX8_count_0 rfl ?_
  refine go_bipush (pc := 1) (v := (11 : Int32)) dX8_count_1 (by decide) ?_
  refine go_icmp_lt (pc := 3) (tgt := 24) dX8_count_3 (by decide) (fun e25 => ?_) (fun e25 => ?_)
  · replace h := (if_pos e25).symm.trans h
    exact go_to (z_X8_count_L24 hok   h) (And.intro rfl (And.intro rfl trivial))
  · replace h := (if_neg e25).symm.trans h
    refine go_iload_n (pc := 6) dX8_count_6 rfl ?_
    refine go_bipush (pc := 7) (v := (16 : Int32)) dX8_count_7 (by decide) ?_
    refine go_icmp_gt (pc := 9) (tgt := 24) dX8_count_9 (by decide) (fun e24 => ?_) (fun e24 => ?_)
    · replace h := (if_pos e24).symm.trans h
      exact go_to (z_X8_count_L24 hok   h) (And.intro rfl (And.intro rfl trivial))
    · replace h := (if_neg e24).symm.trans h
      refine go_aload_n (pc := 12) dX8_count_12 rfl ?_
      refine gf_8_47 (pc := 13) dX8_count_13 ?_
      refine go_iload_n (pc := 16) dX8_count_16 rfl ?_
      refine go_bipush (pc := 17) (v := (11 : Int32)) dX8_count_17 (by decide) ?_
      refine go_isub (pc := 19) dX8_count_19 ?_
      refine go_iconst (pc := 20) (v := (1 : Int32)) dX8_count_20 (by decide) ?_
      refine go_iadd (pc := 21) dX8_count_21 ?_
      obtain ⟨i23, h⟩ := g_gd h
      refine go_iald (pc := 22) (n := 7) rfl (g_inb_ok i23) dX8_count_22 ?_
      exact go_iret (pc := 23) (Option.some.inj h).symm rfl dX8_count_23 rfl
