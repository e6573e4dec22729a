def x_X9_no  (p1 : Int32) (M : g_M) : Option (Int32 × g_M) := ((if g_inb (-p1) 7 = true then ((if g_inb (-p1) 7 = true then (some (p1, (g_upd M 42 (-p1).toNatClampNeg ((M 42 (-p1).toNatClampNeg) + (1 : Int32))))) else none)) else none))
set_option maxHeartbeats 4000000 in
set_option maxRecDepth 100000 in
theorem z_X9_no {X : g_X} (hok : g_ok X)  {p1 : Int32} {M : g_M} {r : Int32 × g_M} (h : x_X9_no p1 M = some r) : g_Con X yX9_no cX9_no 2 (some .int) 0 0 [.inr 41, .inl p1] M r := by
  rw [x_X9_no] at h
  refine g_con hok (plainFor_of_name (by decide +kernel)) (Nat.le_of_ble_eq_true rfl) (go_to (lv2 := [some (.inr 41), some (.inl p1)]) (own := RX9) ?_ (And.intro rfl (And.intro rfl trivial)))
  refine go_aload_n (pc := 0) dX9_no_0 rfl ?_
  refine gf_9_7 (pc := 1) dX9_no_1 ?_
  refine go_iload_n (pc := 4) dX9_no_4 rfl ?_
  refine go_ineg (pc := 5) dX9_no_5 ?_
  refine go_dup2 (pc := 6) dX9_no_6 ?_
  obtain ⟨i1, h⟩ := g_gd h
  refine go_iald (pc := 7) (n := 7) rfl (g_inb_ok i1) dX9_no_7 ?_
  refine go_iconst (pc := 8) (v := (1 : Int32)) dX9_no_8 (by decide) ?_
  refine go_iadd (pc := 9) dX9_no_9 ?_
  obtain ⟨i2, h⟩ := g_gd h
  refine go_iast (pc := 10) (n := 7) rfl (g_inb_ok i2) dX9_no_10 ?_
  refine go_iload_n (pc := 11) dX9_no_11 rfl ?_
  exact go_iret (pc := 12) (Option.some.inj h).symm rfl dX9_no_12 rfl
def x_X9_lower  (p1 : Int32) (M : g_M) : Option (Int32 × g_M) := ((if g_inb (-p1) 7 = true then ((if g_inb (-p1) 7 = true then (some (((1000000000 : Int32) - p1), (g_upd M 42 (-p1).toNatClampNeg ((M 42 (-p1).toNatClampNeg) + (1 : Int32))))) else none)) else none))
set_option maxHeartbeats 4000000 in
set_option maxRecDepth 100000 in
theorem z_X9_lower {X : g_X} (hok : g_ok X)  {p1 : Int32} {M : g_M} {r : Int32 × g_M} (h : x_X9_lower p1 M = some r) : g_Con X yX9_lower cX9_lower 2 (some .int) 0 0 [.inr 41, .inl p1] M r := by
  rw [x_X9_lower] at h
  refine g_con hok (plainFor_of_name (by decide +kernel)) (Nat.le_of_ble_eq_true rfl) (go_to (lv2 := [some (.inr 41), some (.inl p1)]) (own := RX9) ?_ (And.intro rfl (And.intro rfl trivial)))
  refine go_aload_n (pc := 0) dX9_lower_0 rfl ?_
  refine gf_9_7 (pc := 1) dX9_lower_1 ?_
  refine go_iload_n (pc := 4) dX9_lower_4 rfl ?_
  refine go_ineg (pc := 5) dX9_lower_5 ?_
  refine go_dup2 (pc := 6) dX9_lower_6 ?_
  obtain ⟨i1, h⟩ := g_gd h
  refine go_iald (pc := 7) (n := 7) rfl (g_inb_ok i1) dX9_lower_7 ?_
  refine go_iconst (pc := 8) (v := (1 : Int32)) dX9_lower_8 (by decide) ?_
  refine go_iadd (pc := 9) dX9_lower_9 ?_
  obtain ⟨i2, h⟩ := g_gd h
  refine go_iast (pc := 10) (n := 7) rfl (g_inb_ok i2) dX9_lower_10 ?_
  refine go_ldc (pc := 11) (v := (1000000000 : Int32)) kc_X9_109 dX9_lower_11 ?_
  refine go_iload_n (pc := 13) dX9_lower_13 rfl ?_
  refine go_isub (pc := 14) dX9_lower_14 ?_
  exact go_iret (pc := 15) (Option.some.inj h).symm rfl dX9_lower_15 rfl
def x_X9_isIn  (p0 p1 p2 : Int32) (M : g_M) : Option (Int32 × g_M) := (if p0 < p1 then (some ((0 : Int32), M)) else (if p2 < p0 then (some ((0 : Int32), M)) else (some ((1 : Int32), M))))
set_option maxHeartbeats 4000000 in
set_option maxRecDepth 100000 in
theorem z_X9_isIn {X : g_X} (hok : g_ok X)  {p0 p1 p2 : Int32} {M : g_M} {r : Int32 × g_M} (h : x_X9_isIn p0 p1 p2 M = some r) : g_Con X yX9_isIn cX9_isIn 3 (some .boolean) 0 0 [.inl p0, .inl p1, .inl p2] M r := by
  rw [x_X9_isIn] at h
  refine g_con hok (plainFor_of_name (by decide +kernel)) (Nat.le_of_ble_eq_true rfl) (go_to (lv2 := [some (.inl p0), some (.inl p1), some (.inl p2)]) (own := RX9) ?_ (And.intro rfl (And.intro rfl (And.intro rfl trivial))))
  refine go_iload_n (pc := 0) dX9_isIn_0 rfl ?_
  refine go_iload_n (pc := 1) dX9_isIn_1 rfl ?_
  refine go_icmp_lt (pc := 2) (tgt := 14) dX9_isIn_2 (by decide) (fun e2 => ?_) (fun e2 => ?_)
  · replace h := (if_pos e2).symm.trans h
    refine go_iconst (pc := 14) (v := (0 : Int32)) dX9_isIn_14 (by decide) ?_
    exact go_iret (pc := 15) (Option.some.inj h).symm rfl dX9_isIn_15 rfl
  · replace h := (if_neg e2).symm.trans h
    refine go_iload_n (pc := 5) dX9_isIn_5 rfl ?_
    refine go_iload_n (pc := 6) dX9_isIn_6 rfl ?_
    refine go_icmp_gt (pc := 7) (tgt := 14) dX9_isIn_7 (by decide) (fun e1 => ?_) (fun e1 => ?_)
    · replace h := (if_pos e1).symm.trans h
      refine go_iconst (pc := 14) (v := (0 : Int32)) dX9_isIn_14 (by decide) ?_
      exact go_iret (pc := 15) (Option.some.inj h).symm rfl dX9_isIn_15 rfl
    · replace h := (if_neg e1).symm.trans h
      refine go_iconst (pc := 10) (v := (1 : Int32)) dX9_isIn_10 (by decide) ?_
      refine go_goto (pc := 11) (tgt := 15) dX9_isIn_11 (by decide) ?_
      exact go_iret (pc := 15) (Option.some.inj h).symm rfl dX9_isIn_15 rfl
def x_X9_bound  (p0 p1 p2 : Int32) (M : g_M) : Option (Int32 × g_M) := (if p1 ≤ p0 then (if p0 ≤ p2 then (some ((0 : Int32), M)) else (some ((-6 : Int32), M))) else (some ((-4 : Int32), M)))
set_option maxHeartbeats 4000000 in
set_option maxRecDepth 100000 in
theorem z_X9_bound {X : g_X} (hok : g_ok X)  {p0 p1 p2 : Int32} {M : g_M} {r : Int32 × g_M} (h : x_X9_bound p0 p1 p2 M = some r) : g_Con X yX9_bound cX9_bound 3 (some .int) 0 0 [.inl p0, .inl p1, .inl p2] M r := by
  rw [x_X9_bound] at h
  refine g_con hok (plainFor_of_name (by decide +kernel)) (Nat.le_of_ble_eq_true rfl) (go_to (lv2 := [some (.inl p0), some (.inl p1), some (.inl p2)]) (own := RX9) ?_ (And.intro rfl (And.intro rfl (And.intro rfl trivial))))
  refine go_iload_n (pc := 0) dX9_bound_0 rfl ?_
  refine go_iload_n (pc := 1) dX9_bound_1 rfl ?_
  refine go_icmp_ge (pc := 2) (tgt := 10) dX9_bound_2 (by decide) (fun e2 => ?_) (fun e2 => ?_)
  · replace h := (if_pos e2).symm.trans h
    refine go_iload_n (pc := 10) dX9_bound_10 rfl ?_
    refine go_iload_n (pc := 11) dX9_bound_11 rfl ?_
    refine go_icmp_le (pc := 12) (tgt := 20) dX9_bound_12 (by decide) (fun e1 => ?_) (fun e1 => ?_)
    · replace h := (if_pos e1).symm.trans h
      refine go_iconst (pc := 20) (v := (0 : Int32)) dX9_bound_20 (by decide) ?_
      exact go_iret (pc := 21) (Option.some.inj h).symm rfl dX9_bound_21 rfl
    · replace h := (if_neg e1).symm.trans h
      refine go_bipush (pc := 15) (v := (-6 : Int32)) dX9_bound_15 (by decide) ?_
      refine go_goto (pc := 17) (tgt := 21) dX9_bound_17 (by decide) ?_
      exact go_iret (pc := 21) (Option.some.inj h).symm rfl dX9_bound_21 rfl
  · replace h := (if_neg e2).symm.trans h
    refine go_bipush (pc := 5) (v := (-4 : Int32)) dX9_bound_5 (by decide) ?_
    refine go_goto (pc := 7) (tgt := 21) dX9_bound_7 (by decide) ?_
    exact go_iret (pc := 21) (Option.some.inj h).symm rfl dX9_bound_21 rfl
def x_X9_bits_L4   : Nat → Int32 → Int32 → Int32 → g_M → Option (Int32 × g_M)
  | 0, _, _, _, _ => none
  | n + 1, v0, v1, v2, M => (if (31 : Int32) ≤ v2 then (some (v1, M)) else (x_X9_bits_L4   n v0 (v1 + ((v0 >>> (v2 &&& 31)) &&& (1 : Int32))) (v2 + (1 : Int32)) M))
set_option maxHeartbeats 4000000 in
set_option maxRecDepth 100000 in
theorem z_X9_bits_L4 {X : g_X} (hok : g_ok X)  {r : Int32 × g_M}  : ∀ (n : Nat) (v0 : Int32) (v1 : Int32) (v2 : Int32) (M : g_M), x_X9_bits_L4   n v0 v1 v2 M = some r → g_Go X cX9_bits RX9 3 (some .int) 0 0 r 4 [some (.inl v0), some (.inl v1), some (.inl v2)] [] M := by
  intro n
  induction n with
  | zero =>
    intro v0 v1 v2 M h
    rw [x_X9_bits_L4] at h
    cases h
  | succ n ih =>
    intro v0 v1 v2 M h
    rw [x_X9_bits_L4] at h
    refine go_iload_n (pc := 4) dX9_bits_4 rfl ?_
    refine go_bipush (pc := 5) (v := (31 : Int32)) dX9_bits_5 (by decide) ?_
    refine go_icmp_ge (pc := 7) (tgt := 24) dX9_bits_7 (by decide) (fun e1 => ?_) (fun e1 => ?_)
    · replace h := (if_pos e1).symm.trans h
      refine go_iload_n (pc := 24) dX9_bits_24 rfl ?_
      exact go_iret (pc := 25) (Option.some.inj h).symm rfl dX9_bits_25 rfl
    · replace h := (if_neg e1).symm.trans h
      refine go_iload_n (pc := 10) dX9_bits_10 rfl ?_
      refine go_iload_n (pc := 11) dX9_bits_11 rfl ?_
      refine go_iload_n (pc := 12) dX9_bits_12 rfl ?_
      refine go_ishr (pc := 13) dX9_bits_13 ?_
      refine go_iconst (pc := 14) (v := (1 : Int32)) dX9_bits_14 (by decide) ?_
      refine go_iand (pc := 15) dX9_bits_15 ?_
      refine go_iadd (pc := 16) dX9_bits_16 ?_
      refine go_istore_n (pc := 17) (lv' := [some (.inl v0), some (.inl (v1 + ((v0 >>> (v2 &&& 31)) &&& (1 : Int32)))), some (.inl v2)]) dX9_bits_17 (by decide) rfl ?_
      refine go_iinc (pc := 18) (v := (1 : Int32)) (lv' := [some (.inl v0), some (.inl (v1 + ((v0 >>> (v2 &&& 31)) &&& (1 : Int32)))), some (.inl (v2 + (1 : Int32)))]) dX9_bits_18 rfl (by decide) (by decide) rfl ?_
      refine go_goto (pc := 21) (tgt := 4) dX9_bits_21 (by decide) ?_
      exact go_to (ih _ _ _ _ h) (And.intro rfl (And.intro rfl (And.intro rfl trivial)))
def x_X9_bits  (p0 : Int32) (M : g_M) : Option (Int32 × g_M) := (x_X9_bits_L4   g_F p0 (0 : Int32) (0 : Int32) M)
set_option maxHeartbeats 4000000 in
set_option maxRecDepth 100000 in
theorem z_X9_bits {X : g_X} (hok : g_ok X)  {p0 : Int32} {M : g_M} {r : Int32 × g_M} (h : x_X9_bits p0 M = some r) : g_Con X yX9_bits cX9_bits 3 (some .int) 0 0 [.inl p0] M r := by
  rw [x_X9_bits] at h
  refine g_con hok (plainFor_of_name (by decide +kernel)) (Nat.le_of_ble_eq_true rfl) (go_to (lv2 := [some (.inl p0), none, none]) (own := RX9) ?_ (And.intro rfl trivial))
  refine go_iconst (pc := 0) (v := (0 : Int32)) dX9_bits_0 (by decide) ?_
  refine go_istore_n (pc := 1) (lv' := [some (.inl p0), some (.inl (0 : Int32)), none]) dX9_bits_1 (by decide) rfl ?_
  refine go_iconst (pc := 2) (v := (0 : Int32)) dX9_bits_2 (by decide) ?_
  refine go_istore_n (pc := 3) (lv' := [some (.inl p0), some (.inl (0 : Int32)), some (.inl (0 : Int32))]) dX9_bits_3 (by decide) rfl ?_
  exact go_to (z_X9_bits_L4 hok   g_F _ _ _ _ h) (And.intro rfl (And.intro rfl (And.intro rfl trivial)))
def x_X9_isHour  (p0 : Int32) (M : g_M) : Option (Int32 × g_M) := (if p0 < 0 then (some ((0 : Int32), M)) else (if (12 : Int32) ≤ p0 then (some ((0 : Int32), M)) else (some ((1 : Int32), M))))
set_option maxHeartbeats 4000000 in
set_option maxRecDepth 100000 in
theorem z_X9_isHour {X : g_X} (hok : g_ok X)  {p0 : Int32} {M : g_M} {r : Int32 × g_M} (h : x_X9_isHour p0 M = some r) : g_Con X yX9_isHour cX9_isHour 1 (some .boolean) 0 0 [.inl p0] M r := by
  rw [x_X9_isHour] at h
  refine g_con hok (plainFor_of_name (by decide +kernel)) (Nat.le_of_ble_eq_true rfl) (go_to (lv2 := [some (.inl p0)]) (own := RX9) ?_ (And.intro rfl trivial))
  refine go_iload_n (pc := 0) dX9_isHour_0 rfl ?_
  refine go_if_lt (pc := 1) (tgt := 14) dX9_isHour_1 (by decide) (fun e2 => ?_) (fun e2 => ?_)
  · replace h := (if_pos e2).symm.trans h
    refine go_iconst (pc := 14) (v := (0 : Int32)) dX9_isHour_14 (by decide) ?_
    exact go_iret (pc := 15) (Option.some.inj h).symm rfl dX9_isHour_15 rfl
  · replace h := (if_neg e2).symm.trans h
    refine go_iload_n (pc := 4) dX9_isHour_4 rfl ?_
    refine go_bipush (pc := 5) (v := (12 : Int32)) dX9_isHour_5 (by decide) ?_
    refine go_icmp_ge (pc := 7) (tgt := 14) dX9_isHour_7 (by decide) (fun e1 => ?_) (fun e1 => ?_)
    · replace h := (if_pos e1).symm.trans h
      refine go_iconst (pc := 14) (v := (0 : Int32)) dX9_isHour_14 (by decide) ?_
      exact go_iret (pc := 15) (Option.some.inj h).symm rfl dX9_isHour_15 rfl
    · replace h := (if_neg e1).symm.trans h
      refine go_iconst (pc := 10) (v := (1 : Int32)) dX9_isHour_10 (by decide) ?_
      refine go_goto (pc := 11) (tgt := 15) dX9_isHour_11 (by decide) ?_
      exact go_iret (pc := 15) (Option.some.inj h).symm rfl dX9_isHour_15 rfl
def x_X9_isRing  (p1 : Int32) (M : g_M) : Option (Int32 × g_M) := (if p1 < 0 then (some ((0 : Int32), M)) else (if (M 41 15) ≤ p1 then (some ((0 : Int32), M)) else (some ((1 : Int32), M))))
set_option maxHeartbeats 4000000 in
set_option maxRecDepth 100000 in
theorem z_X9_isRing {X : g_X} (hok : g_ok X)  {p1 : Int32} {M : g_M} {r : Int32 × g_M} (h : x_X9_isRing p1 M = some r) : g_Con X yX9_isRing cX9_isRing 2 (some .boolean) 0 0 [.inr 41, .inl p1] M r := by
  rw [x_X9_isRing] at h
  refine g_con hok (plainFor_of_name (by decide +kernel)) (Nat.le_of_ble_eq_true rfl) (go_to (lv2 := [some (.inr 41), some (.inl p1)]) (own := RX9) ?_ (And.intro rfl (And.intro rfl trivial)))
  refine go_iload_n (pc := 0) dX9_isRing_0 rfl ?_
  refine go_if_lt (pc := 1) (tgt := 16) dX9_isRing_1 (by decide) (fun e2 => ?_) (fun e2 => ?_)
  · replace h := (if_pos e2).symm.trans h
    refine go_iconst (pc := 16) (v := (0 : Int32)) dX9_isRing_16 (by decide) ?_
    exact go_iret (pc := 17) (Option.some.inj h).symm rfl dX9_isRing_17 rfl
  · replace h := (if_neg e2).symm.trans h
    refine go_iload_n (pc := 4) dX9_isRing_4 rfl ?_
    refine go_aload_n (pc := 5) dX9_isRing_5 rfl ?_
    refine gf_9_110 (pc := 6) dX9_isRing_6 ?_
    refine go_icmp_ge (pc := 9) (tgt := 16) dX9_isRing_9 (by decide) (fun e1 => ?_) (fun e1 => ?_)
    · replace h := (if_pos e1).symm.trans h
      refine go_iconst (pc := 16) (v := (0 : Int32)) dX9_isRing_16 (by decide) ?_
      exact go_iret (pc := 17) (Option.some.inj h).symm rfl dX9_isRing_17 rfl
    · replace h := (if_neg e1).symm.trans h
      refine go_iconst (pc := 12) (v := (1 : Int32)) dX9_isRing_12 (by decide) ?_
      refine go_goto (pc := 13) (tgt := 17) dX9_isRing_13 (by decide) ?_
      exact go_iret (pc := 17) (Option.some.inj h).symm rfl dX9_isRing_17 rfl
def x_X9_isBoat  (p1 : Int32) (M : g_M) : Option (Int32 × g_M) := (if p1 < 0 then (some ((0 : Int32), M)) else (if (M 41 16) ≤ p1 then (some ((0 : Int32), M)) else (some ((1 : Int32), M))))
set_option maxHeartbeats 4000000 in
set_option maxRecDepth 100000 in
theorem z_X9_isBoat {X : g_X} (hok : g_ok X)  {p1 : Int32} {M : g_M} {r : Int32 × g_M} (h : x_X9_isBoat p1 M = some r) : g_Con X yX9_isBoat cX9_isBoat 2 (some .boolean) 0 0 [.inr 41, .inl p1] M r := by
  rw [x_X9_isBoat] at h
  refine g_con hok (plainFor_of_name (by decide +kernel)) (Nat.le_of_ble_eq_true rfl) (go_to (lv2 := [some (.inr 41), some (.inl p1)]) (own := RX9) ?_ (And.intro rfl (And.intro rfl trivial)))
  refine go_iload_n (pc := 0) dX9_isBoat_0 rfl ?_
  refine go_if_lt (pc := 1) (tgt := 16) dX9_isBoat_1 (by decide) (fun e2 => ?_) (fun e2 => ?_)
  · replace h := (if_pos e2).symm.trans h
    refine go_iconst (pc := 16) (v := (0 : Int32)) dX9_isBoat_16 (by decide) ?_
    exact go_iret (pc := 17) (Option.some.inj h).symm rfl dX9_isBoat_17 rfl
  · replace h := (if_neg e2).symm.trans h
    refine go_iload_n (pc := 4) dX9_isBoat_4 rfl ?_
    refine go_aload_n (pc := 5) dX9_isBoat_5 rfl ?_
    refine gf_9_114 (pc := 6) dX9_isBoat_6 ?_
    refine go_icmp_ge (pc := 9) (tgt := 16) dX9_isBoat_9 (by decide) (fun e1 => ?_) (fun e1 => ?_)
    · replace h := (if_pos e1).symm.trans h
      refine go_iconst (pc := 16) (v := (0 : Int32)) dX9_isBoat_16 (by decide) ?_
      exact go_iret (pc := 17) (Option.some.inj h).symm rfl dX9_isBoat_17 rfl
    · replace h := (if_neg e1).symm.trans h
      refine go_iconst (pc := 12) (v := (1 : Int32)) dX9_isBoat_12 (by decide) ?_
      refine go_goto (pc := 13) (tgt := 17) dX9_isBoat_13 (by decide) ?_
      exact go_iret (pc := 17) (Option.some.inj h).symm rfl dX9_isBoat_17 rfl
def x_X9_feed_L25   (v1 : Int32) (v2 : Int32) (M : g_M) : Option (Int32 × g_M) := (if v2 = 0 then ((if g_inb (M 41 24) 96 = true then (some (((g_upd (g_upd M 57 (M 41 24).toNatClampNeg v1) 41 24 (((g_upd M 57 (M 41 24).toNatClampNeg v1) 41 24) + (1 : Int32))) 41 24), (g_upd (g_upd M 57 (M 41 24).toNatClampNeg v1) 41 24 (((g_upd M 57 (M 41 24).toNatClampNeg v1) 41 24) + (1 : Int32))))) else none)) else (((x_X9_no v2 M).bind fun u2 => some (u2.1, u2.2))))
set_option maxHeartbeats 4000000 in
set_option maxRecDepth 100000 in
theorem z_X9_feed_L25 {X : g_X} (hok : g_ok X)  {r : Int32 × g_M}  {v1 : Int32} {v2 : Int32} {M : g_M} (h : x_X9_feed_L25   v1 v2 M = some r) : g_Go X cX9_feed RX9 3 (some .int) 1 22 r 25 [some (.inr 41), some (.inl v1), some (.inl v2)] [] M := by
  rw [x_X9_feed_L25] at h
  refine go_iload_n (pc := 25) dX9_feed_25 rfl ?_
  refine go_if_eq (pc := 26) (tgt := 35) dX9_feed_26 (by decide) (fun e4 => ?_) (fun e4 => ?_)
  · replace h := (if_pos e4).symm.trans h
    refine go_aload_n (pc := 35) dX9_feed_35 rfl ?_
    refine gf_9_55 (pc := 36) dX9_feed_36 ?_
    refine go_aload_n (pc := 39) dX9_feed_39 rfl ?_
    refine gf_9_121 (pc := 40) dX9_feed_40 ?_
    refine go_iload_n (pc := 43) dX9_feed_43 rfl ?_
    obtain ⟨i1, h⟩ := g_gd h
    refine go_iast (pc := 44) (n := 96) rfl (g_inb_ok i1) dX9_feed_44 ?_
    refine go_aload_n (pc := 45) dX9_feed_45 rfl ?_
    refine go_dup (pc := 46) dX9_feed_46 ?_
    refine gf_9_121 (pc := 47) dX9_feed_47 ?_
    refine go_iconst (pc := 50) (v := (1 : Int32)) dX9_feed_50 (by decide) ?_
    refine go_iadd (pc := 51) dX9_feed_51 ?_
    refine gp_9_121 (pc := 52) dX9_feed_52 ?_
    refine go_aload_n (pc := 55) dX9_feed_55 rfl ?_
    refine gf_9_121 (pc := 56) dX9_feed_56 ?_
    exact go_iret (pc := 59) (Option.some.inj h).symm rfl dX9_feed_59 rfl
  · replace h := (if_neg e4).symm.trans h
    refine go_aload_n (pc := 29) dX9_feed_29 rfl ?_
    refine go_iload_n (pc := 30) dX9_feed_30 rfl ?_
    obtain ⟨u2, c3, h⟩ := g_bd h
    refine go_callV (pc := 31) (as := [.inl v2]) (st := []) (r := u2.1) (M1 := u2.2) (z_X9_no hok  c3) cw_X9_no ml_X9_124 (show g_lay[41]? = some _ from rfl) rfl rfl (by decide) (Nat.le_of_ble_eq_true rfl) rfl dX9_feed_31 ?_
    exact go_iret (pc := 34) (Option.some.inj h).symm rfl dX9_feed_34 rfl
def x_X9_feed  (p1 : Int32) (M : g_M) : Option (Int32 × g_M) := (((x_X9_bound p1 (0 : Int32) (255 : Int32) M).bind fun u5 => if u5.1 = 0 then (if (u5.2 41 24) = (96 : Int32) then (x_X9_feed_L25   p1 (-6 : Int32) u5.2) else (x_X9_feed_L25   p1 u5.1 u5.2)) else (x_X9_feed_L25   p1 u5.1 u5.2)))
set_option maxHeartbeats 4000000 in
set_option maxRecDepth 100000 in
theorem z_X9_feed {X : g_X} (hok : g_ok X)  {p1 : Int32} {M : g_M} {r : Int32 × g_M} (h : x_X9_feed p1 M = some r) : g_Con X yX9_feed cX9_feed 3 (some .int) 1 22 [.inr 41, .inl p1] M r := by
  rw [x_X9_feed] at h
  refine g_con hok (plainFor_of_name (by decide +kernel)) (Nat.le_of_ble_eq_true rfl) (go_to (lv2 := [some (.inr 41), some (.inl p1), none]) (own := RX9) ?_ (And.intro rfl (And.intro rfl trivial)))
  refine go_iload_n (pc := 0) dX9_feed_0 rfl ?_
  refine go_iconst (pc := 1) (v := (0 : Int32)) dX9_feed_1 (by decide) ?_
  refine go_sipush (pc := 2) (v := (255 : Int32)) dX9_feed_2 (by decide) ?_
  obtain ⟨u5, c6, h⟩ := g_bd h
  refine go_callS (pc := 5) (as := [.inl p1, .inl (0 : Int32), .inl (255 : Int32)]) (st := []) (r := u5.1) (M1 := u5.2) (z_X9_bound hok  c6) cw_X9_bound ml_X9_117 (by decide) (Nat.le_of_ble_eq_true rfl) rfl dX9_feed_5 ?_
  refine go_istore_n (pc := 8) (lv' := [some (.inr 41), some (.inl p1), some (.inl u5.1)]) dX9_feed_8 (by decide) rfl ?_
  refine go_iload_n (pc := 9) dX9_feed_9 rfl ?_
  refine go_if_ne (pc := 10) (tgt := 25) dX9_feed_10 (by decide) (fun e8 => ?_) (fun e8 => ?_)
  · replace h := (if_neg e8).symm.trans h
    exact go_to (z_X9_feed_L25 hok   h) (And.intro rfl (And.intro rfl (And.intro rfl trivial)))
  · replace h := (if_pos e8).symm.trans h
    refine go_aload_n (pc := 13) dX9_feed_13 rfl ?_
    refine gf_9_121 (pc := 14) dX9_feed_14 ?_
    refine go_bipush (pc := 17) (v := (96 : Int32)) dX9_feed_17 (by decide) ?_
    refine go_icmp_ne (pc := 19) (tgt := 25) dX9_feed_19 (by decide) (fun e7 => ?_) (fun e7 => ?_)
    · replace h := (if_neg e7).symm.trans h
      exact go_to (z_X9_feed_L25 hok   h) (And.intro rfl (And.intro rfl (And.intro rfl trivial)))
    · replace h := (if_pos e7).symm.trans h
      refine go_bipush (pc := 22) (v := (-6 : Int32)) dX9_feed_22 (by decide) ?_
      refine go_istore_n (pc := 24) (lv' := [some (.inr 41), some (.inl p1), some (.inl (-6 : Int32))]) dX9_feed_24 (by decide) rfl ?_
      exact go_to (z_X9_feed_L25 hok   h) (And.intro rfl (And.intro rfl (And.intro rfl trivial)))
def x_X9_next  (M : g_M) : Option (Int32 × g_M) := (if (M 41 24) ≤ (M 41 25) then (some ((-1 : Int32), M)) else ((if g_inb (M 41 25) 96 = true then (some ((M 57 (M 41 25).toNatClampNeg), M)) else none)))
set_option maxHeartbeats 4000000 in
set_option maxRecDepth 100000 in
theorem z_X9_next {X : g_X} (hok : g_ok X)  {M : g_M} {r : Int32 × g_M} (h : x_X9_next  M = some r) : g_Con X yX9_next cX9_next 1 (some .int) 0 0 [.inr 41] M r := by
  rw [x_X9_next] at h
  refine g_con hok (plainFor_of_name (by decide +kernel)) (Nat.le_of_ble_eq_true rfl) (go_to (lv2 := [some (.inr 41)]) (own := RX9) ?_ (And.intro rfl trivial))
  refine go_aload_n (pc := 0) dX9_next_0 rfl ?_
  refine gf_9_128 (pc := 1) dX9_next_1 ?_
  refine go_aload_n (pc := 4) dX9_next_4 rfl ?_
  refine gf_9_121 (pc := 5) dX9_next_5 ?_
  refine go_icmp_ge (pc := 8) (tgt := 23) dX9_next_8 (by decide) (fun e2 => ?_) (fun e2 => ?_)
  · replace h := (if_pos e2).symm.trans h
    refine go_iconst (pc := 23) (v := (-1 : Int32)) dX9_next_23 (by decide) ?_
    exact go_iret (pc := 24) (Option.some.inj h).symm rfl dX9_next_24 rfl
  · replace h := (if_neg e2).symm.trans h
    refine go_aload_n (pc := 11) dX9_next_11 rfl ?_
    refine gf_9_55 (pc := 12) dX9_next_12 ?_
    refine go_aload_n (pc := 15) dX9_next_15 rfl ?_
    refine gf_9_128 (pc := 16) dX9_next_16 ?_
    obtain ⟨i1, h⟩ := g_gd h
    refine go_iald (pc := 19) (n := 96) rfl (g_inb_ok i1) dX9_next_19 ?_
    refine go_goto (pc := 20) (tgt := 24) dX9_next_20 (by decide) ?_
    exact go_iret (pc := 24) (Option.some.inj h).symm rfl dX9_next_24 rfl
def x_X9_readsDigits_L5   : Nat → Int32 → Int32 → Int32 → Int32 → g_M → Option (Int32 × g_M)
  | 0, _, _, _, _, _ => none
  | n + 1, v1, v2, v3, v4, M => (if v2 ≤ v4 then ((if g_inb v1 336 = true then (some ((1 : Int32), (g_upd M 60 v1.toNatClampNeg v3))) else none)) else (((x_X9_next M).bind fun u2 => ((x_X9_isIn u2.1 (48 : Int32) (57 : Int32) u2.2).bind fun u4 => if u4.1 = 0 then (some ((0 : Int32), u4.2)) else (((x_X9_next u4.2).bind fun u6 => x_X9_readsDigits_L5   n v1 v2 ((((10 : Int32) * v3) + u6.1) - (48 : Int32)) (v4 + (1 : Int32)) (g_upd u6.2 41 25 ((u6.2 41 25) + (1 : Int32)))))))))
set_option maxHeartbeats 4000000 in
set_option maxRecDepth 100000 in
theorem z_X9_readsDigits_L5 {X : g_X} (hok : g_ok X)  {r : Int32 × g_M}  : ∀ (n : Nat) (v1 : Int32) (v2 : Int32) (v3 : Int32) (v4 : Int32) (M : g_M), x_X9_readsDigits_L5   n v1 v2 v3 v4 M = some r → g_Go X cX9_readsDigits RX9 5 (some .boolean) 1 22 r 5 [some (.inr 41), some (.inl v1), some (.inl v2), some (.inl v3), some (.inl v4)] [] M := by
  intro n
  induction n with
  | zero =>
    intro v1 v2 v3 v4 M h
    rw [x_X9_readsDigits_L5] at h
    cases h
  | succ n ih =>
    intro v1 v2 v3 v4 M h
    rw [x_X9_readsDigits_L5] at h
    refine go_iload (pc := 5) dX9_readsDigits_5 rfl ?_
    refine go_iload_n (pc := 7) dX9_readsDigits_7 rfl ?_
    refine go_icmp_ge (pc := 8) (tgt := 56) dX9_readsDigits_8 (by decide) (fun e9 => ?_) (fun e9 => ?_)
    · replace h := (if_pos e9).symm.trans h
      refine go_aload_n (pc := 56) dX9_readsDigits_56 rfl ?_
      refine gf_9_64 (pc := 57) dX9_readsDigits_57 ?_
      refine go_iload_n (pc := 60) dX9_readsDigits_60 rfl ?_
      refine go_iload_n (pc := 61) dX9_readsDigits_61 rfl ?_
      obtain ⟨i1, h⟩ := g_gd h
      refine go_iast (pc := 62) (n := 336) rfl (g_inb_ok i1) dX9_readsDigits_62 ?_
      refine go_iconst (pc := 63) (v := (1 : Int32)) dX9_readsDigits_63 (by decide) ?_
      exact go_iret (pc := 64) (Option.some.inj h).symm rfl dX9_readsDigits_64 rfl
    · replace h := (if_neg e9).symm.trans h
      refine go_aload_n (pc := 11) dX9_readsDigits_11 rfl ?_
      obtain ⟨u2, c3, h⟩ := g_bd h
      refine go_callV (pc := 12) (as := []) (st := []) (r := u2.1) (M1 := u2.2) (z_X9_next hok  c3) cw_X9_next ml_X9_131 (show g_lay[41]? = some _ from rfl) rfl rfl (by decide) (Nat.le_of_ble_eq_true rfl) rfl dX9_readsDigits_12 ?_
      refine go_bipush (pc := 15) (v := (48 : Int32)) dX9_readsDigits_15 (by decide) ?_
      refine go_bipush (pc := 17) (v := (57 : Int32)) dX9_readsDigits_17 (by decide) ?_
      obtain ⟨u4, c5, h⟩ := g_bd h
      refine go_callS (pc := 19) (as := [.inl u2.1, .inl (48 : Int32), .inl (57 : Int32)]) (st := []) (r := u4.1) (M1 := u4.2) (z_X9_isIn hok  c5) cw_X9_isIn ml_X9_135 (by decide) (Nat.le_of_ble_eq_true rfl) rfl dX9_readsDigits_19 ?_
      refine go_if_ne (pc := 22) (tgt := 27) dX9_readsDigits_22 (by decide) (fun e8 => ?_) (fun e8 => ?_)
      · replace h := (if_neg e8).symm.trans h
        refine go_bipush (pc := 27) (v := (10 : Int32)) dX9_readsDigits_27 (by decide) ?_
        refine go_iload_n (pc := 29) dX9_readsDigits_29 rfl ?_
        refine go_imul (pc := 30) dX9_readsDigits_30 ?_
        refine go_aload_n (pc := 31) dX9_readsDigits_31 rfl ?_
        obtain ⟨u6, c7, h⟩ := g_bd h
        refine go_callV (pc := 32) (as := []) (st := [.inl ((10 : Int32) * v3)]) (r := u6.1) (M1 := u6.2) (z_X9_next hok  c7) cw_X9_next ml_X9_131 (show g_lay[41]? = some _ from rfl) rfl rfl (by decide) (Nat.le_of_ble_eq_true rfl) rfl dX9_readsDigits_32 ?_
        refine go_iadd (pc := 35) dX9_readsDigits_35 ?_
        refine go_bipush (pc := 36) (v := (48 : Int32)) dX9_readsDigits_36 (by decide) ?_
        refine go_isub (pc := 38) dX9_readsDigits_38 ?_
        refine go_istore_n (pc := 39) (lv' := [some (.inr 41), some (.inl v1), some (.inl v2), some (.inl ((((10 : Int32) * v3) + u6.1) - (48 : Int32))), some (.inl v4)]) dX9_readsDigits_39 (by decide) rfl ?_
        refine go_aload_n (pc := 40) dX9_readsDigits_40 rfl ?_
        refine go_dup (pc := 41) dX9_readsDigits_41 ?_
        refine gf_9_128 (pc := 42) dX9_readsDigits_42 ?_
        refine go_iconst (pc := 45) (v := (1 : Int32)) dX9_readsDigits_45 (by decide) ?_
        refine go_iadd (pc := 46) dX9_readsDigits_46 ?_
        refine gp_9_128 (pc := 47) dX9_readsDigits_47 ?_
        refine go_iinc (pc := 50) (v := (1 : Int32)) (lv' := [some (.inr 41), some (.inl v1), some (.inl v2), some (.inl ((((10 : Int32) * v3) + u6.1) - (48 : Int32))), some (.inl (v4 + (1 : Int32)))]) dX9_readsDigits_50 rfl (by decide) (by decide) rfl ?_
        refine go_goto (pc := 53) (tgt := 5) dX9_readsDigits_53 (by decide) ?_
        exact go_to (ih _ _ _ _ _ h) (And.intro rfl (And.intro rfl (And.intro rfl (And.intro rfl (And.intro rfl trivial)))))
      · replace h := (if_pos e8).symm.trans h
        refine go_iconst (pc := 25) (v := (0 : Int32)) dX9_readsDigits_25 (by decide) ?_
        exact go_iret (pc := 26) (Option.some.inj h).symm rfl dX9_readsDigits_26 rfl
def x_X9_readsDigits  (p1 p2 : Int32) (M : g_M) : Option (Int32 × g_M) := (x_X9_readsDigits_L5   g_F p1 p2 (0 : Int32) (0 : Int32) M)
set_option maxHeartbeats 4000000 in
set_option maxRecDepth 100000 in
theorem z_X9_readsDigits {X : g_X} (hok : g_ok X)  {p1 p2 : Int32} {M : g_M} {r : Int32 × g_M} (h : x_X9_readsDigits p1 p2 M = some r) : g_Con X yX9_readsDigits cX9_readsDigits 5 (some .boolean) 1 22 [.inr 41, .inl p1, .inl p2] M r := by
  rw [x_X9_readsDigits] at h
  refine g_con hok (plainFor_of_name (by decide +kernel)) (Nat.le_of_ble_eq_true rfl) (go_to (lv2 := [some (.inr 41), some (.inl p1), some (.inl p2), none, none]) (own := RX9) ?_ (And.intro rfl (And.intro rfl (And.intro rfl trivial))))
  refine go_iconst (pc := 0) (v := (0 : Int32)) dX9_readsDigits_0 (by decide) ?_
  refine go_istore_n (pc := 1) (lv' := [some (.inr 41), some (.inl p1), some (.inl p2), some (.inl (0 : Int32)), none]) dX9_readsDigits_1 (by decide) rfl ?_
  refine go_iconst (pc := 2) (v := (0 : Int32)) dX9_readsDigits_2 (by decide) ?_
  refine go_istore (pc := 3) (lv' := [some (.inr 41), some (.inl p1), some (.inl p2), some (.inl (0 : Int32)), some (.inl (0 : Int32))]) dX9_readsDigits_3 (by decide) rfl ?_
  exact go_to (z_X9_readsDigits_L5 hok   g_F _ _ _ _ _ h) (And.intro rfl (And.intro rfl (And.intro rfl (And.intro rfl (And.intro rfl trivial)))))
def x_X9_readsWind_L38   (v1 : Int32) (s0 : Int32) (M : g_M) : Option (Int32 × g_M) := (if s0 = 0 then (some ((0 : Int32), M)) else (((x_X9_readsDigits (v1 + (1 : Int32)) (1 : Int32) (g_upd M 41 25 ((M 41 25) + (1 : Int32)))).bind fun u1 => if u1.1 = 0 then (some ((0 : Int32), u1.2)) else ((if g_inb (v1 + (1 : Int32)) 336 = true then ((if g_inb (v1 + (1 : Int32)) 336 = true then (some ((1 : Int32), (g_upd u1.2 60 (v1 + (1 : Int32)).toNatClampNeg ((u1.2 60 (v1 + (1 : Int32)).toNatClampNeg) * s0)))) else none)) else none)))))
set_option maxHeartbeats 4000000 in
set_option maxRecDepth 100000 in
theorem z_X9_readsWind_L38 {X : g_X} (hok : g_ok X)  {r : Int32 × g_M}  {v1 : Int32} {s0 : Int32} {M : g_M} (h : x_X9_readsWind_L38   v1 s0 M = some r) : g_Go X cX9_readsWind RX9 3 (some .boolean) 2 46 r 38 [some (.inr 41), some (.inl v1), none] [.inl s0] M := by
  rw [x_X9_readsWind_L38] at h
  refine go_istore_n (pc := 38) (lv' := [some (.inr 41), some (.inl v1), some (.inl s0)]) dX9_readsWind_38 (by decide) rfl ?_
  refine go_iload_n (pc := 39) dX9_readsWind_39 rfl ?_
  refine go_if_ne (pc := 40) (tgt := 45) dX9_readsWind_40 (by decide) (fun e6 => ?_) (fun e6 => ?_)
  · replace h := (if_neg e6).symm.trans h
    refine go_aload_n (pc := 45) dX9_readsWind_45 rfl ?_
    refine go_dup (pc := 46) dX9_readsWind_46 ?_
    refine gf_9_128 (pc := 47) dX9_readsWind_47 ?_
    refine go_iconst (pc := 50) (v := (1 : Int32)) dX9_readsWind_50 (by decide) ?_
    refine go_iadd (pc := 51) dX9_readsWind_51 ?_
    refine gp_9_128 (pc := 52) dX9_readsWind_52 ?_
    refine go_aload_n (pc := 55) dX9_readsWind_55 rfl ?_
    refine go_iload_n (pc := 56) dX9_readsWind_56 rfl ?_
    refine go_iconst (pc := 57) (v := (1 : Int32)) dX9_readsWind_57 (by decide) ?_
    refine go_iadd (pc := 58) dX9_readsWind_58 ?_
    refine go_iconst (pc := 59) (v := (1 : Int32)) dX9_readsWind_59 (by decide) ?_
    obtain ⟨u1, c2, h⟩ := g_bd h
    refine go_callV (pc := 60) (as := [.inl (v1 + (1 : Int32)), .inl (1 : Int32)]) (st := []) (r := u1.1) (M1 := u1.2) (z_X9_readsDigits hok  c2) cw_X9_readsDigits ml_X9_139 (show g_lay[41]? = some _ from rfl) rfl rfl (by decide) (Nat.le_of_ble_eq_true rfl) rfl dX9_readsWind_60 ?_
    refine go_if_ne (pc := 63) (tgt := 68) dX9_readsWind_63 (by decide) (fun e5 => ?_) (fun e5 => ?_)
    · replace h := (if_neg e5).symm.trans h
      refine go_aload_n (pc := 68) dX9_readsWind_68 rfl ?_
      refine gf_9_64 (pc := 69) dX9_readsWind_69 ?_
      refine go_iload_n (pc := 72) dX9_readsWind_72 rfl ?_
      refine go_iconst (pc := 73) (v := (1 : Int32)) dX9_readsWind_73 (by decide) ?_
      refine go_iadd (pc := 74) dX9_readsWind_74 ?_
      refine go_dup2 (pc := 75) dX9_readsWind_75 ?_
      obtain ⟨i3, h⟩ := g_gd h
      refine go_iald (pc := 76) (n := 336) rfl (g_inb_ok i3) dX9_readsWind_76 ?_
      refine go_iload_n (pc := 77) dX9_readsWind_77 rfl ?_
      refine go_imul (pc := 78) dX9_readsWind_78 ?_
      obtain ⟨i4, h⟩ := g_gd h
      refine go_iast (pc := 79) (n := 336) rfl (g_inb_ok i4) dX9_readsWind_79 ?_
      refine go_iconst (pc := 80) (v := (1 : Int32)) dX9_readsWind_80 (by decide) ?_
      exact go_iret (pc := 81) (Option.some.inj h).symm rfl dX9_readsWind_81 rfl
    · replace h := (if_pos e5).symm.trans h
      refine go_iconst (pc := 66) (v := (0 : Int32)) dX9_readsWind_66 (by decide) ?_
      exact go_iret (pc := 67) (Option.some.inj h).symm rfl dX9_readsWind_67 rfl
  · replace h := (if_pos e6).symm.trans h
    refine go_iconst (pc := 43) (v := (0 : Int32)) dX9_readsWind_43 (by decide) ?_
    exact go_iret (pc := 44) (Option.some.inj h).symm rfl dX9_readsWind_44 rfl
def x_X9_readsWind  (p1 : Int32) (M : g_M) : Option (Int32 × g_M) := (((x_X9_readsDigits p1 (2 : Int32) M).bind fun u7 => if u7.1 = 0 then (some ((0 : Int32), u7.2)) else (((x_X9_next u7.2).bind fun u9 => if u9.1 = (43 : Int32) then (x_X9_readsWind_L38   p1 (1 : Int32) u9.2) else (((x_X9_next u9.2).bind fun u11 => if u11.1 = (45 : Int32) then (x_X9_readsWind_L38   p1 (-1 : Int32) u11.2) else (x_X9_readsWind_L38   p1 (0 : Int32) u11.2)))))))
set_option maxHeartbeats 4000000 in
set_option maxRecDepth 100000 in
theorem z_X9_readsWind {X : g_X} (hok : g_ok X)  {p1 : Int32} {M : g_M} {r : Int32 × g_M} (h : x_X9_readsWind p1 M = some r) : g_Con X yX9_readsWind cX9_readsWind 3 (some .boolean) 2 46 [.inr 41, .inl p1] M r := by
  rw [x_X9_readsWind] at h
  refine g_con hok (plainFor_of_name (by decide +kernel)) (Nat.le_of_ble_eq_true rfl) (go_to (lv2 := [some (.inr 41), some (.inl p1), none]) (own := RX9) ?_ (And.intro rfl (And.intro rfl trivial)))
  refine go_aload_n (pc := 0) dX9_readsWind_0 rfl ?_
  refine go_iload_n (pc := 1) dX9_readsWind_1 rfl ?_
  refine go_iconst (pc := 2) (v := (2 : Int32)) dX9_readsWind_2 (by decide) ?_
  obtain ⟨u7, c8, h⟩ := g_bd h
  refine go_callV (pc := 3) (as := [.inl p1, .inl (2 : Int32)]) (st := []) (r := u7.1) (M1 := u7.2) (z_X9_readsDigits hok  c8) cw_X9_readsDigits ml_X9_139 (show g_lay[41]? = some _ from rfl) rfl rfl (by decide) (Nat.le_of_ble_eq_true rfl) rfl dX9_readsWind_3 ?_
  refine go_if_ne (pc := 6) (tgt := 11) dX9_readsWind_6 (by decide) (fun e15 => ?_) (fun e15 => ?_)
  · replace h := (if_neg e15).symm.trans h
    refine go_aload_n (pc := 11) dX9_readsWind_11 rfl ?_
    obtain ⟨u9, c10, h⟩ := g_bd h
    refine go_callV (pc := 12) (as := []) (st := []) (r := u9.1) (M1 := u9.2) (z_X9_next hok  c10) cw_X9_next ml_X9_131 (show g_lay[41]? = some _ from rfl) rfl rfl (by decide) (Nat.le_of_ble_eq_true rfl) rfl dX9_readsWind_12 ?_
    refine go_bipush (pc := 15) (v := (43 : Int32)) dX9_readsWind_15 (by decide) ?_
    refine go_icmp_ne (pc := 17) (tgt := 24) dX9_readsWind_17 (by decide) (fun e14 => ?_) (fun e14 => ?_)
    · replace h := (if_neg e14).symm.trans h
      refine go_aload_n (pc := 24) dX9_readsWind_24 rfl ?_
      obtain ⟨u11, c12, h⟩ := g_bd h
      refine go_callV (pc := 25) (as := []) (st := []) (r := u11.1) (M1 := u11.2) (z_X9_next hok  c12) cw_X9_next ml_X9_131 (show g_lay[41]? = some _ from rfl) rfl rfl (by decide) (Nat.le_of_ble_eq_true rfl) rfl dX9_readsWind_25 ?_
      refine go_bipush (pc := 28) (v := (45 : Int32)) dX9_readsWind_28 (by decide) ?_
      refine go_icmp_ne (pc := 30) (tgt := 37) dX9_readsWind_30 (by decide) (fun e13 => ?_) (fun e13 => ?_)
      · replace h := (if_neg e13).symm.trans h
        refine go_iconst (pc := 37) (v := (0 : Int32)) dX9_readsWind_37 (by decide) ?_
        exact go_to (z_X9_readsWind_L38 hok   h) (And.intro rfl (And.intro rfl trivial))
      · replace h := (if_pos e13).symm.trans h
        refine go_iconst (pc := 33) (v := (-1 : Int32)) dX9_readsWind_33 (by decide) ?_
        refine go_goto (pc := 34) (tgt := 38) dX9_readsWind_34 (by decide) ?_
        exact go_to (z_X9_readsWind_L38 hok   h) (And.intro rfl (And.intro rfl trivial))
    · replace h := (if_pos e14).symm.trans h
      refine go_iconst (pc := 20) (v := (1 : Int32)) dX9_readsWind_20 (by decide) ?_
      refine go_goto (pc := 21) (tgt := 38) dX9_readsWind_21 (by decide) ?_
      exact go_to (z_X9_readsWind_L38 hok   h) (And.intro rfl (And.intro rfl trivial))
  · replace h := (if_pos e15).symm.trans h
    refine go_iconst (pc := 9) (v := (0 : Int32)) dX9_readsWind_9 (by decide) ?_
    exact go_iret (pc := 10) (Option.some.inj h).symm rfl dX9_readsWind_10 rfl
def x_X9_readsBoat_L22  (k2 : Int32 → Int32 → g_M → Option (Int32 × g_M)) (v1 : Int32) (v2 : Int32) (s0 : Int32) (s1 : Int32) (M : g_M) : Option (Int32 × g_M) := (((x_X9_readsDigits s1 s0 M).bind fun u1 => if u1.1 = 0 then (some ((0 : Int32), u1.2)) else (k2 v1 (v2 + (1 : Int32)) u1.2)))
set_option maxHeartbeats 4000000 in
set_option maxRecDepth 100000 in
theorem z_X9_readsBoat_L22 {X : g_X} (hok : g_ok X)  {r : Int32 × g_M} {k2 : Int32 → Int32 → g_M → Option (Int32 × g_M)} (hk2 : ∀ (v1 : Int32) (v2 : Int32) (M : g_M), k2 v1 v2 M = some r → g_Go X cX9_readsBoat RX9 3 (some .boolean) 2 46 r 2 [some (.inr 41), some (.inl v1), some (.inl v2)] [] M) {v1 : Int32} {v2 : Int32} {s0 : Int32} {s1 : Int32} {M : g_M} (h : x_X9_readsBoat_L22  k2 v1 v2 s0 s1 M = some r) : g_Go X cX9_readsBoat RX9 3 (some .boolean) 2 46 r 22 [some (.inr 41), some (.inl v1), some (.inl v2)] [.inl s0, .inl s1, .inr 41] M := by
  rw [x_X9_readsBoat_L22] at h
  obtain ⟨u1, c2, h⟩ := g_bd h
  refine go_callV (pc := 22) (as := [.inl s1, .inl s0]) (st := []) (r := u1.1) (M1 := u1.2) (z_X9_readsDigits hok  c2) cw_X9_readsDigits ml_X9_139 (show g_lay[41]? = some _ from rfl) rfl rfl (by decide) (Nat.le_of_ble_eq_true rfl) rfl dX9_readsBoat_22 ?_
  refine go_if_ne (pc := 25) (tgt := 30) dX9_readsBoat_25 (by decide) (fun e3 => ?_) (fun e3 => ?_)
  · replace h := (if_neg e3).symm.trans h
    refine go_iinc (pc := 30) (v := (1 : Int32)) (lv' := [some (.inr 41), some (.inl v1), some (.inl (v2 + (1 : Int32)))]) dX9_readsBoat_30 rfl (by decide) (by decide) rfl ?_
    refine go_goto (pc := 33) (tgt := 2) dX9_readsBoat_33 (by decide) ?_
    exact go_to (hk2 _ _ _ h) (And.intro rfl (And.intro rfl (And.intro rfl trivial)))
  · replace h := (if_pos e3).symm.trans h
    refine go_iconst (pc := 28) (v := (0 : Int32)) dX9_readsBoat_28 (by decide) ?_
    exact go_iret (pc := 29) (Option.some.inj h).symm rfl dX9_readsBoat_29 rfl
def x_X9_readsBoat_L2   : Nat → Int32 → Int32 → g_M → Option (Int32 × g_M)
  | 0, _, _, _ => none
  | n + 1, v1, v2, M => (if (7 : Int32) ≤ v2 then (some ((1 : Int32), M)) else (if (4 : Int32) ≤ v2 then (x_X9_readsBoat_L22  (x_X9_readsBoat_L2   n) v1 v2 (2 : Int32) (v1 + v2) M) else (x_X9_readsBoat_L22  (x_X9_readsBoat_L2   n) v1 v2 (1 : Int32) (v1 + v2) M)))
set_option maxHeartbeats 4000000 in
set_option maxRecDepth 100000 in
theorem z_X9_readsBoat_L2 {X : g_X} (hok : g_ok X)  {r : Int32 × g_M}  : ∀ (n : Nat) (v1 : Int32) (v2 : Int32) (M : g_M), x_X9_readsBoat_L2   n v1 v2 M = some r → g_Go X cX9_readsBoat RX9 3 (some .boolean) 2 46 r 2 [some (.inr 41), some (.inl v1), some (.inl v2)] [] M := by
  intro n
  induction n with
  | zero =>
    intro v1 v2 M h
    rw [x_X9_readsBoat_L2] at h
    cases h
  | succ n ih =>
    intro v1 v2 M h
    rw [x_X9_readsBoat_L2] at h
    refine go_iload_n (pc := 2) dX9_readsBoat_2 rfl ?_
    refine go_bipush (pc := 3) (v := (7 : Int32)) dX9_readsBoat_3 (by decide) ?_
    refine go_icmp_ge (pc := 5) (tgt := 36) dX9_readsBoat_5 (by decide) (fun e5 => ?_) (fun e5 => ?_)
    · replace h := (if_pos e5).symm.trans h
      refine go_iconst (pc := 36) (v := (1 : Int32)) dX9_readsBoat_36 (by decide) ?_
      exact go_iret (pc := 37) (Option.some.inj h).symm rfl dX9_readsBoat_37 rfl
    · replace h := (if_neg e5).symm.trans h
      refine go_aload_n (pc := 8) dX9_readsBoat_8 rfl ?_
      refine go_iload_n (pc := 9) dX9_readsBoat_9 rfl ?_
      refine go_iload_n (pc := 10) dX9_readsBoat_10 rfl ?_
      refine go_iadd (pc := 11) dX9_readsBoat_11 ?_
      refine go_iload_n (pc := 12) dX9_readsBoat_12 rfl ?_
      refine go_iconst (pc := 13) (v := (4 : Int32)) dX9_readsBoat_13 (by decide) ?_
      refine go_icmp_ge (pc := 14) (tgt := 21) dX9_readsBoat_14 (by decide) (fun e4 => ?_) (fun e4 => ?_)
      · replace h := (if_pos e4).symm.trans h
        refine go_iconst (pc := 21) (v := (2 : Int32)) dX9_readsBoat_21 (by decide) ?_
        exact go_to (z_X9_readsBoat_L22 hok  (ih) h) (And.intro rfl (And.intro rfl (And.intro rfl trivial)))
      · replace h := (if_neg e4).symm.trans h
        refine go_iconst (pc := 17) (v := (1 : Int32)) dX9_readsBoat_17 (by decide) ?_
        refine go_goto (pc := 18) (tgt := 22) dX9_readsBoat_18 (by decide) ?_
        exact go_to (z_X9_readsBoat_L22 hok  (ih) h) (And.intro rfl (And.intro rfl (And.intro rfl trivial)))
def x_X9_readsBoat  (p1 : Int32) (M : g_M) : Option (Int32 × g_M) := (x_X9_readsBoat_L2   g_F p1 (0 : Int32) M)
set_option maxHeartbeats 4000000 in
set_option maxRecDepth 100000 in
theorem z_X9_readsBoat {X : g_X} (hok : g_ok X)  {p1 : Int32} {M : g_M} {r : Int32 × g_M} (h : x_X9_readsBoat p1 M = some r) : g_Con X yX9_readsBoat cX9_readsBoat 3 (some .boolean) 2 46 [.inr 41, .inl p1] M r := by
  rw [x_X9_readsBoat] at h
  refine g_con hok (plainFor_of_name (by decide +kernel)) (Nat.le_of_ble_eq_true rfl) (go_to (lv2 := [some (.inr 41), some (.inl p1), none]) (own := RX9) ?_ (And.intro rfl (And.intro rfl trivial)))
  refine go_iconst (pc := 0) (v := (0 : Int32)) dX9_readsBoat_0 (by decide) ?_
  refine go_istore_n (pc := 1) (lv' := [some (.inr 41), some (.inl p1), some (.inl (0 : Int32))]) dX9_readsBoat_1 (by decide) rfl ?_
  exact go_to (z_X9_readsBoat_L2 hok   g_F _ _ _ h) (And.intro rfl (And.intro rfl (And.intro rfl trivial)))
def x_X9_readsAll  (p1 p2 : Int32) (M : g_M) : Option (Int32 × g_M) := (if p1 = (98 : Int32) then (((x_X9_readsBoat p2 M).bind fun u1 => (if g_isb u1.1 = true then (some (u1.1, u1.2)) else none))) else if p1 = (108 : Int32) then (((x_X9_readsDigits p2 (1 : Int32) M).bind fun u4 => if u4.1 = 0 then (some ((0 : Int32), u4.2)) else (((x_X9_readsDigits (p2 + (1 : Int32)) (2 : Int32) u4.2).bind fun u6 => if u6.1 = 0 then (some ((0 : Int32), u6.2)) else (some ((1 : Int32), u6.2)))))) else if p1 = (114 : Int32) then (((x_X9_readsDigits p2 (2 : Int32) M).bind fun u10 => if u10.1 = 0 then (some ((0 : Int32), u10.2)) else (((x_X9_readsDigits (p2 + (1 : Int32)) (2 : Int32) u10.2).bind fun u12 => if u12.1 = 0 then (some ((0 : Int32), u12.2)) else (some ((1 : Int32), u12.2)))))) else if p1 = (116 : Int32) then (((x_X9_readsDigits p2 (2 : Int32) M).bind fun u16 => if u16.1 = 0 then (some ((0 : Int32), u16.2)) else (((x_X9_readsDigits (p2 + (1 : Int32)) (2 : Int32) u16.2).bind fun u18 => if u18.1 = 0 then (some ((0 : Int32), u18.2)) else (some ((1 : Int32), u18.2)))))) else if p1 = (119 : Int32) then (((x_X9_readsWind p2 M).bind fun u22 => (if g_isb u22.1 = true then (some (u22.1, u22.2)) else none))) else (((x_X9_readsDigits p2 (2 : Int32) M).bind fun u25 => (if g_isb u25.1 = true then (some (u25.1, u25.2)) else none))))
set_option maxHeartbeats 4000000 in
set_option maxRecDepth 100000 in
theorem z_X9_readsAll {X : g_X} (hok : g_ok X)  {p1 p2 : Int32} {M : g_M} {r : Int32 × g_M} (h : x_X9_readsAll p1 p2 M = some r) : g_Con X yX9_readsAll cX9_readsAll 3 (some .boolean) 3 68 [.inr 41, .inl p1, .inl p2] M r := by
  rw [x_X9_readsAll] at h
  refine g_con hok (plainFor_of_name (by decide +kernel)) (Nat.le_of_ble_eq_true rfl) (go_to (lv2 := [some (.inr 41), some (.inl p1), some (.inl p2)]) (own := RX9) ?_ (And.intro rfl (And.intro rfl (And.intro rfl trivial))))
  refine go_iload_n (pc := 0) dX9_readsAll_0 rfl ?_
  by_cases e28 : p1 = (98 : Int32)
  · replace h := (if_pos e28).symm.trans h
    refine go_look (pc := 1) (off := 83) (tgt := 84) dX9_readsAll_1 (by decide) (by rw [e28]; decide) (by decide) ?_
    refine go_aload_n (pc := 84) dX9_readsAll_84 rfl ?_
    refine go_iload_n (pc := 85) dX9_readsAll_85 rfl ?_
    obtain ⟨u1, c2, h⟩ := g_bd h
    refine go_callV (pc := 86) (as := [.inl p2]) (st := []) (r := u1.1) (M1 := u1.2) (z_X9_readsBoat hok  c2) cw_X9_readsBoat ml_X9_147 (show g_lay[41]? = some _ from rfl) rfl rfl (by decide) (Nat.le_of_ble_eq_true rfl) rfl dX9_readsAll_86 ?_
    obtain ⟨i3, h⟩ := g_gd h
    exact go_iret (pc := 89) (Option.some.inj h).symm rfl dX9_readsAll_89 (g_nb i3)
  · replace h := (if_neg e28).symm.trans h
    by_cases e29 : p1 = (108 : Int32)
    · replace h := (if_pos e29).symm.trans h
      refine go_look (pc := 1) (off := 89) (tgt := 90) dX9_readsAll_1 (by decide) (by rw [e29]; decide) (by decide) ?_
      refine go_aload_n (pc := 90) dX9_readsAll_90 rfl ?_
      refine go_iload_n (pc := 91) dX9_readsAll_91 rfl ?_
      refine go_iconst (pc := 92) (v := (1 : Int32)) dX9_readsAll_92 (by decide) ?_
      obtain ⟨u4, c5, h⟩ := g_bd h
      refine go_callV (pc := 93) (as := [.inl p2, .inl (1 : Int32)]) (st := []) (r := u4.1) (M1 := u4.2) (z_X9_readsDigits hok  c5) cw_X9_readsDigits ml_X9_139 (show g_lay[41]? = some _ from rfl) rfl rfl (by decide) (Nat.le_of_ble_eq_true rfl) rfl dX9_readsAll_93 ?_
      refine go_if_eq (pc := 96) (tgt := 114) dX9_readsAll_96 (by decide) (fun e9 => ?_) (fun e9 => ?_)
      · replace h := (if_pos e9).symm.trans h
        refine go_iconst (pc := 114) (v := (0 : Int32)) dX9_readsAll_114 (by decide) ?_
        exact go_iret (pc := 115) (Option.some.inj h).symm rfl dX9_readsAll_115 rfl
      · replace h := (if_neg e9).symm.trans h
        refine go_aload_n (pc := 99) dX9_readsAll_99 rfl ?_
        refine go_iload_n (pc := 100) dX9_readsAll_100 rfl ?_
        refine go_iconst (pc := 101) (v := (1 : Int32)) dX9_readsAll_101 (by decide) ?_
        refine go_iadd (pc := 102) dX9_readsAll_102 ?_
        refine go_iconst (pc := 103) (v := (2 : Int32)) dX9_readsAll_103 (by decide) ?_
        obtain ⟨u6, c7, h⟩ := g_bd h
        refine go_callV (pc := 104) (as := [.inl (p2 + (1 : Int32)), .inl (2 : Int32)]) (st := []) (r := u6.1) (M1 := u6.2) (z_X9_readsDigits hok  c7) cw_X9_readsDigits ml_X9_139 (show g_lay[41]? = some _ from rfl) rfl rfl (by decide) (Nat.le_of_ble_eq_true rfl) rfl dX9_readsAll_104 ?_
        refine go_if_eq (pc := 107) (tgt := 114) dX9_readsAll_107 (by decide) (fun e8 => ?_) (fun e8 => ?_)
        · replace h := (if_pos e8).symm.trans h
          refine go_iconst (pc := 114) (v := (0 : Int32)) dX9_readsAll_114 (by decide) ?_
          exact go_iret (pc := 115) (Option.some.inj h).symm rfl dX9_readsAll_115 rfl
        · replace h := (if_neg e8).symm.trans h
          refine go_iconst (pc := 110) (v := (1 : Int32)) dX9_readsAll_110 (by decide) ?_
          refine go_goto (pc := 111) (tgt := 115) dX9_readsAll_111 (by decide) ?_
          exact go_iret (pc := 115) (Option.some.inj h).symm rfl dX9_readsAll_115 rfl
    · replace h := (if_neg e29).symm.trans h
      by_cases e30 : p1 = (114 : Int32)
      · replace h := (if_pos e30).symm.trans h
        refine go_look (pc := 1) (off := 51) (tgt := 52) dX9_readsAll_1 (by decide) (by rw [e30]; decide) (by decide) ?_
        refine go_aload_n (pc := 52) dX9_readsAll_52 rfl ?_
        refine go_iload_n (pc := 53) dX9_readsAll_53 rfl ?_
        refine go_iconst (pc := 54) (v := (2 : Int32)) dX9_readsAll_54 (by decide) ?_
        obtain ⟨u10, c11, h⟩ := g_bd h
        refine go_callV (pc := 55) (as := [.inl p2, .inl (2 : Int32)]) (st := []) (r := u10.1) (M1 := u10.2) (z_X9_readsDigits hok  c11) cw_X9_readsDigits ml_X9_139 (show g_lay[41]? = some _ from rfl) rfl rfl (by decide) (Nat.le_of_ble_eq_true rfl) rfl dX9_readsAll_55 ?_
        refine go_if_eq (pc := 58) (tgt := 76) dX9_readsAll_58 (by decide) (fun e15 => ?_) (fun e15 => ?_)
        · replace h := (if_pos e15).symm.trans h
          refine go_iconst (pc := 76) (v := (0 : Int32)) dX9_readsAll_76 (by decide) ?_
          exact go_iret (pc := 77) (Option.some.inj h).symm rfl dX9_readsAll_77 rfl
        · replace h := (if_neg e15).symm.trans h
          refine go_aload_n (pc := 61) dX9_readsAll_61 rfl ?_
          refine go_iload_n (pc := 62) dX9_readsAll_62 rfl ?_
          refine go_iconst (pc := 63) (v := (1 : Int32)) dX9_readsAll_63 (by decide) ?_
          refine go_iadd (pc := 64) dX9_readsAll_64 ?_
          refine go_iconst (pc := 65) (v := (2 : Int32)) dX9_readsAll_65 (by decide) ?_
          obtain ⟨u12, c13, h⟩ := g_bd h
          refine go_callV (pc := 66) (as := [.inl (p2 + (1 : Int32)), .inl (2 : Int32)]) (st := []) (r := u12.1) (M1 := u12.2) (z_X9_readsDigits hok  c13) cw_X9_readsDigits ml_X9_139 (show g_lay[41]? = some _ from rfl) rfl rfl (by decide) (Nat.le_of_ble_eq_true rfl) rfl dX9_readsAll_66 ?_
          refine go_if_eq (pc := 69) (tgt := 76) dX9_readsAll_69 (by decide) (fun e14 => ?_) (fun e14 => ?_)
          · replace h := (if_pos e14).symm.trans h
            refine go_iconst (pc := 76) (v := (0 : Int32)) dX9_readsAll_76 (by decide) ?_
            exact go_iret (pc := 77) (Option.some.inj h).symm rfl dX9_readsAll_77 rfl
          · replace h := (if_neg e14).symm.trans h
            refine go_iconst (pc := 72) (v := (1 : Int32)) dX9_readsAll_72 (by decide) ?_
            refine go_goto (pc := 73) (tgt := 77) dX9_readsAll_73 (by decide) ?_
            exact go_iret (pc := 77) (Option.some.inj h).symm rfl dX9_readsAll_77 rfl
      · replace h := (if_neg e30).symm.trans h
        by_cases e31 : p1 = (116 : Int32)
        · replace h := (if_pos e31).symm.trans h
          refine go_look (pc := 1) (off := 51) (tgt := 52) dX9_readsAll_1 (by decide) (by rw [e31]; decide) (by decide) ?_
          refine go_aload_n (pc := 52) dX9_readsAll_52 rfl ?_
          refine go_iload_n (pc := 53) dX9_readsAll_53 rfl ?_
          refine go_iconst (pc := 54) (v := (2 : Int32)) dX9_readsAll_54 (by decide) ?_
          obtain ⟨u16, c17, h⟩ := g_bd h
          refine go_callV (pc := 55) (as := [.inl p2, .inl (2 : Int32)]) (st := []) (r := u16.1) (M1 := u16.2) (z_X9_readsDigits hok  c17) cw_X9_readsDigits ml_X9_139 (show g_lay[41]? = some _ from rfl) rfl rfl (by decide) (Nat.le_of_ble_eq_true rfl) rfl dX9_readsAll_55 ?_
          refine go_if_eq (pc := 58) (tgt := 76) dX9_readsAll_58 (by decide) (fun e21 => ?_) (fun e21 => ?_)
          · replace h := (if_pos e21).symm.trans h
            refine go_iconst (pc := 76) (v := (0 : Int32)) dX9_readsAll_76 (by decide) ?_
            exact go_iret (pc := 77) (Option.some.inj h).symm rfl dX9_readsAll_77 rfl
          · replace h := (if_neg e21).symm.trans h
            refine go_aload_n (pc := 61) dX9_readsAll_61 rfl ?_
            refine go_iload_n (pc := 62) dX9_readsAll_62 rfl ?_
            refine go_iconst (pc := 63) (v := (1 : Int32)) dX9_readsAll_63 (by decide) ?_
            refine go_iadd (pc := 64) dX9_readsAll_64 ?_
            refine go_iconst (pc := 65) (v := (2 : Int32)) dX9_readsAll_65 (by decide) ?_
            obtain ⟨u18, c19, h⟩ := g_bd h
            refine go_callV (pc := 66) (as := [.inl (p2 + (1 : Int32)), .inl (2 : Int32)]) (st := []) (r := u18.1) (M1 := u18.2) (z_X9_readsDigits hok  c19) cw_X9_readsDigits ml_X9_139 (show g_lay[41]? = some _ from rfl) rfl rfl (by decide) (Nat.le_of_ble_eq_true rfl) rfl dX9_readsAll_66 ?_
            refine go_if_eq (pc := 69) (tgt := 76) dX9_readsAll_69 (by decide) (fun e20 => ?_) (fun e20 => ?_)
            · replace h := (if_pos e20).symm.trans h
              refine go_iconst (pc := 76) (v := (0 : Int32)) dX9_readsAll_76 (by decide) ?_
              exact go_iret (pc := 77) (Option.some.inj h).symm rfl dX9_readsAll_77 rfl
            · replace h := (if_neg e20).symm.trans h
              refine go_iconst (pc := 72) (v := (1 : Int32)) dX9_readsAll_72 (by decide) ?_
              refine go_goto (pc := 73) (tgt := 77) dX9_readsAll_73 (by decide) ?_
              exact go_iret (pc := 77) (Option.some.inj h).symm rfl dX9_readsAll_77 rfl
        · replace h := (if_neg e31).symm.trans h
          by_cases e32 : p1 = (119 : Int32)
          · replace h := (if_pos e32).symm.trans h
            refine go_look (pc := 1) (off := 77) (tgt := 78) dX9_readsAll_1 (by decide) (by rw [e32]; decide) (by decide) ?_
            refine go_aload_n (pc := 78) dX9_readsAll_78 rfl ?_
            refine go_iload_n (pc := 79) dX9_readsAll_79 rfl ?_
            obtain ⟨u22, c23, h⟩ := g_bd h
            refine go_callV (pc := 80) (as := [.inl p2]) (st := []) (r := u22.1) (M1 := u22.2) (z_X9_readsWind hok  c23) cw_X9_readsWind ml_X9_143 (show g_lay[41]? = some _ from rfl) rfl rfl (by decide) (Nat.le_of_ble_eq_true rfl) rfl dX9_readsAll_80 ?_
            obtain ⟨i24, h⟩ := g_gd h
            exact go_iret (pc := 83) (Option.some.inj h).symm rfl dX9_readsAll_83 (g_nb i24)
          · replace h := (if_neg e32).symm.trans h
            refine go_look (pc := 1) (off := 115) (tgt := 116) dX9_readsAll_1 (by decide) (by rw [show (#[(98, 83), (108, 89), (114, 51), (116, 51), (119, 77)] : Array (Int × Int)).toList = [(98, 83), (108, 89), (114, 51), (116, 51), (119, 77)] from rfl, lv_osw (k := (98 : Int32)) e28 (by decide), lv_osw (k := (108 : Int32)) e29 (by decide), lv_osw (k := (114 : Int32)) e30 (by decide), lv_osw (k := (116 : Int32)) e31 (by decide), lv_osw (k := (119 : Int32)) e32 (by decide)]; rfl) (by decide) ?_
            refine go_aload_n (pc := 116) dX9_readsAll_116 rfl ?_
            refine go_iload_n (pc := 117) dX9_readsAll_117 rfl ?_
            refine go_iconst (pc := 118) (v := (2 : Int32)) dX9_readsAll_118 (by decide) ?_
            obtain ⟨u25, c26, h⟩ := g_bd h
            refine go_callV (pc := 119) (as := [.inl p2, .inl (2 : Int32)]) (st := []) (r := u25.1) (M1 := u25.2) (z_X9_readsDigits hok  c26) cw_X9_readsDigits ml_X9_139 (show g_lay[41]? = some _ from rfl) rfl rfl (by decide) (Nat.le_of_ble_eq_true rfl) rfl dX9_readsAll_119 ?_
            obtain ⟨i27, h⟩ := g_gd h
            exact go_iret (pc := 122) (Option.some.inj h).symm rfl dX9_readsAll_122 (g_nb i27)
def x_X9_statement_L43   (v1 : Int32) (M : g_M) : Option (Int32 × g_M) := ((if g_inb (M 41 26) 48 = true then ((if g_inb ((g_upd M 58 (M 41 26).toNatClampNeg v1) 41 26) 48 = true then (((x_X9_readsAll v1 ((7 : Int32) * ((g_upd (g_upd (g_upd M 58 (M 41 26).toNatClampNeg v1) 59 ((g_upd M 58 (M 41 26).toNatClampNeg v1) 41 26).toNatClampNeg ((g_upd M 58 (M 41 26).toNatClampNeg v1) 41 25)) 41 25 (((g_upd (g_upd M 58 (M 41 26).toNatClampNeg v1) 59 ((g_upd M 58 (M 41 26).toNatClampNeg v1) 41 26).toNatClampNeg ((g_upd M 58 (M 41 26).toNatClampNeg v1) 41 25)) 41 25) + (1 : Int32))) 41 26)) (g_upd (g_upd (g_upd M 58 (M 41 26).toNatClampNeg v1) 59 ((g_upd M 58 (M 41 26).toNatClampNeg v1) 41 26).toNatClampNeg ((g_upd M 58 (M 41 26).toNatClampNeg v1) 41 25)) 41 25 (((g_upd (g_upd M 58 (M 41 26).toNatClampNeg v1) 59 ((g_upd M 58 (M 41 26).toNatClampNeg v1) 41 26).toNatClampNeg ((g_upd M 58 (M 41 26).toNatClampNeg v1) 41 25)) 41 25) + (1 : Int32)))).bind fun u3 => if u3.1 = 0 then (some ((0 : Int32), u3.2)) else (((x_X9_next u3.2).bind fun u5 => if u5.1 = (59 : Int32) then (some ((1 : Int32), (g_upd u5.2 41 25 ((u5.2 41 25) + (1 : Int32))))) else (some ((0 : Int32), u5.2)))))) else none)) else none))
set_option maxHeartbeats 4000000 in
set_option maxRecDepth 100000 in
theorem z_X9_statement_L43 {X : g_X} (hok : g_ok X)  {r : Int32 × g_M}  {v1 : Int32} {M : g_M} (h : x_X9_statement_L43   v1 M = some r) : g_Go X cX9_statement RX9 2 (some .boolean) 4 90 r 43 [some (.inr 41), some (.inl v1)] [] M := by
  rw [x_X9_statement_L43] at h
  refine go_aload_n (pc := 43) dX9_statement_43 rfl ?_
  refine gf_9_58 (pc := 44) dX9_statement_44 ?_
  refine go_aload_n (pc := 47) dX9_statement_47 rfl ?_
  refine gf_9_150 (pc := 48) dX9_statement_48 ?_
  refine go_iload_n (pc := 51) dX9_statement_51 rfl ?_
  obtain ⟨i1, h⟩ := g_gd h
  refine go_iast (pc := 52) (n := 48) rfl (g_inb_ok i1) dX9_statement_52 ?_
  refine go_aload_n (pc := 53) dX9_statement_53 rfl ?_
  refine gf_9_61 (pc := 54) dX9_statement_54 ?_
  refine go_aload_n (pc := 57) dX9_statement_57 rfl ?_
  refine gf_9_150 (pc := 58) dX9_statement_58 ?_
  refine go_aload_n (pc := 61) dX9_statement_61 rfl ?_
  refine gf_9_128 (pc := 62) dX9_statement_62 ?_
  obtain ⟨i2, h⟩ := g_gd h
  refine go_iast (pc := 65) (n := 48) rfl (g_inb_ok i2) dX9_statement_65 ?_
  refine go_aload_n (pc := 66) dX9_statement_66 rfl ?_
  refine go_dup (pc := 67) dX9_statement_67 ?_
  refine gf_9_128 (pc := 68) dX9_statement_68 ?_
  refine go_iconst (pc := 71) (v := (1 : Int32)) dX9_statement_71 (by decide) ?_
  refine go_iadd (pc := 72) dX9_statement_72 ?_
  refine gp_9_128 (pc := 73) dX9_statement_73 ?_
  refine go_aload_n (pc := 76) dX9_statement_76 rfl ?_
  refine go_iload_n (pc := 77) dX9_statement_77 rfl ?_
  refine go_bipush (pc := 78) (v := (7 : Int32)) dX9_statement_78 (by decide) ?_
  refine go_aload_n (pc := 80) dX9_statement_80 rfl ?_
  refine gf_9_150 (pc := 81) dX9_statement_81 ?_
  refine go_imul (pc := 84) dX9_statement_84 ?_
  obtain ⟨u3, c4, h⟩ := g_bd h
  refine go_callV (pc := 85) (as := [.inl v1, .inl ((7 : Int32) * ((g_upd (g_upd (g_upd M 58 (M 41 26).toNatClampNeg v1) 59 ((g_upd M 58 (M 41 26).toNatClampNeg v1) 41 26).toNatClampNeg ((g_upd M 58 (M 41 26).toNatClampNeg v1) 41 25)) 41 25 (((g_upd (g_upd M 58 (M 41 26).toNatClampNeg v1) 59 ((g_upd M 58 (M 41 26).toNatClampNeg v1) 41 26).toNatClampNeg ((g_upd M 58 (M 41 26).toNatClampNeg v1) 41 25)) 41 25) + (1 : Int32))) 41 26))]) (st := []) (r := u3.1) (M1 := u3.2) (z_X9_readsAll hok  c4) cw_X9_readsAll ml_X9_153 (show g_lay[41]? = some _ from rfl) rfl rfl (by decide) (Nat.le_of_ble_eq_true rfl) rfl dX9_statement_85 ?_
  refine go_if_eq (pc := 88) (tgt := 100) dX9_statement_88 (by decide) (fun e8 => ?_) (fun e8 => ?_)
  · replace h := (if_pos e8).symm.trans h
    refine go_iconst (pc := 100) (v := (0 : Int32)) dX9_statement_100 (by decide) ?_
    exact go_iret (pc := 101) (Option.some.inj h).symm rfl dX9_statement_101 rfl
  · replace h := (if_neg e8).symm.trans h
    refine go_aload_n (pc := 91) dX9_statement_91 rfl ?_
    obtain ⟨u5, c6, h⟩ := g_bd h
    refine go_callV (pc := 92) (as := []) (st := []) (r := u5.1) (M1 := u5.2) (z_X9_next hok  c6) cw_X9_next ml_X9_131 (show g_lay[41]? = some _ from rfl) rfl rfl (by decide) (Nat.le_of_ble_eq_true rfl) rfl dX9_statement_92 ?_
    refine go_bipush (pc := 95) (v := (59 : Int32)) dX9_statement_95 (by decide) ?_
    refine go_icmp_eq (pc := 97) (tgt := 102) dX9_statement_97 (by decide) (fun e7 => ?_) (fun e7 => ?_)
    · replace h := (if_pos e7).symm.trans h
      refine go_aload_n (pc := 102) dX9_statement_102 rfl ?_
      refine go_dup (pc := 103) dX9_statement_103 ?_
      refine gf_9_128 (pc := 104) dX9_statement_104 ?_
      refine go_iconst (pc := 107) (v := (1 : Int32)) dX9_statement_107 (by decide) ?_
      refine go_iadd (pc := 108) dX9_statement_108 ?_
      refine gp_9_128 (pc := 109) dX9_statement_109 ?_
      refine go_iconst (pc := 112) (v := (1 : Int32)) dX9_statement_112 (by decide) ?_
      exact go_iret (pc := 113) (Option.some.inj h).symm rfl dX9_statement_113 rfl
    · replace h := (if_neg e7).symm.trans h
      refine go_iconst (pc := 100) (v := (0 : Int32)) dX9_statement_100 (by decide) ?_
      exact go_iret (pc := 101) (Option.some.inj h).symm rfl dX9_statement_101 rfl
def x_X9_statement  (M : g_M) : Option (Int32 × g_M) := (((x_X9_next M).bind fun u9 => if u9.1 = (116 : Int32) then (x_X9_statement_L43   u9.1 u9.2) else (if u9.1 = (119 : Int32) then (x_X9_statement_L43   u9.1 u9.2) else (if u9.1 = (114 : Int32) then (x_X9_statement_L43   u9.1 u9.2) else (if u9.1 = (98 : Int32) then (x_X9_statement_L43   u9.1 u9.2) else (if u9.1 = (108 : Int32) then (x_X9_statement_L43   u9.1 u9.2) else (if u9.1 = (101 : Int32) then (x_X9_statement_L43   u9.1 u9.2) else (some ((0 : Int32), u9.2)))))))))
set_option maxHeartbeats 4000000 in
set_option maxRecDepth 100000 in
theorem z_X9_statement {X : g_X} (hok : g_ok X)  {M : g_M} {r : Int32 × g_M} (h : x_X9_statement  M = some r) : g_Con X yX9_statement cX9_statement 2 (some .boolean) 4 90 [.inr 41] M r := by
  rw [x_X9_statement] at h
  refine g_con hok (plainFor_of_name (by decide +kernel)) (Nat.le_of_ble_eq_true rfl) (go_to (lv2 := [some (.inr 41), none]) (own := RX9) ?_ (And.intro rfl trivial))
  refine go_aload_n (pc := 0) dX9_statement_0 rfl ?_
  obtain ⟨u9, c10, h⟩ := g_bd h
  refine go_callV (pc := 1) (as := []) (st := []) (r := u9.1) (M1 := u9.2) (z_X9_next hok  c10) cw_X9_next ml_X9_131 (show g_lay[41]? = some _ from rfl) rfl rfl (by decide) (Nat.le_of_ble_eq_true rfl) rfl dX9_statement_1 ?_
  refine go_istore_n (pc := 4) (lv' := [some (.inr 41), some (.inl u9.1)]) dX9_statement_4 (by decide) rfl ?_
  refine go_iload_n (pc := 5) dX9_statement_5 rfl ?_
  refine go_bipush (pc := 6) (v := (116 : Int32)) dX9_statement_6 (by decide) ?_
  refine go_icmp_eq (pc := 8) (tgt := 43) dX9_statement_8 (by decide) (fun e16 => ?_) (fun e16 => ?_)
  · replace h := (if_pos e16).symm.trans h
    exact go_to (z_X9_statement_L43 hok   h) (And.intro rfl (And.intro rfl trivial))
  · replace h := (if_neg e16).symm.trans h
    refine go_iload_n (pc := 11) dX9_statement_11 rfl ?_
    refine go_bipush (pc := 12) (v := (119 : Int32)) dX9_statement_12 (by decide) ?_
    refine go_icmp_eq (pc := 14) (tgt := 43) dX9_statement_14 (by decide) (fun e15 => ?_) (fun e15 => ?_)
    · replace h := (if_pos e15).symm.trans h
      exact go_to (z_X9_statement_L43 hok   h) (And.intro rfl (And.intro rfl trivial))
    · replace h := (if_neg e15).symm.trans h
      refine go_iload_n (pc := 17) dX9_statement_17 rfl ?_
      refine go_bipush (pc := 18) (v := (114 : Int32)) dX9_statement_18 (by decide) ?_
      refine go_icmp_eq (pc := 20) (tgt := 43) dX9_statement_20 (by decide) (fun e14 => ?_) (fun e14 => ?_)
      · replace h := (if_pos e14).symm.trans h
        exact go_to (z_X9_statement_L43 hok   h) (And.intro rfl (And.intro rfl trivial))
      · replace h := (if_neg e14).symm.trans h
        refine go_iload_n (pc := 23) dX9_statement_23 rfl ?_
        refine go_bipush (pc := 24) (v := (98 : Int32)) dX9_statement_24 (by decide) ?_
        refine go_icmp_eq (pc := 26) (tgt := 43) dX9_statement_26 (by decide) (fun e13 => ?_) (fun e13 => ?_)
        · replace h := (if_pos e13).symm.trans h
          exact go_to (z_X9_statement_L43 hok   h) (And.intro rfl (And.intro rfl trivial))
        · replace h := (if_neg e13).symm.trans h
          refine go_iload_n (pc := 29) dX9_statement_29 rfl ?_
          refine go_bipush (pc := 30) (v := (108 : Int32)) dX9_statement_30 (by decide) ?_
          refine go_icmp_eq (pc := 32) (tgt := 43) dX9_statement_32 (by decide) (fun e12 => ?_) (fun e12 => ?_)
          · replace h := (if_pos e12).symm.trans h
            exact go_to (z_X9_statement_L43 hok   h) (And.intro rfl (And.intro rfl trivial))
          · replace h := (if_neg e12).symm.trans h
            refine go_iload_n (pc := 35) dX9_statement_35 rfl ?_
            refine go_bipush (pc := 36) (v := (101 : Int32)) dX9_statement_36 (by decide) ?_
            refine go_icmp_eq (pc := 38) (tgt := 43) dX9_statement_38 (by decide) (fun e11 => ?_) (fun e11 => ?_)
            · replace h := (if_pos e11).symm.trans h
              exact go_to (z_X9_statement_L43 hok   h) (And.intro rfl (And.intro rfl trivial))
            · replace h := (if_neg e11).symm.trans h
              refine go_iconst (pc := 41) (v := (0 : Int32)) dX9_statement_41 (by decide) ?_
              exact go_iret (pc := 42) (Option.some.inj h).symm rfl dX9_statement_42 rfl
def x_X9_comesRing  (p1 : Int32) (M : g_M) : Option (Int32 × g_M) := ((if g_inb (p1 + (1 : Int32)) 336 = true then (if (60 : Int32) < (M 60 (p1 + (1 : Int32)).toNatClampNeg) then (some ((0 : Int32), M)) else (if (M 41 15) = (6 : Int32) then (some ((0 : Int32), M)) else ((if g_inb p1 336 = true then ((if g_inb (M 41 15) 6 = true then ((if g_inb (p1 + (1 : Int32)) 336 = true then ((if g_inb ((g_upd M 45 (M 41 15).toNatClampNeg (M 60 p1.toNatClampNeg)) 41 15) 6 = true then (some ((1 : Int32), (g_upd (g_upd (g_upd M 45 (M 41 15).toNatClampNeg (M 60 p1.toNatClampNeg)) 46 ((g_upd M 45 (M 41 15).toNatClampNeg (M 60 p1.toNatClampNeg)) 41 15).toNatClampNeg ((g_upd M 45 (M 41 15).toNatClampNeg (M 60 p1.toNatClampNeg)) 60 (p1 + (1 : Int32)).toNatClampNeg)) 41 15 (((g_upd (g_upd M 45 (M 41 15).toNatClampNeg (M 60 p1.toNatClampNeg)) 46 ((g_upd M 45 (M 41 15).toNatClampNeg (M 60 p1.toNatClampNeg)) 41 15).toNatClampNeg ((g_upd M 45 (M 41 15).toNatClampNeg (M 60 p1.toNatClampNeg)) 60 (p1 + (1 : Int32)).toNatClampNeg)) 41 15) + (1 : Int32))))) else none)) else none)) else none)) else none)))) else none))
set_option maxHeartbeats 4000000 in
set_option maxRecDepth 100000 in
theorem z_X9_comesRing {X : g_X} (hok : g_ok X)  {p1 : Int32} {M : g_M} {r : Int32 × g_M} (h : x_X9_comesRing p1 M = some r) : g_Con X yX9_comesRing cX9_comesRing 2 (some .boolean) 0 0 [.inr 41, .inl p1] M r := by
  rw [x_X9_comesRing] at h
  refine g_con hok (plainFor_of_name (by decide +kernel)) (Nat.le_of_ble_eq_true rfl) (go_to (lv2 := [some (.inr 41), some (.inl p1)]) (own := RX9) ?_ (And.intro rfl (And.intro rfl trivial)))
  refine go_aload_n (pc := 0) dX9_comesRing_0 rfl ?_
  refine gf_9_64 (pc := 1) dX9_comesRing_1 ?_
  refine go_iload_n (pc := 4) dX9_comesRing_4 rfl ?_
  refine go_iconst (pc := 5) (v := (1 : Int32)) dX9_comesRing_5 (by decide) ?_
  refine go_iadd (pc := 6) dX9_comesRing_6 ?_
  obtain ⟨i1, h⟩ := g_gd h
  refine go_iald (pc := 7) (n := 336) rfl (g_inb_ok i1) dX9_comesRing_7 ?_
  refine go_bipush (pc := 8) (v := (60 : Int32)) dX9_comesRing_8 (by decide) ?_
  refine go_icmp_gt (pc := 10) (tgt := 22) dX9_comesRing_10 (by decide) (fun e7 => ?_) (fun e7 => ?_)
  · replace h := (if_pos e7).symm.trans h
    refine go_iconst (pc := 22) (v := (0 : Int32)) dX9_comesRing_22 (by decide) ?_
    exact go_iret (pc := 23) (Option.some.inj h).symm rfl dX9_comesRing_23 rfl
  · replace h := (if_neg e7).symm.trans h
    refine go_aload_n (pc := 13) dX9_comesRing_13 rfl ?_
    refine gf_9_110 (pc := 14) dX9_comesRing_14 ?_
    refine go_bipush (pc := 17) (v := (6 : Int32)) dX9_comesRing_17 (by decide) ?_
    refine go_icmp_ne (pc := 19) (tgt := 24) dX9_comesRing_19 (by decide) (fun e6 => ?_) (fun e6 => ?_)
    · replace h := (if_neg e6).symm.trans h
      refine go_aload_n (pc := 24) dX9_comesRing_24 rfl ?_
      refine gf_9_19 (pc := 25) dX9_comesRing_25 ?_
      refine go_aload_n (pc := 28) dX9_comesRing_28 rfl ?_
      refine gf_9_110 (pc := 29) dX9_comesRing_29 ?_
      refine go_aload_n (pc := 32) dX9_comesRing_32 rfl ?_
      refine gf_9_64 (pc := 33) dX9_comesRing_33 ?_
      refine go_iload_n (pc := 36) dX9_comesRing_36 rfl ?_
      obtain ⟨i2, h⟩ := g_gd h
      refine go_iald (pc := 37) (n := 336) rfl (g_inb_ok i2) dX9_comesRing_37 ?_
      obtain ⟨i3, h⟩ := g_gd h
      refine go_iast (pc := 38) (n := 6) rfl (g_inb_ok i3) dX9_comesRing_38 ?_
      refine go_aload_n (pc := 39) dX9_comesRing_39 rfl ?_
      refine gf_9_22 (pc := 40) dX9_comesRing_40 ?_
      refine go_aload_n (pc := 43) dX9_comesRing_43 rfl ?_
      refine gf_9_110 (pc := 44) dX9_comesRing_44 ?_
      refine go_aload_n (pc := 47) dX9_comesRing_47 rfl ?_
      refine gf_9_64 (pc := 48) dX9_comesRing_48 ?_
      refine go_iload_n (pc := 51) dX9_comesRing_51 rfl ?_
      refine go_iconst (pc := 52) (v := (1 : Int32)) dX9_comesRing_52 (by decide) ?_
      refine go_iadd (pc := 53) dX9_comesRing_53 ?_
      obtain ⟨i4, h⟩ := g_gd h
      refine go_iald (pc := 54) (n := 336) rfl (g_inb_ok i4) dX9_comesRing_54 ?_
      obtain ⟨i5, h⟩ := g_gd h
      refine go_iast (pc := 55) (n := 6) rfl (g_inb_ok i5) dX9_comesRing_55 ?_
      refine go_aload_n (pc := 56) dX9_comesRing_56 rfl ?_
      refine go_dup (pc := 57) dX9_comesRing_57 ?_
      refine gf_9_110 (pc := 58) dX9_comesRing_58 ?_
      refine go_iconst (pc := 61) (v := (1 : Int32)) dX9_comesRing_61 (by decide) ?_
      refine go_iadd (pc := 62) dX9_comesRing_62 ?_
      refine gp_9_110 (pc := 63) dX9_comesRing_63 ?_
      refine go_iconst (pc := 66) (v := (1 : Int32)) dX9_comesRing_66 (by decide) ?_
      exact go_iret (pc := 67) (Option.some.inj h).symm rfl dX9_comesRing_67 rfl
    · replace h := (if_pos e6).symm.trans h
      refine go_iconst (pc := 22) (v := (0 : Int32)) dX9_comesRing_22 (by decide) ?_
      exact go_iret (pc := 23) (Option.some.inj h).symm rfl dX9_comesRing_23 rfl
def x_X9_comesBoat  (p1 : Int32) (M : g_M) : Option (Int32 × g_M) := ((if g_inb p1 336 = true then (if (5 : Int32) < (M 60 p1.toNatClampNeg) then (some ((0 : Int32), M)) else ((if g_inb (p1 + (2 : Int32)) 336 = true then (((x_X9_isRing (M 60 (p1 + (2 : Int32)).toNatClampNeg) M).bind fun u3 => if u3.1 = 0 then (some ((0 : Int32), u3.2)) else ((if g_inb (p1 + (3 : Int32)) 336 = true then (((x_X9_isRing (u3.2 60 (p1 + (3 : Int32)).toNatClampNeg) u3.2).bind fun u6 => if u6.1 = 0 then (some ((0 : Int32), u6.2)) else ((if g_inb (p1 + (5 : Int32)) 336 = true then (((x_X9_isIn (u6.2 60 (p1 + (5 : Int32)).toNatClampNeg) (1 : Int32) (20 : Int32) u6.2).bind fun u9 => if u9.1 = 0 then (some ((0 : Int32), u9.2)) else (if (u9.2 41 16) = (5 : Int32) then (some ((0 : Int32), u9.2)) else ((if g_inb p1 336 = true then ((if g_inb (u9.2 41 16) 5 = true then ((if g_inb (p1 + (1 : Int32)) 336 = true then ((if g_inb ((g_upd u9.2 48 (u9.2 41 16).toNatClampNeg (u9.2 60 p1.toNatClampNeg)) 41 16) 5 = true then ((if g_inb (p1 + (2 : Int32)) 336 = true then ((if g_inb ((g_upd (g_upd u9.2 48 (u9.2 41 16).toNatClampNeg (u9.2 60 p1.toNatClampNeg)) 49 ((g_upd u9.2 48 (u9.2 41 16).toNatClampNeg (u9.2 60 p1.toNatClampNeg)) 41 16).toNatClampNeg ((g_upd u9.2 48 (u9.2 41 16).toNatClampNeg (u9.2 60 p1.toNatClampNeg)) 60 (p1 + (1 : Int32)).toNatClampNeg)) 41 16) 5 = true then ((if g_inb (p1 + (3 : Int32)) 336 = true then ((if g_inb ((g_upd (g_upd (g_upd u9.2 48 (u9.2 41 16).toNatClampNeg (u9.2 60 p1.toNatClampNeg)) 49 ((g_upd u9.2 48 (u9.2 41 16).toNatClampNeg (u9.2 60 p1.toNatClampNeg)) 41 16).toNatClampNeg ((g_upd u9.2 48 (u9.2 41 16).toNatClampNeg (u9.2 60 p1.toNatClampNeg)) 60 (p1 + (1 : Int32)).toNatClampNeg)) 50 ((g_upd (g_upd u9.2 48 (u9.2 41 16).toNatClampNeg (u9.2 60 p1.toNatClampNeg)) 49 ((g_upd u9.2 48 (u9.2 41 16).toNatClampNeg (u9.2 60 p1.toNatClampNeg)) 41 16).toNatClampNeg ((g_upd u9.2 48 (u9.2 41 16).toNatClampNeg (u9.2 60 p1.toNatClampNeg)) 60 (p1 + (1 : Int32)).toNatClampNeg)) 41 16).toNatClampNeg ((g_upd (g_upd u9.2 48 (u9.2 41 16).toNatClampNeg (u9.2 60 p1.toNatClampNeg)) 49 ((g_upd u9.2 48 (u9.2 41 16).toNatClampNeg (u9.2 60 p1.toNatClampNeg)) 41 16).toNatClampNeg ((g_upd u9.2 48 (u9.2 41 16).toNatClampNeg (u9.2 60 p1.toNatClampNeg)) 60 (p1 + (1 : Int32)).toNatClampNeg)) 60 (p1 + (2 : Int32)).toNatClampNeg)) 41 16) 5 = true then ((if g_inb (p1 + (4 : Int32)) 336 = true then ((if g_inb ((g_upd (g_upd (g_upd (g_upd u9.2 48 (u9.2 41 16).toNatClampNeg (u9.2 60 p1.toNatClampNeg)) 49 ((g_upd u9.2 48 (u9.2 41 16).toNatClampNeg (u9.2 60 p1.toNatClampNeg)) 41 16).toNatClampNeg ((g_upd u9.2 48 (u9.2 41 16).toNatClampNeg (u9.2 60 p1.toNatClampNeg)) 60 (p1 + (1 : Int32)).toNatClampNeg)) 50 ((g_upd (g_upd u9.2 48 (u9.2 41 16).toNatClampNeg (u9.2 60 p1.toNatClampNeg)) 49 ((g_upd u9.2 48 (u9.2 41 16).toNatClampNeg (u9.2 60 p1.toNatClampNeg)) 41 16).toNatClampNeg ((g_upd u9.2 48 (u9.2 41 16).toNatClampNeg (u9.2 60 p1.toNatClampNeg)) 60 (p1 + (1 : Int32)).toNatClampNeg)) 41 16).toNatClampNeg ((g_upd (g_upd u9.2 48 (u9.2 41 16).toNatClampNeg (u9.2 60 p1.toNatClampNeg)) 49 ((g_upd u9.2 48 (u9.2 41 16).toNatClampNeg (u9.2 60 p1.toNatClampNeg)) 41 16).toNatClampNeg ((g_upd u9.2 48 (u9.2 41 16).toNatClampNeg (u9.2 60 p1.toNatClampNeg)) 60 (p1 + (1 : Int32)).toNatClampNeg)) 60 (p1 + (2 : Int32)).toNatClampNeg)) 51 ((g_upd (g_upd (g_upd u9.2 48 (u9.2 41 16).toNatClampNeg (u9.2 60 p1.toNatClampNeg)) 49 ((g_upd u9.2 48 (u9.2 41 16).toNatClampNeg (u9.2 60 p1.toNatClampNeg)) 41 16).toNatClampNeg ((g_upd u9.2 48 (u9.2 41 16).toNatClampNeg (u9.2 60 p1.toNatClampNeg)) 60 (p1 + (1 : Int32)).toNatClampNeg)) 50 ((g_upd (g_upd u9.2 48 (u9.2 41 16).toNatClampNeg (u9.2 60 p1.toNatClampNeg)) 49 ((g_upd u9.2 48 (u9.2 41 16).toNatClampNeg (u9.2 60 p1.toNatClampNeg)) 41 16).toNatClampNeg ((g_upd u9.2 48 (u9.2 41 16).toNatClampNeg (u9.2 60 p1.toNatClampNeg)) 60 (p1 + (1 : Int32)).toNatClampNeg)) 41 16).toNatClampNeg ((g_upd (g_upd u9.2 48 (u9.2 41 16).toNatClampNeg (u9.2 60 p1.toNatClampNeg)) 49 ((g_upd u9.2 48 (u9.2 41 16).toNatClampNeg (u9.2 60 p1.toNatClampNeg)) 41 16).toNatClampNeg ((g_upd u9.2 48 (u9.2 41 16).toNatClampNeg (u9.2 60 p1.toNatClampNeg)) 60 (p1 + (1 : Int32)).toNatClampNeg)) 60 (p1 + (2 : Int32)).toNatClampNeg)) 41 16).toNatClampNeg ((g_upd (g_upd (g_upd u9.2 48 (u9.2 41 16).toNatClampNeg (u9.2 60 p1.toNatClampNeg)) 49 ((g_upd u9.2 48 (u9.2 41 16).toNatClampNeg (u9.2 60 p1.toNatClampNeg)) 41 16).toNatClampNeg ((g_upd u9.2 48 (u9.2 41 16).toNatClampNeg (u9.2 60 p1.toNatClampNeg)) 60 (p1 + (1 : Int32)).toNatClampNeg)) 50 ((g_upd (g_upd u9.2 48 (u9.2 41 16).toNatClampNeg (u9.2 60 p1.toNatClampNeg)) 49 ((g_upd u9.2 48 (u9.2 41 16).toNatClampNeg (u9.2 60 p1.toNatClampNeg)) 41 16).toNatClampNeg ((g_upd u9.2 48 (u9.2 41 16).toNatClampNeg (u9.2 60 p1.toNatClampNeg)) 60 (p1 + (1 : Int32)).toNatClampNeg)) 41 16).toNatClampNeg ((g_upd (g_upd u9.2 48 (u9.2 41 16).toNatClampNeg (u9.2 60 p1.toNatClampNeg)) 49 ((g_upd u9.2 48 (u9.2 41 16).toNatClampNeg (u9.2 60 p1.toNatClampNeg)) 41 16).toNatClampNeg ((g_upd u9.2 48 (u9.2 41 16).toNatClampNeg (u9.2 60 p1.toNatClampNeg)) 60 (p1 + (1 : Int32)).toNatClampNeg)) 60 (p1 + (2 : Int32)).toNatClampNeg)) 60 (p1 + (3 : Int32)).toNatClampNeg)) 41 16) 5 = true then ((if g_inb (p1 + (5 : Int32)) 336 = true then ((if g_inb ((g_upd (g_upd (g_upd (g_upd (g_upd u9.2 48 (u9.2 41 16).toNatClampNeg (u9.2 60 p1.toNatClampNeg)) 49 ((g_upd u9.2 48 (u9.2 41 16).toNatClampNeg (u9.2 60 p1.toNatClampNeg)) 41 16).toNatClampNeg ((g_upd u9.2 48 (u9.2 41 16).toNatClampNeg (u9.2 60 p1.toNatClampNeg)) 60 (p1 + (1 : Int32)).toNatClampNeg)) 50 ((g_upd (g_upd u9.2 48 (u9.2 41 16).toNatClampNeg (u9.2 60 p1.toNatClampNeg)) 49 ((g_upd u9.2 48 (u9.2 41 16).toNatClampNeg (u9.2 60 p1.toNatClampNeg)) 41 16).toNatClampNeg ((g_upd u9.2 48 (u9.2 41 16).toNatClampNeg (u9.2 60 p1.toNatClampNeg)) 60 (p1 + (1 : Int32)).toNatClampNeg)) 41 16).toNatClampNeg ((g_upd (g_upd u9.2 48 (u9.2 41 16).toNatClampNeg (u9.2 60 p1.toNatClampNeg)) 49 ((g_upd u9.2 48 (u9.2 41 16).toNatClampNeg (u9.2 60 p1.toNatClampNeg)) 41 16).toNatClampNeg ((g_upd u9.2 48 (u9.2 41 16).toNatClampNeg (u9.2 60 p1.toNatClampNeg)) 60 (p1 + (1 : Int32)).toNatClampNeg)) 60 (p1 + (2 : Int32)).toNatClampNeg)) 51 ((g_upd (g_upd (g_upd u9.2 48 (u9.2 41 16).toNatClampNeg (u9.2 60 p1.toNatClampNeg)) 49 ((g_upd u9.2 48 (u9.2 41 16).toNatClampNeg (u9.2 60 p1.toNatClampNeg)) 41 16).toNatClampNeg ((g_upd u9.2 48 (u9.2 41 16).toNatClampNeg (u9.2 60 p1.toNatClampNeg)) 60 (p1 + (1 : Int32)).toNatClampNeg)) 50 ((g_upd (g_upd u9.2 48 (u9.2 41 16).toNatClampNeg (u9.2 60 p1.toNatClampNeg)) 49 ((g_upd u9.2 48 (u9.2 41 16).toNatClampNeg (u9.2 60 p1.toNatClampNeg)) 41 16).toNatClampNeg ((g_upd u9.2 48 (u9.2 41 16).toNatClampNeg (u9.2 60 p1.toNatClampNeg)) 60 (p1 + (1 : Int32)).toNatClampNeg)) 41 16).toNatClampNeg ((g_upd (g_upd u9.2 48 (u9.2 41 16).toNatClampNeg (u9.2 60 p1.toNatClampNeg)) 49 ((g_upd u9.2 48 (u9.2 41 16).toNatClampNeg (u9.2 60 p1.toNatClampNeg)) 41 16).toNatClampNeg ((g_upd u9.2 48 (u9.2 41 16).toNatClampNeg (u9.2 60 p1.toNatClampNeg)) 60 (p1 + (1 : Int32)).toNatClampNeg)) 60 (p1 + (2 : Int32)).toNatClampNeg)) 41 16).toNatClampNeg ((g_upd (g_upd (g_upd u9.2 48 (u9.2 41 16).toNatClampNeg (u9.2 60 p1.toNatClampNeg)) 49 ((g_upd u9.2 48 (u9.2 41 16).toNatClampNeg (u9.2 60 p1.toNatClampNeg)) 41 16).toNatClampNeg ((g_upd u9.2 48 (u9.2 41 16).toNatClampNeg (u9.2 60 p1.toNatClampNeg)) 60 (p1 + (1 : Int32)).toNatClampNeg)) 50 ((g_upd (g_upd u9.2 48 (u9.2 41 16).toNatClampNeg (u9.2 60 p1.toNatClampNeg)) 49 ((g_upd u9.2 48 (u9.2 41 16).toNatClampNeg (u9.2 60 p1.toNatClampNeg)) 41 16).toNatClampNeg ((g_upd u9.2 48 (u9.2 41 16).toNatClampNeg (u9.2 60 p1.toNatClampNeg)) 60 (p1 + (1 : Int32)).toNatClampNeg)) 41 16).toNatClampNeg ((g_upd (g_upd u9.2 48 (u9.2 41 16).toNatClampNeg (u9.2 60 p1.toNatClampNeg)) 49 ((g_upd u9.2 48 (u9.2 41 16).toNatClampNeg (u9.2 60 p1.toNatClampNeg)) 41 16).toNatClampNeg ((g_upd u9.2 48 (u9.2 41 16).toNatClampNeg (u9.2 60 p1.toNatClampNeg)) 60 (p1 + (1 : Int32)).toNatClampNeg)) 60 (p1 + (2 : Int32)).toNatClampNeg)) 60 (p1 + (3 : Int32)).toNatClampNeg)) 52 ((g_upd (g_upd (g_upd (g_upd u9.2 48 (u9.2 41 16).toNatClampNeg (u9.2 60 p1.toNatClampNeg)) 49 ((g_upd u9.2 48 (u9.2 41 16).toNatClampNeg (u9.2 60 p1.toNatClampNeg)) 41 16).toNatClampNeg ((g_upd u9.2 48 (u9.2 41 16).toNatClampNeg (u9.2 60 p1.toNatClampNeg)) 60 (p1 + (1 : Int32)).toNatClampNeg)) 50 ((g_upd (g_upd u9.2 48 (u9.2 41 16).toNatClampNeg (u9.2 60 p1.toNatClampNeg)) 49 ((g_upd u9.2 48 (u9.2 41 16).toNatClampNeg (u9.2 60 p1.toNatClampNeg)) 41 16).toNatClampNeg ((g_upd u9.2 48 (u9.2 41 16).toNatClampNeg (u9.2 60 p1.toNatClampNeg)) 60 (p1 + (1 : Int32)).toNatClampNeg)) 41 16).toNatClampNeg ((g_upd (g_upd u9.2 48 (u9.2 41 16).toNatClampNeg (u9.2 60 p1.toNatClampNeg)) 49 ((g_upd u9.2 48 (u9.2 41 16).toNatClampNeg (u9.2 60 p1.toNatClampNeg)) 41 16).toNatClampNeg ((g_upd u9.2 48 (u9.2 41 16).toNatClampNeg (u9.2 60 p1.toNatClampNeg)) 60 (p1 + (1 : Int32)).toNatClampNeg)) 60 (p1 + (2 : Int32)).toNatClampNeg)) 51 ((g_upd (g_upd (g_upd u9.2 48 (u9.2 41 16).toNatClampNeg (u9.2 60 p1.toNatClampNeg)) 49 ((g_upd u9.2 48 (u9.2 41 16).toNatClampNeg (u9.2 60 p1.toNatClampNeg)) 41 16).toNatClampNeg ((g_upd u9.2 48 (u9.2 41 16).toNatClampNeg (u9.2 60 p1.toNatClampNeg)) 60 (p1 + (1 : Int32)).toNatClampNeg)) 50 ((g_upd (g_upd u9.2 48 (u9.2 41 16).toNatClampNeg (u9.2 60 p1.toNatClampNeg)) 49 ((g_upd u9.2 48 (u9.2 41 16).toNatClampNeg (u9.2 60 p1.toNatClampNeg)) 41 16).toNatClampNeg ((g_upd u9.2 48 (u9.2 41 16).toNatClampNeg (u9.2 60 p1.toNatClampNeg)) 60 (p1 + (1 : Int32)).toNatClampNeg)) 41 16).toNatClampNeg ((g_upd (g_upd u9.2 48 (u9.2 41 16).toNatClampNeg (u9.2 60 p1.toNatClampNeg)) 49 ((g_upd u9.2 48 (u9.2 41 16).toNatClampNeg (u9.2 60 p1.toNatClampNeg)) 41 16).toNatClampNeg ((g_upd u9.2 48 (u9.2 41 16).toNatClampNeg (u9.2 60 p1.toNatClampNeg)) 60 (p1 + (1 : Int32)).toNatClampNeg)) 60 (p1 + (2 : Int32)).toNatClampNeg)) 41 16).toNatClampNeg ((g_upd (g_upd (g_upd u9.2 48 (u9.2 41 16).toNatClampNeg (u9.2 60 p1.toNatClampNeg)) 49 ((g_upd u9.2 48 (u9.2 41 16).toNatClampNeg (u9.2 60 p1.toNatClampNeg)) 41 16).toNatClampNeg ((g_upd u9.2 48 (u9.2 41 16).toNatClampNeg (u9.2 60 p1.toNatClampNeg)) 60 (p1 + (1 : Int32)).toNatClampNeg)) 50 ((g_upd (g_upd u9.2 48 (u9.2 41 16).toNatClampNeg (u9.2 60 p1.toNatClampNeg)) 49 ((g_upd u9.2 48 (u9.2 41 16).toNatClampNeg (u9.2 60 p1.toNatClampNeg)) 41 16).toNatClampNeg ((g_upd u9.2 48 (u9.2 41 16).toNatClampNeg (u9.2 60 p1.toNatClampNeg)) 60 (p1 + (1 : Int32)).toNatClampNeg)) 41 16).toNatClampNeg ((g_upd (g_upd u9.2 48 (u9.2 41 16).toNatClampNeg (u9.2 60 p1.toNatClampNeg)) 49 ((g_upd u9.2 48 (u9.2 41 16).toNatClampNeg (u9.2 60 p1.toNatClampNeg)) 41 16).toNatClampNeg ((g_upd u9.2 48 (u9.2 41 16).toNatClampNeg (u9.2 60 p1.toNatClampNeg)) 60 (p1 + (1 : Int32)).toNatClampNeg)) 60 (p1 + (2 : Int32)).toNatClampNeg)) 60 (p1 + (3 : Int32)).toNatClampNeg)) 41 16).toNatClampNeg ((g_upd (g_upd (g_upd (g_upd u9.2 48 (u9.2 41 16).toNatClampNeg (u9.2 60 p1.toNatClampNeg)) 49 ((g_upd u9.2 48 (u9.2 41 16).toNatClampNeg (u9.2 60 p1.toNatClampNeg)) 41 16).toNatClampNeg ((g_upd u9.2 48 (u9.2 41 16).toNatClampNeg (u9.2 60 p1.toNatClampNeg)) 60 (p1 + (1 : Int32)).toNatClampNeg)) 50 ((g_upd (g_upd u9.2 48 (u9.2 41 16).toNatClampNeg (u9.2 60 p1.toNatClampNeg)) 49 ((g_upd u9.2 48 (u9.2 41 16).toNatClampNeg (u9.2 60 p1.toNatClampNeg)) 41 16).toNatClampNeg ((g_upd u9.2 48 (u9.2 41 16).toNatClampNeg (u9.2 60 p1.toNatClampNeg)) 60 (p1 + (1 : Int32)).toNatClampNeg)) 41 16).toNatClampNeg ((g_upd (g_upd u9.2 48 (u9.2 41 16).toNatClampNeg (u9.2 60 p1.toNatClampNeg)) 49 ((g_upd u9.2 48 (u9.2 41 16).toNatClampNeg (u9.2 60 p1.toNatClampNeg)) 41 16).toNatClampNeg ((g_upd u9.2 48 (u9.2 41 16).toNatClampNeg (u9.2 60 p1.toNatClampNeg)) 60 (p1 + (1 : Int32)).toNatClampNeg)) 60 (p1 + (2 : Int32)).toNatClampNeg)) 51 ((g_upd (g_upd (g_upd u9.2 48 (u9.2 41 16).toNatClampNeg (u9.2 60 p1.toNatClampNeg)) 49 ((g_upd u9.2 48 (u9.2 41 16).toNatClampNeg (u9.2 60 p1.toNatClampNeg)) 41 16).toNatClampNeg ((g_upd u9.2 48 (u9.2 41 16).toNatClampNeg (u9.2 60 p1.toNatClampNeg)) 60 (p1 + (1 : Int32)).toNatClampNeg)) 50 ((g_upd (g_upd u9.2 48 (u9.2 41 16).toNatClampNeg (u9.2 60 p1.toNatClampNeg)) 49 ((g_upd u9.2 48 (u9.2 41 16).toNatClampNeg (u9.2 60 p1.toNatClampNeg)) 41 16).toNatClampNeg ((g_upd u9.2 48 (u9.2 41 16).toNatClampNeg (u9.2 60 p1.toNatClampNeg)) 60 (p1 + (1 : Int32)).toNatClampNeg)) 41 16).toNatClampNeg ((g_upd (g_upd u9.2 48 (u9.2 41 16).toNatClampNeg (u9.2 60 p1.toNatClampNeg)) 49 ((g_upd u9.2 48 (u9.2 41 16).toNatClampNeg (u9.2 60 p1.toNatClampNeg)) 41 16).toNatClampNeg ((g_upd u9.2 48 (u9.2 41 16).toNatClampNeg (u9.2 60 p1.toNatClampNeg)) 60 (p1 + (1 : Int32)).toNatClampNeg)) 60 (p1 + (2 : Int32)).toNatClampNeg)) 41 16).toNatClampNeg ((g_upd (g_upd (g_upd u9.2 48 (u9.2 41 16).toNatClampNeg (u9.2 60 p1.toNatClampNeg)) 49 ((g_upd u9.2 48 (u9.2 41 16).toNatClampNeg (u9.2 60 p1.toNatClampNeg)) 41 16).toNatClampNeg ((g_upd u9.2 48 (u9.2 41 16).toNatClampNeg (u9.2 60 p1.toNatClampNeg)) 60 (p1 + (1 : Int32)).toNatClampNeg)) 50 ((g_upd (g_upd u9.2 48 (u9.2 41 16).toNatClampNeg (u9.2 60 p1.toNatClampNeg)) 49 ((g_upd u9.2 48 (u9.2 41 16).toNatClampNeg (u9.2 60 p1.toNatClampNeg)) 41 16).toNatClampNeg ((g_upd u9.2 48 (u9.2 41 16).toNatClampNeg (u9.2 60 p1.toNatClampNeg)) 60 (p1 + (1 : Int32)).toNatClampNeg)) 41 16).toNatClampNeg ((g_upd (g_upd u9.2 48 (u9.2 41 16).toNatClampNeg (u9.2 60 p1.toNatClampNeg)) 49 ((g_upd u9.2 48 (u9.2 41 16).toNatClampNeg (u9.2 60 p1.toNatClampNeg)) 41 16).toNatClampNeg ((g_upd u9.2 48 (u9.2 41 16).toNatClampNeg (u9.2 60 p1.toNatClampNeg)) 60 (p1 + (1 : Int32)).toNatClampNeg)) 60 (p1 + (2 : Int32)).toNatClampNeg)) 60 (p1 + (3 : Int32)).toNatClampNeg)) 60 (p1 + (4 : Int32)).toNatClampNeg)) 41 16) 5 = true then ((if g_inb (p1 + (6 : Int32)) 336 = true then ((if g_inb ((g_upd (g_upd (g_upd (g_upd (g_upd (g_upd u9.2 48 (u9.2 41 16).toNatClampNeg (u9.2 60 p1.toNatClampNeg)) 49 ((g_upd u9.2 48 (u9.2 41 16).toNatClampNeg (u9.2 60 p1.toNatClampNeg)) 41 16).toNatClampNeg ((g_upd u9.2 48 (u9.2 41 16).toNatClampNeg (u9.2 60 p1.toNatClampNeg)) 60 (p1 + (1 : Int32)).toNatClampNeg)) 50 ((g_upd (g_upd u9.2 48 (u9.2 41 16).toNatClampNeg (u9.2 60 p1.toNatClampNeg)) 49 ((g_upd u9.2 48 (u9.2 41 16).toNatClampNeg (u9.2 60 p1.toNatClampNeg)) 41 16).toNatClampNeg ((g_upd u9.2 48 (u9.2 41 16).toNatClampNeg (u9.2 60 p1.toNatClampNeg)) 60 (p1 + (1 : Int32)).toNatClampNeg)) 41 16).toNatClampNeg ((g_upd (g_upd u9.2 48 (u9.2 41 16).toNatClampNeg (u9.2 60 p1.toNatClampNeg)) 49 ((g_upd u9.2 48 (u9.2 41 16).toNatClampNeg (u9.2 60 p1.toNatClampNeg)) 41 16).toNatClampNeg ((g_upd u9.2 48 (u9.2 41 16).toNatClampNeg (u9.2 60 p1.toNatClampNeg)) 60 (p1 + (1 : Int32)).toNatClampNeg)) 60 (p1 + (2 : Int32)).toNatClampNeg)) 51 ((g_upd (g_upd (g_upd u9.2 48 (u9.2 41 16).toNatClampNeg (u9.2 60 p1.toNatClampNeg)) 49 ((g_upd u9.2 48 (u9.2 41 16).toNatClampNeg (u9.2 60 p1.toNatClampNeg)) 41 16).toNatClampNeg ((g_upd u9.2 48 (u9.2 41 16).toNatClampNeg (u9.2 60 p1.toNatClampNeg)) 60 (p1 + (1 : Int32)).toNatClampNeg)) 50 ((g_upd (g_upd u9.2 48 (u9.2 41 16).toNatClampNeg (u9.2 60 p1.toNatClampNeg)) 49 ((g_upd u9.2 48 (u9.2 41 16).toNatClampNeg (u9.2 60 p1.toNatClampNeg)) 41 16).toNatClampNeg ((g_upd u9.2 48 (u9.2 41 16).toNatClampNeg (u9.2 60 p1.toNatClampNeg)) 60 (p1 + (1 : Int32)).toNatClampNeg)) 41 16).toNatClampNeg ((g_upd (g_upd u9.2 48 (u9.2 41 16).toNatClampNeg (u9.2 60 p1.toNatClampNeg)) 49 ((g_upd u9.2 48 (u9.2 41 16).toNatClampNeg (u9.2 60 p1.toNatClampNeg)) 41 16).toNatClampNeg ((g_upd u9.2 48 (u9.2 41 16).toNatClampNeg (u9.2 60 p1.toNatClampNeg)) 60 (p1 + (1 : Int32)).toNatClampNeg)) 60 (p1 + (2 : Int32)).toNatClampNeg)) 41 16).toNatClampNeg ((g_upd (g_upd (g_upd u9.2 48 (u9.2 41 16).toNatClampNeg (u9.2 60 p1.toNatClampNeg)) 49 ((g_upd u9.2 48 (u9.2 41 16).toNatClampNeg (u9.2 60 p1.toNatClampNeg)) 41 16).toNatClampNeg ((g_upd u9.2 48 (u9.2 41 16).toNatClampNeg (u9.2 60 p1.toNatClampNeg)) 60 (p1 + (1 : Int32)).toNatClampNeg)) 50 ((g_upd (g_upd u9.2 48 (u9.2 41 16).toNatClampNeg (u9.2 60 p1.toNatClampNeg)) 49 ((g_upd u9.2 48 (u9.2 41 16).toNatClampNeg (u9.2 60 p1.toNatClampNeg)) 41 16).toNatClampNeg ((g_upd u9.2 48 (u9.2 41 16).toNatClampNeg (u9.2 60 p1.toNatClampNeg)) 60 (p1 + (1 : Int32)).toNatClampNeg)) 41 16).toNatClampNeg ((g_upd (g_upd u9.2 48 (u9.2 41 16).toNatClampNeg (u9.2 60 p1.toNatClampNeg)) 49 ((g_upd u9.2 48 (u9.2 41 16).toNatClampNeg (u9.2 60 p1.toNatClampNeg)) 41 16).toNatClampNeg ((g_upd u9.2 48 (u9.2 41 16).toNatClampNeg (u9.2 60 p1.toNatClampNeg)) 60 (p1 + (1 : Int32)).toNatClampNeg)) 60 (p1 + (2 : Int32)).toNatClampNeg)) 60 (p1 + (3 : Int32)).toNatClampNeg)) 52 ((g_upd (g_upd (g_upd (g_upd u9.2 48 (u9.2 41 16).toNatClampNeg (u9.2 60 p1.toNatClampNeg)) 49 ((g_upd u9.2 48 (u9.2 41 16).toNatClampNeg (u9.2 60 p1.toNatClampNeg)) 41 16).toNatClampNeg ((g_upd u9.2 48 (u9.2 41 16).toNatClampNeg (u9.2 60 p1.toNatClampNeg)) 60 (p1 + (1 : Int32)).toNatClampNeg)) 50 ((g_upd (g_upd u9.2 48 (u9.2 41 16).toNatClampNeg (u9.2 60 p1.toNatClampNeg)) 49 ((g_upd u9.2 48 (u9.2 41 16).toNatClampNeg (u9.2 60 p1.toNatClampNeg)) 41 16).toNatClampNeg ((g_upd u9.2 48 (u9.2 41 16).toNatClampNeg (u9.2 60 p1.toNatClampNeg)) 60 (p1 + (1 : Int32)).toNatClampNeg)) 41 16).toNatClampNeg ((g_upd (g_upd u9.2 48 (u9.2 41 16).toNatClampNeg (u9.2 60 p1.toNatClampNeg)) 49 ((g_upd u9.2 48 (u9.2 41 16).toNatClampNeg (u9.2 60 p1.toNatClampNeg)) 41 16).toNatClampNeg ((g_upd u9.2 48 (u9.2 41 16).toNatClampNeg (u9.2 60 p1.toNatClampNeg)) 60 (p1 + (1 : Int32)).toNatClampNeg)) 60 (p1 + (2 : Int32)).toNatClampNeg)) 51 ((g_upd (g_upd (g_upd u9.2 48 (u9.2 41 16).toNatClampNeg (u9.2 60 p1.toNatClampNeg)) 49 ((g_upd u9.2 48 (u9.2 41 16).toNatClampNeg (u9.2 60 p1.toNatClampNeg)) 41 16).toNatClampNeg ((g_upd u9.2 48 (u9.2 41 16).toNatClampNeg (u9.2 60 p1.toNatClampNeg)) 60 (p1 + (1 : Int32)).toNatClampNeg)) 50 ((g_upd (g_upd u9.2 48 (u9.2 41 16).toNatClampNeg (u9.2 60 p1.toNatClampNeg)) 49 ((g_upd u9.2 48 (u9.2 41 16).toNatClampNeg (u9.2 60 p1.toNatClampNeg)) 41 16).toNatClampNeg ((g_upd u9.2 48 (u9.2 41 16).toNatClampNeg (u9.2 60 p1.toNatClampNeg)) 60 (p1 + (1 : Int32)).toNatClampNeg)) 41 16).toNatClampNeg ((g_upd (g_upd u9.2 48 (u9.2 41 16).toNatClampNeg (u9.2 60 p1.toNatClampNeg)) 49 ((g_upd u9.2 48 (u9.2 41 16).toNatClampNeg (u9.2 60 p1.toNatClampNeg)) 41 16).toNatClampNeg ((g_upd u9.2 48 (u9.2 41 16).toNatClampNeg (u9.2 60 p1.toNatClampNeg)) 60 (p1 + (1 : Int32)).toNatClampNeg)) 60 (p1 + (2 : Int32)).toNatClampNeg)) 41 16).toNatClampNeg ((g_upd (g_upd (g_upd u9.2 48 (u9.2 41 16).toNatClampNeg (u9.2 60 p1.toNatClampNeg)) 49 ((g_upd u9.2 48 (u9.2 41 16).toNatClampNeg (u9.2 60 p1.toNatClampNeg)) 41 16).toNatClampNeg ((g_upd u9.2 48 (u9.2 41 16).toNatClampNeg (u9.2 60 p1.toNatClampNeg)) 60 (p1 + (1 : Int32)).toNatClampNeg)) 50 ((g_upd (g_upd u9.2 48 (u9.2 41 16).toNatClampNeg (u9.2 60 p1.toNatClampNeg)) 49 ((g_upd u9.2 48 (u9.2 41 16).toNatClampNeg (u9.2 60 p1.toNatClampNeg)) 41 16).toNatClampNeg ((g_upd u9.2 48 (u9.2 41 16).toNatClampNeg (u9.2 60 p1.toNatClampNeg)) 60 (p1 + (1 : Int32)).toNatClampNeg)) 41 16).toNatClampNeg ((g_upd (g_upd u9.2 48 (u9.2 41 16).toNatClampNeg (u9.2 60 p1.toNatClampNeg)) 49 ((g_upd u9.2 48 (u9.2 41 16).toNatClampNeg (u9.2 60 p1.toNatClampNeg)) 41 16).toNatClampNeg ((g_upd u9.2 48 (u9.2 41 16).toNatClampNeg (u9.2 60 p1.toNatClampNeg)) 60 (p1 + (1 : Int32)).toNatClampNeg)) 60 (p1 + (2 : Int32)).toNatClampNeg)) 60 (p1 + (3 : Int32)).toNatClampNeg)) 41 16).toNatClampNeg ((g_upd (g_upd (g_upd (g_upd u9.2 48 (u9.2 41 16).toNatClampNeg (u9.2 60 p1.toNatClampNeg)) 49 ((g_upd u9.2 48 (u9.2 41 16).toNatClampNeg (u9.2 60 p1.toNatClampNeg)) 41 16).toNatClampNeg ((g_upd u9.2 48 (u9.2 41 16).toNatClampNeg (u9.2 60 p1.toNatClampNeg)) 60 (p1 + (1 : Int32)).toNatClampNeg)) 50 ((g_upd (g_upd u9.2 48 (u9.2 41 16).toNatClampNeg (u9.2 60 p1.toNatClampNeg)) 49 ((g_upd u9.2 48 (u9.2 41 16).toNatClampNeg (u9.2 60 p1.toNatClampNeg)) 41 16).toNatClampNeg ((g_upd u9.2 48 (u9.2 41 16).toNatClampNeg (u9.2 60 p1.toNatClampNeg)) 60 (p1 + (1 : Int32)).toNatClampNeg)) 41 16).toNatClampNeg ((g_upd (g_upd u9.2 48 (u9.2 41 16).toNatClampNeg (u9.2 60 p1.toNatClampNeg)) 49 ((g_upd u9.2 48 (u9.2 41 16).toNatClampNeg (u9.2 60 p1.toNatClampNeg)) 41 16).toNatClampNeg ((g_upd u9.2 48 (u9.2 41 16).toNatClampNeg (u9.2 60 p1.toNatClampNeg)) 60 (p1 + (1 : Int32)).toNatClampNeg)) 60 (p1 + (2 : Int32)).toNatClampNeg)) 51 ((g_upd (g_upd (g_upd u9.2 48 (u9.2 41 16).toNatClampNeg (u9.2 60 p1.toNatClampNeg)) 49 ((g_upd u9.2 48 (u9.2 41 16).toNatClampNeg (u9.2 60 p1.toNatClampNeg)) 41 16).toNatClampNeg ((g_upd u9.2 48 (u9.2 41 16).toNatClampNeg (u9.2 60 p1.toNatClampNeg)) 60 (p1 + (1 : Int32)).toNatClampNeg)) 50 ((g_upd (g_upd u9.2 48 (u9.2 41 16).toNatClampNeg (u9.2 60 p1.toNatClampNeg)) 49 ((g_upd u9.2 48 (u9.2 41 16).toNatClampNeg (u9.2 60 p1.toNatClampNeg)) 41 16).toNatClampNeg ((g_upd u9.2 48 (u9.2 41 16).toNatClampNeg (u9.2 60 p1.toNatClampNeg)) 60 (p1 + (1 : Int32)).toNatClampNeg)) 41 16).toNatClampNeg ((g_upd (g_upd u9.2 48 (u9.2 41 16).toNatClampNeg (u9.2 60 p1.toNatClampNeg)) 49 ((g_upd u9.2 48 (u9.2 41 16).toNatClampNeg (u9.2 60 p1.toNatClampNeg)) 41 16).toNatClampNeg ((g_upd u9.2 48 (u9.2 41 16).toNatClampNeg (u9.2 60 p1.toNatClampNeg)) 60 (p1 + (1 : Int32)).toNatClampNeg)) 60 (p1 + (2 : Int32)).toNatClampNeg)) 41 16).toNatClampNeg ((g_upd (g_upd (g_upd u9.2 48 (u9.2 41 16).toNatClampNeg (u9.2 60 p1.toNatClampNeg)) 49 ((g_upd u9.2 48 (u9.2 41 16).toNatClampNeg (u9.2 60 p1.toNatClampNeg)) 41 16).toNatClampNeg ((g_upd u9.2 48 (u9.2 41 16).toNatClampNeg (u9.2 60 p1.toNatClampNeg)) 60 (p1 + (1 : Int32)).toNatClampNeg)) 50 ((g_upd (g_upd u9.2 48 (u9.2 41 16).toNatClampNeg (u9.2 60 p1.toNatClampNeg)) 49 ((g_upd u9.2 48 (u9.2 41 16).toNatClampNeg (u9.2 60 p1.toNatClampNeg)) 41 16).toNatClampNeg ((g_upd u9.2 48 (u9.2 41 16).toNatClampNeg (u9.2 60 p1.toNatClampNeg)) 60 (p1 + (1 : Int32)).toNatClampNeg)) 41 16).toNatClampNeg ((g_upd (g_upd u9.2 48 (u9.2 41 16).toNatClampNeg (u9.2 60 p1.toNatClampNeg)) 49 ((g_upd u9.2 48 (u9.2 41 16).toNatClampNeg (u9.2 60 p1.toNatClampNeg)) 41 16).toNatClampNeg ((g_upd u9.2 48 (u9.2 41 16).toNatClampNeg (u9.2 60 p1.toNatClampNeg)) 60 (p1 + (1 : Int32)).toNatClampNeg)) 60 (p1 + (2 : Int32)).toNatClampNeg)) 60 (p1 + (3 : Int32)).toNatClampNeg)) 60 (p1 + (4 : Int32)).toNatClampNeg)) 53 ((g_upd (g_upd (g_upd (g_upd (g_upd u9.2 48 (u9.2 41 16).toNatClampNeg (u9.2 60 p1.toNatClampNeg)) 49 ((g_upd u9.2 48 (u9.2 41 16).toNatClampNeg (u9.2 60 p1.toNatClampNeg)) 41 16).toNatClampNeg ((g_upd u9.2 48 (u9.2 41 16).toNatClampNeg (u9.2 60 p1.toNatClampNeg)) 60 (p1 + (1 : Int32)).toNatClampNeg)) 50 ((g_upd (g_upd u9.2 48 (u9.2 41 16).toNatClampNeg (u9.2 60 p1.toNatClampNeg)) 49 ((g_upd u9.2 48 (u9.2 41 16).toNatClampNeg (u9.2 60 p1.toNatClampNeg)) 41 16).toNatClampNeg ((g_upd u9.2 48 (u9.2 41 16).toNatClampNeg (u9.2 60 p1.toNatClampNeg)) 60 (p1 + (1 : Int32)).toNatClampNeg)) 41 16).toNatClampNeg ((g_upd (g_upd u9.2 48 (u9.2 41 16).toNatClampNeg (u9.2 60 p1.toNatClampNeg)) 49 ((g_upd u9.2 48 (u9.2 41 16).toNatClampNeg (u9.2 60 p1.toNatClampNeg)) 41 16).toNatClampNeg ((g_upd u9.2 48 (u9.2 41 16).toNatClampNeg (u9.2 60 p1.toNatClampNeg)) 60 (p1 + (1 : Int32)).toNatClampNeg)) 60 (p1 + (2 : Int32)).toNatClampNeg)) 51 ((g_upd (g_upd (g_upd u9.2 48 (u9.2 41 16).toNatClampNeg (u9.2 60 p1.toNatClampNeg)) 49 ((g_upd u9.2 48 (u9.2 41 16).toNatClampNeg (u9.2 60 p1.toNatClampNeg)) 41 16).toNatClampNeg ((g_upd u9.2 48 (u9.2 41 16).toNatClampNeg (u9.2 60 p1.toNatClampNeg)) 60 (p1 + (1 : Int32)).toNatClampNeg)) 50 ((g_upd (g_upd u9.2 48 (u9.2 41 16).toNatClampNeg (u9.2 60 p1.toNatClampNeg)) 49 ((g_upd u9.2 48 (u9.2 41 16).toNatClampNeg (u9.2 60 p1.toNatClampNeg)) 41 16).toNatClampNeg ((g_upd u9.2 48 (u9.2 41 16).toNatClampNeg (u9.2 60 p1.toNatClampNeg)) 60 (p1 + (1 : Int32)).toNatClampNeg)) 41 16).toNatClampNeg ((g_upd (g_upd u9.2 48 (u9.2 41 16).toNatClampNeg (u9.2 60 p1.toNatClampNeg)) 49 ((g_upd u9.2 48 (u9.2 41 16).toNatClampNeg (u9.2 60 p1.toNatClampNeg)) 41 16).toNatClampNeg ((g_upd u9.2 48 (u9.2 41 16).toNatClampNeg (u9.2 60 p1.toNatClampNeg)) 60 (p1 + (1 : Int32)).toNatClampNeg)) 60 (p1 + (2 : Int32)).toNatClampNeg)) 41 16).toNatClampNeg ((g_upd (g_upd (g_upd u9.2 48 (u9.2 41 16).toNatClampNeg (u9.2 60 p1.toNatClampNeg)) 49 ((g_upd u9.2 48 (u9.2 41 16).toNatClampNeg (u9.2 60 p1.toNatClampNeg)) 41 16).toNatClampNeg ((g_upd u9.2 48 (u9.2 41 16).toNatClampNeg (u9.2 60 p1.toNatClampNeg)) 60 (p1 + (1 : Int32)).toNatClampNeg)) 50 ((g_upd (g_upd u9.2 48 (u9.2 41 16).toNatClampNeg (u9.2 60 p1.toNatClampNeg)) 49 ((g_upd u9.2 48 (u9.2 41 16).toNatClampNeg (u9.2 60 p1.toNatClampNeg)) 41 16).toNatClampNeg ((g_upd u9.2 48 (u9.2 41 16).toNatClampNeg (u9.2 60 p1.toNatClampNeg)) 60 (p1 + (1 : Int32)).toNatClampNeg)) 41 16).toNatClampNeg ((g_upd (g_upd u9.2 48 (u9.2 41 16).toNatClampNeg (u9.2 60 p1.toNatClampNeg)) 49 ((g_upd u9.2 48 (u9.2 41 16).toNatClampNeg (u9.2 60 p1.toNatClampNeg)) 41 16).toNatClampNeg ((g_upd u9.2 48 (u9.2 41 16).toNatClampNeg (u9.2 60 p1.toNatClampNeg)) 60 (p1 + (1 : Int32)).toNatClampNeg)) 60 (p1 + (2 : Int32)).toNatClampNeg)) 60 (p1 + (3 : Int32)).toNatClampNeg)) 52 ((g_upd (g_upd (g_upd (g_upd u9.2 48 (u9.2 41 16).toNatClampNeg (u9.2 60 p1.toNatClampNeg)) 49 ((g_upd u9.2 48 (u9.2 41 16).toNatClampNeg (u9.2 60 p1.toNatClampNeg)) 41 16).toNatClampNeg ((g_upd u9.2 48 (u9.2 41 16).toNatClampNeg (u9.2 60 p1.toNatClampNeg)) 60 (p1 + (1 : Int32)).toNatClampNeg)) 50 ((g_upd (g_upd u9.2 48 (u9.2 41 16).toNatClampNeg (u9.2 60 p1.toNatClampNeg)) 49 ((g_upd u9.2 48 (u9.2 41 16).toNatClampNeg (u9.2 60 p1.toNatClampNeg)) 41 16).toNatClampNeg ((g_upd u9.2 48 (u9.2 41 16).toNatClampNeg (u9.2 60 p1.toNatClampNeg)) 60 (p1 + (1 : Int32)).toNatClampNeg)) 41 16).toNatClampNeg ((g_upd (g_upd u9.2 48 (u9.2 41 16).toNatClampNeg (u9.2 60 p1.toNatClampNeg)) 49 ((g_upd u9.2 48 (u9.2 41 16).toNatClampNeg (u9.2 60 p1.toNatClampNeg)) 41 16).toNatClampNeg ((g_upd u9.2 48 (u9.2 41 16).toNatClampNeg (u9.2 60 p1.toNatClampNeg)) 60 (p1 + (1 : Int32)).toNatClampNeg)) 60 (p1 + (2 : Int32)).toNatClampNeg)) 51 ((g_upd (g_upd (g_upd u9.2 48 (u9.2 41 16).toNatClampNeg (u9.2 60 p1.toNatClampNeg)) 49 ((g_upd u9.2 48 (u9.2 41 16).toNatClampNeg (u9.2 60 p1.toNatClampNeg)) 41 16).toNatClampNeg ((g_upd u9.2 48 (u9.2 41 16).toNatClampNeg (u9.2 60 p1.toNatClampNeg)) 60 (p1 + (1 : Int32)).toNatClampNeg)) 50 ((g_upd (g_upd u9.2 48 (u9.2 41 16).toNatClampNeg (u9.2 60 p1.toNatClampNeg)) 49 ((g_upd u9.2 48 (u9.2 41 16).toNatClampNeg (u9.2 60 p1.toNatClampNeg)) 41 16).toNatClampNeg ((g_upd u9.2 48 (u9.2 41 16).toNatClampNeg (u9.2 60 p1.toNatClampNeg)) 60 (p1 + (1 : Int32)).toNatClampNeg)) 41 16).toNatClampNeg ((g_upd (g_upd u9.2 48 (u9.2 41 16).toNatClampNeg (u9.2 60 p1.toNatClampNeg)) 49 ((g_upd u9.2 48 (u9.2 41 16).toNatClampNeg (u9.2 60 p1.toNatClampNeg)) 41 16).toNatClampNeg ((g_upd u9.2 48 (u9.2 41 16).toNatClampNeg (u9.2 60 p1.toNatClampNeg)) 60 (p1 + (1 : Int32)).toNatClampNeg)) 60 (p1 + (2 : Int32)).toNatClampNeg)) 41 16).toNatClampNeg ((g_upd (g_upd (g_upd u9.2 48 (u9.2 41 16).toNatClampNeg (u9.2 60 p1.toNatClampNeg)) 49 ((g_upd u9.2 48 (u9.2 41 16).toNatClampNeg (u9.2 60 p1.toNatClampNeg)) 41 16).toNatClampNeg ((g_upd u9.2 48 (u9.2 41 16).toNatClampNeg (u9.2 60 p1.toNatClampNeg)) 60 (p1 + (1 : Int32)).toNatClampNeg)) 50 ((g_upd (g_upd u9.2 48 (u9.2 41 16).toNatClampNeg (u9.2 60 p1.toNatClampNeg)) 49 ((g_upd u9.2 48 (u9.2 41 16).toNatClampNeg (u9.2 60 p1.toNatClampNeg)) 41 16).toNatClampNeg ((g_upd u9.2 48 (u9.2 41 16).toNatClampNeg (u9.2 60 p1.toNatClampNeg)) 60 (p1 + (1 : Int32)).toNatClampNeg)) 41 16).toNatClampNeg ((g_upd (g_upd u9.2 48 (u9.2 41 16).toNatClampNeg (u9.2 60 p1.toNatClampNeg)) 49 ((g_upd u9.2 48 (u9.2 41 16).toNatClampNeg (u9.2 60 p1.toNatClampNeg)) 41 16).toNatClampNeg ((g_upd u9.2 48 (u9.2 41 16).toNatClampNeg (u9.2 60 p1.toNatClampNeg)) 60 (p1 + (1 : Int32)).toNatClampNeg)) 60 (p1 + (2 : Int32)).toNatClampNeg)) 60 (p1 + (3 : Int32)).toNatClampNeg)) 41 16).toNatClampNeg ((g_upd (g_upd (g_upd (g_upd u9.2 48 (u9.2 41 16).toNatClampNeg (u9.2 60 p1.toNatClampNeg)) 49 ((g_upd u9.2 48 (u9.2 41 16).toNatClampNeg (u9.2 60 p1.toNatClampNeg)) 41 16).toNatClampNeg ((g_upd u9.2 48 (u9.2 41 16).toNatClampNeg (u9.2 60 p1.toNatClampNeg)) 60 (p1 + (1 : Int32)).toNatClampNeg)) 50 ((g_upd (g_upd u9.2 48 (u9.2 41 16).toNatClampNeg (u9.2 60 p1.toNatClampNeg)) 49 ((g_upd u9.2 48 (u9.2 41 16).toNatClampNeg (u9.2 60 p1.toNatClampNeg)) 41 16).toNatClampNeg ((g_upd u9.2 48 (u9.2 41 16).toNatClampNeg (u9.2 60 p1.toNatClampNeg)) 60 (p1 + (1 : Int32)).toNatClampNeg)) 41 16).toNatClampNeg ((g_upd (g_upd u9.2 48 (u9.2 41 16).toNatClampNeg (u9.2 60 p1.toNatClampNeg)) 49 ((g_upd u9.2 48 (u9.2 41 16).toNatClampNeg (u9.2 60 p1.toNatClampNeg)) 41 16).toNatClampNeg ((g_upd u9.2 48 (u9.2 41 16).toNatClampNeg (u9.2 60 p1.toNatClampNeg)) 60 (p1 + (1 : Int32)).toNatClampNeg)) 60 (p1 + (2 : Int32)).toNatClampNeg)) 51 ((g_upd (g_upd (g_upd u9.2 48 (u9.2 41 16).toNatClampNeg (u9.2 60 p1.toNatClampNeg)) 49 ((g_upd u9.2 48 (u9.2 41 16).toNatClampNeg (u9.2 60 p1.toNatClampNeg)) 41 16).toNatClampNeg ((g_upd u9.2 48 (u9.2 41 16).toNatClampNeg (u9.2 60 p1.toNatClampNeg)) 60 (p1 + (1 : Int32)).toNatClampNeg)) 50 ((g_upd (g_upd u9.2 48 (u9.2 41 16).toNatClampNeg (u9.2 60 p1.toNatClampNeg)) 49 ((g_upd u9.2 48 (u9.2 41 16).toNatClampNeg (u9.2 60 p1.toNatClampNeg)) 41 16).toNatClampNeg ((g_upd u9.2 48 (u9.2 41 16).toNatClampNeg (u9.2 60 p1.toNatClampNeg)) 60 (p1 + (1 : Int32)).toNatClampNeg)) 41 16).toNatClampNeg ((g_upd (g_upd u9.2 48 (u9.2 41 16).toNatClampNeg (u9.2 60 p1.toNatClampNeg)) 49 ((g_upd u9.2 48 (u9.2 41 16).toNatClampNeg (u9.2 60 p1.toNatClampNeg)) 41 16).toNatClampNeg ((g_upd u9.2 48 (u9.2 41 16).toNatClampNeg (u9.2 60 p1.toNatClampNeg)) 60 (p1 + (1 : Int32)).toNatClampNeg)) 60 (p1 + (2 : Int32)).toNatClampNeg)) 41 16).toNatClampNeg ((g_upd (g_upd (g_upd u9.2 48 (u9.2 41 16).toNatClampNeg (u9.2 60 p1.toNatClampNeg)) 49 ((g_upd u9.2 48 (u9.2 41 16).toNatClampNeg (u9.2 60 p1.toNatClampNeg)) 41 16).toNatClampNeg ((g_upd u9.2 48 (u9.2 41 16).toNatClampNeg (u9.2 60 p1.toNatClampNeg)) 60 (p1 + (1 : Int32)).toNatClampNeg)) 50 ((g_upd (g_upd u9.2 48 (u9.2 41 16).toNatClampNeg (u9.2 60 p1.toNatClampNeg)) 49 ((g_upd u9.2 48 (u9.2 41 16).toNatClampNeg (u9.2 60 p1.toNatClampNeg)) 41 16).toNatClampNeg ((g_upd u9.2 48 (u9.2 41 16).toNatClampNeg (u9.2 60 p1.toNatClampNeg)) 60 (p1 + (1 : Int32)).toNatClampNeg)) 41 16).toNatClampNeg ((g_upd (g_upd u9.2 48 (u9.2 41 16).toNatClampNeg (u9.2 60 p1.toNatClampNeg)) 49 ((g_upd u9.2 48 (u9.2 41 16).toNatClampNeg (u9.2 60 p1.toNatClampNeg)) 41 16).toNatClampNeg ((g_upd u9.2 48 (u9.2 41 16).toNatClampNeg (u9.2 60 p1.toNatClampNeg)) 60 (p1 + (1 : Int32)).toNatClampNeg)) 60 (p1 + (2 : Int32)).toNatClampNeg)) 60 (p1 + (3 : Int32)).toNatClampNeg)) 60 (p1 + (4 : Int32)).toNatClampNeg)) 41 16).toNatClampNeg ((g_upd (g_upd (g_upd (g_upd (g_upd u9.2 48 (u9.2 41 16).toNatClampNeg (u9.2 60 p1.toNatClampNeg)) 49 ((g_upd u9.2 48 (u9.2 41 16).toNatClampNeg (u9.2 60 p1.toNatClampNeg)) 41 16).toNatClampNeg ((g_upd u9.2 48 (u9.2 41 16).toNatClampNeg (u9.2 60 p1.toNatClampNeg)) 60 (p1 + (1 : Int32)).toNatClampNeg)) 50 ((g_upd (g_upd u9.2 48 (u9.2 41 16).toNatClampNeg (u9.2 60 p1.toNatClampNeg)) 49 ((g_upd u9.2 48 (u9.2 41 16).toNatClampNeg (u9.2 60 p1.toNatClampNeg)) 41 16).toNatClampNeg ((g_upd u9.2 48 (u9.2 41 16).toNatClampNeg (u9.2 60 p1.toNatClampNeg)) 60 (p1 + (1 : Int32)).toNatClampNeg)) 41 16).toNatClampNeg ((g_upd (g_upd u9.2 48 (u9.2 41 16).toNatClampNeg (u9.2 60 p1.toNatClampNeg)) 49 ((g_upd u9.2 48 (u9.2 41 16).toNatClampNeg (u9.2 60 p1.toNatClampNeg)) 41 16).toNatClampNeg ((g_upd u9.2 48 (u9.2 41 16).toNatClampNeg (u9.2 60 p1.toNatClampNeg)) 60 (p1 + (1 : Int32)).toNatClampNeg)) 60 (p1 + (2 : Int32)).toNatClampNeg)) 51 ((g_upd (g_upd (g_upd u9.2 48 (u9.2 41 16).toNatClampNeg (u9.2 60 p1.toNatClampNeg)) 49 ((g_upd u9.2 48 (u9.2 41 16).toNatClampNeg (u9.2 60 p1.toNatClampNeg)) 41 16).toNatClampNeg ((g_upd u9.2 48 (u9.2 41 16).toNatClampNeg (u9.2 60 p1.toNatClampNeg)) 60 (p1 + (1 : Int32)).toNatClampNeg)) 50 ((g_upd (g_upd u9.2 48 (u9.2 41 16).toNatClampNeg (u9.2 60 p1.toNatClampNeg)) 49 ((g_upd u9.2 48 (u9.2 41 16).toNatClampNeg (u9.2 60 p1.toNatClampNeg)) 41 16).toNatClampNeg ((g_upd u9.2 48 (u9.2 41 16).toNatClampNeg (u9.2 60 p1.toNatClampNeg)) 60 (p1 + (1 : Int32)).toNatClampNeg)) 41 16).toNatClampNeg ((g_upd (g_upd u9.2 48 (u9.2 41 16).toNatClampNeg (u9.2 60 p1.toNatClampNeg)) 49 ((g_upd u9.2 48 (u9.2 41 16).toNatClampNeg (u9.2 60 p1.toNatClampNeg)) 41 16).toNatClampNeg ((g_upd u9.2 48 (u9.2 41 16).toNatClampNeg (u9.2 60 p1.toNatClampNeg)) 60 (p1 + (1 : Int32)).toNatClampNeg)) 60 (p1 + (2 : Int32)).toNatClampNeg)) 41 16).toNatClampNeg ((g_upd (g_upd (g_upd u9.2 48 (u9.2 41 16).toNatClampNeg (u9.2 60 p1.toNatClampNeg)) 49 ((g_upd u9.2 48 (u9.2 41 16).toNatClampNeg (u9.2 60 p1.toNatClampNeg)) 41 16).toNatClampNeg ((g_upd u9.2 48 (u9.2 41 16).toNatClampNeg (u9.2 60 p1.toNatClampNeg)) 60 (p1 + (1 : Int32)).toNatClampNeg)) 50 ((g_upd (g_upd u9.2 48 (u9.2 41 16).toNatClampNeg (u9.2 60 p1.toNatClampNeg)) 49 ((g_upd u9.2 48 (u9.2 41 16).toNatClampNeg (u9.2 60 p1.toNatClampNeg)) 41 16).toNatClampNeg ((g_upd u9.2 48 (u9.2 41 16).toNatClampNeg (u9.2 60 p1.toNatClampNeg)) 60 (p1 + (1 : Int32)).toNatClampNeg)) 41 16).toNatClampNeg ((g_upd (g_upd u9.2 48 (u9.2 41 16).toNatClampNeg (u9.2 60 p1.toNatClampNeg)) 49 ((g_upd u9.2 48 (u9.2 41 16).toNatClampNeg (u9.2 60 p1.toNatClampNeg)) 41 16).toNatClampNeg ((g_upd u9.2 48 (u9.2 41 16).toNatClampNeg (u9.2 60 p1.toNatClampNeg)) 60 (p1 + (1 : Int32)).toNatClampNeg)) 60 (p1 + (2 : Int32)).toNatClampNeg)) 60 (p1 + (3 : Int32)).toNatClampNeg)) 52 ((g_upd (g_upd (g_upd (g_upd u9.2 48 (u9.2 41 16).toNatClampNeg (u9.2 60 p1.toNatClampNeg)) 49 ((g_upd u9.2 48 (u9.2 41 16).toNatClampNeg (u9.2 60 p1.toNatClampNeg)) 41 16).toNatClampNeg ((g_upd u9.2 48 (u9.2 41 16).toNatClampNeg (u9.2 60 p1.toNatClampNeg)) 60 (p1 + (1 : Int32)).toNatClampNeg)) 50 ((g_upd (g_upd u9.2 48 (u9.2 41 16).toNatClampNeg (u9.2 60 p1.toNatClampNeg)) 49 ((g_upd u9.2 48 (u9.2 41 16).toNatClampNeg (u9.2 60 p1.toNatClampNeg)) 41 16).toNatClampNeg ((g_upd u9.2 48 (u9.2 41 16).toNatClampNeg (u9.2 60 p1.toNatClampNeg)) 60 (p1 + (1 : Int32)).toNatClampNeg)) 41 16).toNatClampNeg ((g_upd (g_upd u9.2 48 (u9.2 41 16).toNatClampNeg (u9.2 60 p1.toNatClampNeg)) 49 ((g_upd u9.2 48 (u9.2 41 16).toNatClampNeg (u9.2 60 p1.toNatClampNeg)) 41 16).toNatClampNeg ((g_upd u9.2 48 (u9.2 41 16).toNatClampNeg (u9.2 60 p1.toNatClampNeg)) 60 (p1 + (1 : Int32)).toNatClampNeg)) 60 (p1 + (2 : Int32)).toNatClampNeg)) 51 ((g_upd (g_upd (g_upd u9.2 48 (u9.2 41 16).toNatClampNeg (u9.2 60 p1.toNatClampNeg)) 49 ((g_upd u9.2 48 (u9.2 41 16).toNatClampNeg (u9.2 60 p1.toNatClampNeg)) 41 16).toNatClampNeg ((g_upd u9.2 48 (u9.2 41 16).toNatClampNeg (u9.2 60 p1.toNatClampNeg)) 60 (p1 + (1 : Int32)).toNatClampNeg)) 50 ((g_upd (g_upd u9.2 48 (u9.2 41 16).toNatClampNeg (u9.2 60 p1.toNatClampNeg)) 49 ((g_upd u9.2 48 (u9.2 41 16).toNatClampNeg (u9.2 60 p1.toNatClampNeg)) 41 16).toNatClampNeg ((g_upd u9.2 48 (u9.2 41 16).toNatClampNeg (u9.2 60 p1.toNatClampNeg)) 60 (p1 + (1 : Int32)).toNatClampNeg)) 41 16).toNatClampNeg ((g_upd (g_upd u9.2 48 (u9.2 41 16).toNatClampNeg (u9.2 60 p1.toNatClampNeg)) 49 ((g_upd u9.2 48 (u9.2 41 16).toNatClampNeg (u9.2 60 p1.toNatClampNeg)) 41 16).toNatClampNeg ((g_upd u9.2 48 (u9.2 41 16).toNatClampNeg (u9.2 60 p1.toNatClampNeg)) 60 (p1 + (1 : Int32)).toNatClampNeg)) 60 (p1 + (2 : Int32)).toNatClampNeg)) 41 16).toNatClampNeg ((g_upd (g_upd (g_upd u9.2 48 (u9.2 41 16).toNatClampNeg (u9.2 60 p1.toNatClampNeg)) 49 ((g_upd u9.2 48 (u9.2 41 16).toNatClampNeg (u9.2 60 p1.toNatClampNeg)) 41 16).toNatClampNeg ((g_upd u9.2 48 (u9.2 41 16).toNatClampNeg (u9.2 60 p1.toNatClampNeg)) 60 (p1 + (1 : Int32)).toNatClampNeg)) 50 ((g_upd (g_upd u9.2 48 (u9.2 41 16).toNatClampNeg (u9.2 60 p1.toNatClampNeg)) 49 ((g_upd u9.2 48 (u9.2 41 16).toNatClampNeg (u9.2 60 p1.toNatClampNeg)) 41 16).toNatClampNeg ((g_upd u9.2 48 (u9.2 41 16).toNatClampNeg (u9.2 60 p1.toNatClampNeg)) 60 (p1 + (1 : Int32)).toNatClampNeg)) 41 16).toNatClampNeg ((g_upd (g_upd u9.2 48 (u9.2 41 16).toNatClampNeg (u9.2 60 p1.toNatClampNeg)) 49 ((g_upd u9.2 48 (u9.2 41 16).toNatClampNeg (u9.2 60 p1.toNatClampNeg)) 41 16).toNatClampNeg ((g_upd u9.2 48 (u9.2 41 16).toNatClampNeg (u9.2 60 p1.toNatClampNeg)) 60 (p1 + (1 : Int32)).toNatClampNeg)) 60 (p1 + (2 : Int32)).toNatClampNeg)) 60 (p1 + (3 : Int32)).toNatClampNeg)) 41 16).toNatClampNeg ((g_upd (g_upd (g_upd (g_upd u9.2 48 (u9.2 41 16).toNatClampNeg (u9.2 60 p1.toNatClampNeg)) 49 ((g_upd u9.2 48 (u9.2 41 16).toNatClampNeg (u9.2 60 p1.toNatClampNeg)) 41 16).toNatClampNeg ((g_upd u9.2 48 (u9.2 41 16).toNatClampNeg (u9.2 60 p1.toNatClampNeg)) 60 (p1 + (1 : Int32)).toNatClampNeg)) 50 ((g_upd (g_upd u9.2 48 (u9.2 41 16).toNatClampNeg (u9.2 60 p1.toNatClampNeg)) 49 ((g_upd u9.2 48 (u9.2 41 16).toNatClampNeg (u9.2 60 p1.toNatClampNeg)) 41 16).toNatClampNeg ((g_upd u9.2 48 (u9.2 41 16).toNatClampNeg (u9.2 60 p1.toNatClampNeg)) 60 (p1 + (1 : Int32)).toNatClampNeg)) 41 16).toNatClampNeg ((g_upd (g_upd u9.2 48 (u9.2 41 16).toNatClampNeg (u9.2 60 p1.toNatClampNeg)) 49 ((g_upd u9.2 48 (u9.2 41 16).toNatClampNeg (u9.2 60 p1.toNatClampNeg)) 41 16).toNatClampNeg ((g_upd u9.2 48 (u9.2 41 16).toNatClampNeg (u9.2 60 p1.toNatClampNeg)) 60 (p1 + (1 : Int32)).toNatClampNeg)) 60 (p1 + (2 : Int32)).toNatClampNeg)) 51 ((g_upd (g_upd (g_upd u9.2 48 (u9.2 41 16).toNatClampNeg (u9.2 60 p1.toNatClampNeg)) 49 ((g_upd u9.2 48 (u9.2 41 16).toNatClampNeg (u9.2 60 p1.toNatClampNeg)) 41 16).toNatClampNeg ((g_upd u9.2 48 (u9.2 41 16).toNatClampNeg (u9.2 60 p1.toNatClampNeg)) 60 (p1 + (1 : Int32)).toNatClampNeg)) 50 ((g_upd (g_upd u9.2 48 (u9.2 41 16).toNatClampNeg (u9.2 60 p1.toNatClampNeg)) 49 ((g_upd u9.2 48 (u9.2 41 16).toNatClampNeg (u9.2 60 p1.toNatClampNeg)) 41 16).toNatClampNeg ((g_upd u9.2 48 (u9.2 41 16).toNatClampNeg (u9.2 60 p1.toNatClampNeg)) 60 (p1 + (1 : Int32)).toNatClampNeg)) 41 16).toNatClampNeg ((g_upd (g_upd u9.2 48 (u9.2 41 16).toNatClampNeg (u9.2 60 p1.toNatClampNeg)) 49 ((g_upd u9.2 48 (u9.2 41 16).toNatClampNeg (u9.2 60 p1.toNatClampNeg)) 41 16).toNatClampNeg ((g_upd u9.2 48 (u9.2 41 16).toNatClampNeg (u9.2 60 p1.toNatClampNeg)) 60 (p1 + (1 : Int32)).toNatClampNeg)) 60 (p1 + (2 : Int32)).toNatClampNeg)) 41 16).toNatClampNeg ((g_upd (g_upd (g_upd u9.2 48 (u9.2 41 16).toNatClampNeg (u9.2 60 p1.toNatClampNeg)) 49 ((g_upd u9.2 48 (u9.2 41 16).toNatClampNeg (u9.2 60 p1.toNatClampNeg)) 41 16).toNatClampNeg ((g_upd u9.2 48 (u9.2 41 16).toNatClampNeg (u9.2 60 p1.toNatClampNeg)) 60 (p1 + (1 : Int32)).toNatClampNeg)) 50 ((g_upd (g_upd u9.2 48 (u9.2 41 16).toNatClampNeg (u9.2 60 p1.toNatClampNeg)) 49 ((g_upd u9.2 48 (u9.2 41 16).toNatClampNeg (u9.2 60 p1.toNatClampNeg)) 41 16).toNatClampNeg ((g_upd u9.2 48 (u9.2 41 16).toNatClampNeg (u9.2 60 p1.toNatClampNeg)) 60 (p1 + (1 : Int32)).toNatClampNeg)) 41 16).toNatClampNeg ((g_upd (g_upd u9.2 48 (u9.2 41 16).toNatClampNeg (u9.2 60 p1.toNatClampNeg)) 49 ((g_upd u9.2 48 (u9.2 41 16).toNatClampNeg (u9.2 60 p1.toNatClampNeg)) 41 16).toNatClampNeg ((g_upd u9.2 48 (u9.2 41 16).toNatClampNeg (u9.2 60 p1.toNatClampNeg)) 60 (p1 + (1 : Int32)).toNatClampNeg)) 60 (p1 + (2 : Int32)).toNatClampNeg)) 60 (p1 + (3 : Int32)).toNatClampNeg)) 60 (p1 + (4 : Int32)).toNatClampNeg)) 60 (p1 + (5 : Int32)).toNatClampNeg)) 41 16) 5 = true then (some ((1 : Int32), (g_upd (g_upd (g_upd (g_upd (g_upd (g_upd (g_upd (g_upd u9.2 48 (u9.2 41 16).toNatClampNeg (u9.2 60 p1.toNatClampNeg)) 49 ((g_upd u9.2 48 (u9.2 41 16).toNatClampNeg (u9.2 60 p1.toNatClampNeg)) 41 16).toNatClampNeg ((g_upd u9.2 48 (u9.2 41 16).toNatClampNeg (u9.2 60 p1.toNatClampNeg)) 60 (p1 + (1 : Int32)).toNatClampNeg)) 50 ((g_upd (g_upd u9.2 48 (u9.2 41 16).toNatClampNeg (u9.2 60 p1.toNatClampNeg)) 49 ((g_upd u9.2 48 (u9.2 41 16).toNatClampNeg (u9.2 60 p1.toNatClampNeg)) 41 16).toNatClampNeg ((g_upd u9.2 48 (u9.2 41 16).toNatClampNeg (u9.2 60 p1.toNatClampNeg)) 60 (p1 + (1 : Int32)).toNatClampNeg)) 41 16).toNatClampNeg ((g_upd (g_upd u9.2 48 (u9.2 41 16).toNatClampNeg (u9.2 60 p1.toNatClampNeg)) 49 ((g_upd u9.2 48 (u9.2 41 16).toNatClampNeg (u9.2 60 p1.toNatClampNeg)) 41 16).toNatClampNeg ((g_upd u9.2 48 (u9.2 41 16).toNatClampNeg (u9.2 60 p1.toNatClampNeg)) 60 (p1 + (1 : Int32)).toNatClampNeg)) 60 (p1 + (2 : Int32)).toNatClampNeg)) 51 ((g_upd (g_upd (g_upd u9.2 48 (u9.2 41 16).toNatClampNeg (u9.2 60 p1.toNatClampNeg)) 49 ((g_upd u9.2 48 (u9.2 41 16).toNatClampNeg (u9.2 60 p1.toNatClampNeg)) 41 16).toNatClampNeg ((g_upd u9.2 48 (u9.2 41 16).toNatClampNeg (u9.2 60 p1.toNatClampNeg)) 60 (p1 + (1 : Int32)).toNatClampNeg)) 50 ((g_upd (g_upd u9.2 48 (u9.2 41 16).toNatClampNeg (u9.2 60 p1.toNatClampNeg)) 49 ((g_upd u9.2 48 (u9.2 41 16).toNatClampNeg (u9.2 60 p1.toNatClampNeg)) 41 16).toNatClampNeg ((g_upd u9.2 48 (u9.2 41 16).toNatClampNeg (u9.2 60 p1.toNatClampNeg)) 60 (p1 + (1 : Int32)).toNatClampNeg)) 41 16).toNatClampNeg ((g_upd (g_upd u9.2 48 (u9.2 41 16).toNatClampNeg (u9.2 60 p1.toNatClampNeg)) 49 ((g_upd u9.2 48 (u9.2 41 16).toNatClampNeg (u9.2 60 p1.toNatClampNeg)) 41 16).toNatClampNeg ((g_upd u9.2 48 (u9.2 41 16).toNatClampNeg (u9.2 60 p1.toNatClampNeg)) 60 (p1 + (1 : Int32)).toNatClampNeg)) 60 (p1 + (2 : Int32)).toNatClampNeg)) 41 16).toNatClampNeg ((g_upd (g_upd (g_upd u9.2 48 (u9.2 41 16).toNatClampNeg (u9.2 60 p1.toNatClampNeg)) 49 ((g_upd u9.2 48 (u9.2 41 16).toNatClampNeg (u9.2 60 p1.toNatClampNeg)) 41 16).toNatClampNeg ((g_upd u9.2 48 (u9.2 41 16).toNatClampNeg (u9.2 60 p1.toNatClampNeg)) 60 (p1 + (1 : Int32)).toNatClampNeg)) 50 ((g_upd (g_upd u9.2 48 (u9.2 41 16).toNatClampNeg (u9.2 60 p1.toNatClampNeg)) 49 ((g_upd u9.2 48 (u9.2 41 16).toNatClampNeg (u9.2 60 p1.toNatClampNeg)) 41 16).toNatClampNeg ((g_upd u9.2 48 (u9.2 41 16).toNatClampNeg (u9.2 60 p1.toNatClampNeg)) 60 (p1 + (1 : Int32)).toNatClampNeg)) 41 16).toNatClampNeg ((g_upd (g_upd u9.2 48 (u9.2 41 16).toNatClampNeg (u9.2 60 p1.toNatClampNeg)) 49 ((g_upd u9.2 48 (u9.2 41 16).toNatClampNeg (u9.2 60 p1.toNatClampNeg)) 41 16).toNatClampNeg ((g_upd u9.2 48 (u9.2 41 16).toNatClampNeg (u9.2 60 p1.toNatClampNeg)) 60 (p1 + (1 : Int32)).toNatClampNeg)) 60 (p1 + (2 : Int32)).toNatClampNeg)) 60 (p1 + (3 : Int32)).toNatClampNeg)) 52 ((g_upd (g_upd (g_upd (g_upd u9.2 48 (u9.2 41 16).toNatClampNeg (u9.2 60 p1.toNatClampNeg)) 49 ((g_upd u9.2 48 (u9.2 41 16).toNatClampNeg (u9.2 60 p1.toNatClampNeg)) 41 16).toNatClampNeg ((g_upd u9.2 48 (u9.2 41 16).toNatClampNeg (u9.2 60 p1.toNatClampNeg)) 60 (p1 + (1 : Int32)).toNatClampNeg)) 50 ((g_upd (g_upd u9.2 48 (u9.2 41 16).toNatClampNeg (u9.2 60 p1.toNatClampNeg)) 49 ((g_upd u9.2 48 (u9.2 41 16).toNatClampNeg (u9.2 60 p1.toNatClampNeg)) 41 16).toNatClampNeg ((g_upd u9.2 48 (u9.2 41 16).toNatClampNeg (u9.2 60 p1.toNatClampNeg)) 60 (p1 + (1 : Int32)).toNatClampNeg)) 41 16).toNatClampNeg ((g_upd (g_upd u9.2 48 (u9.2 41 16).toNatClampNeg (u9.2 60 p1.toNatClampNeg)) 49 ((g_upd u9.2 48 (u9.2 41 16).toNatClampNeg (u9.2 60 p1.toNatClampNeg)) 41 16).toNatClampNeg ((g_upd u9.2 48 (u9.2 41 16).toNatClampNeg (u9.2 60 p1.toNatClampNeg)) 60 (p1 + (1 : Int32)).toNatClampNeg)) 60 (p1 + (2 : Int32)).toNatClampNeg)) 51 ((g_upd (g_upd (g_upd u9.2 48 (u9.2 41 16).toNatClampNeg (u9.2 60 p1.toNatClampNeg)) 49 ((g_upd u9.2 48 (u9.2 41 16).toNatClampNeg (u9.2 60 p1.toNatClampNeg)) 41 16).toNatClampNeg ((g_upd u9.2 48 (u9.2 41 16).toNatClampNeg (u9.2 60 p1.toNatClampNeg)) 60 (p1 + (1 : Int32)).toNatClampNeg)) 50 ((g_upd (g_upd u9.2 48 (u9.2 41 16).toNatClampNeg (u9.2 60 p1.toNatClampNeg)) 49 ((g_upd u9.2 48 (u9.2 41 16).toNatClampNeg (u9.2 60 p1.toNatClampNeg)) 41 16).toNatClampNeg ((g_upd u9.2 48 (u9.2 41 16).toNatClampNeg (u9.2 60 p1.toNatClampNeg)) 60 (p1 + (1 : Int32)).toNatClampNeg)) 41 16).toNatClampNeg ((g_upd (g_upd u9.2 48 (u9.2 41 16).toNatClampNeg (u9.2 60 p1.toNatClampNeg)) 49 ((g_upd u9.2 48 (u9.2 41 16).toNatClampNeg (u9.2 60 p1.toNatClampNeg)) 41 16).toNatClampNeg ((g_upd u9.2 48 (u9.2 41 16).toNatClampNeg (u9.2 60 p1.toNatClampNeg)) 60 (p1 + (1 : Int32)).toNatClampNeg)) 60 (p1 + (2 : Int32)).toNatClampNeg)) 41 16).toNatClampNeg ((g_upd (g_upd (g_upd u9.2 48 (u9.2 41 16).toNatClampNeg (u9.2 60 p1.toNatClampNeg)) 49 ((g_upd u9.2 48 (u9.2 41 16).toNatClampNeg (u9.2 60 p1.toNatClampNeg)) 41 16).toNatClampNeg ((g_upd u9.2 48 (u9.2 41 16).toNatClampNeg (u9.2 60 p1.toNatClampNeg)) 60 (p1 + (1 : Int32)).toNatClampNeg)) 50 ((g_upd (g_upd u9.2 48 (u9.2 41 16).toNatClampNeg (u9.2 60 p1.toNatClampNeg)) 49 ((g_upd u9.2 48 (u9.2 41 16).toNatClampNeg (u9.2 60 p1.toNatClampNeg)) 41 16).toNatClampNeg ((g_upd u9.2 48 (u9.2 41 16).toNatClampNeg (u9.2 60 p1.toNatClampNeg)) 60 (p1 + (1 : Int32)).toNatClampNeg)) 41 16).toNatClampNeg ((g_upd (g_upd u9.2 48 (u9.2 41 16).toNatClampNeg (u9.2 60 p1.toNatClampNeg)) 49 ((g_upd u9.2 48 (u9.2 41 16).toNatClampNeg (u9.2 60 p1.toNatClampNeg)) 41 16).toNatClampNeg ((g_upd u9.2 48 (u9.2 41 16).toNatClampNeg (u9.2 60 p1.toNatClampNeg)) 60 (p1 + (1 : Int32)).toNatClampNeg)) 60 (p1 + (2 : Int32)).toNatClampNeg)) 60 (p1 + (3 : Int32)).toNatClampNeg)) 41 16).toNatClampNeg ((g_upd (g_upd (g_upd (g_upd u9.2 48 (u9.2 41 16).toNatClampNeg (u9.2 60 p1.toNatClampNeg)) 49 ((g_upd u9.2 48 (u9.2 41 16).toNatClampNeg (u9.2 60 p1.toNatClampNeg)) 41 16).toNatClampNeg ((g_upd u9.2 48 (u9.2 41 16).toNatClampNeg (u9.2 60 p1.toNatClampNeg)) 60 (p1 + (1 : Int32)).toNatClampNeg)) 50 ((g_upd (g_upd u9.2 48 (u9.2 41 16).toNatClampNeg (u9.2 60 p1.toNatClampNeg)) 49 ((g_upd u9.2 48 (u9.2 41 16).toNatClampNeg (u9.2 60 p1.toNatClampNeg)) 41 16).toNatClampNeg ((g_upd u9.2 48 (u9.2 41 16).toNatClampNeg (u9.2 60 p1.toNatClampNeg)) 60 (p1 + (1 : Int32)).toNatClampNeg)) 41 16).toNatClampNeg ((g_upd (g_upd u9.2 48 (u9.2 41 16).toNatClampNeg (u9.2 60 p1.toNatClampNeg)) 49 ((g_upd u9.2 48 (u9.2 41 16).toNatClampNeg (u9.2 60 p1.toNatClampNeg)) 41 16).toNatClampNeg ((g_upd u9.2 48 (u9.2 41 16).toNatClampNeg (u9.2 60 p1.toNatClampNeg)) 60 (p1 + (1 : Int32)).toNatClampNeg)) 60 (p1 + (2 : Int32)).toNatClampNeg)) 51 ((g_upd (g_upd (g_upd u9.2 48 (u9.2 41 16).toNatClampNeg (u9.2 60 p1.toNatClampNeg)) 49 ((g_upd u9.2 48 (u9.2 41 16).toNatClampNeg (u9.2 60 p1.toNatClampNeg)) 41 16).toNatClampNeg ((g_upd u9.2 48 (u9.2 41 16).toNatClampNeg (u9.2 60 p1.toNatClampNeg)) 60 (p1 + (1 : Int32)).toNatClampNeg)) 50 ((g_upd (g_upd u9.2 48 (u9.2 41 16).toNatClampNeg (u9.2 60 p1.toNatClampNeg)) 49 ((g_upd u9.2 48 (u9.2 41 16).toNatClampNeg (u9.2 60 p1.toNatClampNeg)) 41 16).toNatClampNeg ((g_upd u9.2 48 (u9.2 41 16).toNatClampNeg (u9.2 60 p1.toNatClampNeg)) 60 (p1 + (1 : Int32)).toNatClampNeg)) 41 16).toNatClampNeg ((g_upd (g_upd u9.2 48 (u9.2 41 16).toNatClampNeg (u9.2 60 p1.toNatClampNeg)) 49 ((g_upd u9.2 48 (u9.2 41 16).toNatClampNeg (u9.2 60 p1.toNatClampNeg)) 41 16).toNatClampNeg ((g_upd u9.2 48 (u9.2 41 16).toNatClampNeg (u9.2 60 p1.toNatClampNeg)) 60 (p1 + (1 : Int32)).toNatClampNeg)) 60 (p1 + (2 : Int32)).toNatClampNeg)) 41 16).toNatClampNeg ((g_upd (g_upd (g_upd u9.2 48 (u9.2 41 16).toNatClampNeg (u9.2 60 p1.toNatClampNeg)) 49 ((g_upd u9.2 48 (u9.2 41 16).toNatClampNeg (u9.2 60 p1.toNatClampNeg)) 41 16).toNatClampNeg ((g_upd u9.2 48 (u9.2 41 16).toNatClampNeg (u9.2 60 p1.toNatClampNeg)) 60 (p1 + (1 : Int32)).toNatClampNeg)) 50 ((g_upd (g_upd u9.2 48 (u9.2 41 16).toNatClampNeg (u9.2 60 p1.toNatClampNeg)) 49 ((g_upd u9.2 48 (u9.2 41 16).toNatClampNeg (u9.2 60 p1.toNatClampNeg)) 41 16).toNatClampNeg ((g_upd u9.2 48 (u9.2 41 16).toNatClampNeg (u9.2 60 p1.toNatClampNeg)) 60 (p1 + (1 : Int32)).toNatClampNeg)) 41 16).toNatClampNeg ((g_upd (g_upd u9.2 48 (u9.2 41 16).toNatClampNeg (u9.2 60 p1.toNatClampNeg)) 49 ((g_upd u9.2 48 (u9.2 41 16).toNatClampNeg (u9.2 60 p1.toNatClampNeg)) 41 16).toNatClampNeg ((g_upd u9.2 48 (u9.2 41 16).toNatClampNeg (u9.2 60 p1.toNatClampNeg)) 60 (p1 + (1 : Int32)).toNatClampNeg)) 60 (p1 + (2 : Int32)).toNatClampNeg)) 60 (p1 + (3 : Int32)).toNatClampNeg)) 60 (p1 + (4 : Int32)).toNatClampNeg)) 53 ((g_upd (g_upd (g_upd (g_upd (g_upd u9.2 48 (u9.2 41 16).toNatClampNeg (u9.2 60 p1.toNatClampNeg)) 49 ((g_upd u9.2 48 (u9.2 41 16).toNatClampNeg (u9.2 60 p1.toNatClampNeg)) 41 16).toNatClampNeg ((g_upd u9.2 48 (u9.2 41 16).toNatClampNeg (u9.2 60 p1.toNatClampNeg)) 60 (p1 + (1 : Int32)).toNatClampNeg)) 50 ((g_upd (g_upd u9.2 48 (u9.2 41 16).toNatClampNeg (u9.2 60 p1.toNatClampNeg)) 49 ((g_upd u9.2 48 (u9.2 41 16).toNatClampNeg (u9.2 60 p1.toNatClampNeg)) 41 16).toNatClampNeg ((g_upd u9.2 48 (u9.2 41 16).toNatClampNeg (u9.2 60 p1.toNatClampNeg)) 60 (p1 + (1 : Int32)).toNatClampNeg)) 41 16).toNatClampNeg ((g_upd (g_upd u9.2 48 (u9.2 41 16).toNatClampNeg (u9.2 60 p1.toNatClampNeg)) 49 ((g_upd u9.2 48 (u9.2 41 16).toNatClampNeg (u9.2 60 p1.toNatClampNeg)) 41 16).toNatClampNeg ((g_upd u9.2 48 (u9.2 41 16).toNatClampNeg (u9.2 60 p1.toNatClampNeg)) 60 (p1 + (1 : Int32)).toNatClampNeg)) 60 (p1 + (2 : Int32)).toNatClampNeg)) 51 ((g_upd (g_upd (g_upd u9.2 48 (u9.2 41 16).toNatClampNeg (u9.2 60 p1.toNatClampNeg)) 49 ((g_upd u9.2 48 (u9.2 41 16).toNatClampNeg (u9.2 60 p1.toNatClampNeg)) 41 16).toNatClampNeg ((g_upd u9.2 48 (u9.2 41 16).toNatClampNeg (u9.2 60 p1.toNatClampNeg)) 60 (p1 + (1 : Int32)).toNatClampNeg)) 50 ((g_upd (g_upd u9.2 48 (u9.2 41 16).toNatClampNeg (u9.2 60 p1.toNatClampNeg)) 49 ((g_upd u9.2 48 (u9.2 41 16).toNatClampNeg (u9.2 60 p1.toNatClampNeg)) 41 16).toNatClampNeg ((g_upd u9.2 48 (u9.2 41 16).toNatClampNeg (u9.2 60 p1.toNatClampNeg)) 60 (p1 + (1 : Int32)).toNatClampNeg)) 41 16).toNatClampNeg ((g_upd (g_upd u9.2 48 (u9.2 41 16).toNatClampNeg (u9.2 60 p1.toNatClampNeg)) 49 ((g_upd u9.2 48 (u9.2 41 16).toNatClampNeg (u9.2 60 p1.toNatClampNeg)) 41 16).toNatClampNeg ((g_upd u9.2 48 (u9.2 41 16).toNatClampNeg (u9.2 60 p1.toNatClampNeg)) 60 (p1 + (1 : Int32)).toNatClampNeg)) 60 (p1 + (2 : Int32)).toNatClampNeg)) 41 16).toNatClampNeg ((g_upd (g_upd (g_upd u9.2 48 (u9.2 41 16).toNatClampNeg (u9.2 60 p1.toNatClampNeg)) 49 ((g_upd u9.2 48 (u9.2 41 16).toNatClampNeg (u9.2 60 p1.toNatClampNeg)) 41 16).toNatClampNeg ((g_upd u9.2 48 (u9.2 41 16).toNatClampNeg (u9.2 60 p1.toNatClampNeg)) 60 (p1 + (1 : Int32)).toNatClampNeg)) 50 ((g_upd (g_upd u9.2 48 (u9.2 41 16).toNatClampNeg (u9.2 60 p1.toNatClampNeg)) 49 ((g_upd u9.2 48 (u9.2 41 16).toNatClampNeg (u9.2 60 p1.toNatClampNeg)) 41 16).toNatClampNeg ((g_upd u9.2 48 (u9.2 41 16).toNatClampNeg (u9.2 60 p1.toNatClampNeg)) 60 (p1 + (1 : Int32)).toNatClampNeg)) 41 16).toNatClampNeg ((g_upd (g_upd u9.2 48 (u9.2 41 16).toNatClampNeg (u9.2 60 p1.toNatClampNeg)) 49 ((g_upd u9.2 48 (u9.2 41 16).toNatClampNeg (u9.2 60 p1.toNatClampNeg)) 41 16).toNatClampNeg ((g_upd u9.2 48 (u9.2 41 16).toNatClampNeg (u9.2 60 p1.toNatClampNeg)) 60 (p1 + (1 : Int32)).toNatClampNeg)) 60 (p1 + (2 : Int32)).toNatClampNeg)) 60 (p1 + (3 : Int32)).toNatClampNeg)) 52 ((g_upd (g_upd (g_upd (g_upd u9.2 48 (u9.2 41 16).toNatClampNeg (u9.2 60 p1.toNatClampNeg)) 49 ((g_upd u9.2 48 (u9.2 41 16).toNatClampNeg (u9.2 60 p1.toNatClampNeg)) 41 16).toNatClampNeg ((g_upd u9.2 48 (u9.2 41 16).toNatClampNeg (u9.2 60 p1.toNatClampNeg)) 60 (p1 + (1 : Int32)).toNatClampNeg)) 50 ((g_upd (g_upd u9.2 48 (u9.2 41 16).toNatClampNeg (u9.2 60 p1.toNatClampNeg)) 49 ((g_upd u9.2 48 (u9.2 41 16).toNatClampNeg (u9.2 60 p1.toNatClampNeg)) 41 16).toNatClampNeg ((g_upd u9.2 48 (u9.2 41 16).toNatClampNeg (u9.2 60 p1.toNatClampNeg)) 60 (p1 + (1 : Int32)).toNatClampNeg)) 41 16).toNatClampNeg ((g_upd (g_upd u9.2 48 (u9.2 41 16).toNatClampNeg (u9.2 60 p1.toNatClampNeg)) 49 ((g_upd u9.2 48 (u9.2 41 16).toNatClampNeg (u9.2 60 p1.toNatClampNeg)) 41 16).toNatClampNeg ((g_upd u9.2 48 (u9.2 41 16).toNatClampNeg (u9.2 60 p1.toNatClampNeg)) 60 (p1 + (1 : Int32)).toNatClampNeg)) 60 (p1 + (2 : Int32)).toNatClampNeg)) 51 ((g_upd (g_upd (g_upd u9.2 48 (u9.2 41 16).toNatClampNeg (u9.2 60 p1.toNatClampNeg)) 49 ((g_upd u9.2 48 (u9.2 41 16).toNatClampNeg (u9.2 60 p1.toNatClampNeg)) 41 16).toNatClampNeg ((g_upd u9.2 48 (u9.2 41 16).toNatClampNeg (u9.2 60 p1.toNatClampNeg)) 60 (p1 + (1 : Int32)).toNatClampNeg)) 50 ((g_upd (g_upd u9.2 48 (u9.2 41 16).toNatClampNeg (u9.2 60 p1.toNatClampNeg)) 49 ((g_upd u9.2 48 (u9.2 41 16).toNatClampNeg (u9.2 60 p1.toNatClampNeg)) 41 16).toNatClampNeg ((g_upd u9.2 48 (u9.2 41 16).toNatClampNeg (u9.2 60 p1.toNatClampNeg)) 60 (p1 + (1 : Int32)).toNatClampNeg)) 41 16).toNatClampNeg ((g_upd (g_upd u9.2 48 (u9.2 41 16).toNatClampNeg (u9.2 60 p1.toNatClampNeg)) 49 ((g_upd u9.2 48 (u9.2 41 16).toNatClampNeg (u9.2 60 p1.toNatClampNeg)) 41 16).toNatClampNeg ((g_upd u9.2 48 (u9.2 41 16).toNatClampNeg (u9.2 60 p1.toNatClampNeg)) 60 (p1 + (1 : Int32)).toNatClampNeg)) 60 (p1 + (2 : Int32)).toNatClampNeg)) 41 16).toNatClampNeg ((g_upd (g_upd (g_upd u9.2 48 (u9.2 41 16).toNatClampNeg (u9.2 60 p1.toNatClampNeg)) 49 ((g_upd u9.2 48 (u9.2 41 16).toNatClampNeg (u9.2 60 p1.toNatClampNeg)) 41 16).toNatClampNeg ((g_upd u9.2 48 (u9.2 41 16).toNatClampNeg (u9.2 60 p1.toNatClampNeg)) 60 (p1 + (1 : Int32)).toNatClampNeg)) 50 ((g_upd (g_upd u9.2 48 (u9.2 41 16).toNatClampNeg (u9.2 60 p1.toNatClampNeg)) 49 ((g_upd u9.2 48 (u9.2 41 16).toNatClampNeg (u9.2 60 p1.toNatClampNeg)) 41 16).toNatClampNeg ((g_upd u9.2 48 (u9.2 41 16).toNatClampNeg (u9.2 60 p1.toNatClampNeg)) 60 (p1 + (1 : Int32)).toNatClampNeg)) 41 16).toNatClampNeg ((g_upd (g_upd u9.2 48 (u9.2 41 16).toNatClampNeg (u9.2 60 p1.toNatClampNeg)) 49 ((g_upd u9.2 48 (u9.2 41 16).toNatClampNeg (u9.2 60 p1.toNatClampNeg)) 41 16).toNatClampNeg ((g_upd u9.2 48 (u9.2 41 16).toNatClampNeg (u9.2 60 p1.toNatClampNeg)) 60 (p1 + (1 : Int32)).toNatClampNeg)) 60 (p1 + (2 : Int32)).toNatClampNeg)) 60 (p1 + (3 : Int32)).toNatClampNeg)) 41 16).toNatClampNeg ((g_upd (g_upd (g_upd (g_upd u9.2 48 (u9.2 41 16).toNatClampNeg (u9.2 60 p1.toNatClampNeg)) 49 ((g_upd u9.2 48 (u9.2 41 16).toNatClampNeg (u9.2 60 p1.toNatClampNeg)) 41 16).toNatClampNeg ((g_upd u9.2 48 (u9.2 41 16).toNatClampNeg (u9.2 60 p1.toNatClampNeg)) 60 (p1 + (1 : Int32)).toNatClampNeg)) 50 ((g_upd (g_upd u9.2 48 (u9.2 41 16).toNatClampNeg (u9.2 60 p1.toNatClampNeg)) 49 ((g_upd u9.2 48 (u9.2 41 16).toNatClampNeg (u9.2 60 p1.toNatClampNeg)) 41 16).toNatClampNeg ((g_upd u9.2 48 (u9.2 41 16).toNatClampNeg (u9.2 60 p1.toNatClampNeg)) 60 (p1 + (1 : Int32)).toNatClampNeg)) 41 16).toNatClampNeg ((g_upd (g_upd u9.2 48 (u9.2 41 16).toNatClampNeg (u9.2 60 p1.toNatClampNeg)) 49 ((g_upd u9.2 48 (u9.2 41 16).toNatClampNeg (u9.2 60 p1.toNatClampNeg)) 41 16).toNatClampNeg ((g_upd u9.2 48 (u9.2 41 16).toNatClampNeg (u9.2 60 p1.toNatClampNeg)) 60 (p1 + (1 : Int32)).toNatClampNeg)) 60 (p1 + (2 : Int32)).toNatClampNeg)) 51 ((g_upd (g_upd (g_upd u9.2 48 (u9.2 41 16).toNatClampNeg (u9.2 60 p1.toNatClampNeg)) 49 ((g_upd u9.2 48 (u9.2 41 16).toNatClampNeg (u9.2 60 p1.toNatClampNeg)) 41 16).toNatClampNeg ((g_upd u9.2 48 (u9.2 41 16).toNatClampNeg (u9.2 60 p1.toNatClampNeg)) 60 (p1 + (1 : Int32)).toNatClampNeg)) 50 ((g_upd (g_upd u9.2 48 (u9.2 41 16).toNatClampNeg (u9.2 60 p1.toNatClampNeg)) 49 ((g_upd u9.2 48 (u9.2 41 16).toNatClampNeg (u9.2 60 p1.toNatClampNeg)) 41 16).toNatClampNeg ((g_upd u9.2 48 (u9.2 41 16).toNatClampNeg (u9.2 60 p1.toNatClampNeg)) 60 (p1 + (1 : Int32)).toNatClampNeg)) 41 16).toNatClampNeg ((g_upd (g_upd u9.2 48 (u9.2 41 16).toNatClampNeg (u9.2 60 p1.toNatClampNeg)) 49 ((g_upd u9.2 48 (u9.2 41 16).toNatClampNeg (u9.2 60 p1.toNatClampNeg)) 41 16).toNatClampNeg ((g_upd u9.2 48 (u9.2 41 16).toNatClampNeg (u9.2 60 p1.toNatClampNeg)) 60 (p1 + (1 : Int32)).toNatClampNeg)) 60 (p1 + (2 : Int32)).toNatClampNeg)) 41 16).toNatClampNeg ((g_upd (g_upd (g_upd u9.2 48 (u9.2 41 16).toNatClampNeg (u9.2 60 p1.toNatClampNeg)) 49 ((g_upd u9.2 48 (u9.2 41 16).toNatClampNeg (u9.2 60 p1.toNatClampNeg)) 41 16).toNatClampNeg ((g_upd u9.2 48 (u9.2 41 16).toNatClampNeg (u9.2 60 p1.toNatClampNeg)) 60 (p1 + (1 : Int32)).toNatClampNeg)) 50 ((g_upd (g_upd u9.2 48 (u9.2 41 16).toNatClampNeg (u9.2 60 p1.toNatClampNeg)) 49 ((g_upd u9.2 48 (u9.2 41 16).toNatClampNeg (u9.2 60 p1.toNatClampNeg)) 41 16).toNatClampNeg ((g_upd u9.2 48 (u9.2 41 16).toNatClampNeg (u9.2 60 p1.toNatClampNeg)) 60 (p1 + (1 : Int32)).toNatClampNeg)) 41 16).toNatClampNeg ((g_upd (g_upd u9.2 48 (u9.2 41 16).toNatClampNeg (u9.2 60 p1.toNatClampNeg)) 49 ((g_upd u9.2 48 (u9.2 41 16).toNatClampNeg (u9.2 60 p1.toNatClampNeg)) 41 16).toNatClampNeg ((g_upd u9.2 48 (u9.2 41 16).toNatClampNeg (u9.2 60 p1.toNatClampNeg)) 60 (p1 + (1 : Int32)).toNatClampNeg)) 60 (p1 + (2 : Int32)).toNatClampNeg)) 60 (p1 + (3 : Int32)).toNatClampNeg)) 60 (p1 + (4 : Int32)).toNatClampNeg)) 41 16).toNatClampNeg ((g_upd (g_upd (g_upd (g_upd (g_upd u9.2 48 (u9.2 41 16).toNatClampNeg (u9.2 60 p1.toNatClampNeg)) 49 ((g_upd u9.2 48 (u9.2 41 16).toNatClampNeg (u9.2 60 p1.toNatClampNeg)) 41 16).toNatClampNeg ((g_upd u9.2 48 (u9.2 41 16).toNatClampNeg (u9.2 60 p1.toNatClampNeg)) 60 (p1 + (1 : Int32)).toNatClampNeg)) 50 ((g_upd (g_upd u9.2 48 (u9.2 41 16).toNatClampNeg (u9.2 60 p1.toNatClampNeg)) 49 ((g_upd u9.2 48 (u9.2 41 16).toNatClampNeg (u9.2 60 p1.toNatClampNeg)) 41 16).toNatClampNeg ((g_upd u9.2 48 (u9.2 41 16).toNatClampNeg (u9.2 60 p1.toNatClampNeg)) 60 (p1 + (1 : Int32)).toNatClampNeg)) 41 16).toNatClampNeg ((g_upd (g_upd u9.2 48 (u9.2 41 16).toNatClampNeg (u9.2 60 p1.toNatClampNeg)) 49 ((g_upd u9.2 48 (u9.2 41 16).toNatClampNeg (u9.2 60 p1.toNatClampNeg)) 41 16).toNatClampNeg ((g_upd u9.2 48 (u9.2 41 16).toNatClampNeg (u9.2 60 p1.toNatClampNeg)) 60 (p1 + (1 : Int32)).toNatClampNeg)) 60 (p1 + (2 : Int32)).toNatClampNeg)) 51 ((g_upd (g_upd (g_upd u9.2 48 (u9.2 41 16).toNatClampNeg (u9.2 60 p1.toNatClampNeg)) 49 ((g_upd u9.2 48 (u9.2 41 16).toNatClampNeg (u9.2 60 p1.toNatClampNeg)) 41 16).toNatClampNeg ((g_upd u9.2 48 (u9.2 41 16).toNatClampNeg (u9.2 60 p1.toNatClampNeg)) 60 (p1 + (1 : Int32)).toNatClampNeg)) 50 ((g_upd (g_upd u9.2 48 (u9.2 41 16).toNatClampNeg (u9.2 60 p1.toNatClampNeg)) 49 ((g_upd u9.2 48 (u9.2 41 16).toNatClampNeg (u9.2 60 p1.toNatClampNeg)) 41 16).toNatClampNeg ((g_upd u9.2 48 (u9.2 41 16).toNatClampNeg (u9.2 60 p1.toNatClampNeg)) 60 (p1 + (1 : Int32)).toNatClampNeg)) 41 16).toNatClampNeg ((g_upd (g_upd u9.2 48 (u9.2 41 16).toNatClampNeg (u9.2 60 p1.toNatClampNeg)) 49 ((g_upd u9.2 48 (u9.2 41 16).toNatClampNeg (u9.2 60 p1.toNatClampNeg)) 41 16).toNatClampNeg ((g_upd u9.2 48 (u9.2 41 16).toNatClampNeg (u9.2 60 p1.toNatClampNeg)) 60 (p1 + (1 : Int32)).toNatClampNeg)) 60 (p1 + (2 : Int32)).toNatClampNeg)) 41 16).toNatClampNeg ((g_upd (g_upd (g_upd u9.2 48 (u9.2 41 16).toNatClampNeg (u9.2 60 p1.toNatClampNeg)) 49 ((g_upd u9.2 48 (u9.2 41 16).toNatClampNeg (u9.2 60 p1.toNatClampNeg)) 41 16).toNatClampNeg ((g_upd u9.2 48 (u9.2 41 16).toNatClampNeg (u9.2 60 p1.toNatClampNeg)) 60 (p1 + (1 : Int32)).toNatClampNeg)) 50 ((g_upd (g_upd u9.2 48 (u9.2 41 16).toNatClampNeg (u9.2 60 p1.toNatClampNeg)) 49 ((g_upd u9.2 48 (u9.2 41 16).toNatClampNeg (u9.2 60 p1.toNatClampNeg)) 41 16).toNatClampNeg ((g_upd u9.2 48 (u9.2 41 16).toNatClampNeg (u9.2 60 p1.toNatClampNeg)) 60 (p1 + (1 : Int32)).toNatClampNeg)) 41 16).toNatClampNeg ((g_upd (g_upd u9.2 48 (u9.2 41 16).toNatClampNeg (u9.2 60 p1.toNatClampNeg)) 49 ((g_upd u9.2 48 (u9.2 41 16).toNatClampNeg (u9.2 60 p1.toNatClampNeg)) 41 16).toNatClampNeg ((g_upd u9.2 48 (u9.2 41 16).toNatClampNeg (u9.2 60 p1.toNatClampNeg)) 60 (p1 + (1 : Int32)).toNatClampNeg)) 60 (p1 + (2 : Int32)).toNatClampNeg)) 60 (p1 + (3 : Int32)).toNatClampNeg)) 52 ((g_upd (g_upd (g_upd (g_upd u9.2 48 (u9.2 41 16).toNatClampNeg (u9.2 60 p1.toNatClampNeg)) 49 ((g_upd u9.2 48 (u9.2 41 16).toNatClampNeg (u9.2 60 p1.toNatClampNeg)) 41 16).toNatClampNeg ((g_upd u9.2 48 (u9.2 41 16).toNatClampNeg (u9.2 60 p1.toNatClampNeg)) 60 (p1 + (1 : Int32)).toNatClampNeg)) 50 ((g_upd (g_upd u9.2 48 (u9.2 41 16).toNatClampNeg (u9.2 60 p1.toNatClampNeg)) 49 ((g_upd u9.2 48 (u9.2 41 16).toNatClampNeg (u9.2 60 p1.toNatClampNeg)) 41 16).toNatClampNeg ((g_upd u9.2 48 (u9.2 41 16).toNatClampNeg (u9.2 60 p1.toNatClampNeg)) 60 (p1 + (1 : Int32)).toNatClampNeg)) 41 16).toNatClampNeg ((g_upd (g_upd u9.2 48 (u9.2 41 16).toNatClampNeg (u9.2 60 p1.toNatClampNeg)) 49 ((g_upd u9.2 48 (u9.2 41 16).toNatClampNeg (u9.2 60 p1.toNatClampNeg)) 41 16).toNatClampNeg ((g_upd u9.2 48 (u9.2 41 16).toNatClampNeg (u9.2 60 p1.toNatClampNeg)) 60 (p1 + (1 : Int32)).toNatClampNeg)) 60 (p1 + (2 : Int32)).toNatClampNeg)) 51 ((g_upd (g_upd (g_upd u9.2 48 (u9.2 41 16).toNatClampNeg (u9.2 60 p1.toNatClampNeg)) 49 ((g_upd u9.2 48 (u9.2 41 16).toNatClampNeg (u9.2 60 p1.toNatClampNeg)) 41 16).toNatClampNeg ((g_upd u9.2 48 (u9.2 41 16).toNatClampNeg (u9.2 60 p1.toNatClampNeg)) 60 (p1 + (1 : Int32)).toNatClampNeg)) 50 ((g_upd (g_upd u9.2 48 (u9.2 41 16).toNatClampNeg (u9.2 60 p1.toNatClampNeg)) 49 ((g_upd u9.2 48 (u9.2 41 16).toNatClampNeg (u9.2 60 p1.toNatClampNeg)) 41 16).toNatClampNeg ((g_upd u9.2 48 (u9.2 41 16).toNatClampNeg (u9.2 60 p1.toNatClampNeg)) 60 (p1 + (1 : Int32)).toNatClampNeg)) 41 16).toNatClampNeg ((g_upd (g_upd u9.2 48 (u9.2 41 16).toNatClampNeg (u9.2 60 p1.toNatClampNeg)) 49 ((g_upd u9.2 48 (u9.2 41 16).toNatClampNeg (u9.2 60 p1.toNatClampNeg)) 41 16).toNatClampNeg ((g_upd u9.2 48 (u9.2 41 16).toNatClampNeg (u9.2 60 p1.toNatClampNeg)) 60 (p1 + (1 : Int32)).toNatClampNeg)) 60 (p1 + (2 : Int32)).toNatClampNeg)) 41 16).toNatClampNeg ((g_upd (g_upd (g_upd u9.2 48 (u9.2 41 16).toNatClampNeg (u9.2 60 p1.toNatClampNeg)) 49 ((g_upd u9.2 48 (u9.2 41 16).toNatClampNeg (u9.2 60 p1.toNatClampNeg)) 41 16).toNatClampNeg ((g_upd u9.2 48 (u9.2 41 16).toNatClampNeg (u9.2 60 p1.toNatClampNeg)) 60 (p1 + (1 : Int32)).toNatClampNeg)) 50 ((g_upd (g_upd u9.2 48 (u9.2 41 16).toNatClampNeg (u9.2 60 p1.toNatClampNeg)) 49 ((g_upd u9.2 48 (u9.2 41 16).toNatClampNeg (u9.2 60 p1.toNatClampNeg)) 41 16).toNatClampNeg ((g_upd u9.2 48 (u9.2 41 16).toNatClampNeg (u9.2 60 p1.toNatClampNeg)) 60 (p1 + (1 : Int32)).toNatClampNeg)) 41 16).toNatClampNeg ((g_upd (g_upd u9.2 48 (u9.2 41 16).toNatClampNeg (u9.2 60 p1.toNatClampNeg)) 49 ((g_upd u9.2 48 (u9.2 41 16).toNatClampNeg (u9.2 60 p1.toNatClampNeg)) 41 16).toNatClampNeg ((g_upd u9.2 48 (u9.2 41 16).toNatClampNeg (u9.2 60 p1.toNatClampNeg)) 60 (p1 + (1 : Int32)).toNatClampNeg)) 60 (p1 + (2 : Int32)).toNatClampNeg)) 60 (p1 + (3 : Int32)).toNatClampNeg)) 41 16).toNatClampNeg ((g_upd (g_upd (g_upd (g_upd u9.2 48 (u9.2 41 16).toNatClampNeg (u9.2 60 p1.toNatClampNeg)) 49 ((g_upd u9.2 48 (u9.2 41 16).toNatClampNeg (u9.2 60 p1.toNatClampNeg)) 41 16).toNatClampNeg ((g_upd u9.2 48 (u9.2 41 16).toNatClampNeg (u9.2 60 p1.toNatClampNeg)) 60 (p1 + (1 : Int32)).toNatClampNeg)) 50 ((g_upd (g_upd u9.2 48 (u9.2 41 16).toNatClampNeg (u9.2 60 p1.toNatClampNeg)) 49 ((g_upd u9.2 48 (u9.2 41 16).toNatClampNeg (u9.2 60 p1.toNatClampNeg)) 41 16).toNatClampNeg ((g_upd u9.2 48 (u9.2 41 16).toNatClampNeg (u9.2 60 p1.toNatClampNeg)) 60 (p1 + (1 : Int32)).toNatClampNeg)) 41 16).toNatClampNeg ((g_upd (g_upd u9.2 48 (u9.2 41 16).toNatClampNeg (u9.2 60 p1.toNatClampNeg)) 49 ((g_upd u9.2 48 (u9.2 41 16).toNatClampNeg (u9.2 60 p1.toNatClampNeg)) 41 16).toNatClampNeg ((g_upd u9.2 48 (u9.2 41 16).toNatClampNeg (u9.2 60 p1.toNatClampNeg)) 60 (p1 + (1 : Int32)).toNatClampNeg)) 60 (p1 + (2 : Int32)).toNatClampNeg)) 51 ((g_upd (g_upd (g_upd u9.2 48 (u9.2 41 16).toNatClampNeg (u9.2 60 p1.toNatClampNeg)) 49 ((g_upd u9.2 48 (u9.2 41 16).toNatClampNeg (u9.2 60 p1.toNatClampNeg)) 41 16).toNatClampNeg ((g_upd u9.2 48 (u9.2 41 16).toNatClampNeg (u9.2 60 p1.toNatClampNeg)) 60 (p1 + (1 : Int32)).toNatClampNeg)) 50 ((g_upd (g_upd u9.2 48 (u9.2 41 16).toNatClampNeg (u9.2 60 p1.toNatClampNeg)) 49 ((g_upd u9.2 48 (u9.2 41 16).toNatClampNeg (u9.2 60 p1.toNatClampNeg)) 41 16).toNatClampNeg ((g_upd u9.2 48 (u9.2 41 16).toNatClampNeg (u9.2 60 p1.toNatClampNeg)) 60 (p1 + (1 : Int32)).toNatClampNeg)) 41 16).toNatClampNeg ((g_upd (g_upd u9.2 48 (u9.2 41 16).toNatClampNeg (u9.2 60 p1.toNatClampNeg)) 49 ((g_upd u9.2 48 (u9.2 41 16).toNatClampNeg (u9.2 60 p1.toNatClampNeg)) 41 16).toNatClampNeg ((g_upd u9.2 48 (u9.2 41 16).toNatClampNeg (u9.2 60 p1.toNatClampNeg)) 60 (p1 + (1 : Int32)).toNatClampNeg)) 60 (p1 + (2 : Int32)).toNatClampNeg)) 41 16).toNatClampNeg ((g_upd (g_upd (g_upd u9.2 48 (u9.2 41 16).toNatClampNeg (u9.2 60 p1.toNatClampNeg)) 49 ((g_upd u9.2 48 (u9.2 41 16).toNatClampNeg (u9.2 60 p1.toNatClampNeg)) 41 16).toNatClampNeg ((g_upd u9.2 48 (u9.2 41 16).toNatClampNeg (u9.2 60 p1.toNatClampNeg)) 60 (p1 + (1 : Int32)).toNatClampNeg)) 50 ((g_upd (g_upd u9.2 48 (u9.2 41 16).toNatClampNeg (u9.2 60 p1.toNatClampNeg)) 49 ((g_upd u9.2 48 (u9.2 41 16).toNatClampNeg (u9.2 60 p1.toNatClampNeg)) 41 16).toNatClampNeg ((g_upd u9.2 48 (u9.2 41 16).toNatClampNeg (u9.2 60 p1.toNatClampNeg)) 60 (p1 + (1 : Int32)).toNatClampNeg)) 41 16).toNatClampNeg ((g_upd (g_upd u9.2 48 (u9.2 41 16).toNatClampNeg (u9.2 60 p1.toNatClampNeg)) 49 ((g_upd u9.2 48 (u9.2 41 16).toNatClampNeg (u9.2 60 p1.toNatClampNeg)) 41 16).toNatClampNeg ((g_upd u9.2 48 (u9.2 41 16).toNatClampNeg (u9.2 60 p1.toNatClampNeg)) 60 (p1 + (1 : Int32)).toNatClampNeg)) 60 (p1 + (2 : Int32)).toNatClampNeg)) 60 (p1 + (3 : Int32)).toNatClampNeg)) 60 (p1 + (4 : Int32)).toNatClampNeg)) 60 (p1 + (5 : Int32)).toNatClampNeg)) 54 ((g_upd (g_upd (g_upd (g_upd (g_upd (g_upd u9.2 48 (u9.2 41 16).toNatClampNeg (u9.2 60 p1.toNatClampNeg)) 49 ((g_upd u9.2 48 (u9.2 41 16).toNatClampNeg (u9.2 60 p1.toNatClampNeg)) 41 16).toNatClampNeg ((g_upd u9.2 48 (u9.2 41 16).toNatClampNeg (u9.2 60 p1.toNatClampNeg)) 60 (p1 + (1 : Int32)).toNatClampNeg)) 50 ((g_upd (g_upd u9.2 48 (u9.2 41 16).toNatClampNeg (u9.2 60 p1.toNatClampNeg)) 49 ((g_upd u9.2 48 (u9.2 41 16).toNatClampNeg (u9.2 60 p1.toNatClampNeg)) 41 16).toNatClampNeg ((g_upd u9.2 48 (u9.2 41 16).toNatClampNeg (u9.2 60 p1.toNatClampNeg)) 60 (p1 + (1 : Int32)).toNatClampNeg)) 41 16).toNatClampNeg ((g_upd (g_upd u9.2 48 (u9.2 41 16).toNatClampNeg (u9.2 60 p1.toNatClampNeg)) 49 ((g_upd u9.2 48 (u9.2 41 16).toNatClampNeg (u9.2 60 p1.toNatClampNeg)) 41 16).toNatClampNeg ((g_upd u9.2 48 (u9.2 41 16).toNatClampNeg (u9.2 60 p1.toNatClampNeg)) 60 (p1 + (1 : Int32)).toNatClampNeg)) 60 (p1 + (2 : Int32)).toNatClampNeg)) 51 ((g_upd (g_upd (g_upd u9.2 48 (u9.2 41 16).toNatClampNeg (u9.2 60 p1.toNatClampNeg)) 49 ((g_upd u9.2 48 (u9.2 41 16).toNatClampNeg (u9.2 60 p1.toNatClampNeg)) 41 16).toNatClampNeg ((g_upd u9.2 48 (u9.2 41 16).toNatClampNeg (u9.2 60 p1.toNatClampNeg)) 60 (p1 + (1 : Int32)).toNatClampNeg)) 50 ((g_upd (g_upd u9.2 48 (u9.2 41 16).toNatClampNeg (u9.2 60 p1.toNatClampNeg)) 49 ((g_upd u9.2 48 (u9.2 41 16).toNatClampNeg (u9.2 60 p1.toNatClampNeg)) 41 16).toNatClampNeg ((g_upd u9.2 48 (u9.2 41 16).toNatClampNeg (u9.2 60 p1.toNatClampNeg)) 60 (p1 + (1 : Int32)).toNatClampNeg)) 41 16).toNatClampNeg ((g_upd (g_upd u9.2 48 (u9.2 41 16).toNatClampNeg (u9.2 60 p1.toNatClampNeg)) 49 ((g_upd u9.2 48 (u9.2 41 16).toNatClampNeg (u9.2 60 p1.toNatClampNeg)) 41 16).toNatClampNeg ((g_upd u9.2 48 (u9.2 41 16).toNatClampNeg (u9.2 60 p1.toNatClampNeg)) 60 (p1 + (1 : Int32)).toNatClampNeg)) 60 (p1 + (2 : Int32)).toNatClampNeg)) 41 16).toNatClampNeg ((g_upd (g_upd (g_upd u9.2 48 (u9.2 41 16).toNatClampNeg (u9.2 60 p1.toNatClampNeg)) 49 ((g_upd u9.2 48 (u9.2 41 16).toNatClampNeg (u9.2 60 p1.toNatClampNeg)) 41 16).toNatClampNeg ((g_upd u9.2 48 (u9.2 41 16).toNatClampNeg (u9.2 60 p1.toNatClampNeg)) 60 (p1 + (1 : Int32)).toNatClampNeg)) 50 ((g_upd (g_upd u9.2 48 (u9.2 41 16).toNatClampNeg (u9.2 60 p1.toNatClampNeg)) 49 ((g_upd u9.2 48 (u9.2 41 16).toNatClampNeg (u9.2 60 p1.toNatClampNeg)) 41 16).toNatClampNeg ((g_upd u9.2 48 (u9.2 41 16).toNatClampNeg (u9.2 60 p1.toNatClampNeg)) 60 (p1 + (1 : Int32)).toNatClampNeg)) 41 16).toNatClampNeg ((g_upd (g_upd u9.2 48 (u9.2 41 16).toNatClampNeg (u9.2 60 p1.toNatClampNeg)) 49 ((g_upd u9.2 48 (u9.2 41 16).toNatClampNeg (u9.2 60 p1.toNatClampNeg)) 41 16).toNatClampNeg ((g_upd u9.2 48 (u9.2 41 16).toNatClampNeg (u9.2 60 p1.toNatClampNeg)) 60 (p1 + (1 : Int32)).toNatClampNeg)) 60 (p1 + (2 : Int32)).toNatClampNeg)) 60 (p1 + (3 : Int32)).toNatClampNeg)) 52 ((g_upd (g_upd (g_upd (g_upd u9.2 48 (u9.2 41 16).toNatClampNeg (u9.2 60 p1.toNatClampNeg)) 49 ((g_upd u9.2 48 (u9.2 41 16).toNatClampNeg (u9.2 60 p1.toNatClampNeg)) 41 16).toNatClampNeg ((g_upd u9.2 48 (u9.2 41 16).toNatClampNeg (u9.2 60 p1.toNatClampNeg)) 60 (p1 + (1 : Int32)).toNatClampNeg)) 50 ((g_upd (g_upd u9.2 48 (u9.2 41 16).toNatClampNeg (u9.2 60 p1.toNatClampNeg)) 49 ((g_upd u9.2 48 (u9.2 41 16).toNatClampNeg (u9.2 60 p1.toNatClampNeg)) 41 16).toNatClampNeg ((g_upd u9.2 48 (u9.2 41 16).toNatClampNeg (u9.2 60 p1.toNatClampNeg)) 60 (p1 + (1 : Int32)).toNatClampNeg)) 41 16).toNatClampNeg ((g_upd (g_upd u9.2 48 (u9.2 41 16).toNatClampNeg (u9.2 60 p1.toNatClampNeg)) 49 ((g_upd u9.2 48 (u9.2 41 16).toNatClampNeg (u9.2 60 p1.toNatClampNeg)) 41 16).toNatClampNeg ((g_upd u9.2 48 (u9.2 41 16).toNatClampNeg (u9.2 60 p1.toNatClampNeg)) 60 (p1 + (1 : Int32)).toNatClampNeg)) 60 (p1 + (2 : Int32)).toNatClampNeg)) 51 ((g_upd (g_upd (g_upd u9.2 48 (u9.2 41 16).toNatClampNeg (u9.2 60 p1.toNatClampNeg)) 49 ((g_upd u9.2 48 (u9.2 41 16).toNatClampNeg (u9.2 60 p1.toNatClampNeg)) 41 16).toNatClampNeg ((g_upd u9.2 48 (u9.2 41 16).toNatClampNeg (u9.2 60 p1.toNatClampNeg)) 60 (p1 + (1 : Int32)).toNatClampNeg)) 50 ((g_upd (g_upd u9.2 48 (u9.2 41 16).toNatClampNeg (u9.2 60 p1.toNatClampNeg)) 49 ((g_upd u9.2 48 (u9.2 41 16).toNatClampNeg (u9.2 60 p1.toNatClampNeg)) 41 16).toNatClampNeg ((g_upd u9.2 48 (u9.2 41 16).toNatClampNeg (u9.2 60 p1.toNatClampNeg)) 60 (p1 + (1 : Int32)).toNatClampNeg)) 41 16).toNatClampNeg ((g_upd (g_upd u9.2 48 (u9.2 41 16).toNatClampNeg (u9.2 60 p1.toNatClampNeg)) 49 ((g_upd u9.2 48 (u9.2 41 16).toNatClampNeg (u9.2 60 p1.toNatClampNeg)) 41 16).toNatClampNeg ((g_upd u9.2 48 (u9.2 41 16).toNatClampNeg (u9.2 60 p1.toNatClampNeg)) 60 (p1 + (1 : Int32)).toNatClampNeg)) 60 (p1 + (2 : Int32)).toNatClampNeg)) 41 16).toNatClampNeg ((g_upd (g_upd (g_upd u9.2 48 (u9.2 41 16).toNatClampNeg (u9.2 60 p1.toNatClampNeg)) 49 ((g_upd u9.2 48 (u9.2 41 16).toNatClampNeg (u9.2 60 p1.toNatClampNeg)) 41 16).toNatClampNeg ((g_upd u9.2 48 (u9.2 41 16).toNatClampNeg (u9.2 60 p1.toNatClampNeg)) 60 (p1 + (1 : Int32)).toNatClampNeg)) 50 ((g_upd (g_upd u9.2 48 (u9.2 41 16).toNatClampNeg (u9.2 60 p1.toNatClampNeg)) 49 ((g_upd u9.2 48 (u9.2 41 16).toNatClampNeg (u9.2 60 p1.toNatClampNeg)) 41 16).toNatClampNeg ((g_upd u9.2 48 (u9.2 41 16).toNatClampNeg (u9.2 60 p1.toNatClampNeg)) 60 (p1 + (1 : Int32)).toNatClampNeg)) 41 16).toNatClampNeg ((g_upd (g_upd u9.2 48 (u9.2 41 16).toNatClampNeg (u9.2 60 p1.toNatClampNeg)) 49 ((g_upd u9.2 48 (u9.2 41 16).toNatClampNeg (u9.2 60 p1.toNatClampNeg)) 41 16).toNatClampNeg ((g_upd u9.2 48 (u9.2 41 16).toNatClampNeg (u9.2 60 p1.toNatClampNeg)) 60 (p1 + (1 : Int32)).toNatClampNeg)) 60 (p1 + (2 : Int32)).toNatClampNeg)) 60 (p1 + (3 : Int32)).toNatClampNeg)) 41 16).toNatClampNeg ((g_upd (g_upd (g_upd (g_upd u9.2 48 (u9.2 41 16).toNatClampNeg (u9.2 60 p1.toNatClampNeg)) 49 ((g_upd u9.2 48 (u9.2 41 16).toNatClampNeg (u9.2 60 p1.toNatClampNeg)) 41 16).toNatClampNeg ((g_upd u9.2 48 (u9.2 41 16).toNatClampNeg (u9.2 60 p1.toNatClampNeg)) 60 (p1 + (1 : Int32)).toNatClampNeg)) 50 ((g_upd (g_upd u9.2 48 (u9.2 41 16).toNatClampNeg (u9.2 60 p1.toNatClampNeg)) 49 ((g_upd u9.2 48 (u9.2 41 16).toNatClampNeg (u9.2 60 p1.toNatClampNeg)) 41 16).toNatClampNeg ((g_upd u9.2 48 (u9.2 41 16).toNatClampNeg (u9.2 60 p1.toNatClampNeg)) 60 (p1 + (1 : Int32)).toNatClampNeg)) 41 16).toNatClampNeg ((g_upd (g_upd u9.2 48 (u9.2 41 16).toNatClampNeg (u9.2 60 p1.toNatClampNeg)) 49 ((g_upd u9.2 48 (u9.2 41 16).toNatClampNeg (u9.2 60 p1.toNatClampNeg)) 41 16).toNatClampNeg ((g_upd u9.2 48 (u9.2 41 16).toNatClampNeg (u9.2 60 p1.toNatClampNeg)) 60 (p1 + (1 : Int32)).toNatClampNeg)) 60 (p1 + (2 : Int32)).toNatClampNeg)) 51 ((g_upd (g_upd (g_upd u9.2 48 (u9.2 41 16).toNatClampNeg (u9.2 60 p1.toNatClampNeg)) 49 ((g_upd u9.2 48 (u9.2 41 16).toNatClampNeg (u9.2 60 p1.toNatClampNeg)) 41 16).toNatClampNeg ((g_upd u9.2 48 (u9.2 41 16).toNatClampNeg (u9.2 60 p1.toNatClampNeg)) 60 (p1 + (1 : Int32)).toNatClampNeg)) 50 ((g_upd (g_upd u9.2 48 (u9.2 41 16).toNatClampNeg (u9.2 60 p1.toNatClampNeg)) 49 ((g_upd u9.2 48 (u9.2 41 16).toNatClampNeg (u9.2 60 p1.toNatClampNeg)) 41 16).toNatClampNeg ((g_upd u9.2 48 (u9.2 41 16).toNatClampNeg (u9.2 60 p1.toNatClampNeg)) 60 (p1 + (1 : Int32)).toNatClampNeg)) 41 16).toNatClampNeg ((g_upd (g_upd u9.2 48 (u9.2 41 16).toNatClampNeg (u9.2 60 p1.toNatClampNeg)) 49 ((g_upd u9.2 48 (u9.2 41 16).toNatClampNeg (u9.2 60 p1.toNatClampNeg)) 41 16).toNatClampNeg ((g_upd u9.2 48 (u9.2 41 16).toNatClampNeg (u9.2 60 p1.toNatClampNeg)) 60 (p1 + (1 : Int32)).toNatClampNeg)) 60 (p1 + (2 : Int32)).toNatClampNeg)) 41 16).toNatClampNeg ((g_upd (g_upd (g_upd u9.2 48 (u9.2 41 16).toNatClampNeg (u9.2 60 p1.toNatClampNeg)) 49 ((g_upd u9.2 48 (u9.2 41 16).toNatClampNeg (u9.2 60 p1.toNatClampNeg)) 41 16).toNatClampNeg ((g_upd u9.2 48 (u9.2 41 16).toNatClampNeg (u9.2 60 p1.toNatClampNeg)) 60 (p1 + (1 : Int32)).toNatClampNeg)) 50 ((g_upd (g_upd u9.2 48 (u9.2 41 16).toNatClampNeg (u9.2 60 p1.toNatClampNeg)) 49 ((g_upd u9.2 48 (u9.2 41 16).toNatClampNeg (u9.2 60 p1.toNatClampNeg)) 41 16).toNatClampNeg ((g_upd u9.2 48 (u9.2 41 16).toNatClampNeg (u9.2 60 p1.toNatClampNeg)) 60 (p1 + (1 : Int32)).toNatClampNeg)) 41 16).toNatClampNeg ((g_upd (g_upd u9.2 48 (u9.2 41 16).toNatClampNeg (u9.2 60 p1.toNatClampNeg)) 49 ((g_upd u9.2 48 (u9.2 41 16).toNatClampNeg (u9.2 60 p1.toNatClampNeg)) 41 16).toNatClampNeg ((g_upd u9.2 48 (u9.2 41 16).toNatClampNeg (u9.2 60 p1.toNatClampNeg)) 60 (p1 + (1 : Int32)).toNatClampNeg)) 60 (p1 + (2 : Int32)).toNatClampNeg)) 60 (p1 + (3 : Int32)).toNatClampNeg)) 60 (p1 + (4 : Int32)).toNatClampNeg)) 53 ((g_upd (g_upd (g_upd (g_upd (g_upd u9.2 48 (u9.2 41 16).toNatClampNeg (u9.2 60 p1.toNatClampNeg)) 49 ((g_upd u9.2 48 (u9.2 41 16).toNatClampNeg (u9.2 60 p1.toNatClampNeg)) 41 16).toNatClampNeg ((g_upd u9.2 48 (u9.2 41 16).toNatClampNeg (u9.2 60 p1.toNatClampNeg)) 60 (p1 + (1 : Int32)).toNatClampNeg)) 50 ((g_upd (g_upd u9.2 48 (u9.2 41 16).toNatClampNeg (u9.2 60 p1.toNatClampNeg)) 49 ((g_upd u9.2 48 (u9.2 41 16).toNatClampNeg (u9.2 60 p1.toNatClampNeg)) 41 16).toNatClampNeg ((g_upd u9.2 48 (u9.2 41 16).toNatClampNeg (u9.2 60 p1.toNatClampNeg)) 60 (p1 + (1 : Int32)).toNatClampNeg)) 41 16).toNatClampNeg ((g_upd (g_upd u9.2 48 (u9.2 41 16).toNatClampNeg (u9.2 60 p1.toNatClampNeg)) 49 ((g_upd u9.2 48 (u9.2 41 16).toNatClampNeg (u9.2 60 p1.toNatClampNeg)) 41 16).toNatClampNeg ((g_upd u9.2 48 (u9.2 41 16).toNatClampNeg (u9.2 60 p1.toNatClampNeg)) 60 (p1 + (1 : Int32)).toNatClampNeg)) 60 (p1 + (2 : Int32)).toNatClampNeg)) 51 ((g_upd (g_upd (g_upd u9.2 48 (u9.2 41 16).toNatClampNeg (u9.2 60 p1.toNatClampNeg)) 49 ((g_upd u9.2 48 (u9.2 41 16).toNatClampNeg (u9.2 60 p1.toNatClampNeg)) 41 16).toNatClampNeg ((g_upd u9.2 48 (u9.2 41 16).toNatClampNeg (u9.2 60 p1.toNatClampNeg)) 60 (p1 + (1 : Int32)).toNatClampNeg)) 50 ((g_upd (g_upd u9.2 48 (u9.2 41 16).toNatClampNeg (u9.2 60 p1.toNatClampNeg)) 49 ((g_upd u9.2 48 (u9.2 41 16).toNatClampNeg (u9.2 60 p1.toNatClampNeg)) 41 16).toNatClampNeg ((g_upd u9.2 48 (u9.2 41 16).toNatClampNeg (u9.2 60 p1.toNatClampNeg)) 60 (p1 + (1 : Int32)).toNatClampNeg)) 41 16).toNatClampNeg ((g_upd (g_upd u9.2 48 (u9.2 41 16).toNatClampNeg (u9.2 60 p1.toNatClampNeg)) 49 ((g_upd u9.2 48 (u9.2 41 16).toNatClampNeg (u9.2 60 p1.toNatClampNeg)) 41 16).toNatClampNeg ((g_upd u9.2 48 (u9.2 41 16).toNatClampNeg (u9.2 60 p1.toNatClampNeg)) 60 (p1 + (1 : Int32)).toNatClampNeg)) 60 (p1 + (2 : Int32)).toNatClampNeg)) 41 16).toNatClampNeg ((g_upd (g_upd (g_upd u9.2 48 (u9.2 41 16).toNatClampNeg (u9.2 60 p1.toNatClampNeg)) 49 ((g_upd u9.2 48 (u9.2 41 16).toNatClampNeg (u9.2 60 p1.toNatClampNeg)) 41 16).toNatClampNeg ((g_upd u9.2 48 (u9.2 41 16).toNatClampNeg (u9.2 60 p1.toNatClampNeg)) 60 (p1 + (1 : Int32)).toNatClampNeg)) 50 ((g_upd (g_upd u9.2 48 (u9.2 41 16).toNatClampNeg (u9.2 60 p1.toNatClampNeg)) 49 ((g_upd u9.2 48 (u9.2 41 16).toNatClampNeg (u9.2 60 p1.toNatClampNeg)) 41 16).toNatClampNeg ((g_upd u9.2 48 (u9.2 41 16).toNatClampNeg (u9.2 60 p1.toNatClampNeg)) 60 (p1 + (1 : Int32)).toNatClampNeg)) 41 16).toNatClampNeg ((g_upd (g_upd u9.2 48 (u9.2 41 16).toNatClampNeg (u9.2 60 p1.toNatClampNeg)) 49 ((g_upd u9.2 48 (u9.2 41 16).toNatClampNeg (u9.2 60 p1.toNatClampNeg)) 41 16).toNatClampNeg ((g_upd u9.2 48 (u9.2 41 16).toNatClampNeg (u9.2 60 p1.toNatClampNeg)) 60 (p1 + (1 : Int32)).toNatClampNeg)) 60 (p1 + (2 : Int32)).toNatClampNeg)) 60 (p1 + (3 : Int32)).toNatClampNeg)) 52 ((g_upd (g_upd (g_upd (g_upd u9.2 48 (u9.2 41 16).toNatClampNeg (u9.2 60 p1.toNatClampNeg)) 49 ((g_upd u9.2 48 (u9.2 41 16).toNatClampNeg (u9.2 60 p1.toNatClampNeg)) 41 16).toNatClampNeg ((g_upd u9.2 48 (u9.2 41 16).toNatClampNeg (u9.2 60 p1.toNatClampNeg)) 60 (p1 + (1 : Int32)).toNatClampNeg)) 50 ((g_upd (g_upd u9.2 48 (u9.2 41 16).toNatClampNeg (u9.2 60 p1.toNatClampNeg)) 49 ((g_upd u9.2 48 (u9.2 41 16).toNatClampNeg (u9.2 60 p1.toNatClampNeg)) 41 16).toNatClampNeg ((g_upd u9.2 48 (u9.2 41 16).toNatClampNeg (u9.2 60 p1.toNatClampNeg)) 60 (p1 + (1 : Int32)).toNatClampNeg)) 41 16).toNatClampNeg ((g_upd (g_upd u9.2 48 (u9.2 41 16).toNatClampNeg (u9.2 60 p1.toNatClampNeg)) 49 ((g_upd u9.2 48 (u9.2 41 16).toNatClampNeg (u9.2 60 p1.toNatClampNeg)) 41 16).toNatClampNeg ((g_upd u9.2 48 (u9.2 41 16).toNatClampNeg (u9.2 60 p1.toNatClampNeg)) 60 (p1 + (1 : Int32)).toNatClampNeg)) 60 (p1 + (2 : Int32)).toNatClampNeg)) 51 ((g_upd (g_upd (g_upd u9.2 48 (u9.2 41 16).toNatClampNeg (u9.2 60 p1.toNatClampNeg)) 49 ((g_upd u9.2 48 (u9.2 41 16).toNatClampNeg (u9.2 60 p1.toNatClampNeg)) 41 16).toNatClampNeg ((g_upd u9.2 48 (u9.2 41 16).toNatClampNeg (u9.2 60 p1.toNatClampNeg)) 60 (p1 + (1 : Int32)).toNatClampNeg)) 50 ((g_upd (g_upd u9.2 48 (u9.2 41 16).toNatClampNeg (u9.2 60 p1.toNatClampNeg)) 49 ((g_upd u9.2 48 (u9.2 41 16).toNatClampNeg (u9.2 60 p1.toNatClampNeg)) 41 16).toNatClampNeg ((g_upd u9.2 48 (u9.2 41 16).toNatClampNeg (u9.2 60 p1.toNatClampNeg)) 60 (p1 + (1 : Int32)).toNatClampNeg)) 41 16).toNatClampNeg ((g_upd (g_upd u9.2 48 (u9.2 41 16).toNatClampNeg (u9.2 60 p1.toNatClampNeg)) 49 ((g_upd u9.2 48 (u9.2 41 16).toNatClampNeg (u9.2 60 p1.toNatClampNeg)) 41 16).toNatClampNeg ((g_upd u9.2 48 (u9.2 41 16).toNatClampNeg (u9.2 60 p1.toNatClampNeg)) 60 (p1 + (1 : Int32)).toNatClampNeg)) 60 (p1 + (2 : Int32)).toNatClampNeg)) 41 16).toNatClampNeg ((g_upd (g_upd (g_upd u9.2 48 (u9.2 41 16).toNatClampNeg (u9.2 60 p1.toNatClampNeg)) 49 ((g_upd u9.2 48 (u9.2 41 16).toNatClampNeg (u9.2 60 p1.toNatClampNeg)) 41 16).toNatClampNeg ((g_upd u9.2 48 (u9.2 41 16).toNatClampNeg (u9.2 60 p1.toNatClampNeg)) 60 (p1 + (1 : Int32)).toNatClampNeg)) 50 ((g_upd (g_upd u9.2 48 (u9.2 41 16).toNatClampNeg (u9.2 60 p1.toNatClampNeg)) 49 ((g_upd u9.2 48 (u9.2 41 16).toNatClampNeg (u9.2 60 p1.toNatClampNeg)) 41 16).toNatClampNeg ((g_upd u9.2 48 (u9.2 41 16).toNatClampNeg (u9.2 60 p1.toNatClampNeg)) 60 (p1 + (1 : Int32)).toNatClampNeg)) 41 16).toNatClampNeg ((g_upd (g_upd u9.2 48 (u9.2 41 16).toNatClampNeg (u9.2 60 p1.toNatClampNeg)) 49 ((g_upd u9.2 48 (u9.2 41 16).toNatClampNeg (u9.2 60 p1.toNatClampNeg)) 41 16).toNatClampNeg ((g_upd u9.2 48 (u9.2 41 16).toNatClampNeg (u9.2 60 p1.toNatClampNeg)) 60 (p1 + (1 : Int32)).toNatClampNeg)) 60 (p1 + (2 : Int32)).toNatClampNeg)) 60 (p1 + (3 : Int32)).toNatClampNeg)) 41 16).toNatClampNeg ((g_upd (g_upd (g_upd (g_upd u9.2 48 (u9.2 41 16).toNatClampNeg (u9.2 60 p1.toNatClampNeg)) 49 ((g_upd u9.2 48 (u9.2 41 16).toNatClampNeg (u9.2 60 p1.toNatClampNeg)) 41 16).toNatClampNeg ((g_upd u9.2 48 (u9.2 41 16).toNatClampNeg (u9.2 60 p1.toNatClampNeg)) 60 (p1 + (1 : Int32)).toNatClampNeg)) 50 ((g_upd (g_upd u9.2 48 (u9.2 41 16).toNatClampNeg (u9.2 60 p1.toNatClampNeg)) 49 ((g_upd u9.2 48 (u9.2 41 16).toNatClampNeg (u9.2 60 p1.toNatClampNeg)) 41 16).toNatClampNeg ((g_upd u9.2 48 (u9.2 41 16).toNatClampNeg (u9.2 60 p1.toNatClampNeg)) 60 (p1 + (1 : Int32)).toNatClampNeg)) 41 16).toNatClampNeg ((g_upd (g_upd u9.2 48 (u9.2 41 16).toNatClampNeg (u9.2 60 p1.toNatClampNeg)) 49 ((g_upd u9.2 48 (u9.2 41 16).toNatClampNeg (u9.2 60 p1.toNatClampNeg)) 41 16).toNatClampNeg ((g_upd u9.2 48 (u9.2 41 16).toNatClampNeg (u9.2 60 p1.toNatClampNeg)) 60 (p1 + (1 : Int32)).toNatClampNeg)) 60 (p1 + (2 : Int32)).toNatClampNeg)) 51 ((g_upd (g_upd (g_upd u9.2 48 (u9.2 41 16).toNatClampNeg (u9.2 60 p1.toNatClampNeg)) 49 ((g_upd u9.2 48 (u9.2 41 16).toNatClampNeg (u9.2 60 p1.toNatClampNeg)) 41 16).toNatClampNeg ((g_upd u9.2 48 (u9.2 41 16).toNatClampNeg (u9.2 60 p1.toNatClampNeg)) 60 (p1 + (1 : Int32)).toNatClampNeg)) 50 ((g_upd (g_upd u9.2 48 (u9.2 41 16).toNatClampNeg (u9.2 60 p1.toNatClampNeg)) 49 ((g_upd u9.2 48 (u9.2 41 16).toNatClampNeg (u9.2 60 p1.toNatClampNeg)) 41 16).toNatClampNeg ((g_upd u9.2 48 (u9.2 41 16).toNatClampNeg (u9.2 60 p1.toNatClampNeg)) 60 (p1 + (1 : Int32)).toNatClampNeg)) 41 16).toNatClampNeg ((g_upd (g_upd u9.2 48 (u9.2 41 16).toNatClampNeg (u9.2 60 p1.toNatClampNeg)) 49 ((g_upd u9.2 48 (u9.2 41 16).toNatClampNeg (u9.2 60 p1.toNatClampNeg)) 41 16).toNatClampNeg ((g_upd u9.2 48 (u9.2 41 16).toNatClampNeg (u9.2 60 p1.toNatClampNeg)) 60 (p1 + (1 : Int32)).toNatClampNeg)) 60 (p1 + (2 : Int32)).toNatClampNeg)) 41 16).toNatClampNeg ((g_upd (g_upd (g_upd u9.2 48 (u9.2 41 16).toNatClampNeg (u9.2 60 p1.toNatClampNeg)) 49 ((g_upd u9.2 48 (u9.2 41 16).toNatClampNeg (u9.2 60 p1.toNatClampNeg)) 41 16).toNatClampNeg ((g_upd u9.2 48 (u9.2 41 16).toNatClampNeg (u9.2 60 p1.toNatClampNeg)) 60 (p1 + (1 : Int32)).toNatClampNeg)) 50 ((g_upd (g_upd u9.2 48 (u9.2 41 16).toNatClampNeg (u9.2 60 p1.toNatClampNeg)) 49 ((g_upd u9.2 48 (u9.2 41 16).toNatClampNeg (u9.2 60 p1.toNatClampNeg)) 41 16).toNatClampNeg ((g_upd u9.2 48 (u9.2 41 16).toNatClampNeg (u9.2 60 p1.toNatClampNeg)) 60 (p1 + (1 : Int32)).toNatClampNeg)) 41 16).toNatClampNeg ((g_upd (g_upd u9.2 48 (u9.2 41 16).toNatClampNeg (u9.2 60 p1.toNatClampNeg)) 49 ((g_upd u9.2 48 (u9.2 41 16).toNatClampNeg (u9.2 60 p1.toNatClampNeg)) 41 16).toNatClampNeg ((g_upd u9.2 48 (u9.2 41 16).toNatClampNeg (u9.2 60 p1.toNatClampNeg)) 60 (p1 + (1 : Int32)).toNatClampNeg)) 60 (p1 + (2 : Int32)).toNatClampNeg)) 60 (p1 + (3 : Int32)).toNatClampNeg)) 60 (p1 + (4 : Int32)).toNatClampNeg)) 41 16).toNatClampNeg ((g_upd (g_upd (g_upd (g_upd (g_upd u9.2 48 (u9.2 41 16).toNatClampNeg (u9.2 60 p1.toNatClampNeg)) 49 ((g_upd u9.2 48 (u9.2 41 16).toNatClampNeg (u9.2 60 p1.toNatClampNeg)) 41 16).toNatClampNeg ((g_upd u9.2 48 (u9.2 41 16).toNatClampNeg (u9.2 60 p1.toNatClampNeg)) 60 (p1 + (1 : Int32)).toNatClampNeg)) 50 ((g_upd (g_upd u9.2 48 (u9.2 41 16).toNatClampNeg (u9.2 60 p1.toNatClampNeg)) 49 ((g_upd u9.2 48 (u9.2 41 16).toNatClampNeg (u9.2 60 p1.toNatClampNeg)) 41 16).toNatClampNeg ((g_upd u9.2 48 (u9.2 41 16).toNatClampNeg (u9.2 60 p1.toNatClampNeg)) 60 (p1 + (1 : Int32)).toNatClampNeg)) 41 16).toNatClampNeg ((g_upd (g_upd u9.2 48 (u9.2 41 16).toNatClampNeg (u9.2 60 p1.toNatClampNeg)) 49 ((g_upd u9.2 48 (u9.2 41 16).toNatClampNeg (u9.2 60 p1.toNatClampNeg)) 41 16).toNatClampNeg ((g_upd u9.2 48 (u9.2 41 16).toNatClampNeg (u9.2 60 p1.toNatClampNeg)) 60 (p1 + (1 : Int32)).toNatClampNeg)) 60 (p1 + (2 : Int32)).toNatClampNeg)) 51 ((g_upd (g_upd (g_upd u9.2 48 (u9.2 41 16).toNatClampNeg (u9.2 60 p1.toNatClampNeg)) 49 ((g_upd u9.2 48 (u9.2 41 16).toNatClampNeg (u9.2 60 p1.toNatClampNeg)) 41 16).toNatClampNeg ((g_upd u9.2 48 (u9.2 41 16).toNatClampNeg (u9.2 60 p1.toNatClampNeg)) 60 (p1 + (1 : Int32)).toNatClampNeg)) 50 ((g_upd (g_upd u9.2 48 (u9.2 41 16).toNatClampNeg (u9.2 60 p1.toNatClampNeg)) 49 ((g_upd u9.2 48 (u9.2 41 16).toNatClampNeg (u9.2 60 p1.toNatClampNeg)) 41 16).toNatClampNeg ((g_upd u9.2 48 (u9.2 41 16).toNatClampNeg (u9.2 60 p1.toNatClampNeg)) 60 (p1 + (1 : Int32)).toNatClampNeg)) 41 16).toNatClampNeg ((g_upd (g_upd u9.2 48 (u9.2 41 16).toNatClampNeg (u9.2 60 p1.toNatClampNeg)) 49 ((g_upd u9.2 48 (u9.2 41 16).toNatClampNeg (u9.2 60 p1.toNatClampNeg)) 41 16).toNatClampNeg ((g_upd u9.2 48 (u9.2 41 16).toNatClampNeg (u9.2 60 p1.toNatClampNeg)) 60 (p1 + (1 : Int32)).toNatClampNeg)) 60 (p1 + (2 : Int32)).toNatClampNeg)) 41 16).toNatClampNeg ((g_upd (g_upd (g_upd u9.2 48 (u9.2 41 16).toNatClampNeg (u9.2 60 p1.toNatClampNeg)) 49 ((g_upd u9.2 48 (u9.2 41 16).toNatClampNeg (u9.2 60 p1.toNatClampNeg)) 41 16).toNatClampNeg ((g_upd u9.2 48 (u9.2 41 16).toNatClampNeg (u9.2 60 p1.toNatClampNeg)) 60 (p1 + (1 : Int32)).toNatClampNeg)) 50 ((g_upd (g_upd u9.2 48 (u9.2 41 16).toNatClampNeg (u9.2 60 p1.toNatClampNeg)) 49 ((g_upd u9.2 48 (u9.2 41 16).toNatClampNeg (u9.2 60 p1.toNatClampNeg)) 41 16).toNatClampNeg ((g_upd u9.2 48 (u9.2 41 16).toNatClampNeg (u9.2 60 p1.toNatClampNeg)) 60 (p1 + (1 : Int32)).toNatClampNeg)) 41 16).toNatClampNeg ((g_upd (g_upd u9.2 48 (u9.2 41 16).toNatClampNeg (u9.2 60 p1.toNatClampNeg)) 49 ((g_upd u9.2 48 (u9.2 41 16).toNatClampNeg (u9.2 60 p1.toNatClampNeg)) 41 16).toNatClampNeg ((g_upd u9.2 48 (u9.2 41 16).toNatClampNeg (u9.2 60 p1.toNatClampNeg)) 60 (p1 + (1 : Int32)).toNatClampNeg)) 60 (p1 + (2 : Int32)).toNatClampNeg)) 60 (p1 + (3 : Int32)).toNatClampNeg)) 52 ((g_upd (g_upd (g_upd (g_upd u9.2 48 (u9.2 41 16).toNatClampNeg (u9.2 60 p1.toNatClampNeg)) 49 ((g_upd u9.2 48 (u9.2 41 16).toNatClampNeg (u9.2 60 p1.toNatClampNeg)) 41 16).toNatClampNeg ((g_upd u9.2 48 (u9.2 41 16).toNatClampNeg (u9.2 60 p1.toNatClampNeg)) 60 (p1 + (1 : Int32)).toNatClampNeg)) 50 ((g_upd (g_upd u9.2 48 (u9.2 41 16).toNatClampNeg (u9.2 60 p1.toNatClampNeg)) 49 ((g_upd u9.2 48 (u9.2 41 16).toNatClampNeg (u9.2 60 p1.toNatClampNeg)) 41 16).toNatClampNeg ((g_upd u9.2 48 (u9.2 41 16).toNatClampNeg (u9.2 60 p1.toNatClampNeg)) 60 (p1 + (1 : Int32)).toNatClampNeg)) 41 16).toNatClampNeg ((g_upd (g_upd u9.2 48 (u9.2 41 16).toNatClampNeg (u9.2 60 p1.toNatClampNeg)) 49 ((g_upd u9.2 48 (u9.2 41 16).toNatClampNeg (u9.2 60 p1.toNatClampNeg)) 41 16).toNatClampNeg ((g_upd u9.2 48 (u9.2 41 16).toNatClampNeg (u9.2 60 p1.toNatClampNeg)) 60 (p1 + (1 : Int32)).toNatClampNeg)) 60 (p1 + (2 : Int32)).toNatClampNeg)) 51 ((g_upd (g_upd (g_upd u9.2 48 (u9.2 41 16).toNatClampNeg (u9.2 60 p1.toNatClampNeg)) 49 ((g_upd u9.2 48 (u9.2 41 16).toNatClampNeg (u9.2 60 p1.toNatClampNeg)) 41 16).toNatClampNeg ((g_upd u9.2 48 (u9.2 41 16).toNatClampNeg (u9.2 60 p1.toNatClampNeg)) 60 (p1 + (1 : Int32)).toNatClampNeg)) 50 ((g_upd (g_upd u9.2 48 (u9.2 41 16).toNatClampNeg (u9.2 60 p1.toNatClampNeg)) 49 ((g_upd u9.2 48 (u9.2 41 16).toNatClampNeg (u9.2 60 p1.toNatClampNeg)) 41 16).toNatClampNeg ((g_upd u9.2 48 (u9.2 41 16).toNatClampNeg (u9.2 60 p1.toNatClampNeg)) 60 (p1 + (1 : Int32)).toNatClampNeg)) 41 16).toNatClampNeg ((g_upd (g_upd u9.2 48 (u9.2 41 16).toNatClampNeg (u9.2 60 p1.toNatClampNeg)) 49 ((g_upd u9.2 48 (u9.2 41 16).toNatClampNeg (u9.2 60 p1.toNatClampNeg)) 41 16).toNatClampNeg ((g_upd u9.2 48 (u9.2 41 16).toNatClampNeg (u9.2 60 p1.toNatClampNeg)) 60 (p1 + (1 : Int32)).toNatClampNeg)) 60 (p1 + (2 : Int32)).toNatClampNeg)) 41 16).toNatClampNeg ((g_upd (g_upd (g_upd u9.2 48 (u9.2 41 16).toNatClampNeg (u9.2 60 p1.toNatClampNeg)) 49 ((g_upd u9.2 48 (u9.2 41 16).toNatClampNeg (u9.2 60 p1.toNatClampNeg)) 41 16).toNatClampNeg ((g_upd u9.2 48 (u9.2 41 16).toNatClampNeg (u9.2 60 p1.toNatClampNeg)) 60 (p1 + (1 : Int32)).toNatClampNeg)) 50 ((g_upd (g_upd u9.2 48 (u9.2 41 16).toNatClampNeg (u9.2 60 p1.toNatClampNeg)) 49 ((g_upd u9.2 48 (u9.2 41 16).toNatClampNeg (u9.2 60 p1.toNatClampNeg)) 41 16).toNatClampNeg ((g_upd u9.2 48 (u9.2 41 16).toNatClampNeg (u9.2 60 p1.toNatClampNeg)) 60 (p1 + (1 : Int32)).toNatClampNeg)) 41 16).toNatClampNeg ((g_upd (g_upd u9.2 48 (u9.2 41 16).toNatClampNeg (u9.2 60 p1.toNatClampNeg)) 49 ((g_upd u9.2 48 (u9.2 41 16).toNatClampNeg (u9.2 60 p1.toNatClampNeg)) 41 16).toNatClampNeg ((g_upd u9.2 48 (u9.2 41 16).toNatClampNeg (u9.2 60 p1.toNatClampNeg)) 60 (p1 + (1 : Int32)).toNatClampNeg)) 60 (p1 + (2 : Int32)).toNatClampNeg)) 60 (p1 + (3 : Int32)).toNatClampNeg)) 41 16).toNatClampNeg ((g_upd (g_upd (g_upd (g_upd u9.2 48 (u9.2 41 16).toNatClampNeg (u9.2 60 p1.toNatClampNeg)) 49 ((g_upd u9.2 48 (u9.2 41 16).toNatClampNeg (u9.2 60 p1.toNatClampNeg)) 41 16).toNatClampNeg ((g_upd u9.2 48 (u9.2 41 16).toNatClampNeg (u9.2 60 p1.toNatClampNeg)) 60 (p1 + (1 : Int32)).toNatClampNeg)) 50 ((g_upd (g_upd u9.2 48 (u9.2 41 16).toNatClampNeg (u9.2 60 p1.toNatClampNeg)) 49 ((g_upd u9.2 48 (u9.2 41 16).toNatClampNeg (u9.2 60 p1.toNatClampNeg)) 41 16).toNatClampNeg ((g_upd u9.2 48 (u9.2 41 16).toNatClampNeg (u9.2 60 p1.toNatClampNeg)) 60 (p1 + (1 : Int32)).toNatClampNeg)) 41 16).toNatClampNeg ((g_upd (g_upd u9.2 48 (u9.2 41 16).toNatClampNeg (u9.2 60 p1.toNatClampNeg)) 49 ((g_upd u9.2 48 (u9.2 41 16).toNatClampNeg (u9.2 60 p1.toNatClampNeg)) 41 16).toNatClampNeg ((g_upd u9.2 48 (u9.2 41 16).toNatClampNeg (u9.2 60 p1.toNatClampNeg)) 60 (p1 + (1 : Int32)).toNatClampNeg)) 60 (p1 + (2 : Int32)).toNatClampNeg)) 51 ((g_upd (g_upd (g_upd u9.2 48 (u9.2 41 16).toNatClampNeg (u9.2 60 p1.toNatClampNeg)) 49 ((g_upd u9.2 48 (u9.2 41 16).toNatClampNeg (u9.2 60 p1.toNatClampNeg)) 41 16).toNatClampNeg ((g_upd u9.2 48 (u9.2 41 16).toNatClampNeg (u9.2 60 p1.toNatClampNeg)) 60 (p1 + (1 : Int32)).toNatClampNeg)) 50 ((g_upd (g_upd u9.2 48 (u9.2 41 16).toNatClampNeg (u9.2 60 p1.toNatClampNeg)) 49 ((g_upd u9.2 48 (u9.2 41 16).toNatClampNeg (u9.2 60 p1.toNatClampNeg)) 41 16).toNatClampNeg ((g_upd u9.2 48 (u9.2 41 16).toNatClampNeg (u9.2 60 p1.toNatClampNeg)) 60 (p1 + (1 : Int32)).toNatClampNeg)) 41 16).toNatClampNeg ((g_upd (g_upd u9.2 48 (u9.2 41 16).toNatClampNeg (u9.2 60 p1.toNatClampNeg)) 49 ((g_upd u9.2 48 (u9.2 41 16).toNatClampNeg (u9.2 60 p1.toNatClampNeg)) 41 16).toNatClampNeg ((g_upd u9.2 48 (u9.2 41 16).toNatClampNeg (u9.2 60 p1.toNatClampNeg)) 60 (p1 + (1 : Int32)).toNatClampNeg)) 60 (p1 + (2 : Int32)).toNatClampNeg)) 41 16).toNatClampNeg ((g_upd (g_upd (g_upd u9.2 48 (u9.2 41 16).toNatClampNeg (u9.2 60 p1.toNatClampNeg)) 49 ((g_upd u9.2 48 (u9.2 41 16).toNatClampNeg (u9.2 60 p1.toNatClampNeg)) 41 16).toNatClampNeg ((g_upd u9.2 48 (u9.2 41 16).toNatClampNeg (u9.2 60 p1.toNatClampNeg)) 60 (p1 + (1 : Int32)).toNatClampNeg)) 50 ((g_upd (g_upd u9.2 48 (u9.2 41 16).toNatClampNeg (u9.2 60 p1.toNatClampNeg)) 49 ((g_upd u9.2 48 (u9.2 41 16).toNatClampNeg (u9.2 60 p1.toNatClampNeg)) 41 16).toNatClampNeg ((g_upd u9.2 48 (u9.2 41 16).toNatClampNeg (u9.2 60 p1.toNatClampNeg)) 60 (p1 + (1 : Int32)).toNatClampNeg)) 41 16).toNatClampNeg ((g_upd (g_upd u9.2 48 (u9.2 41 16).toNatClampNeg (u9.2 60 p1.toNatClampNeg)) 49 ((g_upd u9.2 48 (u9.2 41 16).toNatClampNeg (u9.2 60 p1.toNatClampNeg)) 41 16).toNatClampNeg ((g_upd u9.2 48 (u9.2 41 16).toNatClampNeg (u9.2 60 p1.toNatClampNeg)) 60 (p1 + (1 : Int32)).toNatClampNeg)) 60 (p1 + (2 : Int32)).toNatClampNeg)) 60 (p1 + (3 : Int32)).toNatClampNeg)) 60 (p1 + (4 : Int32)).toNatClampNeg)) 60 (p1 + (5 : Int32)).toNatClampNeg)) 41 16).toNatClampNeg ((g_upd (g_upd (g_upd (g_upd (g_upd (g_upd u9.2 48 (u9.2 41 16).toNatClampNeg (u9.2 60 p1.toNatClampNeg)) 49 ((g_upd u9.2 48 (u9.2 41 16).toNatClampNeg (u9.2 60 p1.toNatClampNeg)) 41 16).toNatClampNeg ((g_upd u9.2 48 (u9.2 41 16).toNatClampNeg (u9.2 60 p1.toNatClampNeg)) 60 (p1 + (1 : Int32)).toNatClampNeg)) 50 ((g_upd (g_upd u9.2 48 (u9.2 41 16).toNatClampNeg (u9.2 60 p1.toNatClampNeg)) 49 ((g_upd u9.2 48 (u9.2 41 16).toNatClampNeg (u9.2 60 p1.toNatClampNeg)) 41 16).toNatClampNeg ((g_upd u9.2 48 (u9.2 41 16).toNatClampNeg (u9.2 60 p1.toNatClampNeg)) 60 (p1 + (1 : Int32)).toNatClampNeg)) 41 16).toNatClampNeg ((g_upd (g_upd u9.2 48 (u9.2 41 16).toNatClampNeg (u9.2 60 p1.toNatClampNeg)) 49 ((g_upd u9.2 48 (u9.2 41 16).toNatClampNeg (u9.2 60 p1.toNatClampNeg)) 41 16).toNatClampNeg ((g_upd u9.2 48 (u9.2 41 16).toNatClampNeg (u9.2 60 p1.toNatClampNeg)) 60 (p1 + (1 : Int32)).toNatClampNeg)) 60 (p1 + (2 : Int32)).toNatClampNeg)) 51 ((g_upd (g_upd (g_upd u9.2 48 (u9.2 41 16).toNatClampNeg (u9.2 60 p1.toNatClampNeg)) 49 ((g_upd u9.2 48 (u9.2 41 16).toNatClampNeg (u9.2 60 p1.toNatClampNeg)) 41 16).toNatClampNeg ((g_upd u9.2 48 (u9.2 41 16).toNatClampNeg (u9.2 60 p1.toNatClampNeg)) 60 (p1 + (1 : Int32)).toNatClampNeg)) 50 ((g_upd (g_upd u9.2 48 (u9.2 41 16).toNatClampNeg (u9.2 60 p1.toNatClampNeg)) 49 ((g_upd u9.2 48 (u9.2 41 16).toNatClampNeg (u9.2 60 p1.toNatClampNeg)) 41 16).toNatClampNeg ((g_upd u9.2 48 (u9.2 41 16).toNatClampNeg (u9.2 60 p1.toNatClampNeg)) 60 (p1 + (1 : Int32)).toNatClampNeg)) 41 16).toNatClampNeg ((g_upd (g_upd u9.2 48 (u9.2 41 16).toNatClampNeg (u9.2 60 p1.toNatClampNeg)) 49 ((g_upd u9.2 48 (u9.2 41 16).toNatClampNeg (u9.2 60 p1.toNatClampNeg)) 41 16).toNatClampNeg ((g_upd u9.2 48 (u9.2 41 16).toNatClampNeg (u9.2 60 p1.toNatClampNeg)) 60 (p1 + (1 : Int32)).toNatClampNeg)) 60 (p1 + (2 : Int32)).toNatClampNeg)) 41 16).toNatClampNeg ((g_upd (g_upd (g_upd u9.2 48 (u9.2 41 16).toNatClampNeg (u9.2 60 p1.toNatClampNeg)) 49 ((g_upd u9.2 48 (u9.2 41 16).toNatClampNeg (u9.2 60 p1.toNatClampNeg)) 41 16).toNatClampNeg ((g_upd u9.2 48 (u9.2 41 16).toNatClampNeg (u9.2 60 p1.toNatClampNeg)) 60 (p1 + (1 : Int32)).toNatClampNeg)) 50 ((g_upd (g_upd u9.2 48 (u9.2 41 16).toNatClampNeg (u9.2 60 p1.toNatClampNeg)) 49 ((g_upd u9.2 48 (u9.2 41 16).toNatClampNeg (u9.2 60 p1.toNatClampNeg)) 41 16).toNatClampNeg ((g_upd u9.2 48 (u9.2 41 16).toNatClampNeg (u9.2 60 p1.toNatClampNeg)) 60 (p1 + (1 : Int32)).toNatClampNeg)) 41 16).toNatClampNeg ((g_upd (g_upd u9.2 48 (u9.2 41 16).toNatClampNeg (u9.2 60 p1.toNatClampNeg)) 49 ((g_upd u9.2 48 (u9.2 41 16).toNatClampNeg (u9.2 60 p1.toNatClampNeg)) 41 16).toNatClampNeg ((g_upd u9.2 48 (u9.2 41 16).toNatClampNeg (u9.2 60 p1.toNatClampNeg)) 60 (p1 + (1 : Int32)).toNatClampNeg)) 60 (p1 + (2 : Int32)).toNatClampNeg)) 60 (p1 + (3 : Int32)).toNatClampNeg)) 52 ((g_upd (g_upd (g_upd (g_upd u9.2 48 (u9.2 41 16).toNatClampNeg (u9.2 60 p1.toNatClampNeg)) 49 ((g_upd u9.2 48 (u9.2 41 16).toNatClampNeg (u9.2 60 p1.toNatClampNeg)) 41 16).toNatClampNeg ((g_upd u9.2 48 (u9.2 41 16).toNatClampNeg (u9.2 60 p1.toNatClampNeg)) 60 (p1 + (1 : Int32)).toNatClampNeg)) 50 ((g_upd (g_upd u9.2 48 (u9.2 41 16).toNatClampNeg (u9.2 60 p1.toNatClampNeg)) 49 ((g_upd u9.2 48 (u9.2 41 16).toNatClampNeg (u9.2 60 p1.toNatClampNeg)) 41 16).toNatClampNeg ((g_upd u9.2 48 (u9.2 41 16).toNatClampNeg (u9.2 60 p1.toNatClampNeg)) 60 (p1 + (1 : Int32)).toNatClampNeg)) 41 16).toNatClampNeg ((g_upd (g_upd u9.2 48 (u9.2 41 16).toNatClampNeg (u9.2 60 p1.toNatClampNeg)) 49 ((g_upd u9.2 48 (u9.2 41 16).toNatClampNeg (u9.2 60 p1.toNatClampNeg)) 41 16).toNatClampNeg ((g_upd u9.2 48 (u9.2 41 16).toNatClampNeg (u9.2 60 p1.toNatClampNeg)) 60 (p1 + (1 : Int32)).toNatClampNeg)) 60 (p1 + (2 : Int32)).toNatClampNeg)) 51 ((g_upd (g_upd (g_upd u9.2 48 (u9.2 41 16).toNatClampNeg (u9.2 60 p1.toNatClampNeg)) 49 ((g_upd u9.2 48 (u9.2 41 16).toNatClampNeg (u9.2 60 p1.toNatClampNeg)) 41 16).toNatClampNeg ((g_upd u9.2 48 (u9.2 41 16).toNatClampNeg (u9.2 60 p1.toNatClampNeg)) 60 (p1 + (1 : Int32)).toNatClampNeg)) 50 ((g_upd (g_upd u9.2 48 (u9.2 41 16).toNatClampNeg (u9.2 60 p1.toNatClampNeg)) 49 ((g_upd u9.2 48 (u9.2 41 16).toNatClampNeg (u9.2 60 p1.toNatClampNeg)) 41 16).toNatClampNeg ((g_upd u9.2 48 (u9.2 41 16).toNatClampNeg (u9.2 60 p1.toNatClampNeg)) 60 (p1 + (1 : Int32)).toNatClampNeg)) 41 16).toNatClampNeg ((g_upd (g_upd u9.2 48 (u9.2 41 16).toNatClampNeg (u9.2 60 p1.toNatClampNeg)) 49 ((g_upd u9.2 48 (u9.2 41 16).toNatClampNeg (u9.2 60 p1.toNatClampNeg)) 41 16).toNatClampNeg ((g_upd u9.2 48 (u9.2 41 16).toNatClampNeg (u9.2 60 p1.toNatClampNeg)) 60 (p1 + (1 : Int32)).toNatClampNeg)) 60 (p1 + (2 : Int32)).toNatClampNeg)) 41 16).toNatClampNeg ((g_upd (g_upd (g_upd u9.2 48 (u9.2 41 16).toNatClampNeg (u9.2 60 p1.toNatClampNeg)) 49 ((g_upd u9.2 48 (u9.2 41 16).toNatClampNeg (u9.2 60 p1.toNatClampNeg)) 41 16).toNatClampNeg ((g_upd u9.2 48 (u9.2 41 16).toNatClampNeg (u9.2 60 p1.toNatClampNeg)) 60 (p1 + (1 : Int32)).toNatClampNeg)) 50 ((g_upd (g_upd u9.2 48 (u9.2 41 16).toNatClampNeg (u9.2 60 p1.toNatClampNeg)) 49 ((g_upd u9.2 48 (u9.2 41 16).toNatClampNeg (u9.2 60 p1.toNatClampNeg)) 41 16).toNatClampNeg ((g_upd u9.2 48 (u9.2 41 16).toNatClampNeg (u9.2 60 p1.toNatClampNeg)) 60 (p1 + (1 : Int32)).toNatClampNeg)) 41 16).toNatClampNeg ((g_upd (g_upd u9.2 48 (u9.2 41 16).toNatClampNeg (u9.2 60 p1.toNatClampNeg)) 49 ((g_upd u9.2 48 (u9.2 41 16).toNatClampNeg (u9.2 60 p1.toNatClampNeg)) 41 16).toNatClampNeg ((g_upd u9.2 48 (u9.2 41 16).toNatClampNeg (u9.2 60 p1.toNatClampNeg)) 60 (p1 + (1 : Int32)).toNatClampNeg)) 60 (p1 + (2 : Int32)).toNatClampNeg)) 60 (p1 + (3 : Int32)).toNatClampNeg)) 41 16).toNatClampNeg ((g_upd (g_upd (g_upd (g_upd u9.2 48 (u9.2 41 16).toNatClampNeg (u9.2 60 p1.toNatClampNeg)) 49 ((g_upd u9.2 48 (u9.2 41 16).toNatClampNeg (u9.2 60 p1.toNatClampNeg)) 41 16).toNatClampNeg ((g_upd u9.2 48 (u9.2 41 16).toNatClampNeg (u9.2 60 p1.toNatClampNeg)) 60 (p1 + (1 : Int32)).toNatClampNeg)) 50 ((g_upd (g_upd u9.2 48 (u9.2 41 16).toNatClampNeg (u9.2 60 p1.toNatClampNeg)) 49 ((g_upd u9.2 48 (u9.2 41 16).toNatClampNeg (u9.2 60 p1.toNatClampNeg)) 41 16).toNatClampNeg ((g_upd u9.2 48 (u9.2 41 16).toNatClampNeg (u9.2 60 p1.toNatClampNeg)) 60 (p1 + (1 : Int32)).toNatClampNeg)) 41 16).toNatClampNeg ((g_upd (g_upd u9.2 48 (u9.2 41 16).toNatClampNeg (u9.2 60 p1.toNatClampNeg)) 49 ((g_upd u9.2 48 (u9.2 41 16).toNatClampNeg (u9.2 60 p1.toNatClampNeg)) 41 16).toNatClampNeg ((g_upd u9.2 48 (u9.2 41 16).toNatClampNeg (u9.2 60 p1.toNatClampNeg)) 60 (p1 + (1 : Int32)).toNatClampNeg)) 60 (p1 + (2 : Int32)).toNatClampNeg)) 51 ((g_upd (g_upd (g_upd u9.2 48 (u9.2 41 16).toNatClampNeg (u9.2 60 p1.toNatClampNeg)) 49 ((g_upd u9.2 48 (u9.2 41 16).toNatClampNeg (u9.2 60 p1.toNatClampNeg)) 41 16).toNatClampNeg ((g_upd u9.2 48 (u9.2 41 16).toNatClampNeg (u9.2 60 p1.toNatClampNeg)) 60 (p1 + (1 : Int32)).toNatClampNeg)) 50 ((g_upd (g_upd u9.2 48 (u9.2 41 16).toNatClampNeg (u9.2 60 p1.toNatClampNeg)) 49 ((g_upd u9.2 48 (u9.2 41 16).toNatClampNeg (u9.2 60 p1.toNatClampNeg)) 41 16).toNatClampNeg ((g_upd u9.2 48 (u9.2 41 16).toNatClampNeg (u9.2 60 p1.toNatClampNeg)) 60 (p1 + (1 : Int32)).toNatClampNeg)) 41 16).toNatClampNeg ((g_upd (g_upd u9.2 48 (u9.2 41 16).toNatClampNeg (u9.2 60 p1.toNatClampNeg)) 49 ((g_upd u9.2 48 (u9.2 41 16).toNatClampNeg (u9.2 60 p1.toNatClampNeg)) 41 16).toNatClampNeg ((g_upd u9.2 48 (u9.2 41 16).toNatClampNeg (u9.2 60 p1.toNatClampNeg)) 60 (p1 + (1 : Int32)).toNatClampNeg)) 60 (p1 + (2 : Int32)).toNatClampNeg)) 41 16).toNatClampNeg ((g_upd (g_upd (g_upd u9.2 48 (u9.2 41 16).toNatClampNeg (u9.2 60 p1.toNatClampNeg)) 49 ((g_upd u9.2 48 (u9.2 41 16).toNatClampNeg (u9.2 60 p1.toNatClampNeg)) 41 16).toNatClampNeg ((g_upd u9.2 48 (u9.2 41 16).toNatClampNeg (u9.2 60 p1.toNatClampNeg)) 60 (p1 + (1 : Int32)).toNatClampNeg)) 50 ((g_upd (g_upd u9.2 48 (u9.2 41 16).toNatClampNeg (u9.2 60 p1.toNatClampNeg)) 49 ((g_upd u9.2 48 (u9.2 41 16).toNatClampNeg (u9.2 60 p1.toNatClampNeg)) 41 16).toNatClampNeg ((g_upd u9.2 48 (u9.2 41 16).toNatClampNeg (u9.2 60 p1.toNatClampNeg)) 60 (p1 + (1 : Int32)).toNatClampNeg)) 41 16).toNatClampNeg ((g_upd (g_upd u9.2 48 (u9.2 41 16).toNatClampNeg (u9.2 60 p1.toNatClampNeg)) 49 ((g_upd u9.2 48 (u9.2 41 16).toNatClampNeg (u9.2 60 p1.toNatClampNeg)) 41 16).toNatClampNeg ((g_upd u9.2 48 (u9.2 41 16).toNatClampNeg (u9.2 60 p1.toNatClampNeg)) 60 (p1 + (1 : Int32)).toNatClampNeg)) 60 (p1 + (2 : Int32)).toNatClampNeg)) 60 (p1 + (3 : Int32)).toNatClampNeg)) 60 (p1 + (4 : Int32)).toNatClampNeg)) 53 ((g_upd (g_upd (g_upd (g_upd (g_upd u9.2 48 (u9.2 41 16).toNatClampNeg (u9.2 60 p1.toNatClampNeg)) 49 ((g_upd u9.2 48 (u9.2 41 16).toNatClampNeg (u9.2 60 p1.toNatClampNeg)) 41 16).toNatClampNeg ((g_upd u9.2 48 (u9.2 41 16).toNatClampNeg (u9.2 60 p1.toNatClampNeg)) 60 (p1 + (1 : Int32)).toNatClampNeg)) 50 ((g_upd (g_upd u9.2 48 (u9.2 41 16).toNatClampNeg (u9.2 60 p1.toNatClampNeg)) 49 ((g_upd u9.2 48 (u9.2 41 16).toNatClampNeg (u9.2 60 p1.toNatClampNeg)) 41 16).toNatClampNeg ((g_upd u9.2 48 (u9.2 41 16).toNatClampNeg (u9.2 60 p1.toNatClampNeg)) 60 (p1 + (1 : Int32)).toNatClampNeg)) 41 16).toNatClampNeg ((g_upd (g_upd u9.2 48 (u9.2 41 16).toNatClampNeg (u9.2 60 p1.toNatClampNeg)) 49 ((g_upd u9.2 48 (u9.2 41 16).toNatClampNeg (u9.2 60 p1.toNatClampNeg)) 41 16).toNatClampNeg ((g_upd u9.2 48 (u9.2 41 16).toNatClampNeg (u9.2 60 p1.toNatClampNeg)) 60 (p1 + (1 : Int32)).toNatClampNeg)) 60 (p1 + (2 : Int32)).toNatClampNeg)) 51 ((g_upd (g_upd (g_upd u9.2 48 (u9.2 41 16).toNatClampNeg (u9.2 60 p1.toNatClampNeg)) 49 ((g_upd u9.2 48 (u9.2 41 16).toNatClampNeg (u9.2 60 p1.toNatClampNeg)) 41 16).toNatClampNeg ((g_upd u9.2 48 (u9.2 41 16).toNatClampNeg (u9.2 60 p1.toNatClampNeg)) 60 (p1 + (1 : Int32)).toNatClampNeg)) 50 ((g_upd (g_upd u9.2 48 (u9.2 41 16).toNatClampNeg (u9.2 60 p1.toNatClampNeg)) 49 ((g_upd u9.2 48 (u9.2 41 16).toNatClampNeg (u9.2 60 p1.toNatClampNeg)) 41 16).toNatClampNeg ((g_upd u9.2 48 (u9.2 41 16).toNatClampNeg (u9.2 60 p1.toNatClampNeg)) 60 (p1 + (1 : Int32)).toNatClampNeg)) 41 16).toNatClampNeg ((g_upd (g_upd u9.2 48 (u9.2 41 16).toNatClampNeg (u9.2 60 p1.toNatClampNeg)) 49 ((g_upd u9.2 48 (u9.2 41 16).toNatClampNeg (u9.2 60 p1.toNatClampNeg)) 41 16).toNatClampNeg ((g_upd u9.2 48 (u9.2 41 16).toNatClampNeg (u9.2 60 p1.toNatClampNeg)) 60 (p1 + (1 : Int32)).toNatClampNeg)) 60 (p1 + (2 : Int32)).toNatClampNeg)) 41 16).toNatClampNeg ((g_upd (g_upd (g_upd u9.2 48 (u9.2 41 16).toNatClampNeg (u9.2 60 p1.toNatClampNeg)) 49 ((g_upd u9.2 48 (u9.2 41 16).toNatClampNeg (u9.2 60 p1.toNatClampNeg)) 41 16).toNatClampNeg ((g_upd u9.2 48 (u9.2 41 16).toNatClampNeg (u9.2 60 p1.toNatClampNeg)) 60 (p1 + (1 : Int32)).toNatClampNeg)) 50 ((g_upd (g_upd u9.2 48 (u9.2 41 16).toNatClampNeg (u9.2 60 p1.toNatClampNeg)) 49 ((g_upd u9.2 48 (u9.2 41 16).toNatClampNeg (u9.2 60 p1.toNatClampNeg)) 41 16).toNatClampNeg ((g_upd u9.2 48 (u9.2 41 16).toNatClampNeg (u9.2 60 p1.toNatClampNeg)) 60 (p1 + (1 : Int32)).toNatClampNeg)) 41 16).toNatClampNeg ((g_upd (g_upd u9.2 48 (u9.2 41 16).toNatClampNeg (u9.2 60 p1.toNatClampNeg)) 49 ((g_upd u9.2 48 (u9.2 41 16).toNatClampNeg (u9.2 60 p1.toNatClampNeg)) 41 16).toNatClampNeg ((g_upd u9.2 48 (u9.2 41 16).toNatClampNeg (u9.2 60 p1.toNatClampNeg)) 60 (p1 + (1 : Int32)).toNatClampNeg)) 60 (p1 + (2 : Int32)).toNatClampNeg)) 60 (p1 + (3 : Int32)).toNatClampNeg)) 52 ((g_upd (g_upd (g_upd (g_upd u9.2 48 (u9.2 41 16).toNatClampNeg (u9.2 60 p1.toNatClampNeg)) 49 ((g_upd u9.2 48 (u9.2 41 16).toNatClampNeg (u9.2 60 p1.toNatClampNeg)) 41 16).toNatClampNeg ((g_upd u9.2 48 (u9.2 41 16).toNatClampNeg (u9.2 60 p1.toNatClampNeg)) 60 (p1 + (1 : Int32)).toNatClampNeg)) 50 ((g_upd (g_upd u9.2 48 (u9.2 41 16).toNatClampNeg (u9.2 60 p1.toNatClampNeg)) 49 ((g_upd u9.2 48 (u9.2 41 16).toNatClampNeg (u9.2 60 p1.toNatClampNeg)) 41 16).toNatClampNeg ((g_upd u9.2 48 (u9.2 41 16).toNatClampNeg (u9.2 60 p1.toNatClampNeg)) 60 (p1 + (1 : Int32)).toNatClampNeg)) 41 16).toNatClampNeg ((g_upd (g_upd u9.2 48 (u9.2 41 16).toNatClampNeg (u9.2 60 p1.toNatClampNeg)) 49 ((g_upd u9.2 48 (u9.2 41 16).toNatClampNeg (u9.2 60 p1.toNatClampNeg)) 41 16).toNatClampNeg ((g_upd u9.2 48 (u9.2 41 16).toNatClampNeg (u9.2 60 p1.toNatClampNeg)) 60 (p1 + (1 : Int32)).toNatClampNeg)) 60 (p1 + (2 : Int32)).toNatClampNeg)) 51 ((g_upd (g_upd (g_upd u9.2 48 (u9.2 41 16).toNatClampNeg (u9.2 60 p1.toNatClampNeg)) 49 ((g_upd u9.2 48 (u9.2 41 16).toNatClampNeg (u9.2 60 p1.toNatClampNeg)) 41 16).toNatClampNeg ((g_upd u9.2 48 (u9.2 41 16).toNatClampNeg (u9.2 60 p1.toNatClampNeg)) 60 (p1 + (1 : Int32)).toNatClampNeg)) 50 ((g_upd (g_upd u9.2 48 (u9.2 41 16).toNatClampNeg (u9.2 60 p1.toNatClampNeg)) 49 ((g_upd u9.2 48 (u9.2 41 16).toNatClampNeg (u9.2 60 p1.toNatClampNeg)) 41 16).toNatClampNeg ((g_upd u9.2 48 (u9.2 41 16).toNatClampNeg (u9.2 60 p1.toNatClampNeg)) 60 (p1 + (1 : Int32)).toNatClampNeg)) 41 16).toNatClampNeg ((g_upd (g_upd u9.2 48 (u9.2 41 16).toNatClampNeg (u9.2 60 p1.toNatClampNeg)) 49 ((g_upd u9.2 48 (u9.2 41 16).toNatClampNeg (u9.2 60 p1.toNatClampNeg)) 41 16).toNatClampNeg ((g_upd u9.2 48 (u9.2 41 16).toNatClampNeg (u9.2 60 p1.toNatClampNeg)) 60 (p1 + (1 : Int32)).toNatClampNeg)) 60 (p1 + (2 : Int32)).toNatClampNeg)) 41 16).toNatClampNeg ((g_upd (g_upd (g_upd u9.2 48 (u9.2 41 16).toNatClampNeg (u9.2 60 p1.toNatClampNeg)) 49 ((g_upd u9.2 48 (u9.2 41 16).toNatClampNeg (u9.2 60 p1.toNatClampNeg)) 41 16).toNatClampNeg ((g_upd u9.2 48 (u9.2 41 16).toNatClampNeg (u9.2 60 p1.toNatClampNeg)) 60 (p1 + (1 : Int32)).toNatClampNeg)) 50 ((g_upd (g_upd u9.2 48 (u9.2 41 16).toNatClampNeg (u9.2 60 p1.toNatClampNeg)) 49 ((g_upd u9.2 48 (u9.2 41 16).toNatClampNeg (u9.2 60 p1.toNatClampNeg)) 41 16).toNatClampNeg ((g_upd u9.2 48 (u9.2 41 16).toNatClampNeg (u9.2 60 p1.toNatClampNeg)) 60 (p1 + (1 : Int32)).toNatClampNeg)) 41 16).toNatClampNeg ((g_upd (g_upd u9.2 48 (u9.2 41 16).toNatClampNeg (u9.2 60 p1.toNatClampNeg)) 49 ((g_upd u9.2 48 (u9.2 41 16).toNatClampNeg (u9.2 60 p1.toNatClampNeg)) 41 16).toNatClampNeg ((g_upd u9.2 48 (u9.2 41 16).toNatClampNeg (u9.2 60 p1.toNatClampNeg)) 60 (p1 + (1 : Int32)).toNatClampNeg)) 60 (p1 + (2 : Int32)).toNatClampNeg)) 60 (p1 + (3 : Int32)).toNatClampNeg)) 41 16).toNatClampNeg ((g_upd (g_upd (g_upd (g_upd u9.2 48 (u9.2 41 16).toNatClampNeg (u9.2 60 p1.toNatClampNeg)) 49 ((g_upd u9.2 48 (u9.2 41 16).toNatClampNeg (u9.2 60 p1.toNatClampNeg)) 41 16).toNatClampNeg ((g_upd u9.2 48 (u9.2 41 16).toNatClampNeg (u9.2 60 p1.toNatClampNeg)) 60 (p1 + (1 : Int32)).toNatClampNeg)) 50 ((g_upd (g_upd u9.2 48 (u9.2 41 16).toNatClampNeg (u9.2 60 p1.toNatClampNeg)) 49 ((g_upd u9.2 48 (u9.2 41 16).toNatClampNeg (u9.2 60 p1.toNatClampNeg)) 41 16).toNatClampNeg ((g_upd u9.2 48 (u9.2 41 16).toNatClampNeg (u9.2 60 p1.toNatClampNeg)) 60 (p1 + (1 : Int32)).toNatClampNeg)) 41 16).toNatClampNeg ((g_upd (g_upd u9.2 48 (u9.2 41 16).toNatClampNeg (u9.2 60 p1.toNatClampNeg)) 49 ((g_upd u9.2 48 (u9.2 41 16).toNatClampNeg (u9.2 60 p1.toNatClampNeg)) 41 16).toNatClampNeg ((g_upd u9.2 48 (u9.2 41 16).toNatClampNeg (u9.2 60 p1.toNatClampNeg)) 60 (p1 + (1 : Int32)).toNatClampNeg)) 60 (p1 + (2 : Int32)).toNatClampNeg)) 51 ((g_upd (g_upd (g_upd u9.2 48 (u9.2 41 16).toNatClampNeg (u9.2 60 p1.toNatClampNeg)) 49 ((g_upd u9.2 48 (u9.2 41 16).toNatClampNeg (u9.2 60 p1.toNatClampNeg)) 41 16).toNatClampNeg ((g_upd u9.2 48 (u9.2 41 16).toNatClampNeg (u9.2 60 p1.toNatClampNeg)) 60 (p1 + (1 : Int32)).toNatClampNeg)) 50 ((g_upd (g_upd u9.2 48 (u9.2 41 16).toNatClampNeg (u9.2 60 p1.toNatClampNeg)) 49 ((g_upd u9.2 48 (u9.2 41 16).toNatClampNeg (u9.2 60 p1.toNatClampNeg)) 41 16).toNatClampNeg ((g_upd u9.2 48 (u9.2 41 16).toNatClampNeg (u9.2 60 p1.toNatClampNeg)) 60 (p1 + (1 : Int32)).toNatClampNeg)) 41 16).toNatClampNeg ((g_upd (g_upd u9.2 48 (u9.2 41 16).toNatClampNeg (u9.2 60 p1.toNatClampNeg)) 49 ((g_upd u9.2 48 (u9.2 41 16).toNatClampNeg (u9.2 60 p1.toNatClampNeg)) 41 16).toNatClampNeg ((g_upd u9.2 48 (u9.2 41 16).toNatClampNeg (u9.2 60 p1.toNatClampNeg)) 60 (p1 + (1 : Int32)).toNatClampNeg)) 60 (p1 + (2 : Int32)).toNatClampNeg)) 41 16).toNatClampNeg ((g_upd (g_upd (g_upd u9.2 48 (u9.2 41 16).toNatClampNeg (u9.2 60 p1.toNatClampNeg)) 49 ((g_upd u9.2 48 (u9.2 41 16).toNatClampNeg (u9.2 60 p1.toNatClampNeg)) 41 16).toNatClampNeg ((g_upd u9.2 48 (u9.2 41 16).toNatClampNeg (u9.2 60 p1.toNatClampNeg)) 60 (p1 + (1 : Int32)).toNatClampNeg)) 50 ((g_upd (g_upd u9.2 48 (u9.2 41 16).toNatClampNeg (u9.2 60 p1.toNatClampNeg)) 49 ((g_upd u9.2 48 (u9.2 41 16).toNatClampNeg (u9.2 60 p1.toNatClampNeg)) 41 16).toNatClampNeg ((g_upd u9.2 48 (u9.2 41 16).toNatClampNeg (u9.2 60 p1.toNatClampNeg)) 60 (p1 + (1 : Int32)).toNatClampNeg)) 41 16).toNatClampNeg ((g_upd (g_upd u9.2 48 (u9.2 41 16).toNatClampNeg (u9.2 60 p1.toNatClampNeg)) 49 ((g_upd u9.2 48 (u9.2 41 16).toNatClampNeg (u9.2 60 p1.toNatClampNeg)) 41 16).toNatClampNeg ((g_upd u9.2 48 (u9.2 41 16).toNatClampNeg (u9.2 60 p1.toNatClampNeg)) 60 (p1 + (1 : Int32)).toNatClampNeg)) 60 (p1 + (2 : Int32)).toNatClampNeg)) 60 (p1 + (3 : Int32)).toNatClampNeg)) 60 (p1 + (4 : Int32)).toNatClampNeg)) 41 16).toNatClampNeg ((g_upd (g_upd (g_upd (g_upd (g_upd u9.2 48 (u9.2 41 16).toNatClampNeg (u9.2 60 p1.toNatClampNeg)) 49 ((g_upd u9.2 48 (u9.2 41 16).toNatClampNeg (u9.2 60 p1.toNatClampNeg)) 41 16).toNatClampNeg ((g_upd u9.2 48 (u9.2 41 16).toNatClampNeg (u9.2 60 p1.toNatClampNeg)) 60 (p1 + (1 : Int32)).toNatClampNeg)) 50 ((g_upd (g_upd u9.2 48 (u9.2 41 16).toNatClampNeg (u9.2 60 p1.toNatClampNeg)) 49 ((g_upd u9.2 48 (u9.2 41 16).toNatClampNeg (u9.2 60 p1.toNatClampNeg)) 41 16).toNatClampNeg ((g_upd u9.2 48 (u9.2 41 16).toNatClampNeg (u9.2 60 p1.toNatClampNeg)) 60 (p1 + (1 : Int32)).toNatClampNeg)) 41 16).toNatClampNeg ((g_upd (g_upd u9.2 48 (u9.2 41 16).toNatClampNeg (u9.2 60 p1.toNatClampNeg)) 49 ((g_upd u9.2 48 (u9.2 41 16).toNatClampNeg (u9.2 60 p1.toNatClampNeg)) 41 16).toNatClampNeg ((g_upd u9.2 48 (u9.2 41 16).toNatClampNeg (u9.2 60 p1.toNatClampNeg)) 60 (p1 + (1 : Int32)).toNatClampNeg)) 60 (p1 + (2 : Int32)).toNatClampNeg)) 51 ((g_upd (g_upd (g_upd u9.2 48 (u9.2 41 16).toNatClampNeg (u9.2 60 p1.toNatClampNeg)) 49 ((g_upd u9.2 48 (u9.2 41 16).toNatClampNeg (u9.2 60 p1.toNatClampNeg)) 41 16).toNatClampNeg ((g_upd u9.2 48 (u9.2 41 16).toNatClampNeg (u9.2 60 p1.toNatClampNeg)) 60 (p1 + (1 : Int32)).toNatClampNeg)) 50 ((g_upd (g_upd u9.2 48 (u9.2 41 16).toNatClampNeg (u9.2 60 p1.toNatClampNeg)) 49 ((g_upd u9.2 48 (u9.2 41 16).toNatClampNeg (u9.2 60 p1.toNatClampNeg)) 41 16).toNatClampNeg ((g_upd u9.2 48 (u9.2 41 16).toNatClampNeg (u9.2 60 p1.toNatClampNeg)) 60 (p1 + (1 : Int32)).toNatClampNeg)) 41 16).toNatClampNeg ((g_upd (g_upd u9.2 48 (u9.2 41 16).toNatClampNeg (u9.2 60 p1.toNatClampNeg)) 49 ((g_upd u9.2 48 (u9.2 41 16).toNatClampNeg (u9.2 60 p1.toNatClampNeg)) 41 16).toNatClampNeg ((g_upd u9.2 48 (u9.2 41 16).toNatClampNeg (u9.2 60 p1.toNatClampNeg)) 60 (p1 + (1 : Int32)).toNatClampNeg)) 60 (p1 + (2 : Int32)).toNatClampNeg)) 41 16).toNatClampNeg ((g_upd (g_upd (g_upd u9.2 48 (u9.2 41 16).toNatClampNeg (u9.2 60 p1.toNatClampNeg)) 49 ((g_upd u9.2 48 (u9.2 41 16).toNatClampNeg (u9.2 60 p1.toNatClampNeg)) 41 16).toNatClampNeg ((g_upd u9.2 48 (u9.2 41 16).toNatClampNeg (u9.2 60 p1.toNatClampNeg)) 60 (p1 + (1 : Int32)).toNatClampNeg)) 50 ((g_upd (g_upd u9.2 48 (u9.2 41 16).toNatClampNeg (u9.2 60 p1.toNatClampNeg)) 49 ((g_upd u9.2 48 (u9.2 41 16).toNatClampNeg (u9.2 60 p1.toNatClampNeg)) 41 16).toNatClampNeg ((g_upd u9.2 48 (u9.2 41 16).toNatClampNeg (u9.2 60 p1.toNatClampNeg)) 60 (p1 + (1 : Int32)).toNatClampNeg)) 41 16).toNatClampNeg ((g_upd (g_upd u9.2 48 (u9.2 41 16).toNatClampNeg (u9.2 60 p1.toNatClampNeg)) 49 ((g_upd u9.2 48 (u9.2 41 16).toNatClampNeg (u9.2 60 p1.toNatClampNeg)) 41 16).toNatClampNeg ((g_upd u9.2 48 (u9.2 41 16).toNatClampNeg (u9.2 60 p1.toNatClampNeg)) 60 (p1 + (1 : Int32)).toNatClampNeg)) 60 (p1 + (2 : Int32)).toNatClampNeg)) 60 (p1 + (3 : Int32)).toNatClampNeg)) 52 ((g_upd (g_upd (g_upd (g_upd u9.2 48 (u9.2 41 16).toNatClampNeg (u9.2 60 p1.toNatClampNeg)) 49 ((g_upd u9.2 48 (u9.2 41 16).toNatClampNeg (u9.2 60 p1.toNatClampNeg)) 41 16).toNatClampNeg ((g_upd u9.2 48 (u9.2 41 16).toNatClampNeg (u9.2 60 p1.toNatClampNeg)) 60 (p1 + (1 : Int32)).toNatClampNeg)) 50 ((g_upd (g_upd u9.2 48 (u9.2 41 16).toNatClampNeg (u9.2 60 p1.toNatClampNeg)) 49 ((g_upd u9.2 48 (u9.2 41 16).toNatClampNeg (u9.2 60 p1.toNatClampNeg)) 41 16).toNatClampNeg ((g_upd u9.2 48 (u9.2 41 16).toNatClampNeg (u9.2 60 p1.toNatClampNeg)) 60 (p1 + (1 : Int32)).toNatClampNeg)) 41 16).toNatClampNeg ((g_upd (g_upd u9.2 48 (u9.2 41 16).toNatClampNeg (u9.2 60 p1.toNatClampNeg)) 49 ((g_upd u9.2 48 (u9.2 41 16).toNatClampNeg (u9.2 60 p1.toNatClampNeg)) 41 16).toNatClampNeg ((g_upd u9.2 48 (u9.2 41 16).toNatClampNeg (u9.2 60 p1.toNatClampNeg)) 60 (p1 + (1 : Int32)).toNatClampNeg)) 60 (p1 + (2 : Int32)).toNatClampNeg)) 51 ((g_upd (g_upd (g_upd u9.2 48 (u9.2 41 16).toNatClampNeg (u9.2 60 p1.toNatClampNeg)) 49 ((g_upd u9.2 48 (u9.2 41 16).toNatClampNeg (u9.2 60 p1.toNatClampNeg)) 41 16).toNatClampNeg ((g_upd u9.2 48 (u9.2 41 16).toNatClampNeg (u9.2 60 p1.toNatClampNeg)) 60 (p1 + (1 : Int32)).toNatClampNeg)) 50 ((g_upd (g_upd u9.2 48 (u9.2 41 16).toNatClampNeg (u9.2 60 p1.toNatClampNeg)) 49 ((g_upd u9.2 48 (u9.2 41 16).toNatClampNeg (u9.2 60 p1.toNatClampNeg)) 41 16).toNatClampNeg ((g_upd u9.2 48 (u9.2 41 16).toNatClampNeg (u9.2 60 p1.toNatClampNeg)) 60 (p1 + (1 : Int32)).toNatClampNeg)) 41 16).toNatClampNeg ((g_upd (g_upd u9.2 48 (u9.2 41 16).toNatClampNeg (u9.2 60 p1.toNatClampNeg)) 49 ((g_upd u9.2 48 (u9.2 41 16).toNatClampNeg (u9.2 60 p1.toNatClampNeg)) 41 16).toNatClampNeg ((g_upd u9.2 48 (u9.2 41 16).toNatClampNeg (u9.2 60 p1.toNatClampNeg)) 60 (p1 + (1 : Int32)).toNatClampNeg)) 60 (p1 + (2 : Int32)).toNatClampNeg)) 41 16).toNatClampNeg ((g_upd (g_upd (g_upd u9.2 48 (u9.2 41 16).toNatClampNeg (u9.2 60 p1.toNatClampNeg)) 49 ((g_upd u9.2 48 (u9.2 41 16).toNatClampNeg (u9.2 60 p1.toNatClampNeg)) 41 16).toNatClampNeg ((g_upd u9.2 48 (u9.2 41 16).toNatClampNeg (u9.2 60 p1.toNatClampNeg)) 60 (p1 + (1 : Int32)).toNatClampNeg)) 50 ((g_upd (g_upd u9.2 48 (u9.2 41 16).toNatClampNeg (u9.2 60 p1.toNatClampNeg)) 49 ((g_upd u9.2 48 (u9.2 41 16).toNatClampNeg (u9.2 60 p1.toNatClampNeg)) 41 16).toNatClampNeg ((g_upd u9.2 48 (u9.2 41 16).toNatClampNeg (u9.2 60 p1.toNatClampNeg)) 60 (p1 + (1 : Int32)).toNatClampNeg)) 41 16).toNatClampNeg ((g_upd (g_upd u9.2 48 (u9.2 41 16).toNatClampNeg (u9.2 60 p1.toNatClampNeg)) 49 ((g_upd u9.2 48 (u9.2 41 16).toNatClampNeg (u9.2 60 p1.toNatClampNeg)) 41 16).toNatClampNeg ((g_upd u9.2 48 (u9.2 41 16).toNatClampNeg (u9.2 60 p1.toNatClampNeg)) 60 (p1 + (1 : Int32)).toNatClampNeg)) 60 (p1 + (2 : Int32)).toNatClampNeg)) 60 (p1 + (3 : Int32)).toNatClampNeg)) 41 16).toNatClampNeg ((g_upd (g_upd (g_upd (g_upd u9.2 48 (u9.2 41 16).toNatClampNeg (u9.2 60 p1.toNatClampNeg)) 49 ((g_upd u9.2 48 (u9.2 41 16).toNatClampNeg (u9.2 60 p1.toNatClampNeg)) 41 16).toNatClampNeg ((g_upd u9.2 48 (u9.2 41 16).toNatClampNeg (u9.2 60 p1.toNatClampNeg)) 60 (p1 + (1 : Int32)).toNatClampNeg)) 50 ((g_upd (g_upd u9.2 48 (u9.2 41 16).toNatClampNeg (u9.2 60 p1.toNatClampNeg)) 49 ((g_upd u9.2 48 (u9.2 41 16).toNatClampNeg (u9.2 60 p1.toNatClampNeg)) 41 16).toNatClampNeg ((g_upd u9.2 48 (u9.2 41 16).toNatClampNeg (u9.2 60 p1.toNatClampNeg)) 60 (p1 + (1 : Int32)).toNatClampNeg)) 41 16).toNatClampNeg ((g_upd (g_upd u9.2 48 (u9.2 41 16).toNatClampNeg (u9.2 60 p1.toNatClampNeg)) 49 ((g_upd u9.2 48 (u9.2 41 16).toNatClampNeg (u9.2 60 p1.toNatClampNeg)) 41 16).toNatClampNeg ((g_upd u9.2 48 (u9.2 41 16).toNatClampNeg (u9.2 60 p1.toNatClampNeg)) 60 (p1 + (1 : Int32)).toNatClampNeg)) 60 (p1 + (2 : Int32)).toNatClampNeg)) 51 ((g_upd (g_upd (g_upd u9.2 48 (u9.2 41 16).toNatClampNeg (u9.2 60 p1.toNatClampNeg)) 49 ((g_upd u9.2 48 (u9.2 41 16).toNatClampNeg (u9.2 60 p1.toNatClampNeg)) 41 16).toNatClampNeg ((g_upd u9.2 48 (u9.2 41 16).toNatClampNeg (u9.2 60 p1.toNatClampNeg)) 60 (p1 + (1 : Int32)).toNatClampNeg)) 50 ((g_upd (g_upd u9.2 48 (u9.2 41 16).toNatClampNeg (u9.2 60 p1.toNatClampNeg)) 49 ((g_upd u9.2 48 (u9.2 41 16).toNatClampNeg (u9.2 60 p1.toNatClampNeg)) 41 16).toNatClampNeg ((g_upd u9.2 48 (u9.2 41 16).toNatClampNeg (u9.2 60 p1.toNatClampNeg)) 60 (p1 + (1 : Int32)).toNatClampNeg)) 41 16).toNatClampNeg ((g_upd (g_upd u9.2 48 (u9.2 41 16).toNatClampNeg (u9.2 60 p1.toNatClampNeg)) 49 ((g_upd u9.2 48 (u9.2 41 16).toNatClampNeg (u9.2 60 p1.toNatClampNeg)) 41 16).toNatClampNeg ((g_upd u9.2 48 (u9.2 41 16).toNatClampNeg (u9.2 60 p1.toNatClampNeg)) 60 (p1 + (1 : Int32)).toNatClampNeg)) 60 (p1 + (2 : Int32)).toNatClampNeg)) 41 16).toNatClampNeg ((g_upd (g_upd (g_upd u9.2 48 (u9.2 41 16).toNatClampNeg (u9.2 60 p1.toNatClampNeg)) 49 ((g_upd u9.2 48 (u9.2 41 16).toNatClampNeg (u9.2 60 p1.toNatClampNeg)) 41 16).toNatClampNeg ((g_upd u9.2 48 (u9.2 41 16).toNatClampNeg (u9.2 60 p1.toNatClampNeg)) 60 (p1 + (1 : Int32)).toNatClampNeg)) 50 ((g_upd (g_upd u9.2 48 (u9.2 41 16).toNatClampNeg (u9.2 60 p1.toNatClampNeg)) 49 ((g_upd u9.2 48 (u9.2 41 16).toNatClampNeg (u9.2 60 p1.toNatClampNeg)) 41 16).toNatClampNeg ((g_upd u9.2 48 (u9.2 41 16).toNatClampNeg (u9.2 60 p1.toNatClampNeg)) 60 (p1 + (1 : Int32)).toNatClampNeg)) 41 16).toNatClampNeg ((g_upd (g_upd u9.2 48 (u9.2 41 16).toNatClampNeg (u9.2 60 p1.toNatClampNeg)) 49 ((g_upd u9.2 48 (u9.2 41 16).toNatClampNeg (u9.2 60 p1.toNatClampNeg)) 41 16).toNatClampNeg ((g_upd u9.2 48 (u9.2 41 16).toNatClampNeg (u9.2 60 p1.toNatClampNeg)) 60 (p1 + (1 : Int32)).toNatClampNeg)) 60 (p1 + (2 : Int32)).toNatClampNeg)) 60 (p1 + (3 : Int32)).toNatClampNeg)) 60 (p1 + (4 : Int32)).toNatClampNeg)) 60 (p1 + (5 : Int32)).toNatClampNeg)) 60 (p1 + (6 : Int32)).toNatClampNeg)) 41 16 (((g_upd (g_upd (g_upd (g_upd (g_upd (g_upd (g_upd u9.2 48 (u9.2 41 16).toNatClampNeg (u9.2 60 p1.toNatClampNeg)) 49 ((g_upd u9.2 48 (u9.2 41 16).toNatClampNeg (u9.2 60 p1.toNatClampNeg)) 41 16).toNatClampNeg ((g_upd u9.2 48 (u9.2 41 16).toNatClampNeg (u9.2 60 p1.toNatClampNeg)) 60 (p1 + (1 : Int32)).toNatClampNeg)) 50 ((g_upd (g_upd u9.2 48 (u9.2 41 16).toNatClampNeg (u9.2 60 p1.toNatClampNeg)) 49 ((g_upd u9.2 48 (u9.2 41 16).toNatClampNeg (u9.2 60 p1.toNatClampNeg)) 41 16).toNatClampNeg ((g_upd u9.2 48 (u9.2 41 16).toNatClampNeg (u9.2 60 p1.toNatClampNeg)) 60 (p1 + (1 : Int32)).toNatClampNeg)) 41 16).toNatClampNeg ((g_upd (g_upd u9.2 48 (u9.2 41 16).toNatClampNeg (u9.2 60 p1.toNatClampNeg)) 49 ((g_upd u9.2 48 (u9.2 41 16).toNatClampNeg (u9.2 60 p1.toNatClampNeg)) 41 16).toNatClampNeg ((g_upd u9.2 48 (u9.2 41 16).toNatClampNeg (u9.2 60 p1.toNatClampNeg)) 60 (p1 + (1 : Int32)).toNatClampNeg)) 60 (p1 + (2 : Int32)).toNatClampNeg)) 51 ((g_upd (g_upd (g_upd u9.2 48 (u9.2 41 16).toNatClampNeg (u9.2 60 p1.toNatClampNeg)) 49 ((g_upd u9.2 48 (u9.2 41 16).toNatClampNeg (u9.2 60 p1.toNatClampNeg)) 41 16).toNatClampNeg ((g_upd u9.2 48 (u9.2 41 16).toNatClampNeg (u9.2 60 p1.toNatClampNeg)) 60 (p1 + (1 : Int32)).toNatClampNeg)) 50 ((g_upd (g_upd u9.2 48 (u9.2 41 16).toNatClampNeg (u9.2 60 p1.toNatClampNeg)) 49 ((g_upd u9.2 48 (u9.2 41 16).toNatClampNeg (u9.2 60 p1.toNatClampNeg)) 41 16).toNatClampNeg ((g_upd u9.2 48 (u9.2 41 16).toNatClampNeg (u9.2 60 p1.toNatClampNeg)) 60 (p1 + (1 : Int32)).toNatClampNeg)) 41 16).toNatClampNeg ((g_upd (g_upd u9.2 48 (u9.2 41 16).toNatClampNeg (u9.2 60 p1.toNatClampNeg)) 49 ((g_upd u9.2 48 (u9.2 41 16).toNatClampNeg (u9.2 60 p1.toNatClampNeg)) 41 16).toNatClampNeg ((g_upd u9.2 48 (u9.2 41 16).toNatClampNeg (u9.2 60 p1.toNatClampNeg)) 60 (p1 + (1 : Int32)).toNatClampNeg)) 60 (p1 + (2 : Int32)).toNatClampNeg)) 41 16).toNatClampNeg ((g_upd (g_upd (g_upd u9.2 48 (u9.2 41 16).toNatClampNeg (u9.2 60 p1.toNatClampNeg)) 49 ((g_upd u9.2 48 (u9.2 41 16).toNatClampNeg (u9.2 60 p1.toNatClampNeg)) 41 16).toNatClampNeg ((g_upd u9.2 48 (u9.2 41 16).toNatClampNeg (u9.2 60 p1.toNatClampNeg)) 60 (p1 + (1 : Int32)).toNatClampNeg)) 50 ((g_upd (g_upd u9.2 48 (u9.2 41 16).toNatClampNeg (u9.2 60 p1.toNatClampNeg)) 49 ((g_upd u9.2 48 (u9.2 41 16).toNatClampNeg (u9.2 60 p1.toNatClampNeg)) 41 16).toNatClampNeg ((g_upd u9.2 48 (u9.2 41 16).toNatClampNeg (u9.2 60 p1.toNatClampNeg)) 60 (p1 + (1 : Int32)).toNatClampNeg)) 41 16).toNatClampNeg ((g_upd (g_upd u9.2 48 (u9.2 41 16).toNatClampNeg (u9.2 60 p1.toNatClampNeg)) 49 ((g_upd u9.2 48 (u9.2 41 16).toNatClampNeg (u9.2 60 p1.toNatClampNeg)) 41 16).toNatClampNeg ((g_upd u9.2 48 (u9.2 41 16).toNatClampNeg (u9.2 60 p1.toNatClampNeg)) 60 (p1 + (1 : Int32)).toNatClampNeg)) 60 (p1 + (2 : Int32)).toNatClampNeg)) 60 (p1 + (3 : Int32)).toNatClampNeg)) 52 ((g_upd (g_upd (g_upd (g_upd u9.2 48 (u9.2 41 16).toNatClampNeg (u9.2 60 p1.toNatClampNeg)) 49 ((g_upd u9.2 48 (u9.2 41 16).toNatClampNeg (u9.2 60 p1.toNatClampNeg)) 41 16).toNatClampNeg ((g_upd u9.2 48 (u9.2 41 16).toNatClampNeg (u9.2 60 p1.toNatClampNeg)) 60 (p1 + (1 : Int32)).toNatClampNeg)) 50 ((g_upd (g_upd u9.2 48 (u9.2 41 16).toNatClampNeg (u9.2 60 p1.toNatClampNeg)) 49 ((g_upd u9.2 48 (u9.2 41 16).toNatClampNeg (u9.2 60 p1.toNatClampNeg)) 41 16).toNatClampNeg ((g_upd u9.2 48 (u9.2 41 16).toNatClampNeg (u9.2 60 p1.toNatClampNeg)) 60 (p1 + (1 : Int32)).toNatClampNeg)) 41 16).toNatClampNeg ((g_upd (g_upd u9.2 48 (u9.2 41 16).toNatClampNeg (u9.2 60 p1.toNatClampNeg)) 49 ((g_upd u9.2 48 (u9.2 41 16).toNatClampNeg (u9.2 60 p1.toNatClampNeg)) 41 16).toNatClampNeg ((g_upd u9.2 48 (u9.2 41 16).toNatClampNeg (u9.2 60 p1.toNatClampNeg)) 60 (p1 + (1 : Int32)).toNatClampNeg)) 60 (p1 + (2 : Int32)).toNatClampNeg)) 51 ((g_upd (g_upd (g_upd u9.2 48 (u9.2 41 16).toNatClampNeg (u9.2 60 p1.toNatClampNeg)) 49 ((g_upd u9.2 48 (u9.2 41 16).toNatClampNeg (u9.2 60 p1.toNatClampNeg)) 41 16).toNatClampNeg ((g_upd u9.2 48 (u9.2 41 16).toNatClampNeg (u9.2 60 p1.toNatClampNeg)) 60 (p1 + (1 : Int32)).toNatClampNeg)) 50 ((g_upd (g_upd u9.2 48 (u9.2 41 16).toNatClampNeg (u9.2 60 p1.toNatClampNeg)) 49 ((g_upd u9.2 48 (u9.2 41 16).toNatClampNeg (u9.2 60 p1.toNatClampNeg)) 41 16).toNatClampNeg ((g_upd u9.2 48 (u9.2 41 16).toNatClampNeg (u9.2 60 p1.toNatClampNeg)) 60 (p1 + (1 : Int32)).toNatClampNeg)) 41 16).toNatClampNeg ((g_upd (g_upd u9.2 48 (u9.2 41 16).toNatClampNeg (u9.2 60 p1.toNatClampNeg)) 49 ((g_upd u9.2 48 (u9.2 41 16).toNatClampNeg (u9.2 60 p1.toNatClampNeg)) 41 16).toNatClampNeg ((g_upd u9.2 48 (u9.2 41 16).toNatClampNeg (u9.2 60 p1.toNatClampNeg)) 60 (p1 + (1 : Int32)).toNatClampNeg)) 60 (p1 + (2 : Int32)).toNatClampNeg)) 41 16).toNatClampNeg ((g_upd (g_upd (g_upd u9.2 48 (u9.2 41 16).toNatClampNeg (u9.2 60 p1.toNatClampNeg)) 49 ((g_upd u9.2 48 (u9.2 41 16).toNatClampNeg (u9.2 60 p1.toNatClampNeg)) 41 16).toNatClampNeg ((g_upd u9.2 48 (u9.2 41 16).toNatClampNeg (u9.2 60 p1.toNatClampNeg)) 60 (p1 + (1 : Int32)).toNatClampNeg)) 50 ((g_upd (g_upd u9.2 48 (u9.2 41 16).toNatClampNeg (u9.2 60 p1.toNatClampNeg)) 49 ((g_upd u9.2 48 (u9.2 41 16).toNatClampNeg (u9.2 60 p1.toNatClampNeg)) 41 16).toNatClampNeg ((g_upd u9.2 48 (u9.2 41 16).toNatClampNeg (u9.2 60 p1.toNatClampNeg)) 60 (p1 + (1 : Int32)).toNatClampNeg)) 41 16).toNatClampNeg ((g_upd (g_upd u9.2 48 (u9.2 41 16).toNatClampNeg (u9.2 60 p1.toNatClampNeg)) 49 ((g_upd u9.2 48 (u9.2 41 16).toNatClampNeg (u9.2 60 p1.toNatClampNeg)) 41 16).toNatClampNeg ((g_upd u9.2 48 (u9.2 41 16).toNatClampNeg (u9.2 60 p1.toNatClampNeg)) 60 (p1 + (1 : Int32)).toNatClampNeg)) 60 (p1 + (2 : Int32)).toNatClampNeg)) 60 (p1 + (3 : Int32)).toNatClampNeg)) 41 16).toNatClampNeg ((g_upd (g_upd (g_upd (g_upd u9.2 48 (u9.2 41 16).toNatClampNeg (u9.2 60 p1.toNatClampNeg)) 49 ((g_upd u9.2 48 (u9.2 41 16).toNatClampNeg (u9.2 60 p1.toNatClampNeg)) 41 16).toNatClampNeg ((g_upd u9.2 48 (u9.2 41 16).toNatClampNeg (u9.2 60 p1.toNatClampNeg)) 60 (p1 + (1 : Int32)).toNatClampNeg)) 50 ((g_upd (g_upd u9.2 48 (u9.2 41 16).toNatClampNeg (u9.2 60 p1.toNatClampNeg)) 49 ((g_upd u9.2 48 (u9.2 41 16).toNatClampNeg (u9.2 60 p1.toNatClampNeg)) 41 16).toNatClampNeg ((g_upd u9.2 48 (u9.2 41 16).toNatClampNeg (u9.2 60 p1.toNatClampNeg)) 60 (p1 + (1 : Int32)).toNatClampNeg)) 41 16).toNatClampNeg ((g_upd (g_upd u9.2 48 (u9.2 41 16).toNatClampNeg (u9.2 60 p1.toNatClampNeg)) 49 ((g_upd u9.2 48 (u9.2 41 16).toNatClampNeg (u9.2 60 p1.toNatClampNeg)) 41 16).toNatClampNeg ((g_upd u9.2 48 (u9.2 41 16).toNatClampNeg (u9.2 60 p1.toNatClampNeg)) 60 (p1 + (1 : Int32)).toNatClampNeg)) 60 (p1 + (2 : Int32)).toNatClampNeg)) 51 ((g_upd (g_upd (g_upd u9.2 48 (u9.2 41 16).toNatClampNeg (u9.2 60 p1.toNatClampNeg)) 49 ((g_upd u9.2 48 (u9.2 41 16).toNatClampNeg (u9.2 60 p1.toNatClampNeg)) 41 16).toNatClampNeg ((g_upd u9.2 48 (u9.2 41 16).toNatClampNeg (u9.2 60 p1.toNatClampNeg)) 60 (p1 + (1 : Int32)).toNatClampNeg)) 50 ((g_upd (g_upd u9.2 48 (u9.2 41 16).toNatClampNeg (u9.2 60 p1.toNatClampNeg)) 49 ((g_upd u9.2 48 (u9.2 41 16).toNatClampNeg (u9.2 60 p1.toNatClampNeg)) 41 16).toNatClampNeg ((g_upd u9.2 48 (u9.2 41 16).toNatClampNeg (u9.2 60 p1.toNatClampNeg)) 60 (p1 + (1 : Int32)).toNatClampNeg)) 41 16).toNatClampNeg ((g_upd (g_upd u9.2 48 (u9.2 41 16).toNatClampNeg (u9.2 60 p1.toNatClampNeg)) 49 ((g_upd u9.2 48 (u9.2 41 16).toNatClampNeg (u9.2 60 p1.toNatClampNeg)) 41 16).toNatClampNeg ((g_upd u9.2 48 (u9.2 41 16).toNatClampNeg (u9.2 60 p1.toNatClampNeg)) 60 (p1 + (1 : Int32)).toNatClampNeg)) 60 (p1 + (2 : Int32)).toNatClampNeg)) 41 16).toNatClampNeg ((g_upd (g_upd (g_upd u9.2 48 (u9.2 41 16).toNatClampNeg (u9.2 60 p1.toNatClampNeg)) 49 ((g_upd u9.2 48 (u9.2 41 16).toNatClampNeg (u9.2 60 p1.toNatClampNeg)) 41 16).toNatClampNeg ((g_upd u9.2 48 (u9.2 41 16).toNatClampNeg (u9.2 60 p1.toNatClampNeg)) 60 (p1 + (1 : Int32)).toNatClampNeg)) 50 ((g_upd (g_upd u9.2 48 (u9.2 41 16).toNatClampNeg (u9.2 60 p1.toNatClampNeg)) 49 ((g_upd u9.2 48 (u9.2 41 16).toNatClampNeg (u9.2 60 p1.toNatClampNeg)) 41 16).toNatClampNeg ((g_upd u9.2 48 (u9.2 41 16).toNatClampNeg (u9.2 60 p1.toNatClampNeg)) 60 (p1 + (1 : Int32)).toNatClampNeg)) 41 16).toNatClampNeg ((g_upd (g_upd u9.2 48 (u9.2 41 16).toNatClampNeg (u9.2 60 p1.toNatClampNeg)) 49 ((g_upd u9.2 48 (u9.2 41 16).toNatClampNeg (u9.2 60 p1.toNatClampNeg)) 41 16).toNatClampNeg ((g_upd u9.2 48 (u9.2 41 16).toNatClampNeg (u9.2 60 p1.toNatClampNeg)) 60 (p1 + (1 : Int32)).toNatClampNeg)) 60 (p1 + (2 : Int32)).toNatClampNeg)) 60 (p1 + (3 : Int32)).toNatClampNeg)) 60 (p1 + (4 : Int32)).toNatClampNeg)) 53 ((g_upd (g_upd (g_upd (g_upd (g_upd u9.2 48 (u9.2 41 16).toNatClampNeg (u9.2 60 p1.toNatClampNeg)) 49 ((g_upd u9.2 48 (u9.2 41 16).toNatClampNeg (u9.2 60 p1.toNatClampNeg)) 41 16).toNatClampNeg ((g_upd u9.2 48 (u9.2 41 16).toNatClampNeg (u9.2 60 p1.toNatClampNeg)) 60 (p1 + (1 : Int32)).toNatClampNeg)) 50 ((g_upd (g_upd u9.2 48 (u9.2 41 16).toNatClampNeg (u9.2 60 p1.toNatClampNeg)) 49 ((g_upd u9.2 48 (u9.2 41 16).toNatClampNeg (u9.2 60 p1.toNatClampNeg)) 41 16).toNatClampNeg ((g_upd u9.2 48 (u9.2 41 16).toNatClampNeg (u9.2 60 p1.toNatClampNeg)) 60 (p1 + (1 : Int32)).toNatClampNeg)) 41 16).toNatClampNeg ((g_upd (g_upd u9.2 48 (u9.2 41 16).toNatClampNeg (u9.2 60 p1.toNatClampNeg)) 49 ((g_upd u9.2 48 (u9.2 41 16).toNatClampNeg (u9.2 60 p1.toNatClampNeg)) 41 16).toNatClampNeg ((g_upd u9.2 48 (u9.2 41 16).toNatClampNeg (u9.2 60 p1.toNatClampNeg)) 60 (p1 + (1 : Int32)).toNatClampNeg)) 60 (p1 + (2 : Int32)).toNatClampNeg)) 51 ((g_upd (g_upd (g_upd u9.2 48 (u9.2 41 16).toNatClampNeg (u9.2 60 p1.toNatClampNeg)) 49 ((g_upd u9.2 48 (u9.2 41 16).toNatClampNeg (u9.2 60 p1.toNatClampNeg)) 41 16).toNatClampNeg ((g_upd u9.2 48 (u9.2 41 16).toNatClampNeg (u9.2 60 p1.toNatClampNeg)) 60 (p1 + (1 : Int32)).toNatClampNeg)) 50 ((g_upd (g_upd u9.2 48 (u9.2 41 16).toNatClampNeg (u9.2 60 p1.toNatClampNeg)) 49 ((g_upd u9.2 48 (u9.2 41 16).toNatClampNeg (u9.2 60 p1.toNatClampNeg)) 41 16).toNatClampNeg ((g_upd u9.2 48 (u9.2 41 16).toNatClampNeg (u9.2 60 p1.toNatClampNeg)) 60 (p1 + (1 : Int32)).toNatClampNeg)) 41 16).toNatClampNeg ((g_upd (g_upd u9.2 48 (u9.2 41 16).toNatClampNeg (u9.2 60 p1.toNatClampNeg)) 49 ((g_upd u9.2 48 (u9.2 41 16).toNatClampNeg (u9.2 60 p1.toNatClampNeg)) 41 16).toNatClampNeg ((g_upd u9.2 48 (u9.2 41 16).toNatClampNeg (u9.2 60 p1.toNatClampNeg)) 60 (p1 + (1 : Int32)).toNatClampNeg)) 60 (p1 + (2 : Int32)).toNatClampNeg)) 41 16).toNatClampNeg ((g_upd (g_upd (g_upd u9.2 48 (u9.2 41 16).toNatClampNeg (u9.2 60 p1.toNatClampNeg)) 49 ((g_upd u9.2 48 (u9.2 41 16).toNatClampNeg (u9.2 60 p1.toNatClampNeg)) 41 16).toNatClampNeg ((g_upd u9.2 48 (u9.2 41 16).toNatClampNeg (u9.2 60 p1.toNatClampNeg)) 60 (p1 + (1 : Int32)).toNatClampNeg)) 50 ((g_upd (g_upd u9.2 48 (u9.2 41 16).toNatClampNeg (u9.2 60 p1.toNatClampNeg)) 49 ((g_upd u9.2 48 (u9.2 41 16).toNatClampNeg (u9.2 60 p1.toNatClampNeg)) 41 16).toNatClampNeg ((g_upd u9.2 48 (u9.2 41 16).toNatClampNeg (u9.2 60 p1.toNatClampNeg)) 60 (p1 + (1 : Int32)).toNatClampNeg)) 41 16).toNatClampNeg ((g_upd (g_upd u9.2 48 (u9.2 41 16).toNatClampNeg (u9.2 60 p1.toNatClampNeg)) 49 ((g_upd u9.2 48 (u9.2 41 16).toNatClampNeg (u9.2 60 p1.toNatClampNeg)) 41 16).toNatClampNeg ((g_upd u9.2 48 (u9.2 41 16).toNatClampNeg (u9.2 60 p1.toNatClampNeg)) 60 (p1 + (1 : Int32)).toNatClampNeg)) 60 (p1 + (2 : Int32)).toNatClampNeg)) 60 (p1 + (3 : Int32)).toNatClampNeg)) 52 ((g_upd (g_upd (g_upd (g_upd u9.2 48 (u9.2 41 16).toNatClampNeg (u9.2 60 p1.toNatClampNeg)) 49 ((g_upd u9.2 48 (u9.2 41 16).toNatClampNeg (u9.2 60 p1.toNatClampNeg)) 41 16).toNatClampNeg ((g_upd u9.2 48 (u9.2 41 16).toNatClampNeg (u9.2 60 p1.toNatClampNeg)) 60 (p1 + (1 : Int32)).toNatClampNeg)) 50 ((g_upd (g_upd u9.2 48 (u9.2 41 16).toNatClampNeg (u9.2 60 p1.toNatClampNeg)) 49 ((g_upd u9.2 48 (u9.2 41 16).toNatClampNeg (u9.2 60 p1.toNatClampNeg)) 41 16).toNatClampNeg ((g_upd u9.2 48 (u9.2 41 16).toNatClampNeg (u9.2 60 p1.toNatClampNeg)) 60 (p1 + (1 : Int32)).toNatClampNeg)) 41 16).toNatClampNeg ((g_upd (g_upd u9.2 48 (u9.2 41 16).toNatClampNeg (u9.2 60 p1.toNatClampNeg)) 49 ((g_upd u9.2 48 (u9.2 41 16).toNatClampNeg (u9.2 60 p1.toNatClampNeg)) 41 16).toNatClampNeg ((g_upd u9.2 48 (u9.2 41 16).toNatClampNeg (u9.2 60 p1.toNatClampNeg)) 60 (p1 + (1 : Int32)).toNatClampNeg)) 60 (p1 + (2 : Int32)).toNatClampNeg)) 51 ((g_upd (g_upd (g_upd u9.2 48 (u9.2 41 16).toNatClampNeg (u9.2 60 p1.toNatClampNeg)) 49 ((g_upd u9.2 48 (u9.2 41 16).toNatClampNeg (u9.2 60 p1.toNatClampNeg)) 41 16).toNatClampNeg ((g_upd u9.2 48 (u9.2 41 16).toNatClampNeg (u9.2 60 p1.toNatClampNeg)) 60 (p1 + (1 : Int32)).toNatClampNeg)) 50 ((g_upd (g_upd u9.2 48 (u9.2 41 16).toNatClampNeg (u9.2 60 p1.toNatClampNeg)) 49 ((g_upd u9.2 48 (u9.2 41 16).toNatClampNeg (u9.2 60 p1.toNatClampNeg)) 41 16).toNatClampNeg ((g_upd u9.2 48 (u9.2 41 16).toNatClampNeg (u9.2 60 p1.toNatClampNeg)) 60 (p1 + (1 : Int32)).toNatClampNeg)) 41 16).toNatClampNeg ((g_upd (g_upd u9.2 48 (u9.2 41 16).toNatClampNeg (u9.2 60 p1.toNatClampNeg)) 49 ((g_upd u9.2 48 (u9.2 41 16).toNatClampNeg (u9.2 60 p1.toNatClampNeg)) 41 16).toNatClampNeg ((g_upd u9.2 48 (u9.2 41 16).toNatClampNeg (u9.2 60 p1.toNatClampNeg)) 60 (p1 + (1 : Int32)).toNatClampNeg)) 60 (p1 + (2 : Int32)).toNatClampNeg)) 41 16).toNatClampNeg ((g_upd (g_upd (g_upd u9.2 48 (u9.2 41 16).toNatClampNeg (u9.2 60 p1.toNatClampNeg)) 49 ((g_upd u9.2 48 (u9.2 41 16).toNatClampNeg (u9.2 60 p1.toNatClampNeg)) 41 16).toNatClampNeg ((g_upd u9.2 48 (u9.2 41 16).toNatClampNeg (u9.2 60 p1.toNatClampNeg)) 60 (p1 + (1 : Int32)).toNatClampNeg)) 50 ((g_upd (g_upd u9.2 48 (u9.2 41 16).toNatClampNeg (u9.2 60 p1.toNatClampNeg)) 49 ((g_upd u9.2 48 (u9.2 41 16).toNatClampNeg (u9.2 60 p1.toNatClampNeg)) 41 16).toNatClampNeg ((g_upd u9.2 48 (u9.2 41 16).toNatClampNeg (u9.2 60 p1.toNatClampNeg)) 60 (p1 + (1 : Int32)).toNatClampNeg)) 41 16).toNatClampNeg ((g_upd (g_upd u9.2 48 (u9.2 41 16).toNatClampNeg (u9.2 60 p1.toNatClampNeg)) 49 ((g_upd u9.2 48 (u9.2 41 16).toNatClampNeg (u9.2 60 p1.toNatClampNeg)) 41 16).toNatClampNeg ((g_upd u9.2 48 (u9.2 41 16).toNatClampNeg (u9.2 60 p1.toNatClampNeg)) 60 (p1 + (1 : Int32)).toNatClampNeg)) 60 (p1 + (2 : Int32)).toNatClampNeg)) 60 (p1 + (3 : Int32)).toNatClampNeg)) 41 16).toNatClampNeg ((g_upd (g_upd (g_upd (g_upd u9.2 48 (u9.2 41 16).toNatClampNeg (u9.2 60 p1.toNatClampNeg)) 49 ((g_upd u9.2 48 (u9.2 41 16).toNatClampNeg (u9.2 60 p1.toNatClampNeg)) 41 16).toNatClampNeg ((g_upd u9.2 48 (u9.2 41 16).toNatClampNeg (u9.2 60 p1.toNatClampNeg)) 60 (p1 + (1 : Int32)).toNatClampNeg)) 50 ((g_upd (g_upd u9.2 48 (u9.2 41 16).toNatClampNeg (u9.2 60 p1.toNatClampNeg)) 49 ((g_upd u9.2 48 (u9.2 41 16).toNatClampNeg (u9.2 60 p1.toNatClampNeg)) 41 16).toNatClampNeg ((g_upd u9.2 48 (u9.2 41 16).toNatClampNeg (u9.2 60 p1.toNatClampNeg)) 60 (p1 + (1 : Int32)).toNatClampNeg)) 41 16).toNatClampNeg ((g_upd (g_upd u9.2 48 (u9.2 41 16).toNatClampNeg (u9.2 60 p1.toNatClampNeg)) 49 ((g_upd u9.2 48 (u9.2 41 16).toNatClampNeg (u9.2 60 p1.toNatClampNeg)) 41 16).toNatClampNeg ((g_upd u9.2 48 (u9.2 41 16).toNatClampNeg (u9.2 60 p1.toNatClampNeg)) 60 (p1 + (1 : Int32)).toNatClampNeg)) 60 (p1 + (2 : Int32)).toNatClampNeg)) 51 ((g_upd (g_upd (g_upd u9.2 48 (u9.2 41 16).toNatClampNeg (u9.2 60 p1.toNatClampNeg)) 49 ((g_upd u9.2 48 (u9.2 41 16).toNatClampNeg (u9.2 60 p1.toNatClampNeg)) 41 16).toNatClampNeg ((g_upd u9.2 48 (u9.2 41 16).toNatClampNeg (u9.2 60 p1.toNatClampNeg)) 60 (p1 + (1 : Int32)).toNatClampNeg)) 50 ((g_upd (g_upd u9.2 48 (u9.2 41 16).toNatClampNeg (u9.2 60 p1.toNatClampNeg)) 49 ((g_upd u9.2 48 (u9.2 41 16).toNatClampNeg (u9.2 60 p1.toNatClampNeg)) 41 16).toNatClampNeg ((g_upd u9.2 48 (u9.2 41 16).toNatClampNeg (u9.2 60 p1.toNatClampNeg)) 60 (p1 + (1 : Int32)).toNatClampNeg)) 41 16).toNatClampNeg ((g_upd (g_upd u9.2 48 (u9.2 41 16).toNatClampNeg (u9.2 60 p1.toNatClampNeg)) 49 ((g_upd u9.2 48 (u9.2 41 16).toNatClampNeg (u9.2 60 p1.toNatClampNeg)) 41 16).toNatClampNeg ((g_upd u9.2 48 (u9.2 41 16).toNatClampNeg (u9.2 60 p1.toNatClampNeg)) 60 (p1 + (1 : Int32)).toNatClampNeg)) 60 (p1 + (2 : Int32)).toNatClampNeg)) 41 16).toNatClampNeg ((g_upd (g_upd (g_upd u9.2 48 (u9.2 41 16).toNatClampNeg (u9.2 60 p1.toNatClampNeg)) 49 ((g_upd u9.2 48 (u9.2 41 16).toNatClampNeg (u9.2 60 p1.toNatClampNeg)) 41 16).toNatClampNeg ((g_upd u9.2 48 (u9.2 41 16).toNatClampNeg (u9.2 60 p1.toNatClampNeg)) 60 (p1 + (1 : Int32)).toNatClampNeg)) 50 ((g_upd (g_upd u9.2 48 (u9.2 41 16).toNatClampNeg (u9.2 60 p1.toNatClampNeg)) 49 ((g_upd u9.2 48 (u9.2 41 16).toNatClampNeg (u9.2 60 p1.toNatClampNeg)) 41 16).toNatClampNeg ((g_upd u9.2 48 (u9.2 41 16).toNatClampNeg (u9.2 60 p1.toNatClampNeg)) 60 (p1 + (1 : Int32)).toNatClampNeg)) 41 16).toNatClampNeg ((g_upd (g_upd u9.2 48 (u9.2 41 16).toNatClampNeg (u9.2 60 p1.toNatClampNeg)) 49 ((g_upd u9.2 48 (u9.2 41 16).toNatClampNeg (u9.2 60 p1.toNatClampNeg)) 41 16).toNatClampNeg ((g_upd u9.2 48 (u9.2 41 16).toNatClampNeg (u9.2 60 p1.toNatClampNeg)) 60 (p1 + (1 : Int32)).toNatClampNeg)) 60 (p1 + (2 : Int32)).toNatClampNeg)) 60 (p1 + (3 : Int32)).toNatClampNeg)) 60 (p1 + (4 : Int32)).toNatClampNeg)) 41 16).toNatClampNeg ((g_upd (g_upd (g_upd (g_upd (g_upd u9.2 48 (u9.2 41 16).toNatClampNeg (u9.2 60 p1.toNatClampNeg)) 49 ((g_upd u9.2 48 (u9.2 41 16).toNatClampNeg (u9.2 60 p1.toNatClampNeg)) 41 16).toNatClampNeg ((g_upd u9.2 48 (u9.2 41 16).toNatClampNeg (u9.2 60 p1.toNatClampNeg)) 60 (p1 + (1 : Int32)).toNatClampNeg)) 50 ((g_upd (g_upd u9.2 48 (u9.2 41 16).toNatClampNeg (u9.2 60 p1.toNatClampNeg)) 49 ((g_upd u9.2 48 (u9.2 41 16).toNatClampNeg (u9.2 60 p1.toNatClampNeg)) 41 16).toNatClampNeg ((g_upd u9.2 48 (u9.2 41 16).toNatClampNeg (u9.2 60 p1.toNatClampNeg)) 60 (p1 + (1 : Int32)).toNatClampNeg)) 41 16).toNatClampNeg ((g_upd (g_upd u9.2 48 (u9.2 41 16).toNatClampNeg (u9.2 60 p1.toNatClampNeg)) 49 ((g_upd u9.2 48 (u9.2 41 16).toNatClampNeg (u9.2 60 p1.toNatClampNeg)) 41 16).toNatClampNeg ((g_upd u9.2 48 (u9.2 41 16).toNatClampNeg (u9.2 60 p1.toNatClampNeg)) 60 (p1 + (1 : Int32)).toNatClampNeg)) 60 (p1 + (2 : Int32)).toNatClampNeg)) 51 ((g_upd (g_upd (g_upd u9.2 48 (u9.2 41 16).toNatClampNeg (u9.2 60 p1.toNatClampNeg)) 49 ((g_upd u9.2 48 (u9.2 41 16).toNatClampNeg (u9.2 60 p1.toNatClampNeg)) 41 16).toNatClampNeg ((g_upd u9.2 48 (u9.2 41 16).toNatClampNeg (u9.2 60 p1.toNatClampNeg)) 60 (p1 + (1 : Int32)).toNatClampNeg)) 50 ((g_upd (g_upd u9.2 48 (u9.2 41 16).toNatClampNeg (u9.2 60 p1.toNatClampNeg)) 49 ((g_upd u9.2 48 (u9.2 41 16).toNatClampNeg (u9.2 60 p1.toNatClampNeg)) 41 16).toNatClampNeg ((g_upd u9.2 48 (u9.2 41 16).toNatClampNeg (u9.2 60 p1.toNatClampNeg)) 60 (p1 + (1 : Int32)).toNatClampNeg)) 41 16).toNatClampNeg ((g_upd (g_upd u9.2 48 (u9.2 41 16).toNatClampNeg (u9.2 60 p1.toNatClampNeg)) 49 ((g_upd u9.2 48 (u9.2 41 16).toNatClampNeg (u9.2 60 p1.toNatClampNeg)) 41 16).toNatClampNeg ((g_upd u9.2 48 (u9.2 41 16).toNatClampNeg (u9.2 60 p1.toNatClampNeg)) 60 (p1 + (1 : Int32)).toNatClampNeg)) 60 (p1 + (2 : Int32)).toNatClampNeg)) 41 16).toNatClampNeg ((g_upd (g_upd (g_upd u9.2 48 (u9.2 41 16).toNatClampNeg (u9.2 60 p1.toNatClampNeg)) 49 ((g_upd u9.2 48 (u9.2 41 16).toNatClampNeg (u9.2 60 p1.toNatClampNeg)) 41 16).toNatClampNeg ((g_upd u9.2 48 (u9.2 41 16).toNatClampNeg (u9.2 60 p1.toNatClampNeg)) 60 (p1 + (1 : Int32)).toNatClampNeg)) 50 ((g_upd (g_upd u9.2 48 (u9.2 41 16).toNatClampNeg (u9.2 60 p1.toNatClampNeg)) 49 ((g_upd u9.2 48 (u9.2 41 16).toNatClampNeg (u9.2 60 p1.toNatClampNeg)) 41 16).toNatClampNeg ((g_upd u9.2 48 (u9.2 41 16).toNatClampNeg (u9.2 60 p1.toNatClampNeg)) 60 (p1 + (1 : Int32)).toNatClampNeg)) 41 16).toNatClampNeg ((g_upd (g_upd u9.2 48 (u9.2 41 16).toNatClampNeg (u9.2 60 p1.toNatClampNeg)) 49 ((g_upd u9.2 48 (u9.2 41 16).toNatClampNeg (u9.2 60 p1.toNatClampNeg)) 41 16).toNatClampNeg ((g_upd u9.2 48 (u9.2 41 16).toNatClampNeg (u9.2 60 p1.toNatClampNeg)) 60 (p1 + (1 : Int32)).toNatClampNeg)) 60 (p1 + (2 : Int32)).toNatClampNeg)) 60 (p1 + (3 : Int32)).toNatClampNeg)) 52 ((g_upd (g_upd (g_upd (g_upd u9.2 48 (u9.2 41 16).toNatClampNeg (u9.2 60 p1.toNatClampNeg)) 49 ((g_upd u9.2 48 (u9.2 41 16).toNatClampNeg (u9.2 60 p1.toNatClampNeg)) 41 16).toNatClampNeg ((g_upd u9.2 48 (u9.2 41 16).toNatClampNeg (u9.2 60 p1.toNatClampNeg)) 60 (p1 + (1 : Int32)).toNatClampNeg)) 50 ((g_upd (g_upd u9.2 48 (u9.2 41 16).toNatClampNeg (u9.2 60 p1.toNatClampNeg)) 49 ((g_upd u9.2 48 (u9.2 41 16).toNatClampNeg (u9.2 60 p1.toNatClampNeg)) 41 16).toNatClampNeg ((g_upd u9.2 48 (u9.2 41 16).toNatClampNeg (u9.2 60 p1.toNatClampNeg)) 60 (p1 + (1 : Int32)).toNatClampNeg)) 41 16).toNatClampNeg ((g_upd (g_upd u9.2 48 (u9.2 41 16).toNatClampNeg (u9.2 60 p1.toNatClampNeg)) 49 ((g_upd u9.2 48 (u9.2 41 16).toNatClampNeg (u9.2 60 p1.toNatClampNeg)) 41 16).toNatClampNeg ((g_upd u9.2 48 (u9.2 41 16).toNatClampNeg (u9.2 60 p1.toNatClampNeg)) 60 (p1 + (1 : Int32)).toNatClampNeg)) 60 (p1 + (2 : Int32)).toNatClampNeg)) 51 ((g_upd (g_upd (g_upd u9.2 48 (u9.2 41 16).toNatClampNeg (u9.2 60 p1.toNatClampNeg)) 49 ((g_upd u9.2 48 (u9.2 41 16).toNatClampNeg (u9.2 60 p1.toNatClampNeg)) 41 16).toNatClampNeg ((g_upd u9.2 48 (u9.2 41 16).toNatClampNeg (u9.2 60 p1.toNatClampNeg)) 60 (p1 + (1 : Int32)).toNatClampNeg)) 50 ((g_upd (g_upd u9.2 48 (u9.2 41 16).toNatClampNeg (u9.2 60 p1.toNatClampNeg)) 49 ((g_upd u9.2 48 (u9.2 41 16).toNatClampNeg (u9.2 60 p1.toNatClampNeg)) 41 16).toNatClampNeg ((g_upd u9.2 48 (u9.2 41 16).toNatClampNeg (u9.2 60 p1.toNatClampNeg)) 60 (p1 + (1 : Int32)).toNatClampNeg)) 41 16).toNatClampNeg ((g_upd (g_upd u9.2 48 (u9.2 41 16).toNatClampNeg (u9.2 60 p1.toNatClampNeg)) 49 ((g_upd u9.2 48 (u9.2 41 16).toNatClampNeg (u9.2 60 p1.toNatClampNeg)) 41 16).toNatClampNeg ((g_upd u9.2 48 (u9.2 41 16).toNatClampNeg (u9.2 60 p1.toNatClampNeg)) 60 (p1 + (1 : Int32)).toNatClampNeg)) 60 (p1 + (2 : Int32)).toNatClampNeg)) 41 16).toNatClampNeg ((g_upd (g_upd (g_upd u9.2 48 (u9.2 41 16).toNatClampNeg (u9.2 60 p1.toNatClampNeg)) 49 ((g_upd u9.2 48 (u9.2 41 16).toNatClampNeg (u9.2 60 p1.toNatClampNeg)) 41 16).toNatClampNeg ((g_upd u9.2 48 (u9.2 41 16).toNatClampNeg (u9.2 60 p1.toNatClampNeg)) 60 (p1 + (1 : Int32)).toNatClampNeg)) 50 ((g_upd (g_upd u9.2 48 (u9.2 41 16).toNatClampNeg (u9.2 60 p1.toNatClampNeg)) 49 ((g_upd u9.2 48 (u9.2 41 16).toNatClampNeg (u9.2 60 p1.toNatClampNeg)) 41 16).toNatClampNeg ((g_upd u9.2 48 (u9.2 41 16).toNatClampNeg (u9.2 60 p1.toNatClampNeg)) 60 (p1 + (1 : Int32)).toNatClampNeg)) 41 16).toNatClampNeg ((g_upd (g_upd u9.2 48 (u9.2 41 16).toNatClampNeg (u9.2 60 p1.toNatClampNeg)) 49 ((g_upd u9.2 48 (u9.2 41 16).toNatClampNeg (u9.2 60 p1.toNatClampNeg)) 41 16).toNatClampNeg ((g_upd u9.2 48 (u9.2 41 16).toNatClampNeg (u9.2 60 p1.toNatClampNeg)) 60 (p1 + (1 : Int32)).toNatClampNeg)) 60 (p1 + (2 : Int32)).toNatClampNeg)) 60 (p1 + (3 : Int32)).toNatClampNeg)) 41 16).toNatClampNeg ((g_upd (g_upd (g_upd (g_upd u9.2 48 (u9.2 41 16).toNatClampNeg (u9.2 60 p1.toNatClampNeg)) 49 ((g_upd u9.2 48 (u9.2 41 16).toNatClampNeg (u9.2 60 p1.toNatClampNeg)) 41 16).toNatClampNeg ((g_upd u9.2 48 (u9.2 41 16).toNatClampNeg (u9.2 60 p1.toNatClampNeg)) 60 (p1 + (1 : Int32)).toNatClampNeg)) 50 ((g_upd (g_upd u9.2 48 (u9.2 41 16).toNatClampNeg (u9.2 60 p1.toNatClampNeg)) 49 ((g_upd u9.2 48 (u9.2 41 16).toNatClampNeg (u9.2 60 p1.toNatClampNeg)) 41 16).toNatClampNeg ((g_upd u9.2 48 (u9.2 41 16).toNatClampNeg (u9.2 60 p1.toNatClampNeg)) 60 (p1 + (1 : Int32)).toNatClampNeg)) 41 16).toNatClampNeg ((g_upd (g_upd u9.2 48 (u9.2 41 16).toNatClampNeg (u9.2 60 p1.toNatClampNeg)) 49 ((g_upd u9.2 48 (u9.2 41 16).toNatClampNeg (u9.2 60 p1.toNatClampNeg)) 41 16).toNatClampNeg ((g_upd u9.2 48 (u9.2 41 16).toNatClampNeg (u9.2 60 p1.toNatClampNeg)) 60 (p1 + (1 : Int32)).toNatClampNeg)) 60 (p1 + (2 : Int32)).toNatClampNeg)) 51 ((g_upd (g_upd (g_upd u9.2 48 (u9.2 41 16).toNatClampNeg (u9.2 60 p1.toNatClampNeg)) 49 ((g_upd u9.2 48 (u9.2 41 16).toNatClampNeg (u9.2 60 p1.toNatClampNeg)) 41 16).toNatClampNeg ((g_upd u9.2 48 (u9.2 41 16).toNatClampNeg (u9.2 60 p1.toNatClampNeg)) 60 (p1 + (1 : Int32)).toNatClampNeg)) 50 ((g_upd (g_upd u9.2 48 (u9.2 41 16).toNatClampNeg (u9.2 60 p1.toNatClampNeg)) 49 ((g_upd u9.2 48 (u9.2 41 16).toNatClampNeg (u9.2 60 p1.toNatClampNeg)) 41 16).toNatClampNeg ((g_upd u9.2 48 (u9.2 41 16).toNatClampNeg (u9.2 60 p1.toNatClampNeg)) 60 (p1 + (1 : Int32)).toNatClampNeg)) 41 16).toNatClampNeg ((g_upd (g_upd u9.2 48 (u9.2 41 16).toNatClampNeg (u9.2 60 p1.toNatClampNeg)) 49 ((g_upd u9.2 48 (u9.2 41 16).toNatClampNeg (u9.2 60 p1.toNatClampNeg)) 41 16).toNatClampNeg ((g_upd u9.2 48 (u9.2 41 16).toNatClampNeg (u9.2 60 p1.toNatClampNeg)) 60 (p1 + (1 : Int32)).toNatClampNeg)) 60 (p1 + (2 : Int32)).toNatClampNeg)) 41 16).toNatClampNeg ((g_upd (g_upd (g_upd u9.2 48 (u9.2 41 16).toNatClampNeg (u9.2 60 p1.toNatClampNeg)) 49 ((g_upd u9.2 48 (u9.2 41 16).toNatClampNeg (u9.2 60 p1.toNatClampNeg)) 41 16).toNatClampNeg ((g_upd u9.2 48 (u9.2 41 16).toNatClampNeg (u9.2 60 p1.toNatClampNeg)) 60 (p1 + (1 : Int32)).toNatClampNeg)) 50 ((g_upd (g_upd u9.2 48 (u9.2 41 16).toNatClampNeg (u9.2 60 p1.toNatClampNeg)) 49 ((g_upd u9.2 48 (u9.2 41 16).toNatClampNeg (u9.2 60 p1.toNatClampNeg)) 41 16).toNatClampNeg ((g_upd u9.2 48 (u9.2 41 16).toNatClampNeg (u9.2 60 p1.toNatClampNeg)) 60 (p1 + (1 : Int32)).toNatClampNeg)) 41 16).toNatClampNeg ((g_upd (g_upd u9.2 48 (u9.2 41 16).toNatClampNeg (u9.2 60 p1.toNatClampNeg)) 49 ((g_upd u9.2 48 (u9.2 41 16).toNatClampNeg (u9.2 60 p1.toNatClampNeg)) 41 16).toNatClampNeg ((g_upd u9.2 48 (u9.2 41 16).toNatClampNeg (u9.2 60 p1.toNatClampNeg)) 60 (p1 + (1 : Int32)).toNatClampNeg)) 60 (p1 + (2 : Int32)).toNatClampNeg)) 60 (p1 + (3 : Int32)).toNatClampNeg)) 60 (p1 + (4 : Int32)).toNatClampNeg)) 60 (p1 + (5 : Int32)).toNatClampNeg)) 54 ((g_upd (g_upd (g_upd (g_upd (g_upd (g_upd u9.2 48 (u9.2 41 16).toNatClampNeg (u9.2 60 p1.toNatClampNeg)) 49 ((g_upd u9.2 48 (u9.2 41 16).toNatClampNeg (u9.2 60 p1.toNatClampNeg)) 41 16).toNatClampNeg ((g_upd u9.2 48 (u9.2 41 16).toNatClampNeg (u9.2 60 p1.toNatClampNeg)) 60 (p1 + (1 : Int32)).toNatClampNeg)) 50 ((g_upd (g_upd u9.2 48 (u9.2 41 16).toNatClampNeg (u9.2 60 p1.toNatClampNeg)) 49 ((g_upd u9.2 48 (u9.2 41 16).toNatClampNeg (u9.2 60 p1.toNatClampNeg)) 41 16).toNatClampNeg ((g_upd u9.2 48 (u9.2 41 16).toNatClampNeg (u9.2 60 p1.toNatClampNeg)) 60 (p1 + (1 : Int32)).toNatClampNeg)) 41 16).toNatClampNeg ((g_upd (g_upd u9.2 48 (u9.2 41 16).toNatClampNeg (u9.2 60 p1.toNatClampNeg)) 49 ((g_upd u9.2 48 (u9.2 41 16).toNatClampNeg (u9.2 60 p1.toNatClampNeg)) 41 16).toNatClampNeg ((g_upd u9.2 48 (u9.2 41 16).toNatClampNeg (u9.2 60 p1.toNatClampNeg)) 60 (p1 + (1 : Int32)).toNatClampNeg)) 60 (p1 + (2 : Int32)).toNatClampNeg)) 51 ((g_upd (g_upd (g_upd u9.2 48 (u9.2 41 16).toNatClampNeg (u9.2 60 p1.toNatClampNeg)) 49 ((g_upd u9.2 48 (u9.2 41 16).toNatClampNeg (u9.2 60 p1.toNatClampNeg)) 41 16).toNatClampNeg ((g_upd u9.2 48 (u9.2 41 16).toNatClampNeg (u9.2 60 p1.toNatClampNeg)) 60 (p1 + (1 : Int32)).toNatClampNeg)) 50 ((g_upd (g_upd u9.2 48 (u9.2 41 16).toNatClampNeg (u9.2 60 p1.toNatClampNeg)) 49 ((g_upd u9.2 48 (u9.2 41 16).toNatClampNeg (u9.2 60 p1.toNatClampNeg)) 41 16).toNatClampNeg ((g_upd u9.2 48 (u9.2 41 16).toNatClampNeg (u9.2 60 p1.toNatClampNeg)) 60 (p1 + (1 : Int32)).toNatClampNeg)) 41 16).toNatClampNeg ((g_upd (g_upd u9.2 48 (u9.2 41 16).toNatClampNeg (u9.2 60 p1.toNatClampNeg)) 49 ((g_upd u9.2 48 (u9.2 41 16).toNatClampNeg (u9.2 60 p1.toNatClampNeg)) 41 16).toNatClampNeg ((g_upd u9.2 48 (u9.2 41 16).toNatClampNeg (u9.2 60 p1.toNatClampNeg)) 60 (p1 + (1 : Int32)).toNatClampNeg)) 60 (p1 + (2 : Int32)).toNatClampNeg)) 41 16).toNatClampNeg ((g_upd (g_upd (g_upd u9.2 48 (u9.2 41 16).toNatClampNeg (u9.2 60 p1.toNatClampNeg)) 49 ((g_upd u9.2 48 (u9.2 41 16).toNatClampNeg (u9.2 60 p1.toNatClampNeg)) 41 16).toNatClampNeg ((g_upd u9.2 48 (u9.2 41 16).toNatClampNeg (u9.2 60 p1.toNatClampNeg)) 60 (p1 + (1 : Int32)).toNatClampNeg)) 50 ((g_upd (g_upd u9.2 48 (u9.2 41 16).toNatClampNeg (u9.2 60 p1.toNatClampNeg)) 49 ((g_upd u9.2 48 (u9.2 41 16).toNatClampNeg (u9.2 60 p1.toNatClampNeg)) 41 16).toNatClampNeg ((g_upd u9.2 48 (u9.2 41 16).toNatClampNeg (u9.2 60 p1.toNatClampNeg)) 60 (p1 + (1 : Int32)).toNatClampNeg)) 41 16).toNatClampNeg ((g_upd (g_upd u9.2 48 (u9.2 41 16).toNatClampNeg (u9.2 60 p1.toNatClampNeg)) 49 ((g_upd u9.2 48 (u9.2 41 16).toNatClampNeg (u9.2 60 p1.toNatClampNeg)) 41 16).toNatClampNeg ((g_upd u9.2 48 (u9.2 41 16).toNatClampNeg (u9.2 60 p1.toNatClampNeg)) 60 (p1 + (1 : Int32)).toNatClampNeg)) 60 (p1 + (2 : Int32)).toNatClampNeg)) 60 (p1 + (3 : Int32)).toNatClampNeg)) 52 ((g_upd (g_upd (g_upd (g_upd u9.2 48 (u9.2 41 16).toNatClampNeg (u9.2 60 p1.toNatClampNeg)) 49 ((g_upd u9.2 48 (u9.2 41 16).toNatClampNeg (u9.2 60 p1.toNatClampNeg)) 41 16).toNatClampNeg ((g_upd u9.2 48 (u9.2 41 16).toNatClampNeg (u9.2 60 p1.toNatClampNeg)) 60 (p1 + (1 : Int32)).toNatClampNeg)) 50 ((g_upd (g_upd u9.2 48 (u9.2 41 16).toNatClampNeg (u9.2 60 p1.toNatClampNeg)) 49 ((g_upd u9.2 48 (u9.2 41 16).toNatClampNeg (u9.2 60 p1.toNatClampNeg)) 41 16).toNatClampNeg ((g_upd u9.2 48 (u9.2 41 16).toNatClampNeg (u9.2 60 p1.toNatClampNeg)) 60 (p1 + (1 : Int32)).toNatClampNeg)) 41 16).toNatClampNeg ((g_upd (g_upd u9.2 48 (u9.2 41 16).toNatClampNeg (u9.2 60 p1.toNatClampNeg)) 49 ((g_upd u9.2 48 (u9.2 41 16).toNatClampNeg (u9.2 60 p1.toNatClampNeg)) 41 16).toNatClampNeg ((g_upd u9.2 48 (u9.2 41 16).toNatClampNeg (u9.2 60 p1.toNatClampNeg)) 60 (p1 + (1 : Int32)).toNatClampNeg)) 60 (p1 + (2 : Int32)).toNatClampNeg)) 51 ((g_upd (g_upd (g_upd u9.2 48 (u9.2 41 16).toNatClampNeg (u9.2 60 p1.toNatClampNeg)) 49 ((g_upd u9.2 48 (u9.2 41 16).toNatClampNeg (u9.2 60 p1.toNatClampNeg)) 41 16).toNatClampNeg ((g_upd u9.2 48 (u9.2 41 16).toNatClampNeg (u9.2 60 p1.toNatClampNeg)) 60 (p1 + (1 : Int32)).toNatClampNeg)) 50 ((g_upd (g_upd u9.2 48 (u9.2 41 16).toNatClampNeg (u9.2 60 p1.toNatClampNeg)) 49 ((g_upd u9.2 48 (u9.2 41 16).toNatClampNeg (u9.2 60 p1.toNatClampNeg)) 41 16).toNatClampNeg ((g_upd u9.2 48 (u9.2 41 16).toNatClampNeg (u9.2 60 p1.toNatClampNeg)) 60 (p1 + (1 : Int32)).toNatClampNeg)) 41 16).toNatClampNeg ((g_upd (g_upd u9.2 48 (u9.2 41 16).toNatClampNeg (u9.2 60 p1.toNatClampNeg)) 49 ((g_upd u9.2 48 (u9.2 41 16).toNatClampNeg (u9.2 60 p1.toNatClampNeg)) 41 16).toNatClampNeg ((g_upd u9.2 48 (u9.2 41 16).toNatClampNeg (u9.2 60 p1.toNatClampNeg)) 60 (p1 + (1 : Int32)).toNatClampNeg)) 60 (p1 + (2 : Int32)).toNatClampNeg)) 41 16).toNatClampNeg ((g_upd (g_upd (g_upd u9.2 48 (u9.2 41 16).toNatClampNeg (u9.2 60 p1.toNatClampNeg)) 49 ((g_upd u9.2 48 (u9.2 41 16).toNatClampNeg (u9.2 60 p1.toNatClampNeg)) 41 16).toNatClampNeg ((g_upd u9.2 48 (u9.2 41 16).toNatClampNeg (u9.2 60 p1.toNatClampNeg)) 60 (p1 + (1 : Int32)).toNatClampNeg)) 50 ((g_upd (g_upd u9.2 48 (u9.2 41 16).toNatClampNeg (u9.2 60 p1.toNatClampNeg)) 49 ((g_upd u9.2 48 (u9.2 41 16).toNatClampNeg (u9.2 60 p1.toNatClampNeg)) 41 16).toNatClampNeg ((g_upd u9.2 48 (u9.2 41 16).toNatClampNeg (u9.2 60 p1.toNatClampNeg)) 60 (p1 + (1 : Int32)).toNatClampNeg)) 41 16).toNatClampNeg ((g_upd (g_upd u9.2 48 (u9.2 41 16).toNatClampNeg (u9.2 60 p1.toNatClampNeg)) 49 ((g_upd u9.2 48 (u9.2 41 16).toNatClampNeg (u9.2 60 p1.toNatClampNeg)) 41 16).toNatClampNeg ((g_upd u9.2 48 (u9.2 41 16).toNatClampNeg (u9.2 60 p1.toNatClampNeg)) 60 (p1 + (1 : Int32)).toNatClampNeg)) 60 (p1 + (2 : Int32)).toNatClampNeg)) 60 (p1 + (3 : Int32)).toNatClampNeg)) 41 16).toNatClampNeg ((g_upd (g_upd (g_upd (g_upd u9.2 48 (u9.2 41 16).toNatClampNeg (u9.2 60 p1.toNatClampNeg)) 49 ((g_upd u9.2 48 (u9.2 41 16).toNatClampNeg (u9.2 60 p1.toNatClampNeg)) 41 16).toNatClampNeg ((g_upd u9.2 48 (u9.2 41 16).toNatClampNeg (u9.2 60 p1.toNatClampNeg)) 60 (p1 + (1 : Int32)).toNatClampNeg)) 50 ((g_upd (g_upd u9.2 48 (u9.2 41 16).toNatClampNeg (u9.2 60 p1.toNatClampNeg)) 49 ((g_upd u9.2 48 (u9.2 41 16).toNatClampNeg (u9.2 60 p1.toNatClampNeg)) 41 16).toNatClampNeg ((g_upd u9.2 48 (u9.2 41 16).toNatClampNeg (u9.2 60 p1.toNatClampNeg)) 60 (p1 + (1 : Int32)).toNatClampNeg)) 41 16).toNatClampNeg ((g_upd (g_upd u9.2 48 (u9.2 41 16).toNatClampNeg (u9.2 60 p1.toNatClampNeg)) 49 ((g_upd u9.2 48 (u9.2 41 16).toNatClampNeg (u9.2 60 p1.toNatClampNeg)) 41 16).toNatClampNeg ((g_upd u9.2 48 (u9.2 41 16).toNatClampNeg (u9.2 60 p1.toNatClampNeg)) 60 (p1 + (1 : Int32)).toNatClampNeg)) 60 (p1 + (2 : Int32)).toNatClampNeg)) 51 ((g_upd (g_upd (g_upd u9.2 48 (u9.2 41 16).toNatClampNeg (u9.2 60 p1.toNatClampNeg)) 49 ((g_upd u9.2 48 (u9.2 41 16).toNatClampNeg (u9.2 60 p1.toNatClampNeg)) 41 16).toNatClampNeg ((g_upd u9.2 48 (u9.2 41 16).toNatClampNeg (u9.2 60 p1.toNatClampNeg)) 60 (p1 + (1 : Int32)).toNatClampNeg)) 50 ((g_upd (g_upd u9.2 48 (u9.2 41 16).toNatClampNeg (u9.2 60 p1.toNatClampNeg)) 49 ((g_upd u9.2 48 (u9.2 41 16).toNatClampNeg (u9.2 60 p1.toNatClampNeg)) 41 16).toNatClampNeg ((g_upd u9.2 48 (u9.2 41 16).toNatClampNeg (u9.2 60 p1.toNatClampNeg)) 60 (p1 + (1 : Int32)).toNatClampNeg)) 41 16).toNatClampNeg ((g_upd (g_upd u9.2 48 (u9.2 41 16).toNatClampNeg (u9.2 60 p1.toNatClampNeg)) 49 ((g_upd u9.2 48 (u9.2 41 16).toNatClampNeg (u9.2 60 p1.toNatClampNeg)) 41 16).toNatClampNeg ((g_upd u9.2 48 (u9.2 41 16).toNatClampNeg (u9.2 60 p1.toNatClampNeg)) 60 (p1 + (1 : Int32)).toNatClampNeg)) 60 (p1 + (2 : Int32)).toNatClampNeg)) 41 16).toNatClampNeg ((g_upd (g_upd (g_upd u9.2 48 (u9.2 41 16).toNatClampNeg (u9.2 60 p1.toNatClampNeg)) 49 ((g_upd u9.2 48 (u9.2 41 16).toNatClampNeg (u9.2 60 p1.toNatClampNeg)) 41 16).toNatClampNeg ((g_upd u9.2 48 (u9.2 41 16).toNatClampNeg (u9.2 60 p1.toNatClampNeg)) 60 (p1 + (1 : Int32)).toNatClampNeg)) 50 ((g_upd (g_upd u9.2 48 (u9.2 41 16).toNatClampNeg (u9.2 60 p1.toNatClampNeg)) 49 ((g_upd u9.2 48 (u9.2 41 16).toNatClampNeg (u9.2 60 p1.toNatClampNeg)) 41 16).toNatClampNeg ((g_upd u9.2 48 (u9.2 41 16).toNatClampNeg (u9.2 60 p1.toNatClampNeg)) 60 (p1 + (1 : Int32)).toNatClampNeg)) 41 16).toNatClampNeg ((g_upd (g_upd u9.2 48 (u9.2 41 16).toNatClampNeg (u9.2 60 p1.toNatClampNeg)) 49 ((g_upd u9.2 48 (u9.2 41 16).toNatClampNeg (u9.2 60 p1.toNatClampNeg)) 41 16).toNatClampNeg ((g_upd u9.2 48 (u9.2 41 16).toNatClampNeg (u9.2 60 p1.toNatClampNeg)) 60 (p1 + (1 : Int32)).toNatClampNeg)) 60 (p1 + (2 : Int32)).toNatClampNeg)) 60 (p1 + (3 : Int32)).toNatClampNeg)) 60 (p1 + (4 : Int32)).toNatClampNeg)) 53 ((g_upd (g_upd (g_upd (g_upd (g_upd u9.2 48 (u9.2 41 16).toNatClampNeg (u9.2 60 p1.toNatClampNeg)) 49 ((g_upd u9.2 48 (u9.2 41 16).toNatClampNeg (u9.2 60 p1.toNatClampNeg)) 41 16).toNatClampNeg ((g_upd u9.2 48 (u9.2 41 16).toNatClampNeg (u9.2 60 p1.toNatClampNeg)) 60 (p1 + (1 : Int32)).toNatClampNeg)) 50 ((g_upd (g_upd u9.2 48 (u9.2 41 16).toNatClampNeg (u9.2 60 p1.toNatClampNeg)) 49 ((g_upd u9.2 48 (u9.2 41 16).toNatClampNeg (u9.2 60 p1.toNatClampNeg)) 41 16).toNatClampNeg ((g_upd u9.2 48 (u9.2 41 16).toNatClampNeg (u9.2 60 p1.toNatClampNeg)) 60 (p1 + (1 : Int32)).toNatClampNeg)) 41 16).toNatClampNeg ((g_upd (g_upd u9.2 48 (u9.2 41 16).toNatClampNeg (u9.2 60 p1.toNatClampNeg)) 49 ((g_upd u9.2 48 (u9.2 41 16).toNatClampNeg (u9.2 60 p1.toNatClampNeg)) 41 16).toNatClampNeg ((g_upd u9.2 48 (u9.2 41 16).toNatClampNeg (u9.2 60 p1.toNatClampNeg)) 60 (p1 + (1 : Int32)).toNatClampNeg)) 60 (p1 + (2 : Int32)).toNatClampNeg)) 51 ((g_upd (g_upd (g_upd u9.2 48 (u9.2 41 16).toNatClampNeg (u9.2 60 p1.toNatClampNeg)) 49 ((g_upd u9.2 48 (u9.2 41 16).toNatClampNeg (u9.2 60 p1.toNatClampNeg)) 41 16).toNatClampNeg ((g_upd u9.2 48 (u9.2 41 16).toNatClampNeg (u9.2 60 p1.toNatClampNeg)) 60 (p1 + (1 : Int32)).toNatClampNeg)) 50 ((g_upd (g_upd u9.2 48 (u9.2 41 16).toNatClampNeg (u9.2 60 p1.toNatClampNeg)) 49 ((g_upd u9.2 48 (u9.2 41 16).toNatClampNeg (u9.2 60 p1.toNatClampNeg)) 41 16).toNatClampNeg ((g_upd u9.2 48 (u9.2 41 16).toNatClampNeg (u9.2 60 p1.toNatClampNeg)) 60 (p1 + (1 : Int32)).toNatClampNeg)) 41 16).toNatClampNeg ((g_upd (g_upd u9.2 48 (u9.2 41 16).toNatClampNeg (u9.2 60 p1.toNatClampNeg)) 49 ((g_upd u9.2 48 (u9.2 41 16).toNatClampNeg (u9.2 60 p1.toNatClampNeg)) 41 16).toNatClampNeg ((g_upd u9.2 48 (u9.2 41 16).toNatClampNeg (u9.2 60 p1.toNatClampNeg)) 60 (p1 + (1 : Int32)).toNatClampNeg)) 60 (p1 + (2 : Int32)).toNatClampNeg)) 41 16).toNatClampNeg ((g_upd (g_upd (g_upd u9.2 48 (u9.2 41 16).toNatClampNeg (u9.2 60 p1.toNatClampNeg)) 49 ((g_upd u9.2 48 (u9.2 41 16).toNatClampNeg (u9.2 60 p1.toNatClampNeg)) 41 16).toNatClampNeg ((g_upd u9.2 48 (u9.2 41 16).toNatClampNeg (u9.2 60 p1.toNatClampNeg)) 60 (p1 + (1 : Int32)).toNatClampNeg)) 50 ((g_upd (g_upd u9.2 48 (u9.2 41 16).toNatClampNeg (u9.2 60 p1.toNatClampNeg)) 49 ((g_upd u9.2 48 (u9.2 41 16).toNatClampNeg (u9.2 60 p1.toNatClampNeg)) 41 16).toNatClampNeg ((g_upd u9.2 48 (u9.2 41 16).toNatClampNeg (u9.2 60 p1.toNatClampNeg)) 60 (p1 + (1 : Int32)).toNatClampNeg)) 41 16).toNatClampNeg ((g_upd (g_upd u9.2 48 (u9.2 41 16).toNatClampNeg (u9.2 60 p1.toNatClampNeg)) 49 ((g_upd u9.2 48 (u9.2 41 16).toNatClampNeg (u9.2 60 p1.toNatClampNeg)) 41 16).toNatClampNeg ((g_upd u9.2 48 (u9.2 41 16).toNatClampNeg (u9.2 60 p1.toNatClampNeg)) 60 (p1 + (1 : Int32)).toNatClampNeg)) 60 (p1 + (2 : Int32)).toNatClampNeg)) 60 (p1 + (3 : Int32)).toNatClampNeg)) 52 ((g_upd (g_upd (g_upd (g_upd u9.2 48 (u9.2 41 16).toNatClampNeg (u9.2 60 p1.toNatClampNeg)) 49 ((g_upd u9.2 48 (u9.2 41 16).toNatClampNeg (u9.2 60 p1.toNatClampNeg)) 41 16).toNatClampNeg ((g_upd u9.2 48 (u9.2 41 16).toNatClampNeg (u9.2 60 p1.toNatClampNeg)) 60 (p1 + (1 : Int32)).toNatClampNeg)) 50 ((g_upd (g_upd u9.2 48 (u9.2 41 16).toNatClampNeg (u9.2 60 p1.toNatClampNeg)) 49 ((g_upd u9.2 48 (u9.2 41 16).toNatClampNeg (u9.2 60 p1.toNatClampNeg)) 41 16).toNatClampNeg ((g_upd u9.2 48 (u9.2 41 16).toNatClampNeg (u9.2 60 p1.toNatClampNeg)) 60 (p1 + (1 : Int32)).toNatClampNeg)) 41 16).toNatClampNeg ((g_upd (g_upd u9.2 48 (u9.2 41 16).toNatClampNeg (u9.2 60 p1.toNatClampNeg)) 49 ((g_upd u9.2 48 (u9.2 41 16).toNatClampNeg (u9.2 60 p1.toNatClampNeg)) 41 16).toNatClampNeg ((g_upd u9.2 48 (u9.2 41 16).toNatClampNeg (u9.2 60 p1.toNatClampNeg)) 60 (p1 + (1 : Int32)).toNatClampNeg)) 60 (p1 + (2 : Int32)).toNatClampNeg)) 51 ((g_upd (g_upd (g_upd u9.2 48 (u9.2 41 16).toNatClampNeg (u9.2 60 p1.toNatClampNeg)) 49 ((g_upd u9.2 48 (u9.2 41 16).toNatClampNeg (u9.2 60 p1.toNatClampNeg)) 41 16).toNatClampNeg ((g_upd u9.2 48 (u9.2 41 16).toNatClampNeg (u9.2 60 p1.toNatClampNeg)) 60 (p1 + (1 : Int32)).toNatClampNeg)) 50 ((g_upd (g_upd u9.2 48 (u9.2 41 16).toNatClampNeg (u9.2 60 p1.toNatClampNeg)) 49 ((g_upd u9.2 48 (u9.2 41 16).toNatClampNeg (u9.2 60 p1.toNatClampNeg)) 41 16).toNatClampNeg ((g_upd u9.2 48 (u9.2 41 16).toNatClampNeg (u9.2 60 p1.toNatClampNeg)) 60 (p1 + (1 : Int32)).toNatClampNeg)) 41 16).toNatClampNeg ((g_upd (g_upd u9.2 48 (u9.2 41 16).toNatClampNeg (u9.2 60 p1.toNatClampNeg)) 49 ((g_upd u9.2 48 (u9.2 41 16).toNatClampNeg (u9.2 60 p1.toNatClampNeg)) 41 16).toNatClampNeg ((g_upd u9.2 48 (u9.2 41 16).toNatClampNeg (u9.2 60 p1.toNatClampNeg)) 60 (p1 + (1 : Int32)).toNatClampNeg)) 60 (p1 + (2 : Int32)).toNatClampNeg)) 41 16).toNatClampNeg ((g_upd (g_upd (g_upd u9.2 48 (u9.2 41 16).toNatClampNeg (u9.2 60 p1.toNatClampNeg)) 49 ((g_upd u9.2 48 (u9.2 41 16).toNatClampNeg (u9.2 60 p1.toNatClampNeg)) 41 16).toNatClampNeg ((g_upd u9.2 48 (u9.2 41 16).toNatClampNeg (u9.2 60 p1.toNatClampNeg)) 60 (p1 + (1 : Int32)).toNatClampNeg)) 50 ((g_upd (g_upd u9.2 48 (u9.2 41 16).toNatClampNeg (u9.2 60 p1.toNatClampNeg)) 49 ((g_upd u9.2 48 (u9.2 41 16).toNatClampNeg (u9.2 60 p1.toNatClampNeg)) 41 16).toNatClampNeg ((g_upd u9.2 48 (u9.2 41 16).toNatClampNeg (u9.2 60 p1.toNatClampNeg)) 60 (p1 + (1 : Int32)).toNatClampNeg)) 41 16).toNatClampNeg ((g_upd (g_upd u9.2 48 (u9.2 41 16).toNatClampNeg (u9.2 60 p1.toNatClampNeg)) 49 ((g_upd u9.2 48 (u9.2 41 16).toNatClampNeg (u9.2 60 p1.toNatClampNeg)) 41 16).toNatClampNeg ((g_upd u9.2 48 (u9.2 41 16).toNatClampNeg (u9.2 60 p1.toNatClampNeg)) 60 (p1 + (1 : Int32)).toNatClampNeg)) 60 (p1 + (2 : Int32)).toNatClampNeg)) 60 (p1 + (3 : Int32)).toNatClampNeg)) 41 16).toNatClampNeg ((g_upd (g_upd (g_upd (g_upd u9.2 48 (u9.2 41 16).toNatClampNeg (u9.2 60 p1.toNatClampNeg)) 49 ((g_upd u9.2 48 (u9.2 41 16).toNatClampNeg (u9.2 60 p1.toNatClampNeg)) 41 16).toNatClampNeg ((g_upd u9.2 48 (u9.2 41 16).toNatClampNeg (u9.2 60 p1.toNatClampNeg)) 60 (p1 + (1 : Int32)).toNatClampNeg)) 50 ((g_upd (g_upd u9.2 48 (u9.2 41 16).toNatClampNeg (u9.2 60 p1.toNatClampNeg)) 49 ((g_upd u9.2 48 (u9.2 41 16).toNatClampNeg (u9.2 60 p1.toNatClampNeg)) 41 16).toNatClampNeg ((g_upd u9.2 48 (u9.2 41 16).toNatClampNeg (u9.2 60 p1.toNatClampNeg)) 60 (p1 + (1 : Int32)).toNatClampNeg)) 41 16).toNatClampNeg ((g_upd (g_upd u9.2 48 (u9.2 41 16).toNatClampNeg (u9.2 60 p1.toNatClampNeg)) 49 ((g_upd u9.2 48 (u9.2 41 16).toNatClampNeg (u9.2 60 p1.toNatClampNeg)) 41 16).toNatClampNeg ((g_upd u9.2 48 (u9.2 41 16).toNatClampNeg (u9.2 60 p1.toNatClampNeg)) 60 (p1 + (1 : Int32)).toNatClampNeg)) 60 (p1 + (2 : Int32)).toNatClampNeg)) 51 ((g_upd (g_upd (g_upd u9.2 48 (u9.2 41 16).toNatClampNeg (u9.2 60 p1.toNatClampNeg)) 49 ((g_upd u9.2 48 (u9.2 41 16).toNatClampNeg (u9.2 60 p1.toNatClampNeg)) 41 16).toNatClampNeg ((g_upd u9.2 48 (u9.2 41 16).toNatClampNeg (u9.2 60 p1.toNatClampNeg)) 60 (p1 + (1 : Int32)).toNatClampNeg)) 50 ((g_upd (g_upd u9.2 48 (u9.2 41 16).toNatClampNeg (u9.2 60 p1.toNatClampNeg)) 49 ((g_upd u9.2 48 (u9.2 41 16).toNatClampNeg (u9.2 60 p1.toNatClampNeg)) 41 16).toNatClampNeg ((g_upd u9.2 48 (u9.2 41 16).toNatClampNeg (u9.2 60 p1.toNatClampNeg)) 60 (p1 + (1 : Int32)).toNatClampNeg)) 41 16).toNatClampNeg ((g_upd (g_upd u9.2 48 (u9.2 41 16).toNatClampNeg (u9.2 60 p1.toNatClampNeg)) 49 ((g_upd u9.2 48 (u9.2 41 16).toNatClampNeg (u9.2 60 p1.toNatClampNeg)) 41 16).toNatClampNeg ((g_upd u9.2 48 (u9.2 41 16).toNatClampNeg (u9.2 60 p1.toNatClampNeg)) 60 (p1 + (1 : Int32)).toNatClampNeg)) 60 (p1 + (2 : Int32)).toNatClampNeg)) 41 16).toNatClampNeg ((g_upd (g_upd (g_upd u9.2 48 (u9.2 41 16).toNatClampNeg (u9.2 60 p1.toNatClampNeg)) 49 ((g_upd u9.2 48 (u9.2 41 16).toNatClampNeg (u9.2 60 p1.toNatClampNeg)) 41 16).toNatClampNeg ((g_upd u9.2 48 (u9.2 41 16).toNatClampNeg (u9.2 60 p1.toNatClampNeg)) 60 (p1 + (1 : Int32)).toNatClampNeg)) 50 ((g_upd (g_upd u9.2 48 (u9.2 41 16).toNatClampNeg (u9.2 60 p1.toNatClampNeg)) 49 ((g_upd u9.2 48 (u9.2 41 16).toNatClampNeg (u9.2 60 p1.toNatClampNeg)) 41 16).toNatClampNeg ((g_upd u9.2 48 (u9.2 41 16).toNatClampNeg (u9.2 60 p1.toNatClampNeg)) 60 (p1 + (1 : Int32)).toNatClampNeg)) 41 16).toNatClampNeg ((g_upd (g_upd u9.2 48 (u9.2 41 16).toNatClampNeg (u9.2 60 p1.toNatClampNeg)) 49 ((g_upd u9.2 48 (u9.2 41 16).toNatClampNeg (u9.2 60 p1.toNatClampNeg)) 41 16).toNatClampNeg ((g_upd u9.2 48 (u9.2 41 16).toNatClampNeg (u9.2 60 p1.toNatClampNeg)) 60 (p1 + (1 : Int32)).toNatClampNeg)) 60 (p1 + (2 : Int32)).toNatClampNeg)) 60 (p1 + (3 : Int32)).toNatClampNeg)) 60 (p1 + (4 : Int32)).toNatClampNeg)) 41 16).toNatClampNeg ((g_upd (g_upd (g_upd (g_upd (g_upd u9.2 48 (u9.2 41 16).toNatClampNeg (u9.2 60 p1.toNatClampNeg)) 49 ((g_upd u9.2 48 (u9.2 41 16).toNatClampNeg (u9.2 60 p1.toNatClampNeg)) 41 16).toNatClampNeg ((g_upd u9.2 48 (u9.2 41 16).toNatClampNeg (u9.2 60 p1.toNatClampNeg)) 60 (p1 + (1 : Int32)).toNatClampNeg)) 50 ((g_upd (g_upd u9.2 48 (u9.2 41 16).toNatClampNeg (u9.2 60 p1.toNatClampNeg)) 49 ((g_upd u9.2 48 (u9.2 41 16).toNatClampNeg (u9.2 60 p1.toNatClampNeg)) 41 16).toNatClampNeg ((g_upd u9.2 48 (u9.2 41 16).toNatClampNeg (u9.2 60 p1.toNatClampNeg)) 60 (p1 + (1 : Int32)).toNatClampNeg)) 41 16).toNatClampNeg ((g_upd (g_upd u9.2 48 (u9.2 41 16).toNatClampNeg (u9.2 60 p1.toNatClampNeg)) 49 ((g_upd u9.2 48 (u9.2 41 16).toNatClampNeg (u9.2 60 p1.toNatClampNeg)) 41 16).toNatClampNeg ((g_upd u9.2 48 (u9.2 41 16).toNatClampNeg (u9.2 60 p1.toNatClampNeg)) 60 (p1 + (1 : Int32)).toNatClampNeg)) 60 (p1 + (2 : Int32)).toNatClampNeg)) 51 ((g_upd (g_upd (g_upd u9.2 48 (u9.2 41 16).toNatClampNeg (u9.2 60 p1.toNatClampNeg)) 49 ((g_upd u9.2 48 (u9.2 41 16).toNatClampNeg (u9.2 60 p1.toNatClampNeg)) 41 16).toNatClampNeg ((g_upd u9.2 48 (u9.2 41 16).toNatClampNeg (u9.2 60 p1.toNatClampNeg)) 60 (p1 + (1 : Int32)).toNatClampNeg)) 50 ((g_upd (g_upd u9.2 48 (u9.2 41 16).toNatClampNeg (u9.2 60 p1.toNatClampNeg)) 49 ((g_upd u9.2 48 (u9.2 41 16).toNatClampNeg (u9.2 60 p1.toNatClampNeg)) 41 16).toNatClampNeg ((g_upd u9.2 48 (u9.2 41 16).toNatClampNeg (u9.2 60 p1.toNatClampNeg)) 60 (p1 + (1 : Int32)).toNatClampNeg)) 41 16).toNatClampNeg ((g_upd (g_upd u9.2 48 (u9.2 41 16).toNatClampNeg (u9.2 60 p1.toNatClampNeg)) 49 ((g_upd u9.2 48 (u9.2 41 16).toNatClampNeg (u9.2 60 p1.toNatClampNeg)) 41 16).toNatClampNeg ((g_upd u9.2 48 (u9.2 41 16).toNatClampNeg (u9.2 60 p1.toNatClampNeg)) 60 (p1 + (1 : Int32)).toNatClampNeg)) 60 (p1 + (2 : Int32)).toNatClampNeg)) 41 16).toNatClampNeg ((g_upd (g_upd (g_upd u9.2 48 (u9.2 41 16).toNatClampNeg (u9.2 60 p1.toNatClampNeg)) 49 ((g_upd u9.2 48 (u9.2 41 16).toNatClampNeg (u9.2 60 p1.toNatClampNeg)) 41 16).toNatClampNeg ((g_upd u9.2 48 (u9.2 41 16).toNatClampNeg (u9.2 60 p1.toNatClampNeg)) 60 (p1 + (1 : Int32)).toNatClampNeg)) 50 ((g_upd (g_upd u9.2 48 (u9.2 41 16).toNatClampNeg (u9.2 60 p1.toNatClampNeg)) 49 ((g_upd u9.2 48 (u9.2 41 16).toNatClampNeg (u9.2 60 p1.toNatClampNeg)) 41 16).toNatClampNeg ((g_upd u9.2 48 (u9.2 41 16).toNatClampNeg (u9.2 60 p1.toNatClampNeg)) 60 (p1 + (1 : Int32)).toNatClampNeg)) 41 16).toNatClampNeg ((g_upd (g_upd u9.2 48 (u9.2 41 16).toNatClampNeg (u9.2 60 p1.toNatClampNeg)) 49 ((g_upd u9.2 48 (u9.2 41 16).toNatClampNeg (u9.2 60 p1.toNatClampNeg)) 41 16).toNatClampNeg ((g_upd u9.2 48 (u9.2 41 16).toNatClampNeg (u9.2 60 p1.toNatClampNeg)) 60 (p1 + (1 : Int32)).toNatClampNeg)) 60 (p1 + (2 : Int32)).toNatClampNeg)) 60 (p1 + (3 : Int32)).toNatClampNeg)) 52 ((g_upd (g_upd (g_upd (g_upd u9.2 48 (u9.2 41 16).toNatClampNeg (u9.2 60 p1.toNatClampNeg)) 49 ((g_upd u9.2 48 (u9.2 41 16).toNatClampNeg (u9.2 60 p1.toNatClampNeg)) 41 16).toNatClampNeg ((g_upd u9.2 48 (u9.2 41 16).toNatClampNeg (u9.2 60 p1.toNatClampNeg)) 60 (p1 + (1 : Int32)).toNatClampNeg)) 50 ((g_upd (g_upd u9.2 48 (u9.2 41 16).toNatClampNeg (u9.2 60 p1.toNatClampNeg)) 49 ((g_upd u9.2 48 (u9.2 41 16).toNatClampNeg (u9.2 60 p1.toNatClampNeg)) 41 16).toNatClampNeg ((g_upd u9.2 48 (u9.2 41 16).toNatClampNeg (u9.2 60 p1.toNatClampNeg)) 60 (p1 + (1 : Int32)).toNatClampNeg)) 41 16).toNatClampNeg ((g_upd (g_upd u9.2 48 (u9.2 41 16).toNatClampNeg (u9.2 60 p1.toNatClampNeg)) 49 ((g_upd u9.2 48 (u9.2 41 16).toNatClampNeg (u9.2 60 p1.toNatClampNeg)) 41 16).toNatClampNeg ((g_upd u9.2 48 (u9.2 41 16).toNatClampNeg (u9.2 60 p1.toNatClampNeg)) 60 (p1 + (1 : Int32)).toNatClampNeg)) 60 (p1 + (2 : Int32)).toNatClampNeg)) 51 ((g_upd (g_upd (g_upd u9.2 48 (u9.2 41 16).toNatClampNeg (u9.2 60 p1.toNatClampNeg)) 49 ((g_upd u9.2 48 (u9.2 41 16).toNatClampNeg (u9.2 60 p1.toNatClampNeg)) 41 16).toNatClampNeg ((g_upd u9.2 48 (u9.2 41 16).toNatClampNeg (u9.2 60 p1.toNatClampNeg)) 60 (p1 + (1 : Int32)).toNatClampNeg)) 50 ((g_upd (g_upd u9.2 48 (u9.2 41 16).toNatClampNeg (u9.2 60 p1.toNatClampNeg)) 49 ((g_upd u9.2 48 (u9.2 41 16).toNatClampNeg (u9.2 60 p1.toNatClampNeg)) 41 16).toNatClampNeg ((g_upd u9.2 48 (u9.2 41 16).toNatClampNeg (u9.2 60 p1.toNatClampNeg)) 60 (p1 + (1 : Int32)).toNatClampNeg)) 41 16).toNatClampNeg ((g_upd (g_upd u9.2 48 (u9.2 41 16).toNatClampNeg (u9.2 60 p1.toNatClampNeg)) 49 ((g_upd u9.2 48 (u9.2 41 16).toNatClampNeg (u9.2 60 p1.toNatClampNeg)) 41 16).toNatClampNeg ((g_upd u9.2 48 (u9.2 41 16).toNatClampNeg (u9.2 60 p1.toNatClampNeg)) 60 (p1 + (1 : Int32)).toNatClampNeg)) 60 (p1 + (2 : Int32)).toNatClampNeg)) 41 16).toNatClampNeg ((g_upd (g_upd (g_upd u9.2 48 (u9.2 41 16).toNatClampNeg (u9.2 60 p1.toNatClampNeg)) 49 ((g_upd u9.2 48 (u9.2 41 16).toNatClampNeg (u9.2 60 p1.toNatClampNeg)) 41 16).toNatClampNeg ((g_upd u9.2 48 (u9.2 41 16).toNatClampNeg (u9.2 60 p1.toNatClampNeg)) 60 (p1 + (1 : Int32)).toNatClampNeg)) 50 ((g_upd (g_upd u9.2 48 (u9.2 41 16).toNatClampNeg (u9.2 60 p1.toNatClampNeg)) 49 ((g_upd u9.2 48 (u9.2 41 16).toNatClampNeg (u9.2 60 p1.toNatClampNeg)) 41 16).toNatClampNeg ((g_upd u9.2 48 (u9.2 41 16).toNatClampNeg (u9.2 60 p1.toNatClampNeg)) 60 (p1 + (1 : Int32)).toNatClampNeg)) 41 16).toNatClampNeg ((g_upd (g_upd u9.2 48 (u9.2 41 16).toNatClampNeg (u9.2 60 p1.toNatClampNeg)) 49 ((g_upd u9.2 48 (u9.2 41 16).toNatClampNeg (u9.2 60 p1.toNatClampNeg)) 41 16).toNatClampNeg ((g_upd u9.2 48 (u9.2 41 16).toNatClampNeg (u9.2 60 p1.toNatClampNeg)) 60 (p1 + (1 : Int32)).toNatClampNeg)) 60 (p1 + (2 : Int32)).toNatClampNeg)) 60 (p1 + (3 : Int32)).toNatClampNeg)) 41 16).toNatClampNeg ((g_upd (g_upd (g_upd (g_upd u9.2 48 (u9.2 41 16).toNatClampNeg (u9.2 60 p1.toNatClampNeg)) 49 ((g_upd u9.2 48 (u9.2 41 16).toNatClampNeg (u9.2 60 p1.toNatClampNeg)) 41 16).toNatClampNeg ((g_upd u9.2 48 (u9.2 41 16).toNatClampNeg (u9.2 60 p1.toNatClampNeg)) 60 (p1 + (1 : Int32)).toNatClampNeg)) 50 ((g_upd (g_upd u9.2 48 (u9.2 41 16).toNatClampNeg (u9.2 60 p1.toNatClampNeg)) 49 ((g_upd u9.2 48 (u9.2 41 16).toNatClampNeg (u9.2 60 p1.toNatClampNeg)) 41 16).toNatClampNeg ((g_upd u9.2 48 (u9.2 41 16).toNatClampNeg (u9.2 60 p1.toNatClampNeg)) 60 (p1 + (1 : Int32)).toNatClampNeg)) 41 16).toNatClampNeg ((g_upd (g_upd u9.2 48 (u9.2 41 16).toNatClampNeg (u9.2 60 p1.toNatClampNeg)) 49 ((g_upd u9.2 48 (u9.2 41 16).toNatClampNeg (u9.2 60 p1.toNatClampNeg)) 41 16).toNatClampNeg ((g_upd u9.2 48 (u9.2 41 16).toNatClampNeg (u9.2 60 p1.toNatClampNeg)) 60 (p1 + (1 : Int32)).toNatClampNeg)) 60 (p1 + (2 : Int32)).toNatClampNeg)) 51 ((g_upd (g_upd (g_upd u9.2 48 (u9.2 41 16).toNatClampNeg (u9.2 60 p1.toNatClampNeg)) 49 ((g_upd u9.2 48 (u9.2 41 16).toNatClampNeg (u9.2 60 p1.toNatClampNeg)) 41 16).toNatClampNeg ((g_upd u9.2 48 (u9.2 41 16).toNatClampNeg (u9.2 60 p1.toNatClampNeg)) 60 (p1 + (1 : Int32)).toNatClampNeg)) 50 ((g_upd (g_upd u9.2 48 (u9.2 41 16).toNatClampNeg (u9.2 60 p1.toNatClampNeg)) 49 ((g_upd u9.2 48 (u9.2 41 16).toNatClampNeg (u9.2 60 p1.toNatClampNeg)) 41 16).toNatClampNeg ((g_upd u9.2 48 (u9.2 41 16).toNatClampNeg (u9.2 60 p1.toNatClampNeg)) 60 (p1 + (1 : Int32)).toNatClampNeg)) 41 16).toNatClampNeg ((g_upd (g_upd u9.2 48 (u9.2 41 16).toNatClampNeg (u9.2 60 p1.toNatClampNeg)) 49 ((g_upd u9.2 48 (u9.2 41 16).toNatClampNeg (u9.2 60 p1.toNatClampNeg)) 41 16).toNatClampNeg ((g_upd u9.2 48 (u9.2 41 16).toNatClampNeg (u9.2 60 p1.toNatClampNeg)) 60 (p1 + (1 : Int32)).toNatClampNeg)) 60 (p1 + (2 : Int32)).toNatClampNeg)) 41 16).toNatClampNeg ((g_upd (g_upd (g_upd u9.2 48 (u9.2 41 16).toNatClampNeg (u9.2 60 p1.toNatClampNeg)) 49 ((g_upd u9.2 48 (u9.2 41 16).toNatClampNeg (u9.2 60 p1.toNatClampNeg)) 41 16).toNatClampNeg ((g_upd u9.2 48 (u9.2 41 16).toNatClampNeg (u9.2 60 p1.toNatClampNeg)) 60 (p1 + (1 : Int32)).toNatClampNeg)) 50 ((g_upd (g_upd u9.2 48 (u9.2 41 16).toNatClampNeg (u9.2 60 p1.toNatClampNeg)) 49 ((g_upd u9.2 48 (u9.2 41 16).toNatClampNeg (u9.2 60 p1.toNatClampNeg)) 41 16).toNatClampNeg ((g_upd u9.2 48 (u9.2 41 16).toNatClampNeg (u9.2 60 p1.toNatClampNeg)) 60 (p1 + (1 : Int32)).toNatClampNeg)) 41 16).toNatClampNeg ((g_upd (g_upd u9.2 48 (u9.2 41 16).toNatClampNeg (u9.2 60 p1.toNatClampNeg)) 49 ((g_upd u9.2 48 (u9.2 41 16).toNatClampNeg (u9.2 60 p1.toNatClampNeg)) 41 16).toNatClampNeg ((g_upd u9.2 48 (u9.2 41 16).toNatClampNeg (u9.2 60 p1.toNatClampNeg)) 60 (p1 + (1 : Int32)).toNatClampNeg)) 60 (p1 + (2 : Int32)).toNatClampNeg)) 60 (p1 + (3 : Int32)).toNatClampNeg)) 60 (p1 + (4 : Int32)).toNatClampNeg)) 60 (p1 + (5 : Int32)).toNatClampNeg)) 41 16).toNatClampNeg ((g_upd (g_upd (g_upd (g_upd (g_upd (g_upd u9.2 48 (u9.2 41 16).toNatClampNeg (u9.2 60 p1.toNatClampNeg)) 49 ((g_upd u9.2 48 (u9.2 41 16).toNatClampNeg (u9.2 60 p1.toNatClampNeg)) 41 16).toNatClampNeg ((g_upd u9.2 48 (u9.2 41 16).toNatClampNeg (u9.2 60 p1.toNatClampNeg)) 60 (p1 + (1 : Int32)).toNatClampNeg)) 50 ((g_upd (g_upd u9.2 48 (u9.2 41 16).toNatClampNeg (u9.2 60 p1.toNatClampNeg)) 49 ((g_upd u9.2 48 (u9.2 41 16).toNatClampNeg (u9.2 60 p1.toNatClampNeg)) 41 16).toNatClampNeg ((g_upd u9.2 48 (u9.2 41 16).toNatClampNeg (u9.2 60 p1.toNatClampNeg)) 60 (p1 + (1 : Int32)).toNatClampNeg)) 41 16).toNatClampNeg ((g_upd (g_upd u9.2 48 (u9.2 41 16).toNatClampNeg (u9.2 60 p1.toNatClampNeg)) 49 ((g_upd u9.2 48 (u9.2 41 16).toNatClampNeg (u9.2 60 p1.toNatClampNeg)) 41 16).toNatClampNeg ((g_upd u9.2 48 (u9.2 41 16).toNatClampNeg (u9.2 60 p1.toNatClampNeg)) 60 (p1 + (1 : Int32)).toNatClampNeg)) 60 (p1 + (2 : Int32)).toNatClampNeg)) 51 ((g_upd (g_upd (g_upd u9.2 48 (u9.2 41 16).toNatClampNeg (u9.2 60 p1.toNatClampNeg)) 49 ((g_upd u9.2 48 (u9.2 41 16).toNatClampNeg (u9.2 60 p1.toNatClampNeg)) 41 16).toNatClampNeg ((g_upd u9.2 48 (u9.2 41 16).toNatClampNeg (u9.2 60 p1.toNatClampNeg)) 60 (p1 + (1 : Int32)).toNatClampNeg)) 50 ((g_upd (g_upd u9.2 48 (u9.2 41 16).toNatClampNeg (u9.2 60 p1.toNatClampNeg)) 49 ((g_upd u9.2 48 (u9.2 41 16).toNatClampNeg (u9.2 60 p1.toNatClampNeg)) 41 16).toNatClampNeg ((g_upd u9.2 48 (u9.2 41 16).toNatClampNeg (u9.2 60 p1.toNatClampNeg)) 60 (p1 + (1 : Int32)).toNatClampNeg)) 41 16).toNatClampNeg ((g_upd (g_upd u9.2 48 (u9.2 41 16).toNatClampNeg (u9.2 60 p1.toNatClampNeg)) 49 ((g_upd u9.2 48 (u9.2 41 16).toNatClampNeg (u9.2 60 p1.toNatClampNeg)) 41 16).toNatClampNeg ((g_upd u9.2 48 (u9.2 41 16).toNatClampNeg (u9.2 60 p1.toNatClampNeg)) 60 (p1 + (1 : Int32)).toNatClampNeg)) 60 (p1 + (2 : Int32)).toNatClampNeg)) 41 16).toNatClampNeg ((g_upd (g_upd (g_upd u9.2 48 (u9.2 41 16).toNatClampNeg (u9.2 60 p1.toNatClampNeg)) 49 ((g_upd u9.2 48 (u9.2 41 16).toNatClampNeg (u9.2 60 p1.toNatClampNeg)) 41 16).toNatClampNeg ((g_upd u9.2 48 (u9.2 41 16).toNatClampNeg (u9.2 60 p1.toNatClampNeg)) 60 (p1 + (1 : Int32)).toNatClampNeg)) 50 ((g_upd (g_upd u9.2 48 (u9.2 41 16).toNatClampNeg (u9.2 60 p1.toNatClampNeg)) 49 ((g_upd u9.2 48 (u9.2 41 16).toNatClampNeg (u9.2 60 p1.toNatClampNeg)) 41 16).toNatClampNeg ((g_upd u9.2 48 (u9.2 41 16).toNatClampNeg (u9.2 60 p1.toNatClampNeg)) 60 (p1 + (1 : Int32)).toNatClampNeg)) 41 16).toNatClampNeg ((g_upd (g_upd u9.2 48 (u9.2 41 16).toNatClampNeg (u9.2 60 p1.toNatClampNeg)) 49 ((g_upd u9.2 48 (u9.2 41 16).toNatClampNeg (u9.2 60 p1.toNatClampNeg)) 41 16).toNatClampNeg ((g_upd u9.2 48 (u9.2 41 16).toNatClampNeg (u9.2 60 p1.toNatClampNeg)) 60 (p1 + (1 : Int32)).toNatClampNeg)) 60 (p1 + (2 : Int32)).toNatClampNeg)) 60 (p1 + (3 : Int32)).toNatClampNeg)) 52 ((g_upd (g_upd (g_upd (g_upd u9.2 48 (u9.2 41 16).toNatClampNeg (u9.2 60 p1.toNatClampNeg)) 49 ((g_upd u9.2 48 (u9.2 41 16).toNatClampNeg (u9.2 60 p1.toNatClampNeg)) 41 16).toNatClampNeg ((g_upd u9.2 48 (u9.2 41 16).toNatClampNeg (u9.2 60 p1.toNatClampNeg)) 60 (p1 + (1 : Int32)).toNatClampNeg)) 50 ((g_upd (g_upd u9.2 48 (u9.2 41 16).toNatClampNeg (u9.2 60 p1.toNatClampNeg)) 49 ((g_upd u9.2 48 (u9.2 41 16).toNatClampNeg (u9.2 60 p1.toNatClampNeg)) 41 16).toNatClampNeg ((g_upd u9.2 48 (u9.2 41 16).toNatClampNeg (u9.2 60 p1.toNatClampNeg)) 60 (p1 + (1 : Int32)).toNatClampNeg)) 41 16).toNatClampNeg ((g_upd (g_upd u9.2 48 (u9.2 41 16).toNatClampNeg (u9.2 60 p1.toNatClampNeg)) 49 ((g_upd u9.2 48 (u9.2 41 16).toNatClampNeg (u9.2 60 p1.toNatClampNeg)) 41 16).toNatClampNeg ((g_upd u9.2 48 (u9.2 41 16).toNatClampNeg (u9.2 60 p1.toNatClampNeg)) 60 (p1 + (1 : Int32)).toNatClampNeg)) 60 (p1 + (2 : Int32)).toNatClampNeg)) 51 ((g_upd (g_upd (g_upd u9.2 48 (u9.2 41 16).toNatClampNeg (u9.2 60 p1.toNatClampNeg)) 49 ((g_upd u9.2 48 (u9.2 41 16).toNatClampNeg (u9.2 60 p1.toNatClampNeg)) 41 16).toNatClampNeg ((g_upd u9.2 48 (u9.2 41 16).toNatClampNeg (u9.2 60 p1.toNatClampNeg)) 60 (p1 + (1 : Int32)).toNatClampNeg)) 50 ((g_upd (g_upd u9.2 48 (u9.2 41 16).toNatClampNeg (u9.2 60 p1.toNatClampNeg)) 49 ((g_upd u9.2 48 (u9.2 41 16).toNatClampNeg (u9.2 60 p1.toNatClampNeg)) 41 16).toNatClampNeg ((g_upd u9.2 48 (u9.2 41 16).toNatClampNeg (u9.2 60 p1.toNatClampNeg)) 60 (p1 + (1 : Int32)).toNatClampNeg)) 41 16).toNatClampNeg ((g_upd (g_upd u9.2 48 (u9.2 41 16).toNatClampNeg (u9.2 60 p1.toNatClampNeg)) 49 ((g_upd u9.2 48 (u9.2 41 16).toNatClampNeg (u9.2 60 p1.toNatClampNeg)) 41 16).toNatClampNeg ((g_upd u9.2 48 (u9.2 41 16).toNatClampNeg (u9.2 60 p1.toNatClampNeg)) 60 (p1 + (1 : Int32)).toNatClampNeg)) 60 (p1 + (2 : Int32)).toNatClampNeg)) 41 16).toNatClampNeg ((g_upd (g_upd (g_upd u9.2 48 (u9.2 41 16).toNatClampNeg (u9.2 60 p1.toNatClampNeg)) 49 ((g_upd u9.2 48 (u9.2 41 16).toNatClampNeg (u9.2 60 p1.toNatClampNeg)) 41 16).toNatClampNeg ((g_upd u9.2 48 (u9.2 41 16).toNatClampNeg (u9.2 60 p1.toNatClampNeg)) 60 (p1 + (1 : Int32)).toNatClampNeg)) 50 ((g_upd (g_upd u9.2 48 (u9.2 41 16).toNatClampNeg (u9.2 60 p1.toNatClampNeg)) 49 ((g_upd u9.2 48 (u9.2 41 16).toNatClampNeg (u9.2 60 p1.toNatClampNeg)) 41 16).toNatClampNeg ((g_upd u9.2 48 (u9.2 41 16).toNatClampNeg (u9.2 60 p1.toNatClampNeg)) 60 (p1 + (1 : Int32)).toNatClampNeg)) 41 16).toNatClampNeg ((g_upd (g_upd u9.2 48 (u9.2 41 16).toNatClampNeg (u9.2 60 p1.toNatClampNeg)) 49 ((g_upd u9.2 48 (u9.2 41 16).toNatClampNeg (u9.2 60 p1.toNatClampNeg)) 41 16).toNatClampNeg ((g_upd u9.2 48 (u9.2 41 16).toNatClampNeg (u9.2 60 p1.toNatClampNeg)) 60 (p1 + (1 : Int32)).toNatClampNeg)) 60 (p1 + (2 : Int32)).toNatClampNeg)) 60 (p1 + (3 : Int32)).toNatClampNeg)) 41 16).toNatClampNeg ((g_upd (g_upd (g_upd (g_upd u9.2 48 (u9.2 41 16).toNatClampNeg (u9.2 60 p1.toNatClampNeg)) 49 ((g_upd u9.2 48 (u9.2 41 16).toNatClampNeg (u9.2 60 p1.toNatClampNeg)) 41 16).toNatClampNeg ((g_upd u9.2 48 (u9.2 41 16).toNatClampNeg (u9.2 60 p1.toNatClampNeg)) 60 (p1 + (1 : Int32)).toNatClampNeg)) 50 ((g_upd (g_upd u9.2 48 (u9.2 41 16).toNatClampNeg (u9.2 60 p1.toNatClampNeg)) 49 ((g_upd u9.2 48 (u9.2 41 16).toNatClampNeg (u9.2 60 p1.toNatClampNeg)) 41 16).toNatClampNeg ((g_upd u9.2 48 (u9.2 41 16).toNatClampNeg (u9.2 60 p1.toNatClampNeg)) 60 (p1 + (1 : Int32)).toNatClampNeg)) 41 16).toNatClampNeg ((g_upd (g_upd u9.2 48 (u9.2 41 16).toNatClampNeg (u9.2 60 p1.toNatClampNeg)) 49 ((g_upd u9.2 48 (u9.2 41 16).toNatClampNeg (u9.2 60 p1.toNatClampNeg)) 41 16).toNatClampNeg ((g_upd u9.2 48 (u9.2 41 16).toNatClampNeg (u9.2 60 p1.toNatClampNeg)) 60 (p1 + (1 : Int32)).toNatClampNeg)) 60 (p1 + (2 : Int32)).toNatClampNeg)) 51 ((g_upd (g_upd (g_upd u9.2 48 (u9.2 41 16).toNatClampNeg (u9.2 60 p1.toNatClampNeg)) 49 ((g_upd u9.2 48 (u9.2 41 16).toNatClampNeg (u9.2 60 p1.toNatClampNeg)) 41 16).toNatClampNeg ((g_upd u9.2 48 (u9.2 41 16).toNatClampNeg (u9.2 60 p1.toNatClampNeg)) 60 (p1 + (1 : Int32)).toNatClampNeg)) 50 ((g_upd (g_upd u9.2 48 (u9.2 41 16).toNatClampNeg (u9.2 60 p1.toNatClampNeg)) 49 ((g_upd u9.2 48 (u9.2 41 16).toNatClampNeg (u9.2 60 p1.toNatClampNeg)) 41 16).toNatClampNeg ((g_upd u9.2 48 (u9.2 41 16).toNatClampNeg (u9.2 60 p1.toNatClampNeg)) 60 (p1 + (1 : Int32)).toNatClampNeg)) 41 16).toNatClampNeg ((g_upd (g_upd u9.2 48 (u9.2 41 16).toNatClampNeg (u9.2 60 p1.toNatClampNeg)) 49 ((g_upd u9.2 48 (u9.2 41 16).toNatClampNeg (u9.2 60 p1.toNatClampNeg)) 41 16).toNatClampNeg ((g_upd u9.2 48 (u9.2 41 16).toNatClampNeg (u9.2 60 p1.toNatClampNeg)) 60 (p1 + (1 : Int32)).toNatClampNeg)) 60 (p1 + (2 : Int32)).toNatClampNeg)) 41 16).toNatClampNeg ((g_upd (g_upd (g_upd u9.2 48 (u9.2 41 16).toNatClampNeg (u9.2 60 p1.toNatClampNeg)) 49 ((g_upd u9.2 48 (u9.2 41 16).toNatClampNeg (u9.2 60 p1.toNatClampNeg)) 41 16).toNatClampNeg ((g_upd u9.2 48 (u9.2 41 16).toNatClampNeg (u9.2 60 p1.toNatClampNeg)) 60 (p1 + (1 : Int32)).toNatClampNeg)) 50 ((g_upd (g_upd u9.2 48 (u9.2 41 16).toNatClampNeg (u9.2 60 p1.toNatClampNeg)) 49 ((g_upd u9.2 48 (u9.2 41 16).toNatClampNeg (u9.2 60 p1.toNatClampNeg)) 41 16).toNatClampNeg ((g_upd u9.2 48 (u9.2 41 16).toNatClampNeg (u9.2 60 p1.toNatClampNeg)) 60 (p1 + (1 : Int32)).toNatClampNeg)) 41 16).toNatClampNeg ((g_upd (g_upd u9.2 48 (u9.2 41 16).toNatClampNeg (u9.2 60 p1.toNatClampNeg)) 49 ((g_upd u9.2 48 (u9.2 41 16).toNatClampNeg (u9.2 60 p1.toNatClampNeg)) 41 16).toNatClampNeg ((g_upd u9.2 48 (u9.2 41 16).toNatClampNeg (u9.2 60 p1.toNatClampNeg)) 60 (p1 + (1 : Int32)).toNatClampNeg)) 60 (p1 + (2 : Int32)).toNatClampNeg)) 60 (p1 + (3 : Int32)).toNatClampNeg)) 60 (p1 + (4 : Int32)).toNatClampNeg)) 53 ((g_upd (g_upd (g_upd (g_upd (g_upd u9.2 48 (u9.2 41 16).toNatClampNeg (u9.2 60 p1.toNatClampNeg)) 49 ((g_upd u9.2 48 (u9.2 41 16).toNatClampNeg (u9.2 60 p1.toNatClampNeg)) 41 16).toNatClampNeg ((g_upd u9.2 48 (u9.2 41 16).toNatClampNeg (u9.2 60 p1.toNatClampNeg)) 60 (p1 + (1 : Int32)).toNatClampNeg)) 50 ((g_upd (g_upd u9.2 48 (u9.2 41 16).toNatClampNeg (u9.2 60 p1.toNatClampNeg)) 49 ((g_upd u9.2 48 (u9.2 41 16).toNatClampNeg (u9.2 60 p1.toNatClampNeg)) 41 16).toNatClampNeg ((g_upd u9.2 48 (u9.2 41 16).toNatClampNeg (u9.2 60 p1.toNatClampNeg)) 60 (p1 + (1 : Int32)).toNatClampNeg)) 41 16).toNatClampNeg ((g_upd (g_upd u9.2 48 (u9.2 41 16).toNatClampNeg (u9.2 60 p1.toNatClampNeg)) 49 ((g_upd u9.2 48 (u9.2 41 16).toNatClampNeg (u9.2 60 p1.toNatClampNeg)) 41 16).toNatClampNeg ((g_upd u9.2 48 (u9.2 41 16).toNatClampNeg (u9.2 60 p1.toNatClampNeg)) 60 (p1 + (1 : Int32)).toNatClampNeg)) 60 (p1 + (2 : Int32)).toNatClampNeg)) 51 ((g_upd (g_upd (g_upd u9.2 48 (u9.2 41 16).toNatClampNeg (u9.2 60 p1.toNatClampNeg)) 49 ((g_upd u9.2 48 (u9.2 41 16).toNatClampNeg (u9.2 60 p1.toNatClampNeg)) 41 16).toNatClampNeg ((g_upd u9.2 48 (u9.2 41 16).toNatClampNeg (u9.2 60 p1.toNatClampNeg)) 60 (p1 + (1 : Int32)).toNatClampNeg)) 50 ((g_upd (g_upd u9.2 48 (u9.2 41 16).toNatClampNeg (u9.2 60 p1.toNatClampNeg)) 49 ((g_upd u9.2 48 (u9.2 41 16).toNatClampNeg (u9.2 60 p1.toNatClampNeg)) 41 16).toNatClampNeg ((g_upd u9.2 48 (u9.2 41 16).toNatClampNeg (u9.2 60 p1.toNatClampNeg)) 60 (p1 + (1 : Int32)).toNatClampNeg)) 41 16).toNatClampNeg ((g_upd (g_upd u9.2 48 (u9.2 41 16).toNatClampNeg (u9.2 60 p1.toNatClampNeg)) 49 ((g_upd u9.2 48 (u9.2 41 16).toNatClampNeg (u9.2 60 p1.toNatClampNeg)) 41 16).toNatClampNeg ((g_upd u9.2 48 (u9.2 41 16).toNatClampNeg (u9.2 60 p1.toNatClampNeg)) 60 (p1 + (1 : Int32)).toNatClampNeg)) 60 (p1 + (2 : Int32)).toNatClampNeg)) 41 16).toNatClampNeg ((g_upd (g_upd (g_upd u9.2 48 (u9.2 41 16).toNatClampNeg (u9.2 60 p1.toNatClampNeg)) 49 ((g_upd u9.2 48 (u9.2 41 16).toNatClampNeg (u9.2 60 p1.toNatClampNeg)) 41 16).toNatClampNeg ((g_upd u9.2 48 (u9.2 41 16).toNatClampNeg (u9.2 60 p1.toNatClampNeg)) 60 (p1 + (1 : Int32)).toNatClampNeg)) 50 ((g_upd (g_upd u9.2 48 (u9.2 41 16).toNatClampNeg (u9.2 60 p1.toNatClampNeg)) 49 ((g_upd u9.2 48 (u9.2 41 16).toNatClampNeg (u9.2 60 p1.toNatClampNeg)) 41 16).toNatClampNeg ((g_upd u9.2 48 (u9.2 41 16).toNatClampNeg (u9.2 60 p1.toNatClampNeg)) 60 (p1 + (1 : Int32)).toNatClampNeg)) 41 16).toNatClampNeg ((g_upd (g_upd u9.2 48 (u9.2 41 16).toNatClampNeg (u9.2 60 p1.toNatClampNeg)) 49 ((g_upd u9.2 48 (u9.2 41 16).toNatClampNeg (u9.2 60 p1.toNatClampNeg)) 41 16).toNatClampNeg ((g_upd u9.2 48 (u9.2 41 16).toNatClampNeg (u9.2 60 p1.toNatClampNeg)) 60 (p1 + (1 : Int32)).toNatClampNeg)) 60 (p1 + (2 : Int32)).toNatClampNeg)) 60 (p1 + (3 : Int32)).toNatClampNeg)) 52 ((g_upd (g_upd (g_upd (g_upd u9.2 48 (u9.2 41 16).toNatClampNeg (u9.2 60 p1.toNatClampNeg)) 49 ((g_upd u9.2 48 (u9.2 41 16).toNatClampNeg (u9.2 60 p1.toNatClampNeg)) 41 16).toNatClampNeg ((g_upd u9.2 48 (u9.2 41 16).toNatClampNeg (u9.2 60 p1.toNatClampNeg)) 60 (p1 + (1 : Int32)).toNatClampNeg)) 50 ((g_upd (g_upd u9.2 48 (u9.2 41 16).toNatClampNeg (u9.2 60 p1.toNatClampNeg)) 49 ((g_upd u9.2 48 (u9.2 41 16).toNatClampNeg (u9.2 60 p1.toNatClampNeg)) 41 16).toNatClampNeg ((g_upd u9.2 48 (u9.2 41 16).toNatClampNeg (u9.2 60 p1.toNatClampNeg)) 60 (p1 + (1 : Int32)).toNatClampNeg)) 41 16).toNatClampNeg ((g_upd (g_upd u9.2 48 (u9.2 41 16).toNatClampNeg (u9.2 60 p1.toNatClampNeg)) 49 ((g_upd u9.2 48 (u9.2 41 16).toNatClampNeg (u9.2 60 p1.toNatClampNeg)) 41 16).toNatClampNeg ((g_upd u9.2 48 (u9.2 41 16).toNatClampNeg (u9.2 60 p1.toNatClampNeg)) 60 (p1 + (1 : Int32)).toNatClampNeg)) 60 (p1 + (2 : Int32)).toNatClampNeg)) 51 ((g_upd (g_upd (g_upd u9.2 48 (u9.2 41 16).toNatClampNeg (u9.2 60 p1.toNatClampNeg)) 49 ((g_upd u9.2 48 (u9.2 41 16).toNatClampNeg (u9.2 60 p1.toNatClampNeg)) 41 16).toNatClampNeg ((g_upd u9.2 48 (u9.2 41 16).toNatClampNeg (u9.2 60 p1.toNatClampNeg)) 60 (p1 + (1 : Int32)).toNatClampNeg)) 50 ((g_upd (g_upd u9.2 48 (u9.2 41 16).toNatClampNeg (u9.2 60 p1.toNatClampNeg)) 49 ((g_upd u9.2 48 (u9.2 41 16).toNatClampNeg (u9.2 60 p1.toNatClampNeg)) 41 16).toNatClampNeg ((g_upd u9.2 48 (u9.2 41 16).toNatClampNeg (u9.2 60 p1.toNatClampNeg)) 60 (p1 + (1 : Int32)).toNatClampNeg)) 41 16).toNatClampNeg ((g_upd (g_upd u9.2 48 (u9.2 41 16).toNatClampNeg (u9.2 60 p1.toNatClampNeg)) 49 ((g_upd u9.2 48 (u9.2 41 16).toNatClampNeg (u9.2 60 p1.toNatClampNeg)) 41 16).toNatClampNeg ((g_upd u9.2 48 (u9.2 41 16).toNatClampNeg (u9.2 60 p1.toNatClampNeg)) 60 (p1 + (1 : Int32)).toNatClampNeg)) 60 (p1 + (2 : Int32)).toNatClampNeg)) 41 16).toNatClampNeg ((g_upd (g_upd (g_upd u9.2 48 (u9.2 41 16).toNatClampNeg (u9.2 60 p1.toNatClampNeg)) 49 ((g_upd u9.2 48 (u9.2 41 16).toNatClampNeg (u9.2 60 p1.toNatClampNeg)) 41 16).toNatClampNeg ((g_upd u9.2 48 (u9.2 41 16).toNatClampNeg (u9.2 60 p1.toNatClampNeg)) 60 (p1 + (1 : Int32)).toNatClampNeg)) 50 ((g_upd (g_upd u9.2 48 (u9.2 41 16).toNatClampNeg (u9.2 60 p1.toNatClampNeg)) 49 ((g_upd u9.2 48 (u9.2 41 16).toNatClampNeg (u9.2 60 p1.toNatClampNeg)) 41 16).toNatClampNeg ((g_upd u9.2 48 (u9.2 41 16).toNatClampNeg (u9.2 60 p1.toNatClampNeg)) 60 (p1 + (1 : Int32)).toNatClampNeg)) 41 16).toNatClampNeg ((g_upd (g_upd u9.2 48 (u9.2 41 16).toNatClampNeg (u9.2 60 p1.toNatClampNeg)) 49 ((g_upd u9.2 48 (u9.2 41 16).toNatClampNeg (u9.2 60 p1.toNatClampNeg)) 41 16).toNatClampNeg ((g_upd u9.2 48 (u9.2 41 16).toNatClampNeg (u9.2 60 p1.toNatClampNeg)) 60 (p1 + (1 : Int32)).toNatClampNeg)) 60 (p1 + (2 : Int32)).toNatClampNeg)) 60 (p1 + (3 : Int32)).toNatClampNeg)) 41 16).toNatClampNeg ((g_upd (g_upd (g_upd (g_upd u9.2 48 (u9.2 41 16).toNatClampNeg (u9.2 60 p1.toNatClampNeg)) 49 ((g_upd u9.2 48 (u9.2 41 16).toNatClampNeg (u9.2 60 p1.toNatClampNeg)) 41 16).toNatClampNeg ((g_upd u9.2 48 (u9.2 41 16).toNatClampNeg (u9.2 60 p1.toNatClampNeg)) 60 (p1 + (1 : Int32)).toNatClampNeg)) 50 ((g_upd (g_upd u9.2 48 (u9.2 41 16).toNatClampNeg (u9.2 60 p1.toNatClampNeg)) 49 ((g_upd u9.2 48 (u9.2 41 16).toNatClampNeg (u9.2 60 p1.toNatClampNeg)) 41 16).toNatClampNeg ((g_upd u9.2 48 (u9.2 41 16).toNatClampNeg (u9.2 60 p1.toNatClampNeg)) 60 (p1 + (1 : Int32)).toNatClampNeg)) 41 16).toNatClampNeg ((g_upd (g_upd u9.2 48 (u9.2 41 16).toNatClampNeg (u9.2 60 p1.toNatClampNeg)) 49 ((g_upd u9.2 48 (u9.2 41 16).toNatClampNeg (u9.2 60 p1.toNatClampNeg)) 41 16).toNatClampNeg ((g_upd u9.2 48 (u9.2 41 16).toNatClampNeg (u9.2 60 p1.toNatClampNeg)) 60 (p1 + (1 : Int32)).toNatClampNeg)) 60 (p1 + (2 : Int32)).toNatClampNeg)) 51 ((g_upd (g_upd (g_upd u9.2 48 (u9.2 41 16).toNatClampNeg (u9.2 60 p1.toNatClampNeg)) 49 ((g_upd u9.2 48 (u9.2 41 16).toNatClampNeg (u9.2 60 p1.toNatClampNeg)) 41 16).toNatClampNeg ((g_upd u9.2 48 (u9.2 41 16).toNatClampNeg (u9.2 60 p1.toNatClampNeg)) 60 (p1 + (1 : Int32)).toNatClampNeg)) 50 ((g_upd (g_upd u9.2 48 (u9.2 41 16).toNatClampNeg (u9.2 60 p1.toNatClampNeg)) 49 ((g_upd u9.2 48 (u9.2 41 16).toNatClampNeg (u9.2 60 p1.toNatClampNeg)) 41 16).toNatClampNeg ((g_upd u9.2 48 (u9.2 41 16).toNatClampNeg (u9.2 60 p1.toNatClampNeg)) 60 (p1 + (1 : Int32)).toNatClampNeg)) 41 16).toNatClampNeg ((g_upd (g_upd u9.2 48 (u9.2 41 16).toNatClampNeg (u9.2 60 p1.toNatClampNeg)) 49 ((g_upd u9.2 48 (u9.2 41 16).toNatClampNeg (u9.2 60 p1.toNatClampNeg)) 41 16).toNatClampNeg ((g_upd u9.2 48 (u9.2 41 16).toNatClampNeg (u9.2 60 p1.toNatClampNeg)) 60 (p1 + (1 : Int32)).toNatClampNeg)) 60 (p1 + (2 : Int32)).toNatClampNeg)) 41 16).toNatClampNeg ((g_upd (g_upd (g_upd u9.2 48 (u9.2 41 16).toNatClampNeg (u9.2 60 p1.toNatClampNeg)) 49 ((g_upd u9.2 48 (u9.2 41 16).toNatClampNeg (u9.2 60 p1.toNatClampNeg)) 41 16).toNatClampNeg ((g_upd u9.2 48 (u9.2 41 16).toNatClampNeg (u9.2 60 p1.toNatClampNeg)) 60 (p1 + (1 : Int32)).toNatClampNeg)) 50 ((g_upd (g_upd u9.2 48 (u9.2 41 16).toNatClampNeg (u9.2 60 p1.toNatClampNeg)) 49 ((g_upd u9.2 48 (u9.2 41 16).toNatClampNeg (u9.2 60 p1.toNatClampNeg)) 41 16).toNatClampNeg ((g_upd u9.2 48 (u9.2 41 16).toNatClampNeg (u9.2 60 p1.toNatClampNeg)) 60 (p1 + (1 : Int32)).toNatClampNeg)) 41 16).toNatClampNeg ((g_upd (g_upd u9.2 48 (u9.2 41 16).toNatClampNeg (u9.2 60 p1.toNatClampNeg)) 49 ((g_upd u9.2 48 (u9.2 41 16).toNatClampNeg (u9.2 60 p1.toNatClampNeg)) 41 16).toNatClampNeg ((g_upd u9.2 48 (u9.2 41 16).toNatClampNeg (u9.2 60 p1.toNatClampNeg)) 60 (p1 + (1 : Int32)).toNatClampNeg)) 60 (p1 + (2 : Int32)).toNatClampNeg)) 60 (p1 + (3 : Int32)).toNatClampNeg)) 60 (p1 + (4 : Int32)).toNatClampNeg)) 41 16).toNatClampNeg ((g_upd (g_upd (g_upd (g_upd (g_upd u9.2 48 (u9.2 41 16).toNatClampNeg (u9.2 60 p1.toNatClampNeg)) 49 ((g_upd u9.2 48 (u9.2 41 16).toNatClampNeg (u9.2 60 p1.toNatClampNeg)) 41 16).toNatClampNeg ((g_upd u9.2 48 (u9.2 41 16).toNatClampNeg (u9.2 60 p1.toNatClampNeg)) 60 (p1 + (1 : Int32)).toNatClampNeg)) 50 ((g_upd (g_upd u9.2 48 (u9.2 41 16).toNatClampNeg (u9.2 60 p1.toNatClampNeg)) 49 ((g_upd u9.2 48 (u9.2 41 16).toNatClampNeg (u9.2 60 p1.toNatClampNeg)) 41 16).toNatClampNeg ((g_upd u9.2 48 (u9.2 41 16).toNatClampNeg (u9.2 60 p1.toNatClampNeg)) 60 (p1 + (1 : Int32)).toNatClampNeg)) 41 16).toNatClampNeg ((g_upd (g_upd u9.2 48 (u9.2 41 16).toNatClampNeg (u9.2 60 p1.toNatClampNeg)) 49 ((g_upd u9.2 48 (u9.2 41 16).toNatClampNeg (u9.2 60 p1.toNatClampNeg)) 41 16).toNatClampNeg ((g_upd u9.2 48 (u9.2 41 16).toNatClampNeg (u9.2 60 p1.toNatClampNeg)) 60 (p1 + (1 : Int32)).toNatClampNeg)) 60 (p1 + (2 : Int32)).toNatClampNeg)) 51 ((g_upd (g_upd (g_upd u9.2 48 (u9.2 41 16).toNatClampNeg (u9.2 60 p1.toNatClampNeg)) 49 ((g_upd u9.2 48 (u9.2 41 16).toNatClampNeg (u9.2 60 p1.toNatClampNeg)) 41 16).toNatClampNeg ((g_upd u9.2 48 (u9.2 41 16).toNatClampNeg (u9.2 60 p1.toNatClampNeg)) 60 (p1 + (1 : Int32)).toNatClampNeg)) 50 ((g_upd (g_upd u9.2 48 (u9.2 41 16).toNatClampNeg (u9.2 60 p1.toNatClampNeg)) 49 ((g_upd u9.2 48 (u9.2 41 16).toNatClampNeg (u9.2 60 p1.toNatClampNeg)) 41 16).toNatClampNeg ((g_upd u9.2 48 (u9.2 41 16).toNatClampNeg (u9.2 60 p1.toNatClampNeg)) 60 (p1 + (1 : Int32)).toNatClampNeg)) 41 16).toNatClampNeg ((g_upd (g_upd u9.2 48 (u9.2 41 16).toNatClampNeg (u9.2 60 p1.toNatClampNeg)) 49 ((g_upd u9.2 48 (u9.2 41 16).toNatClampNeg (u9.2 60 p1.toNatClampNeg)) 41 16).toNatClampNeg ((g_upd u9.2 48 (u9.2 41 16).toNatClampNeg (u9.2 60 p1.toNatClampNeg)) 60 (p1 + (1 : Int32)).toNatClampNeg)) 60 (p1 + (2 : Int32)).toNatClampNeg)) 41 16).toNatClampNeg ((g_upd (g_upd (g_upd u9.2 48 (u9.2 41 16).toNatClampNeg (u9.2 60 p1.toNatClampNeg)) 49 ((g_upd u9.2 48 (u9.2 41 16).toNatClampNeg (u9.2 60 p1.toNatClampNeg)) 41 16).toNatClampNeg ((g_upd u9.2 48 (u9.2 41 16).toNatClampNeg (u9.2 60 p1.toNatClampNeg)) 60 (p1 + (1 : Int32)).toNatClampNeg)) 50 ((g_upd (g_upd u9.2 48 (u9.2 41 16).toNatClampNeg (u9.2 60 p1.toNatClampNeg)) 49 ((g_upd u9.2 48 (u9.2 41 16).toNatClampNeg (u9.2 60 p1.toNatClampNeg)) 41 16).toNatClampNeg ((g_upd u9.2 48 (u9.2 41 16).toNatClampNeg (u9.2 60 p1.toNatClampNeg)) 60 (p1 + (1 : Int32)).toNatClampNeg)) 41 16).toNatClampNeg ((g_upd (g_upd u9.2 48 (u9.2 41 16).toNatClampNeg (u9.2 60 p1.toNatClampNeg)) 49 ((g_upd u9.2 48 (u9.2 41 16).toNatClampNeg (u9.2 60 p1.toNatClampNeg)) 41 16).toNatClampNeg ((g_upd u9.2 48 (u9.2 41 16).toNatClampNeg (u9.2 60 p1.toNatClampNeg)) 60 (p1 + (1 : Int32)).toNatClampNeg)) 60 (p1 + (2 : Int32)).toNatClampNeg)) 60 (p1 + (3 : Int32)).toNatClampNeg)) 52 ((g_upd (g_upd (g_upd (g_upd u9.2 48 (u9.2 41 16).toNatClampNeg (u9.2 60 p1.toNatClampNeg)) 49 ((g_upd u9.2 48 (u9.2 41 16).toNatClampNeg (u9.2 60 p1.toNatClampNeg)) 41 16).toNatClampNeg ((g_upd u9.2 48 (u9.2 41 16).toNatClampNeg (u9.2 60 p1.toNatClampNeg)) 60 (p1 + (1 : Int32)).toNatClampNeg)) 50 ((g_upd (g_upd u9.2 48 (u9.2 41 16).toNatClampNeg (u9.2 60 p1.toNatClampNeg)) 49 ((g_upd u9.2 48 (u9.2 41 16).toNatClampNeg (u9.2 60 p1.toNatClampNeg)) 41 16).toNatClampNeg ((g_upd u9.2 48 (u9.2 41 16).toNatClampNeg (u9.2 60 p1.toNatClampNeg)) 60 (p1 + (1 : Int32)).toNatClampNeg)) 41 16).toNatClampNeg ((g_upd (g_upd u9.2 48 (u9.2 41 16).toNatClampNeg (u9.2 60 p1.toNatClampNeg)) 49 ((g_upd u9.2 48 (u9.2 41 16).toNatClampNeg (u9.2 60 p1.toNatClampNeg)) 41 16).toNatClampNeg ((g_upd u9.2 48 (u9.2 41 16).toNatClampNeg (u9.2 60 p1.toNatClampNeg)) 60 (p1 + (1 : Int32)).toNatClampNeg)) 60 (p1 + (2 : Int32)).toNatClampNeg)) 51 ((g_upd (g_upd (g_upd u9.2 48 (u9.2 41 16).toNatClampNeg (u9.2 60 p1.toNatClampNeg)) 49 ((g_upd u9.2 48 (u9.2 41 16).toNatClampNeg (u9.2 60 p1.toNatClampNeg)) 41 16).toNatClampNeg ((g_upd u9.2 48 (u9.2 41 16).toNatClampNeg (u9.2 60 p1.toNatClampNeg)) 60 (p1 + (1 : Int32)).toNatClampNeg)) 50 ((g_upd (g_upd u9.2 48 (u9.2 41 16).toNatClampNeg (u9.2 60 p1.toNatClampNeg)) 49 ((g_upd u9.2 48 (u9.2 41 16).toNatClampNeg (u9.2 60 p1.toNatClampNeg)) 41 16).toNatClampNeg ((g_upd u9.2 48 (u9.2 41 16).toNatClampNeg (u9.2 60 p1.toNatClampNeg)) 60 (p1 + (1 : Int32)).toNatClampNeg)) 41 16).toNatClampNeg ((g_upd (g_upd u9.2 48 (u9.2 41 16).toNatClampNeg (u9.2 60 p1.toNatClampNeg)) 49 ((g_upd u9.2 48 (u9.2 41 16).toNatClampNeg (u9.2 60 p1.toNatClampNeg)) 41 16).toNatClampNeg ((g_upd u9.2 48 (u9.2 41 16).toNatClampNeg (u9.2 60 p1.toNatClampNeg)) 60 (p1 + (1 : Int32)).toNatClampNeg)) 60 (p1 + (2 : Int32)).toNatClampNeg)) 41 16).toNatClampNeg ((g_upd (g_upd (g_upd u9.2 48 (u9.2 41 16).toNatClampNeg (u9.2 60 p1.toNatClampNeg)) 49 ((g_upd u9.2 48 (u9.2 41 16).toNatClampNeg (u9.2 60 p1.toNatClampNeg)) 41 16).toNatClampNeg ((g_upd u9.2 48 (u9.2 41 16).toNatClampNeg (u9.2 60 p1.toNatClampNeg)) 60 (p1 + (1 : Int32)).toNatClampNeg)) 50 ((g_upd (g_upd u9.2 48 (u9.2 41 16).toNatClampNeg (u9.2 60 p1.toNatClampNeg)) 49 ((g_upd u9.2 48 (u9.2 41 16).toNatClampNeg (u9.2 60 p1.toNatClampNeg)) 41 16).toNatClampNeg ((g_upd u9.2 48 (u9.2 41 16).toNatClampNeg (u9.2 60 p1.toNatClampNeg)) 60 (p1 + (1 : Int32)).toNatClampNeg)) 41 16).toNatClampNeg ((g_upd (g_upd u9.2 48 (u9.2 41 16).toNatClampNeg (u9.2 60 p1.toNatClampNeg)) 49 ((g_upd u9.2 48 (u9.2 41 16).toNatClampNeg (u9.2 60 p1.toNatClampNeg)) 41 16).toNatClampNeg ((g_upd u9.2 48 (u9.2 41 16).toNatClampNeg (u9.2 60 p1.toNatClampNeg)) 60 (p1 + (1 : Int32)).toNatClampNeg)) 60 (p1 + (2 : Int32)).toNatClampNeg)) 60 (p1 + (3 : Int32)).toNatClampNeg)) 41 16).toNatClampNeg ((g_upd (g_upd (g_upd (g_upd u9.2 48 (u9.2 41 16).toNatClampNeg (u9.2 60 p1.toNatClampNeg)) 49 ((g_upd u9.2 48 (u9.2 41 16).toNatClampNeg (u9.2 60 p1.toNatClampNeg)) 41 16).toNatClampNeg ((g_upd u9.2 48 (u9.2 41 16).toNatClampNeg (u9.2 60 p1.toNatClampNeg)) 60 (p1 + (1 : Int32)).toNatClampNeg)) 50 ((g_upd (g_upd u9.2 48 (u9.2 41 16).toNatClampNeg (u9.2 60 p1.toNatClampNeg)) 49 ((g_upd u9.2 48 (u9.2 41 16).toNatClampNeg (u9.2 60 p1.toNatClampNeg)) 41 16).toNatClampNeg ((g_upd u9.2 48 (u9.2 41 16).toNatClampNeg (u9.2 60 p1.toNatClampNeg)) 60 (p1 + (1 : Int32)).toNatClampNeg)) 41 16).toNatClampNeg ((g_upd (g_upd u9.2 48 (u9.2 41 16).toNatClampNeg (u9.2 60 p1.toNatClampNeg)) 49 ((g_upd u9.2 48 (u9.2 41 16).toNatClampNeg (u9.2 60 p1.toNatClampNeg)) 41 16).toNatClampNeg ((g_upd u9.2 48 (u9.2 41 16).toNatClampNeg (u9.2 60 p1.toNatClampNeg)) 60 (p1 + (1 : Int32)).toNatClampNeg)) 60 (p1 + (2 : Int32)).toNatClampNeg)) 51 ((g_upd (g_upd (g_upd u9.2 48 (u9.2 41 16).toNatClampNeg (u9.2 60 p1.toNatClampNeg)) 49 ((g_upd u9.2 48 (u9.2 41 16).toNatClampNeg (u9.2 60 p1.toNatClampNeg)) 41 16).toNatClampNeg ((g_upd u9.2 48 (u9.2 41 16).toNatClampNeg (u9.2 60 p1.toNatClampNeg)) 60 (p1 + (1 : Int32)).toNatClampNeg)) 50 ((g_upd (g_upd u9.2 48 (u9.2 41 16).toNatClampNeg (u9.2 60 p1.toNatClampNeg)) 49 ((g_upd u9.2 48 (u9.2 41 16).toNatClampNeg (u9.2 60 p1.toNatClampNeg)) 41 16).toNatClampNeg ((g_upd u9.2 48 (u9.2 41 16).toNatClampNeg (u9.2 60 p1.toNatClampNeg)) 60 (p1 + (1 : Int32)).toNatClampNeg)) 41 16).toNatClampNeg ((g_upd (g_upd u9.2 48 (u9.2 41 16).toNatClampNeg (u9.2 60 p1.toNatClampNeg)) 49 ((g_upd u9.2 48 (u9.2 41 16).toNatClampNeg (u9.2 60 p1.toNatClampNeg)) 41 16).toNatClampNeg ((g_upd u9.2 48 (u9.2 41 16).toNatClampNeg (u9.2 60 p1.toNatClampNeg)) 60 (p1 + (1 : Int32)).toNatClampNeg)) 60 (p1 + (2 : Int32)).toNatClampNeg)) 41 16).toNatClampNeg ((g_upd (g_upd (g_upd u9.2 48 (u9.2 41 16).toNatClampNeg (u9.2 60 p1.toNatClampNeg)) 49 ((g_upd u9.2 48 (u9.2 41 16).toNatClampNeg (u9.2 60 p1.toNatClampNeg)) 41 16).toNatClampNeg ((g_upd u9.2 48 (u9.2 41 16).toNatClampNeg (u9.2 60 p1.toNatClampNeg)) 60 (p1 + (1 : Int32)).toNatClampNeg)) 50 ((g_upd (g_upd u9.2 48 (u9.2 41 16).toNatClampNeg (u9.2 60 p1.toNatClampNeg)) 49 ((g_upd u9.2 48 (u9.2 41 16).toNatClampNeg (u9.2 60 p1.toNatClampNeg)) 41 16).toNatClampNeg ((g_upd u9.2 48 (u9.2 41 16).toNatClampNeg (u9.2 60 p1.toNatClampNeg)) 60 (p1 + (1 : Int32)).toNatClampNeg)) 41 16).toNatClampNeg ((g_upd (g_upd u9.2 48 (u9.2 41 16).toNatClampNeg (u9.2 60 p1.toNatClampNeg)) 49 ((g_upd u9.2 48 (u9.2 41 16).toNatClampNeg (u9.2 60 p1.toNatClampNeg)) 41 16).toNatClampNeg ((g_upd u9.2 48 (u9.2 41 16).toNatClampNeg (u9.2 60 p1.toNatClampNeg)) 60 (p1 + (1 : Int32)).toNatClampNeg)) 60 (p1 + (2 : Int32)).toNatClampNeg)) 60 (p1 + (3 : Int32)).toNatClampNeg)) 60 (p1 + (4 : Int32)).toNatClampNeg)) 60 (p1 + (5 : Int32)).toNatClampNeg)) 60 (p1 + (6 : Int32)).toNatClampNeg)) 41 16) + (1 : Int32))))) else none)) else none)) else none)) else none)) else none)) else none)) else none)) else none)) else none)) else none)) else none)) else none)) else none)) else none))))) else none)))) else none)))) else none))) else none))
set_option maxHeartbeats 4000000 in
set_option maxRecDepth 100000 in
theorem z_X9_comesBoat {X : g_X} (hok : g_ok X)  {p1 : Int32} {M : g_M} {r : Int32 × g_M} (h : x_X9_comesBoat p1 M = some r) : g_Con X yX9_comesBoat cX9_comesBoat 2 (some .boolean) 1 22 [.inr 41, .inl p1] M r := by
  rw [x_X9_comesBoat] at h
  refine g_con hok (plainFor_of_name (by decide +kernel)) (Nat.le_of_ble_eq_true rfl) (go_to (lv2 := [some (.inr 41), some (.inl p1)]) (own := RX9) ?_ (And.intro rfl (And.intro rfl trivial)))
  refine go_aload_n (pc := 0) dX9_comesBoat_0 rfl ?_
  refine gf_9_64 (pc := 1) dX9_comesBoat_1 ?_
  refine go_iload_n (pc := 4) dX9_comesBoat_4 rfl ?_
  obtain ⟨i1, h⟩ := g_gd h
  refine go_iald (pc := 5) (n := 336) rfl (g_inb_ok i1) dX9_comesBoat_5 ?_
  refine go_iconst (pc := 6) (v := (5 : Int32)) dX9_comesBoat_6 (by decide) ?_
  refine go_icmp_gt (pc := 7) (tgt := 65) dX9_comesBoat_7 (by decide) (fun e29 => ?_) (fun e29 => ?_)
  · replace h := (if_pos e29).symm.trans h
    refine go_iconst (pc := 65) (v := (0 : Int32)) dX9_comesBoat_65 (by decide) ?_
    exact go_iret (pc := 66) (Option.some.inj h).symm rfl dX9_comesBoat_66 rfl
  · replace h := (if_neg e29).symm.trans h
    refine go_aload_n (pc := 10) dX9_comesBoat_10 rfl ?_
    refine go_aload_n (pc := 11) dX9_comesBoat_11 rfl ?_
    refine gf_9_64 (pc := 12) dX9_comesBoat_12 ?_
    refine go_iload_n (pc := 15) dX9_comesBoat_15 rfl ?_
    refine go_iconst (pc := 16) (v := (2 : Int32)) dX9_comesBoat_16 (by decide) ?_
    refine go_iadd (pc := 17) dX9_comesBoat_17 ?_
    obtain ⟨i2, h⟩ := g_gd h
    refine go_iald (pc := 18) (n := 336) rfl (g_inb_ok i2) dX9_comesBoat_18 ?_
    obtain ⟨u3, c4, h⟩ := g_bd h
    refine go_callV (pc := 19) (as := [.inl (M 60 (p1 + (2 : Int32)).toNatClampNeg)]) (st := []) (r := u3.1) (M1 := u3.2) (z_X9_isRing hok  c4) cw_X9_isRing ml_X9_156 (show g_lay[41]? = some _ from rfl) rfl rfl (by decide) (Nat.le_of_ble_eq_true rfl) rfl dX9_comesBoat_19 ?_
    refine go_if_eq (pc := 22) (tgt := 65) dX9_comesBoat_22 (by decide) (fun e28 => ?_) (fun e28 => ?_)
    · replace h := (if_pos e28).symm.trans h
      refine go_iconst (pc := 65) (v := (0 : Int32)) dX9_comesBoat_65 (by decide) ?_
      exact go_iret (pc := 66) (Option.some.inj h).symm rfl dX9_comesBoat_66 rfl
    · replace h := (if_neg e28).symm.trans h
      refine go_aload_n (pc := 25) dX9_comesBoat_25 rfl ?_
      refine go_aload_n (pc := 26) dX9_comesBoat_26 rfl ?_
      refine gf_9_64 (pc := 27) dX9_comesBoat_27 ?_
      refine go_iload_n (pc := 30) dX9_comesBoat_30 rfl ?_
      refine go_iconst (pc := 31) (v := (3 : Int32)) dX9_comesBoat_31 (by decide) ?_
      refine go_iadd (pc := 32) dX9_comesBoat_32 ?_
      obtain ⟨i5, h⟩ := g_gd h
      refine go_iald (pc := 33) (n := 336) rfl (g_inb_ok i5) dX9_comesBoat_33 ?_
      obtain ⟨u6, c7, h⟩ := g_bd h
      refine go_callV (pc := 34) (as := [.inl (u3.2 60 (p1 + (3 : Int32)).toNatClampNeg)]) (st := []) (r := u6.1) (M1 := u6.2) (z_X9_isRing hok  c7) cw_X9_isRing ml_X9_156 (show g_lay[41]? = some _ from rfl) rfl rfl (by decide) (Nat.le_of_ble_eq_true rfl) rfl dX9_comesBoat_34 ?_
      refine go_if_eq (pc := 37) (tgt := 65) dX9_comesBoat_37 (by decide) (fun e27 => ?_) (fun e27 => ?_)
      · replace h := (if_pos e27).symm.trans h
        refine go_iconst (pc := 65) (v := (0 : Int32)) dX9_comesBoat_65 (by decide) ?_
        exact go_iret (pc := 66) (Option.some.inj h).symm rfl dX9_comesBoat_66 rfl
      · replace h := (if_neg e27).symm.trans h
        refine go_aload_n (pc := 40) dX9_comesBoat_40 rfl ?_
        refine gf_9_64 (pc := 41) dX9_comesBoat_41 ?_
        refine go_iload_n (pc := 44) dX9_comesBoat_44 rfl ?_
        refine go_iconst (pc := 45) (v := (5 : Int32)) dX9_comesBoat_45 (by decide) ?_
        refine go_iadd (pc := 46) dX9_comesBoat_46 ?_
        obtain ⟨i8, h⟩ := g_gd h
        refine go_iald (pc := 47) (n := 336) rfl (g_inb_ok i8) dX9_comesBoat_47 ?_
        refine go_iconst (pc := 48) (v := (1 : Int32)) dX9_comesBoat_48 (by decide) ?_
        refine go_bipush (pc := 49) (v := (20 : Int32)) dX9_comesBoat_49 (by decide) ?_
        obtain ⟨u9, c10, h⟩ := g_bd h
        refine go_callS (pc := 51) (as := [.inl (u6.2 60 (p1 + (5 : Int32)).toNatClampNeg), .inl (1 : Int32), .inl (20 : Int32)]) (st := []) (r := u9.1) (M1 := u9.2) (z_X9_isIn hok  c10) cw_X9_isIn ml_X9_135 (by decide) (Nat.le_of_ble_eq_true rfl) rfl dX9_comesBoat_51 ?_
        refine go_if_eq (pc := 54) (tgt := 65) dX9_comesBoat_54 (by decide) (fun e26 => ?_) (fun e26 => ?_)
        · replace h := (if_pos e26).symm.trans h
          refine go_iconst (pc := 65) (v := (0 : Int32)) dX9_comesBoat_65 (by decide) ?_
          exact go_iret (pc := 66) (Option.some.inj h).symm rfl dX9_comesBoat_66 rfl
        · replace h := (if_neg e26).symm.trans h
          refine go_aload_n (pc := 57) dX9_comesBoat_57 rfl ?_
          refine gf_9_114 (pc := 58) dX9_comesBoat_58 ?_
          refine go_iconst (pc := 61) (v := (5 : Int32)) dX9_comesBoat_61 (by decide) ?_
          refine go_icmp_ne (pc := 62) (tgt := 67) dX9_comesBoat_62 (by decide) (fun e25 => ?_) (fun e25 => ?_)
          · replace h := (if_neg e25).symm.trans h
            refine go_aload_n (pc := 67) dX9_comesBoat_67 rfl ?_
            refine gf_9_28 (pc := 68) dX9_comesBoat_68 ?_
            refine go_aload_n (pc := 71) dX9_comesBoat_71 rfl ?_
            refine gf_9_114 (pc := 72) dX9_comesBoat_72 ?_
            refine go_aload_n (pc := 75) dX9_comesBoat_75 rfl ?_
            refine gf_9_64 (pc := 76) dX9_comesBoat_76 ?_
            refine go_iload_n (pc := 79) dX9_comesBoat_79 rfl ?_
            obtain ⟨i11, h⟩ := g_gd h
            refine go_iald (pc := 80) (n := 336) rfl (g_inb_ok i11) dX9_comesBoat_80 ?_
            obtain ⟨i12, h⟩ := g_gd h
            refine go_iast (pc := 81) (n := 5) rfl (g_inb_ok i12) dX9_comesBoat_81 ?_
            refine go_aload_n (pc := 82) dX9_comesBoat_82 rfl ?_
            refine gf_9_31 (pc := 83) dX9_comesBoat_83 ?_
            refine go_aload_n (pc := 86) dX9_comesBoat_86 rfl ?_
            refine gf_9_114 (pc := 87) dX9_comesBoat_87 ?_
            refine go_aload_n (pc := 90) dX9_comesBoat_90 rfl ?_
            refine gf_9_64 (pc := 91) dX9_comesBoat_91 ?_
            refine go_iload_n (pc := 94) dX9_comesBoat_94 rfl ?_
            refine go_iconst (pc := 95) (v := (1 : Int32)) dX9_comesBoat_95 (by decide) ?_
            refine go_iadd (pc := 96) dX9_comesBoat_96 ?_
            obtain ⟨i13, h⟩ := g_gd h
            refine go_iald (pc := 97) (n := 336) rfl (g_inb_ok i13) dX9_comesBoat_97 ?_
            obtain ⟨i14, h⟩ := g_gd h
            refine go_iast (pc := 98) (n := 5) rfl (g_inb_ok i14) dX9_comesBoat_98 ?_
            refine go_aload_n (pc := 99) dX9_comesBoat_99 rfl ?_
            refine gf_9_34 (pc := 100) dX9_comesBoat_100 ?_
            refine go_aload_n (pc := 103) dX9_comesBoat_103 rfl ?_
            refine gf_9_114 (pc := 104) dX9_comesBoat_104 ?_
            refine go_aload_n (pc := 107) dX9_comesBoat_107 rfl ?_
            refine gf_9_64 (pc := 108) dX9_comesBoat_108 ?_
            refine go_iload_n (pc := 111) dX9_comesBoat_111 rfl ?_
            refine go_iconst (pc := 112) (v := (2 : Int32)) dX9_comesBoat_112 (by decide) ?_
            refine go_iadd (pc := 113) dX9_comesBoat_113 ?_
            obtain ⟨i15, h⟩ := g_gd h
            refine go_iald (pc := 114) (n := 336) rfl (g_inb_ok i15) dX9_comesBoat_114 ?_
            obtain ⟨i16, h⟩ := g_gd h
            refine go_iast (pc := 115) (n := 5) rfl (g_inb_ok i16) dX9_comesBoat_115 ?_
            refine go_aload_n (pc := 116) dX9_comesBoat_116 rfl ?_
            refine gf_9_37 (pc := 117) dX9_comesBoat_117 ?_
            refine go_aload_n (pc := 120) dX9_comesBoat_120 rfl ?_
            refine gf_9_114 (pc := 121) dX9_comesBoat_121 ?_
            refine go_aload_n (pc := 124) dX9_comesBoat_124 rfl ?_
            refine gf_9_64 (pc := 125) dX9_comesBoat_125 ?_
            refine go_iload_n (pc := 128) dX9_comesBoat_128 rfl ?_
            refine go_iconst (pc := 129) (v := (3 : Int32)) dX9_comesBoat_129 (by decide) ?_
            refine go_iadd (pc := 130) dX9_comesBoat_130 ?_
            obtain ⟨i17, h⟩ := g_gd h
            refine go_iald (pc := 131) (n := 336) rfl (g_inb_ok i17) dX9_comesBoat_131 ?_
            obtain ⟨i18, h⟩ := g_gd h
            refine go_iast (pc := 132) (n := 5) rfl (g_inb_ok i18) dX9_comesBoat_132 ?_
            refine go_aload_n (pc := 133) dX9_comesBoat_133 rfl ?_
            refine gf_9_40 (pc := 134) dX9_comesBoat_134 ?_
            refine go_aload_n (pc := 137) dX9_comesBoat_137 rfl ?_
            refine gf_9_114 (pc := 138) dX9_comesBoat_138 ?_
            refine go_aload_n (pc := 141) dX9_comesBoat_141 rfl ?_
            refine gf_9_64 (pc := 142) dX9_comesBoat_142 ?_
            refine go_iload_n (pc := 145) dX9_comesBoat_145 rfl ?_
            refine go_iconst (pc := 146) (v := (4 : Int32)) dX9_comesBoat_146 (by decide) ?_
            refine go_iadd (pc := 147) dX9_comesBoat_147 ?_
            obtain ⟨i19, h⟩ := g_gd h
            refine go_iald (pc := 148) (n := 336) rfl (g_inb_ok i19) dX9_comesBoat_148 ?_
            obtain ⟨i20, h⟩ := g_gd h
            refine go_iast (pc := 149) (n := 5) rfl (g_inb_ok i20) dX9_comesBoat_149 ?_
            refine go_aload_n (pc := 150) dX9_comesBoat_150 rfl ?_
            refine gf_9_43 (pc := 151) dX9_comesBoat_151 ?_
            refine go_aload_n (pc := 154) dX9_comesBoat_154 rfl ?_
            refine gf_9_114 (pc := 155) dX9_comesBoat_155 ?_
            refine go_aload_n (pc := 158) dX9_comesBoat_158 rfl ?_
            refine gf_9_64 (pc := 159) dX9_comesBoat_159 ?_
            refine go_iload_n (pc := 162) dX9_comesBoat_162 rfl ?_
            refine go_iconst (pc := 163) (v := (5 : Int32)) dX9_comesBoat_163 (by decide) ?_
            refine go_iadd (pc := 164) dX9_comesBoat_164 ?_
            obtain ⟨i21, h⟩ := g_gd h
            refine go_iald (pc := 165) (n := 336) rfl (g_inb_ok i21) dX9_comesBoat_165 ?_
            obtain ⟨i22, h⟩ := g_gd h
            refine go_iast (pc := 166) (n := 5) rfl (g_inb_ok i22) dX9_comesBoat_166 ?_
            refine go_aload_n (pc := 167) dX9_comesBoat_167 rfl ?_
            refine gf_9_46 (pc := 168) dX9_comesBoat_168 ?_
            refine go_aload_n (pc := 171) dX9_comesBoat_171 rfl ?_
            refine gf_9_114 (pc := 172) dX9_comesBoat_172 ?_
            refine go_aload_n (pc := 175) dX9_comesBoat_175 rfl ?_
            refine gf_9_64 (pc := 176) dX9_comesBoat_176 ?_
            refine go_iload_n (pc := 179) dX9_comesBoat_179 rfl ?_
            refine go_bipush (pc := 180) (v := (6 : Int32)) dX9_comesBoat_180 (by decide) ?_
            refine go_iadd (pc := 182) dX9_comesBoat_182 ?_
            obtain ⟨i23, h⟩ := g_gd h
            refine go_iald (pc := 183) (n := 336) rfl (g_inb_ok i23) dX9_comesBoat_183 ?_
            obtain ⟨i24, h⟩ := g_gd h
            refine go_iast (pc := 184) (n := 5) rfl (g_inb_ok i24) dX9_comesBoat_184 ?_
            refine go_aload_n (pc := 185) dX9_comesBoat_185 rfl ?_
            refine go_dup (pc := 186) dX9_comesBoat_186 ?_
            refine gf_9_114 (pc := 187) dX9_comesBoat_187 ?_
            refine go_iconst (pc := 190) (v := (1 : Int32)) dX9_comesBoat_190 (by decide) ?_
            refine go_iadd (pc := 191) dX9_comesBoat_191 ?_
            refine gp_9_114 (pc := 192) dX9_comesBoat_192 ?_
            refine go_iconst (pc := 195) (v := (1 : Int32)) dX9_comesBoat_195 (by decide) ?_
            exact go_iret (pc := 196) (Option.some.inj h).symm rfl dX9_comesBoat_196 rfl
          · replace h := (if_pos e25).symm.trans h
            refine go_iconst (pc := 65) (v := (0 : Int32)) dX9_comesBoat_65 (by decide) ?_
            exact go_iret (pc := 66) (Option.some.inj h).symm rfl dX9_comesBoat_66 rfl
def x_X9_comes  (p1 : Int32) (M : g_M) : Option (Int32 × g_M) := ((if g_inb ((7 : Int32) * p1) 336 = true then ((if g_inb (((7 : Int32) * p1) + (1 : Int32)) 336 = true then ((if g_inb p1 48 = true then (if (M 58 p1.toNatClampNeg) = (98 : Int32) then (((x_X9_comesBoat ((7 : Int32) * p1) M).bind fun u4 => (if g_isb u4.1 = true then (some (u4.1, u4.2)) else none))) else if (M 58 p1.toNatClampNeg) = (108 : Int32) then (((x_X9_isBoat (M 60 ((7 : Int32) * p1).toNatClampNeg) M).bind fun u7 => if u7.1 = 0 then (some ((0 : Int32), u7.2)) else ((if g_inb (M 60 ((7 : Int32) * p1).toNatClampNeg) 5 = true then (some ((1 : Int32), (g_upd u7.2 52 (M 60 ((7 : Int32) * p1).toNatClampNeg).toNatClampNeg (M 60 (((7 : Int32) * p1) + (1 : Int32)).toNatClampNeg)))) else none)))) else if (M 58 p1.toNatClampNeg) = (114 : Int32) then (((x_X9_comesRing ((7 : Int32) * p1) M).bind fun u11 => (if g_isb u11.1 = true then (some (u11.1, u11.2)) else none))) else if (M 58 p1.toNatClampNeg) = (116 : Int32) then (((x_X9_isHour (M 60 ((7 : Int32) * p1).toNatClampNeg) M).bind fun u14 => if u14.1 = 0 then (some ((0 : Int32), u14.2)) else (if (M 60 (((7 : Int32) * p1) + (1 : Int32)).toNatClampNeg) ≤ (40 : Int32) then ((if g_inb (M 60 ((7 : Int32) * p1).toNatClampNeg) 12 = true then (some ((1 : Int32), (g_upd u14.2 43 (M 60 ((7 : Int32) * p1).toNatClampNeg).toNatClampNeg (M 60 (((7 : Int32) * p1) + (1 : Int32)).toNatClampNeg)))) else none)) else (some ((0 : Int32), u14.2))))) else if (M 58 p1.toNatClampNeg) = (119 : Int32) then (((x_X9_isHour (M 60 ((7 : Int32) * p1).toNatClampNeg) M).bind fun u19 => if u19.1 = 0 then (some ((0 : Int32), u19.2)) else ((if g_inb (M 60 ((7 : Int32) * p1).toNatClampNeg) 12 = true then (some ((1 : Int32), (g_upd u19.2 44 (M 60 ((7 : Int32) * p1).toNatClampNeg).toNatClampNeg (M 60 (((7 : Int32) * p1) + (1 : Int32)).toNatClampNeg)))) else none)))) else (if (60 : Int32) < (M 60 ((7 : Int32) * p1).toNatClampNeg) then (some ((0 : Int32), (g_upd M 47 (0 : Int32).toNatClampNeg (M 60 ((7 : Int32) * p1).toNatClampNeg)))) else (some ((1 : Int32), (g_upd M 47 (0 : Int32).toNatClampNeg (M 60 ((7 : Int32) * p1).toNatClampNeg)))))) else none)) else none)) else none))
set_option maxHeartbeats 4000000 in
set_option maxRecDepth 100000 in
theorem z_X9_comes {X : g_X} (hok : g_ok X)  {p1 : Int32} {M : g_M} {r : Int32 × g_M} (h : x_X9_comes p1 M = some r) : g_Con X yX9_comes cX9_comes 5 (some .boolean) 2 43 [.inr 41, .inl p1] M r := by
  rw [x_X9_comes] at h
  refine g_con hok (plainFor_of_name (by decide +kernel)) (Nat.le_of_ble_eq_true rfl) (go_to (lv2 := [some (.inr 41), some (.inl p1), none, none, none]) (own := RX9) ?_ (And.intro rfl (And.intro rfl trivial)))
  refine go_bipush (pc := 0) (v := (7 : Int32)) dX9_comes_0 (by decide) ?_
  refine go_iload_n (pc := 2) dX9_comes_2 rfl ?_
  refine go_imul (pc := 3) dX9_comes_3 ?_
  refine go_istore_n (pc := 4) (lv' := [some (.inr 41), some (.inl p1), some (.inl ((7 : Int32) * p1)), none, none]) dX9_comes_4 (by decide) rfl ?_
  refine go_aload_n (pc := 5) dX9_comes_5 rfl ?_
  refine gf_9_64 (pc := 6) dX9_comes_6 ?_
  refine go_iload_n (pc := 9) dX9_comes_9 rfl ?_
  obtain ⟨i1, h⟩ := g_gd h
  refine go_iald (pc := 10) (n := 336) rfl (g_inb_ok i1) dX9_comes_10 ?_
  refine go_istore_n (pc := 11) (lv' := [some (.inr 41), some (.inl p1), some (.inl ((7 : Int32) * p1)), some (.inl (M 60 ((7 : Int32) * p1).toNatClampNeg)), none]) dX9_comes_11 (by decide) rfl ?_
  refine go_aload_n (pc := 12) dX9_comes_12 rfl ?_
  refine gf_9_64 (pc := 13) dX9_comes_13 ?_
  refine go_iload_n (pc := 16) dX9_comes_16 rfl ?_
  refine go_iconst (pc := 17) (v := (1 : Int32)) dX9_comes_17 (by decide) ?_
  refine go_iadd (pc := 18) dX9_comes_18 ?_
  obtain ⟨i2, h⟩ := g_gd h
  refine go_iald (pc := 19) (n := 336) rfl (g_inb_ok i2) dX9_comes_19 ?_
  refine go_istore (pc := 20) (lv' := [some (.inr 41), some (.inl p1), some (.inl ((7 : Int32) * p1)), some (.inl (M 60 ((7 : Int32) * p1).toNatClampNeg)), some (.inl (M 60 (((7 : Int32) * p1) + (1 : Int32)).toNatClampNeg))]) dX9_comes_20 (by decide) rfl ?_
  refine go_aload_n (pc := 22) dX9_comes_22 rfl ?_
  refine gf_9_58 (pc := 23) dX9_comes_23 ?_
  refine go_iload_n (pc := 26) dX9_comes_26 rfl ?_
  obtain ⟨i3, h⟩ := g_gd h
  refine go_iald (pc := 27) (n := 48) rfl (g_inb_ok i3) dX9_comes_27 ?_
  by_cases e24 : (M 58 p1.toNatClampNeg) = (98 : Int32)
  · replace h := (if_pos e24).symm.trans h
    refine go_look (pc := 28) (off := 103) (tgt := 131) dX9_comes_28 (by decide) (by rw [e24]; decide) (by decide) ?_
    refine go_aload_n (pc := 131) dX9_comes_131 rfl ?_
    refine go_iload_n (pc := 132) dX9_comes_132 rfl ?_
    obtain ⟨u4, c5, h⟩ := g_bd h
    refine go_callV (pc := 133) (as := [.inl ((7 : Int32) * p1)]) (st := []) (r := u4.1) (M1 := u4.2) (z_X9_comesBoat hok  c5) cw_X9_comesBoat ml_X9_165 (show g_lay[41]? = some _ from rfl) rfl rfl (by decide) (Nat.le_of_ble_eq_true rfl) rfl dX9_comes_133 ?_
    obtain ⟨i6, h⟩ := g_gd h
    exact go_iret (pc := 136) (Option.some.inj h).symm rfl dX9_comes_136 (g_nb i6)
  · replace h := (if_neg e24).symm.trans h
    by_cases e25 : (M 58 p1.toNatClampNeg) = (108 : Int32)
    · replace h := (if_pos e25).symm.trans h
      refine go_look (pc := 28) (off := 109) (tgt := 137) dX9_comes_28 (by decide) (by rw [e25]; decide) (by decide) ?_
      refine go_aload_n (pc := 137) dX9_comes_137 rfl ?_
      refine go_iload_n (pc := 138) dX9_comes_138 rfl ?_
      obtain ⟨u7, c8, h⟩ := g_bd h
      refine go_callV (pc := 139) (as := [.inl (M 60 ((7 : Int32) * p1).toNatClampNeg)]) (st := []) (r := u7.1) (M1 := u7.2) (z_X9_isBoat hok  c8) cw_X9_isBoat ml_X9_168 (show g_lay[41]? = some _ from rfl) rfl rfl (by decide) (Nat.le_of_ble_eq_true rfl) rfl dX9_comes_139 ?_
      refine go_if_ne (pc := 142) (tgt := 147) dX9_comes_142 (by decide) (fun e10 => ?_) (fun e10 => ?_)
      · replace h := (if_neg e10).symm.trans h
        refine go_aload_n (pc := 147) dX9_comes_147 rfl ?_
        refine gf_9_40 (pc := 148) dX9_comes_148 ?_
        refine go_iload_n (pc := 151) dX9_comes_151 rfl ?_
        refine go_iload (pc := 152) dX9_comes_152 rfl ?_
        obtain ⟨i9, h⟩ := g_gd h
        refine go_iast (pc := 154) (n := 5) rfl (g_inb_ok i9) dX9_comes_154 ?_
        refine go_iconst (pc := 155) (v := (1 : Int32)) dX9_comes_155 (by decide) ?_
        exact go_iret (pc := 156) (Option.some.inj h).symm rfl dX9_comes_156 rfl
      · replace h := (if_pos e10).symm.trans h
        refine go_iconst (pc := 145) (v := (0 : Int32)) dX9_comes_145 (by decide) ?_
        exact go_iret (pc := 146) (Option.some.inj h).symm rfl dX9_comes_146 rfl
    · replace h := (if_neg e25).symm.trans h
      by_cases e26 : (M 58 p1.toNatClampNeg) = (114 : Int32)
      · replace h := (if_pos e26).symm.trans h
        refine go_look (pc := 28) (off := 97) (tgt := 125) dX9_comes_28 (by decide) (by rw [e26]; decide) (by decide) ?_
        refine go_aload_n (pc := 125) dX9_comes_125 rfl ?_
        refine go_iload_n (pc := 126) dX9_comes_126 rfl ?_
        obtain ⟨u11, c12, h⟩ := g_bd h
        refine go_callV (pc := 127) (as := [.inl ((7 : Int32) * p1)]) (st := []) (r := u11.1) (M1 := u11.2) (z_X9_comesRing hok  c12) cw_X9_comesRing ml_X9_162 (show g_lay[41]? = some _ from rfl) rfl rfl (by decide) (Nat.le_of_ble_eq_true rfl) rfl dX9_comes_127 ?_
        obtain ⟨i13, h⟩ := g_gd h
        exact go_iret (pc := 130) (Option.some.inj h).symm rfl dX9_comes_130 (g_nb i13)
      · replace h := (if_neg e26).symm.trans h
        by_cases e27 : (M 58 p1.toNatClampNeg) = (116 : Int32)
        · replace h := (if_pos e27).symm.trans h
          refine go_look (pc := 28) (off := 52) (tgt := 80) dX9_comes_28 (by decide) (by rw [e27]; decide) (by decide) ?_
          refine go_iload_n (pc := 80) dX9_comes_80 rfl ?_
          obtain ⟨u14, c15, h⟩ := g_bd h
          refine go_callS (pc := 81) (as := [.inl (M 60 ((7 : Int32) * p1).toNatClampNeg)]) (st := []) (r := u14.1) (M1 := u14.2) (z_X9_isHour hok  c15) cw_X9_isHour ml_X9_159 (by decide) (Nat.le_of_ble_eq_true rfl) rfl dX9_comes_81 ?_
          refine go_if_eq (pc := 84) (tgt := 94) dX9_comes_84 (by decide) (fun e18 => ?_) (fun e18 => ?_)
          · replace h := (if_pos e18).symm.trans h
            refine go_iconst (pc := 94) (v := (0 : Int32)) dX9_comes_94 (by decide) ?_
            exact go_iret (pc := 95) (Option.some.inj h).symm rfl dX9_comes_95 rfl
          · replace h := (if_neg e18).symm.trans h
            refine go_iload (pc := 87) dX9_comes_87 rfl ?_
            refine go_bipush (pc := 89) (v := (40 : Int32)) dX9_comes_89 (by decide) ?_
            refine go_icmp_le (pc := 91) (tgt := 96) dX9_comes_91 (by decide) (fun e17 => ?_) (fun e17 => ?_)
            · replace h := (if_pos e17).symm.trans h
              refine go_aload_n (pc := 96) dX9_comes_96 rfl ?_
              refine gf_9_13 (pc := 97) dX9_comes_97 ?_
              refine go_iload_n (pc := 100) dX9_comes_100 rfl ?_
              refine go_iload (pc := 101) dX9_comes_101 rfl ?_
              obtain ⟨i16, h⟩ := g_gd h
              refine go_iast (pc := 103) (n := 12) rfl (g_inb_ok i16) dX9_comes_103 ?_
              refine go_iconst (pc := 104) (v := (1 : Int32)) dX9_comes_104 (by decide) ?_
              exact go_iret (pc := 105) (Option.some.inj h).symm rfl dX9_comes_105 rfl
            · replace h := (if_neg e17).symm.trans h
              refine go_iconst (pc := 94) (v := (0 : Int32)) dX9_comes_94 (by decide) ?_
              exact go_iret (pc := 95) (Option.some.inj h).symm rfl dX9_comes_95 rfl
        · replace h := (if_neg e27).symm.trans h
          by_cases e28 : (M 58 p1.toNatClampNeg) = (119 : Int32)
          · replace h := (if_pos e28).symm.trans h
            refine go_look (pc := 28) (off := 78) (tgt := 106) dX9_comes_28 (by decide) (by rw [e28]; decide) (by decide) ?_
            refine go_iload_n (pc := 106) dX9_comes_106 rfl ?_
            obtain ⟨u19, c20, h⟩ := g_bd h
            refine go_callS (pc := 107) (as := [.inl (M 60 ((7 : Int32) * p1).toNatClampNeg)]) (st := []) (r := u19.1) (M1 := u19.2) (z_X9_isHour hok  c20) cw_X9_isHour ml_X9_159 (by decide) (Nat.le_of_ble_eq_true rfl) rfl dX9_comes_107 ?_
            refine go_if_ne (pc := 110) (tgt := 115) dX9_comes_110 (by decide) (fun e22 => ?_) (fun e22 => ?_)
            · replace h := (if_neg e22).symm.trans h
              refine go_aload_n (pc := 115) dX9_comes_115 rfl ?_
              refine gf_9_16 (pc := 116) dX9_comes_116 ?_
              refine go_iload_n (pc := 119) dX9_comes_119 rfl ?_
              refine go_iload (pc := 120) dX9_comes_120 rfl ?_
              obtain ⟨i21, h⟩ := g_gd h
              refine go_iast (pc := 122) (n := 12) rfl (g_inb_ok i21) dX9_comes_122 ?_
              refine go_iconst (pc := 123) (v := (1 : Int32)) dX9_comes_123 (by decide) ?_
              exact go_iret (pc := 124) (Option.some.inj h).symm rfl dX9_comes_124 rfl
            · replace h := (if_pos e22).symm.trans h
              refine go_iconst (pc := 113) (v := (0 : Int32)) dX9_comes_113 (by decide) ?_
              exact go_iret (pc := 114) (Option.some.inj h).symm rfl dX9_comes_114 rfl
          · replace h := (if_neg e28).symm.trans h
            refine go_look (pc := 28) (off := 129) (tgt := 157) dX9_comes_28 (by decide) (by rw [show (#[(98, 103), (108, 109), (114, 97), (116, 52), (119, 78)] : Array (Int × Int)).toList = [(98, 103), (108, 109), (114, 97), (116, 52), (119, 78)] from rfl, lv_osw (k := (98 : Int32)) e24 (by decide), lv_osw (k := (108 : Int32)) e25 (by decide), lv_osw (k := (114 : Int32)) e26 (by decide), lv_osw (k := (116 : Int32)) e27 (by decide), lv_osw (k := (119 : Int32)) e28 (by decide)]; rfl) (by decide) ?_
            refine go_aload_n (pc := 157) dX9_comes_157 rfl ?_
            refine gf_9_25 (pc := 158) dX9_comes_158 ?_
            refine go_iconst (pc := 161) (v := (0 : Int32)) dX9_comes_161 (by decide) ?_
            refine go_iload_n (pc := 162) dX9_comes_162 rfl ?_
            refine go_iast (pc := 163) (n := 2) rfl (g_inb_ok (by decide)) dX9_comes_163 ?_
            refine go_iload_n (pc := 164) dX9_comes_164 rfl ?_
            refine go_bipush (pc := 165) (v := (60 : Int32)) dX9_comes_165 (by decide) ?_
            refine go_icmp_gt (pc := 167) (tgt := 174) dX9_comes_167 (by decide) (fun e23 => ?_) (fun e23 => ?_)
            · replace h := (if_pos e23).symm.trans h
              refine go_iconst (pc := 174) (v := (0 : Int32)) dX9_comes_174 (by decide) ?_
              exact go_iret (pc := 175) (Option.some.inj h).symm rfl dX9_comes_175 rfl
            · replace h := (if_neg e23).symm.trans h
              refine go_iconst (pc := 170) (v := (1 : Int32)) dX9_comes_170 (by decide) ?_
              refine go_goto (pc := 171) (tgt := 175) dX9_comes_171 (by decide) ?_
              exact go_iret (pc := 175) (Option.some.inj h).symm rfl dX9_comes_175 rfl
def x_X9_passes_L2 (a1 n1 : Nat)  : Nat → Int32 → g_M → Option (Int32 × g_M)
  | 0, _, _ => none
  | n + 1, v2, M => (if (Int32.ofNat n1) ≤ v2 then (some (0, M)) else (if (M 41 29) = 0 then ((if g_inb (M 41 30) 180 = true then ((if g_inb v2 n1 = true then (x_X9_passes_L2 a1 n1  n (v2 + (1 : Int32)) (g_upd (g_upd M a1 v2.toNatClampNeg (M 61 (M 41 30).toNatClampNeg)) 41 30 (((g_upd M a1 v2.toNatClampNeg (M 61 (M 41 30).toNatClampNeg)) 41 30) + (1 : Int32)))) else none)) else none)) else ((if g_inb v2 n1 = true then ((if g_inb (M 41 30) 180 = true then (x_X9_passes_L2 a1 n1  n (v2 + (1 : Int32)) (g_upd (g_upd M 61 (M 41 30).toNatClampNeg (M a1 v2.toNatClampNeg)) 41 30 (((g_upd M 61 (M 41 30).toNatClampNeg (M a1 v2.toNatClampNeg)) 41 30) + (1 : Int32)))) else none)) else none))))
set_option maxHeartbeats 4000000 in
set_option maxRecDepth 100000 in
theorem z_X9_passes_L2 {X : g_X} (hok : g_ok X) {a1 n1 : Nat} (ha1 : g_lay[a1]? = some (.inl n1)) {r : Int32 × g_M}  : ∀ (n : Nat) (v2 : Int32) (M : g_M), x_X9_passes_L2 a1 n1  n v2 M = some r → g_Go X cX9_passes RX9 3 none 0 0 r 2 [some (.inr 41), some (.inr a1), some (.inl v2)] [] M := by
  intro n
  induction n with
  | zero =>
    intro v2 M h
    rw [x_X9_passes_L2] at h
    cases h
  | succ n ih =>
    intro v2 M h
    rw [x_X9_passes_L2] at h
    refine go_iload_n (pc := 2) dX9_passes_2 rfl ?_
    refine go_aload_n (pc := 3) dX9_passes_3 rfl ?_
    refine go_alen (pc := 4) (n := n1) (v := (Int32.ofNat n1)) ha1 rfl dX9_passes_4 ?_
    refine go_icmp_ge (pc := 5) (tgt := 58) dX9_passes_5 (by decide) (fun e6 => ?_) (fun e6 => ?_)
    · replace h := (if_pos e6).symm.trans h
      exact go_vret (pc := 58) (Option.some.inj h).symm rfl dX9_passes_58
    · replace h := (if_neg e6).symm.trans h
      refine go_aload_n (pc := 8) dX9_passes_8 rfl ?_
      refine gf_9_185 (pc := 9) dX9_passes_9 ?_
      refine go_if_eq (pc := 12) (tgt := 30) dX9_passes_12 (by decide) (fun e5 => ?_) (fun e5 => ?_)
      · replace h := (if_pos e5).symm.trans h
        refine go_aload_n (pc := 30) dX9_passes_30 rfl ?_
        refine go_iload_n (pc := 31) dX9_passes_31 rfl ?_
        refine go_aload_n (pc := 32) dX9_passes_32 rfl ?_
        refine gf_9_67 (pc := 33) dX9_passes_33 ?_
        refine go_aload_n (pc := 36) dX9_passes_36 rfl ?_
        refine gf_9_189 (pc := 37) dX9_passes_37 ?_
        obtain ⟨i1, h⟩ := g_gd h
        refine go_iald (pc := 40) (n := 180) rfl (g_inb_ok i1) dX9_passes_40 ?_
        obtain ⟨i2, h⟩ := g_gd h
        refine go_iast (pc := 41) (n := n1) ha1 (g_inb_ok i2) dX9_passes_41 ?_
        refine go_aload_n (pc := 42) dX9_passes_42 rfl ?_
        refine go_dup (pc := 43) dX9_passes_43 ?_
        refine gf_9_189 (pc := 44) dX9_passes_44 ?_
        refine go_iconst (pc := 47) (v := (1 : Int32)) dX9_passes_47 (by decide) ?_
        refine go_iadd (pc := 48) dX9_passes_48 ?_
        refine gp_9_189 (pc := 49) dX9_passes_49 ?_
        refine go_iinc (pc := 52) (v := (1 : Int32)) (lv' := [some (.inr 41), some (.inr a1), some (.inl (v2 + (1 : Int32)))]) dX9_passes_52 rfl (by decide) (by decide) rfl ?_
        refine go_goto (pc := 55) (tgt := 2) dX9_passes_55 (by decide) ?_
        exact go_to (ih _ _ h) (And.intro rfl (And.intro rfl (And.intro rfl trivial)))
      · replace h := (if_neg e5).symm.trans h
        refine go_aload_n (pc := 15) dX9_passes_15 rfl ?_
        refine gf_9_67 (pc := 16) dX9_passes_16 ?_
        refine go_aload_n (pc := 19) dX9_passes_19 rfl ?_
        refine gf_9_189 (pc := 20) dX9_passes_20 ?_
        refine go_aload_n (pc := 23) dX9_passes_23 rfl ?_
        refine go_iload_n (pc := 24) dX9_passes_24 rfl ?_
        obtain ⟨i3, h⟩ := g_gd h
        refine go_iald (pc := 25) (n := n1) ha1 (g_inb_ok i3) dX9_passes_25 ?_
        obtain ⟨i4, h⟩ := g_gd h
        refine go_iast (pc := 26) (n := 180) rfl (g_inb_ok i4) dX9_passes_26 ?_
        refine go_goto (pc := 27) (tgt := 42) dX9_passes_27 (by decide) ?_
        refine go_aload_n (pc := 42) dX9_passes_42 rfl ?_
        refine go_dup (pc := 43) dX9_passes_43 ?_
        refine gf_9_189 (pc := 44) dX9_passes_44 ?_
        refine go_iconst (pc := 47) (v := (1 : Int32)) dX9_passes_47 (by decide) ?_
        refine go_iadd (pc := 48) dX9_passes_48 ?_
        refine gp_9_189 (pc := 49) dX9_passes_49 ?_
        refine go_iinc (pc := 52) (v := (1 : Int32)) (lv' := [some (.inr 41), some (.inr a1), some (.inl (v2 + (1 : Int32)))]) dX9_passes_52 rfl (by decide) (by decide) rfl ?_
        refine go_goto (pc := 55) (tgt := 2) dX9_passes_55 (by decide) ?_
        exact go_to (ih _ _ h) (And.intro rfl (And.intro rfl (And.intro rfl trivial)))
def x_X9_passes (a1 n1 : Nat) (M : g_M) : Option (Int32 × g_M) := (x_X9_passes_L2 a1 n1  g_F (0 : Int32) M)
set_option maxHeartbeats 4000000 in
set_option maxRecDepth 100000 in
theorem z_X9_passes {X : g_X} (hok : g_ok X) {a1 n1 : Nat} (ha1 : g_lay[a1]? = some (.inl n1)) {M : g_M} {r : Int32 × g_M} (h : x_X9_passes a1 n1 M = some r) : g_Con X yX9_passes cX9_passes 3 none 0 0 [.inr 41, .inr a1] M r := by
  rw [x_X9_passes] at h
  refine g_con hok (plainFor_of_name (by decide +kernel)) (Nat.le_of_ble_eq_true rfl) (go_to (lv2 := [some (.inr 41), some (.inr a1), none]) (own := RX9) ?_ (And.intro rfl (And.intro rfl trivial)))
  refine go_iconst (pc := 0) (v := (0 : Int32)) dX9_passes_0 (by decide) ?_
  refine go_istore_n (pc := 1) (lv' := [some (.inr 41), some (.inr a1), some (.inl (0 : Int32))]) dX9_passes_1 (by decide) rfl ?_
  exact go_to (z_X9_passes_L2 hok ha1  g_F _ _ h) (And.intro rfl (And.intro rfl (And.intro rfl trivial)))
def x_X9_passOne_L20   (v1 : Int32) (s0 : Int32) (M : g_M) : Option (Int32 × g_M) := (if (M 41 29) = 0 then (some (s0, (g_upd M 41 30 ((M 41 30) + (1 : Int32))))) else ((if g_inb (M 41 30) 180 = true then (some (s0, (g_upd (g_upd M 61 (M 41 30).toNatClampNeg v1) 41 30 (((g_upd M 61 (M 41 30).toNatClampNeg v1) 41 30) + (1 : Int32))))) else none)))
set_option maxHeartbeats 4000000 in
set_option maxRecDepth 100000 in
theorem z_X9_passOne_L20 {X : g_X} (hok : g_ok X)  {r : Int32 × g_M}  {v1 : Int32} {s0 : Int32} {M : g_M} (h : x_X9_passOne_L20   v1 s0 M = some r) : g_Go X cX9_passOne RX9 3 (some .int) 0 0 r 20 [some (.inr 41), some (.inl v1), none] [.inl s0] M := by
  rw [x_X9_passOne_L20] at h
  refine go_istore_n (pc := 20) (lv' := [some (.inr 41), some (.inl v1), some (.inl s0)]) dX9_passOne_20 (by decide) rfl ?_
  refine go_aload_n (pc := 21) dX9_passOne_21 rfl ?_
  refine gf_9_185 (pc := 22) dX9_passOne_22 ?_
  refine go_if_eq (pc := 25) (tgt := 38) dX9_passOne_25 (by decide) (fun e2 => ?_) (fun e2 => ?_)
  · replace h := (if_pos e2).symm.trans h
    refine go_aload_n (pc := 38) dX9_passOne_38 rfl ?_
    refine go_dup (pc := 39) dX9_passOne_39 ?_
    refine gf_9_189 (pc := 40) dX9_passOne_40 ?_
    refine go_iconst (pc := 43) (v := (1 : Int32)) dX9_passOne_43 (by decide) ?_
    refine go_iadd (pc := 44) dX9_passOne_44 ?_
    refine gp_9_189 (pc := 45) dX9_passOne_45 ?_
    refine go_iload_n (pc := 48) dX9_passOne_48 rfl ?_
    exact go_iret (pc := 49) (Option.some.inj h).symm rfl dX9_passOne_49 rfl
  · replace h := (if_neg e2).symm.trans h
    refine go_aload_n (pc := 28) dX9_passOne_28 rfl ?_
    refine gf_9_67 (pc := 29) dX9_passOne_29 ?_
    refine go_aload_n (pc := 32) dX9_passOne_32 rfl ?_
    refine gf_9_189 (pc := 33) dX9_passOne_33 ?_
    refine go_iload_n (pc := 36) dX9_passOne_36 rfl ?_
    obtain ⟨i1, h⟩ := g_gd h
    refine go_iast (pc := 37) (n := 180) rfl (g_inb_ok i1) dX9_passOne_37 ?_
    refine go_aload_n (pc := 38) dX9_passOne_38 rfl ?_
    refine go_dup (pc := 39) dX9_passOne_39 ?_
    refine gf_9_189 (pc := 40) dX9_passOne_40 ?_
    refine go_iconst (pc := 43) (v := (1 : Int32)) dX9_passOne_43 (by decide) ?_
    refine go_iadd (pc := 44) dX9_passOne_44 ?_
    refine gp_9_189 (pc := 45) dX9_passOne_45 ?_
    refine go_iload_n (pc := 48) dX9_passOne_48 rfl ?_
    exact go_iret (pc := 49) (Option.some.inj h).symm rfl dX9_passOne_49 rfl
def x_X9_passOne  (p1 : Int32) (M : g_M) : Option (Int32 × g_M) := (if (M 41 29) = 0 then ((if g_inb (M 41 30) 180 = true then (x_X9_passOne_L20   p1 (M 61 (M 41 30).toNatClampNeg) M) else none)) else (x_X9_passOne_L20   p1 p1 M))
set_option maxHeartbeats 4000000 in
set_option maxRecDepth 100000 in
theorem z_X9_passOne {X : g_X} (hok : g_ok X)  {p1 : Int32} {M : g_M} {r : Int32 × g_M} (h : x_X9_passOne p1 M = some r) : g_Con X yX9_passOne cX9_passOne 3 (some .int) 0 0 [.inr 41, .inl p1] M r := by
  rw [x_X9_passOne] at h
  refine g_con hok (plainFor_of_name (by decide +kernel)) (Nat.le_of_ble_eq_true rfl) (go_to (lv2 := [some (.inr 41), some (.inl p1), none]) (own := RX9) ?_ (And.intro rfl (And.intro rfl trivial)))
  refine go_aload_n (pc := 0) dX9_passOne_0 rfl ?_
  refine gf_9_185 (pc := 1) dX9_passOne_1 ?_
  refine go_if_eq (pc := 4) (tgt := 11) dX9_passOne_4 (by decide) (fun e4 => ?_) (fun e4 => ?_)
  · replace h := (if_pos e4).symm.trans h
    refine go_aload_n (pc := 11) dX9_passOne_11 rfl ?_
    refine gf_9_67 (pc := 12) dX9_passOne_12 ?_
    refine go_aload_n (pc := 15) dX9_passOne_15 rfl ?_
    refine gf_9_189 (pc := 16) dX9_passOne_16 ?_
    obtain ⟨i3, h⟩ := g_gd h
    refine go_iald (pc := 19) (n := 180) rfl (g_inb_ok i3) dX9_passOne_19 ?_
    exact go_to (z_X9_passOne_L20 hok   h) (And.intro rfl (And.intro rfl trivial))
  · replace h := (if_neg e4).symm.trans h
    refine go_iload_n (pc := 7) dX9_passOne_7 rfl ?_
    refine go_goto (pc := 8) (tgt := 20) dX9_passOne_8 (by decide) ?_
    exact go_to (z_X9_passOne_L20 hok   h) (And.intro rfl (And.intro rfl trivial))
def x_X9_passesAll  (p1 p2 : Int32) (M : g_M) : Option (Int32 × g_M) := ((if g_isb p2 = true then (((x_X9_passes 43 12 (g_upd (g_upd M 41 30 ((90 : Int32) * p1)) 41 29 p2)).bind fun u2 => ((x_X9_passes 44 12 u2.2).bind fun u4 => ((x_X9_passes 45 6 u4.2).bind fun u6 => ((x_X9_passes 46 6 u6.2).bind fun u8 => ((x_X9_passes 47 2 u8.2).bind fun u10 => ((x_X9_passes 48 5 u10.2).bind fun u12 => ((x_X9_passes 49 5 u12.2).bind fun u14 => ((x_X9_passes 50 5 u14.2).bind fun u16 => ((x_X9_passes 51 5 u16.2).bind fun u18 => ((x_X9_passes 52 5 u18.2).bind fun u20 => ((x_X9_passes 53 5 u20.2).bind fun u22 => ((x_X9_passes 54 5 u22.2).bind fun u24 => ((x_X9_passes 55 3 u24.2).bind fun u26 => ((x_X9_passes 56 3 u26.2).bind fun u28 => ((x_X9_passOne (u28.2 41 18) u28.2).bind fun u30 => ((x_X9_passOne ((g_upd u30.2 41 18 u30.1) 41 19) (g_upd u30.2 41 18 u30.1)).bind fun u32 => ((x_X9_passOne ((g_upd u32.2 41 19 u32.1) 41 15) (g_upd u32.2 41 19 u32.1)).bind fun u34 => ((x_X9_passOne ((g_upd u34.2 41 15 u34.1) 41 16) (g_upd u34.2 41 15 u34.1)).bind fun u36 => ((x_X9_passOne ((g_upd u36.2 41 16 u36.1) 41 17) (g_upd u36.2 41 16 u36.1)).bind fun u38 => some (0, (g_upd u38.2 41 17 u38.1)))))))))))))))))))))) else none))
set_option maxHeartbeats 4000000 in
set_option maxRecDepth 100000 in
theorem z_X9_passesAll {X : g_X} (hok : g_ok X)  {p1 p2 : Int32} {M : g_M} {r : Int32 × g_M} (h : x_X9_passesAll p1 p2 M = some r) : g_Con X yX9_passesAll cX9_passesAll 3 none 1 22 [.inr 41, .inl p1, .inl p2] M r := by
  rw [x_X9_passesAll] at h
  refine g_con hok (plainFor_of_name (by decide +kernel)) (Nat.le_of_ble_eq_true rfl) (go_to (lv2 := [some (.inr 41), some (.inl p1), some (.inl p2)]) (own := RX9) ?_ (And.intro rfl (And.intro rfl (And.intro rfl trivial))))
  refine go_aload_n (pc := 0) dX9_passesAll_0 rfl ?_
  refine go_bipush (pc := 1) (v := (90 : Int32)) dX9_passesAll_1 (by decide) ?_
  refine go_iload_n (pc := 3) dX9_passesAll_3 rfl ?_
  refine go_imul (pc := 4) dX9_passesAll_4 ?_
  refine gp_9_189 (pc := 5) dX9_passesAll_5 ?_
  refine go_aload_n (pc := 8) dX9_passesAll_8 rfl ?_
  refine go_iload_n (pc := 9) dX9_passesAll_9 rfl ?_
  obtain ⟨i1, h⟩ := g_gd h
  refine gp_9_185 (pc := 10) i1 dX9_passesAll_10 ?_
  refine go_aload_n (pc := 13) dX9_passesAll_13 rfl ?_
  refine go_aload_n (pc := 14) dX9_passesAll_14 rfl ?_
  refine gf_9_13 (pc := 15) dX9_passesAll_15 ?_
  obtain ⟨u2, c3, h⟩ := g_bd h
  refine go_callV (pc := 18) (as := [.inr 43]) (st := []) (r := u2.1) (M1 := u2.2) (z_X9_passes hok rfl c3) cw_X9_passes ml_X9_192 (show g_lay[41]? = some _ from rfl) rfl rfl (by decide) (Nat.le_of_ble_eq_true rfl) rfl dX9_passesAll_18 ?_
  refine go_aload_n (pc := 21) dX9_passesAll_21 rfl ?_
  refine go_aload_n (pc := 22) dX9_passesAll_22 rfl ?_
  refine gf_9_16 (pc := 23) dX9_passesAll_23 ?_
  obtain ⟨u4, c5, h⟩ := g_bd h
  refine go_callV (pc := 26) (as := [.inr 44]) (st := []) (r := u4.1) (M1 := u4.2) (z_X9_passes hok rfl c5) cw_X9_passes ml_X9_192 (show g_lay[41]? = some _ from rfl) rfl rfl (by decide) (Nat.le_of_ble_eq_true rfl) rfl dX9_passesAll_26 ?_
  refine go_aload_n (pc := 29) dX9_passesAll_29 rfl ?_
  refine go_aload_n (pc := 30) dX9_passesAll_30 rfl ?_
  refine gf_9_19 (pc := 31) dX9_passesAll_31 ?_
  obtain ⟨u6, c7, h⟩ := g_bd h
  refine go_callV (pc := 34) (as := [.inr 45]) (st := []) (r := u6.1) (M1 := u6.2) (z_X9_passes hok rfl c7) cw_X9_passes ml_X9_192 (show g_lay[41]? = some _ from rfl) rfl rfl (by decide) (Nat.le_of_ble_eq_true rfl) rfl dX9_passesAll_34 ?_
  refine go_aload_n (pc := 37) dX9_passesAll_37 rfl ?_
  refine go_aload_n (pc := 38) dX9_passesAll_38 rfl ?_
  refine gf_9_22 (pc := 39) dX9_passesAll_39 ?_
  obtain ⟨u8, c9, h⟩ := g_bd h
  refine go_callV (pc := 42) (as := [.inr 46]) (st := []) (r := u8.1) (M1 := u8.2) (z_X9_passes hok rfl c9) cw_X9_passes ml_X9_192 (show g_lay[41]? = some _ from rfl) rfl rfl (by decide) (Nat.le_of_ble_eq_true rfl) rfl dX9_passesAll_42 ?_
  refine go_aload_n (pc := 45) dX9_passesAll_45 rfl ?_
  refine go_aload_n (pc := 46) dX9_passesAll_46 rfl ?_
  refine gf_9_25 (pc := 47) dX9_passesAll_47 ?_
  obtain ⟨u10, c11, h⟩ := g_bd h
  refine go_callV (pc := 50) (as := [.inr 47]) (st := []) (r := u10.1) (M1 := u10.2) (z_X9_passes hok rfl c11) cw_X9_passes ml_X9_192 (show g_lay[41]? = some _ from rfl) rfl rfl (by decide) (Nat.le_of_ble_eq_true rfl) rfl dX9_passesAll_50 ?_
  refine go_aload_n (pc := 53) dX9_passesAll_53 rfl ?_
  refine go_aload_n (pc := 54) dX9_passesAll_54 rfl ?_
  refine gf_9_28 (pc := 55) dX9_passesAll_55 ?_
  obtain ⟨u12, c13, h⟩ := g_bd h
  refine go_callV (pc := 58) (as := [.inr 48]) (st := []) (r := u12.1) (M1 := u12.2) (z_X9_passes hok rfl c13) cw_X9_passes ml_X9_192 (show g_lay[41]? = some _ from rfl) rfl rfl (by decide) (Nat.le_of_ble_eq_true rfl) rfl dX9_passesAll_58 ?_
  refine go_aload_n (pc := 61) dX9_passesAll_61 rfl ?_
  refine go_aload_n (pc := 62) dX9_passesAll_62 rfl ?_
  refine gf_9_31 (pc := 63) dX9_passesAll_63 ?_
  obtain ⟨u14, c15, h⟩ := g_bd h
  refine go_callV (pc := 66) (as := [.inr 49]) (st := []) (r := u14.1) (M1 := u14.2) (z_X9_passes hok rfl c15) cw_X9_passes ml_X9_192 (show g_lay[41]? = some _ from rfl) rfl rfl (by decide) (Nat.le_of_ble_eq_true rfl) rfl dX9_passesAll_66 ?_
  refine go_aload_n (pc := 69) dX9_passesAll_69 rfl ?_
  refine go_aload_n (pc := 70) dX9_passesAll_70 rfl ?_
  refine gf_9_34 (pc := 71) dX9_passesAll_71 ?_
  obtain ⟨u16, c17, h⟩ := g_bd h
  refine go_callV (pc := 74) (as := [.inr 50]) (st := []) (r := u16.1) (M1 := u16.2) (z_X9_passes hok rfl c17) cw_X9_passes ml_X9_192 (show g_lay[41]? = some _ from rfl) rfl rfl (by decide) (Nat.le_of_ble_eq_true rfl) rfl dX9_passesAll_74 ?_
  refine go_aload_n (pc := 77) dX9_passesAll_77 rfl ?_
  refine go_aload_n (pc := 78) dX9_passesAll_78 rfl ?_
  refine gf_9_37 (pc := 79) dX9_passesAll_79 ?_
  obtain ⟨u18, c19, h⟩ := g_bd h
  refine go_callV (pc := 82) (as := [.inr 51]) (st := []) (r := u18.1) (M1 := u18.2) (z_X9_passes hok rfl c19) cw_X9_passes ml_X9_192 (show g_lay[41]? = some _ from rfl) rfl rfl (by decide) (Nat.le_of_ble_eq_true rfl) rfl dX9_passesAll_82 ?_
  refine go_aload_n (pc := 85) dX9_passesAll_85 rfl ?_
  refine go_aload_n (pc := 86) dX9_passesAll_86 rfl ?_
  refine gf_9_40 (pc := 87) dX9_passesAll_87 ?_
  obtain ⟨u20, c21, h⟩ := g_bd h
  refine go_callV (pc := 90) (as := [.inr 52]) (st := []) (r := u20.1) (M1 := u20.2) (z_X9_passes hok rfl c21) cw_X9_passes ml_X9_192 (show g_lay[41]? = some _ from rfl) rfl rfl (by decide) (Nat.le_of_ble_eq_true rfl) rfl dX9_passesAll_90 ?_
  refine go_aload_n (pc := 93) dX9_passesAll_93 rfl ?_
  refine go_aload_n (pc := 94) dX9_passesAll_94 rfl ?_
  refine gf_9_43 (pc := 95) dX9_passesAll_95 ?_
  obtain ⟨u22, c23, h⟩ := g_bd h
  refine go_callV (pc := 98) (as := [.inr 53]) (st := []) (r := u22.1) (M1 := u22.2) (z_X9_passes hok rfl c23) cw_X9_passes ml_X9_192 (show g_lay[41]? = some _ from rfl) rfl rfl (by decide) (Nat.le_of_ble_eq_true rfl) rfl dX9_passesAll_98 ?_
  refine go_aload_n (pc := 101) dX9_passesAll_101 rfl ?_
  refine go_aload_n (pc := 102) dX9_passesAll_102 rfl ?_
  refine gf_9_46 (pc := 103) dX9_passesAll_103 ?_
  obtain ⟨u24, c25, h⟩ := g_bd h
  refine go_callV (pc := 106) (as := [.inr 54]) (st := []) (r := u24.1) (M1 := u24.2) (z_X9_passes hok rfl c25) cw_X9_passes ml_X9_192 (show g_lay[41]? = some _ from rfl) rfl rfl (by decide) (Nat.le_of_ble_eq_true rfl) rfl dX9_passesAll_106 ?_
  refine go_aload_n (pc := 109) dX9_passesAll_109 rfl ?_
  refine go_aload_n (pc := 110) dX9_passesAll_110 rfl ?_
  refine gf_9_49 (pc := 111) dX9_passesAll_111 ?_
  obtain ⟨u26, c27, h⟩ := g_bd h
  refine go_callV (pc := 114) (as := [.inr 55]) (st := []) (r := u26.1) (M1 := u26.2) (z_X9_passes hok rfl c27) cw_X9_passes ml_X9_192 (show g_lay[41]? = some _ from rfl) rfl rfl (by decide) (Nat.le_of_ble_eq_true rfl) rfl dX9_passesAll_114 ?_
  refine go_aload_n (pc := 117) dX9_passesAll_117 rfl ?_
  refine go_aload_n (pc := 118) dX9_passesAll_118 rfl ?_
  refine gf_9_52 (pc := 119) dX9_passesAll_119 ?_
  obtain ⟨u28, c29, h⟩ := g_bd h
  refine go_callV (pc := 122) (as := [.inr 56]) (st := []) (r := u28.1) (M1 := u28.2) (z_X9_passes hok rfl c29) cw_X9_passes ml_X9_192 (show g_lay[41]? = some _ from rfl) rfl rfl (by decide) (Nat.le_of_ble_eq_true rfl) rfl dX9_passesAll_122 ?_
  refine go_aload_n (pc := 125) dX9_passesAll_125 rfl ?_
  refine go_aload_n (pc := 126) dX9_passesAll_126 rfl ?_
  refine go_aload_n (pc := 127) dX9_passesAll_127 rfl ?_
  refine gf_9_196 (pc := 128) dX9_passesAll_128 ?_
  obtain ⟨u30, c31, h⟩ := g_bd h
  refine go_callV (pc := 131) (as := [.inl (u28.2 41 18)]) (st := [.inr 41]) (r := u30.1) (M1 := u30.2) (z_X9_passOne hok  c31) cw_X9_passOne ml_X9_199 (show g_lay[41]? = some _ from rfl) rfl rfl (by decide) (Nat.le_of_ble_eq_true rfl) rfl dX9_passesAll_131 ?_
  refine gp_9_196 (pc := 134) dX9_passesAll_134 ?_
  refine go_aload_n (pc := 137) dX9_passesAll_137 rfl ?_
  refine go_aload_n (pc := 138) dX9_passesAll_138 rfl ?_
  refine go_aload_n (pc := 139) dX9_passesAll_139 rfl ?_
  refine gf_9_202 (pc := 140) dX9_passesAll_140 ?_
  obtain ⟨u32, c33, h⟩ := g_bd h
  refine go_callV (pc := 143) (as := [.inl ((g_upd u30.2 41 18 u30.1) 41 19)]) (st := [.inr 41]) (r := u32.1) (M1 := u32.2) (z_X9_passOne hok  c33) cw_X9_passOne ml_X9_199 (show g_lay[41]? = some _ from rfl) rfl rfl (by decide) (Nat.le_of_ble_eq_true rfl) rfl dX9_passesAll_143 ?_
  refine gp_9_202 (pc := 146) dX9_passesAll_146 ?_
  refine go_aload_n (pc := 149) dX9_passesAll_149 rfl ?_
  refine go_aload_n (pc := 150) dX9_passesAll_150 rfl ?_
  refine go_aload_n (pc := 151) dX9_passesAll_151 rfl ?_
  refine gf_9_110 (pc := 152) dX9_passesAll_152 ?_
  obtain ⟨u34, c35, h⟩ := g_bd h
  refine go_callV (pc := 155) (as := [.inl ((g_upd u32.2 41 19 u32.1) 41 15)]) (st := [.inr 41]) (r := u34.1) (M1 := u34.2) (z_X9_passOne hok  c35) cw_X9_passOne ml_X9_199 (show g_lay[41]? = some _ from rfl) rfl rfl (by decide) (Nat.le_of_ble_eq_true rfl) rfl dX9_passesAll_155 ?_
  refine gp_9_110 (pc := 158) dX9_passesAll_158 ?_
  refine go_aload_n (pc := 161) dX9_passesAll_161 rfl ?_
  refine go_aload_n (pc := 162) dX9_passesAll_162 rfl ?_
  refine go_aload_n (pc := 163) dX9_passesAll_163 rfl ?_
  refine gf_9_114 (pc := 164) dX9_passesAll_164 ?_
  obtain ⟨u36, c37, h⟩ := g_bd h
  refine go_callV (pc := 167) (as := [.inl ((g_upd u34.2 41 15 u34.1) 41 16)]) (st := [.inr 41]) (r := u36.1) (M1 := u36.2) (z_X9_passOne hok  c37) cw_X9_passOne ml_X9_199 (show g_lay[41]? = some _ from rfl) rfl rfl (by decide) (Nat.le_of_ble_eq_true rfl) rfl dX9_passesAll_167 ?_
  refine gp_9_114 (pc := 170) dX9_passesAll_170 ?_
  refine go_aload_n (pc := 173) dX9_passesAll_173 rfl ?_
  refine go_aload_n (pc := 174) dX9_passesAll_174 rfl ?_
  refine go_aload_n (pc := 175) dX9_passesAll_175 rfl ?_
  refine gf_9_205 (pc := 176) dX9_passesAll_176 ?_
  obtain ⟨u38, c39, h⟩ := g_bd h
  refine go_callV (pc := 179) (as := [.inl ((g_upd u36.2 41 16 u36.1) 41 17)]) (st := [.inr 41]) (r := u38.1) (M1 := u38.2) (z_X9_passOne hok  c39) cw_X9_passOne ml_X9_199 (show g_lay[41]? = some _ from rfl) rfl rfl (by decide) (Nat.le_of_ble_eq_true rfl) rfl dX9_passesAll_179 ?_
  refine gp_9_205 (pc := 182) dX9_passesAll_182 ?_
  exact go_vret (pc := 185) (Option.some.inj h).symm rfl dX9_passesAll_185
def x_X9_quay_L86   : Nat → Int32 → g_M → Option (Int32 × g_M)
  | 0, _, _ => none
  | n + 1, v2, M => (if (M 41 26) ≤ v2 then (some (((g_upd M 41 33 (0 : Int32)) 41 26), (g_upd M 41 33 (0 : Int32)))) else (((x_X9_comes v2 M).bind fun u1 => if u1.1 = 0 then (((x_X9_passesAll (1 : Int32) (0 : Int32) u1.2).bind fun u3 => (if g_inb v2 48 = true then (some (((-2000 : Int32) - (u3.2 59 v2.toNatClampNeg)), u3.2)) else none))) else (x_X9_quay_L86   n (v2 + (1 : Int32)) u1.2))))
set_option maxHeartbeats 4000000 in
set_option maxRecDepth 100000 in
theorem z_X9_quay_L86 {X : g_X} (hok : g_ok X)  {r : Int32 × g_M}  : ∀ (n : Nat) (v2 : Int32) (M : g_M), x_X9_quay_L86   n v2 M = some r → g_Go X cX9_quay RX9 3 (some .int) 5 111 r 86 [some (.inr 41), none, some (.inl v2)] [] M := by
  intro n
  induction n with
  | zero =>
    intro v2 M h
    rw [x_X9_quay_L86] at h
    cases h
  | succ n ih =>
    intro v2 M h
    rw [x_X9_quay_L86] at h
    refine go_iload_n (pc := 86) dX9_quay_86 rfl ?_
    refine go_aload_n (pc := 87) dX9_quay_87 rfl ?_
    refine gf_9_150 (pc := 88) dX9_quay_88 ?_
    refine go_icmp_ge (pc := 91) (tgt := 128) dX9_quay_91 (by decide) (fun e7 => ?_) (fun e7 => ?_)
    · replace h := (if_pos e7).symm.trans h
      refine go_aload_n (pc := 128) dX9_quay_128 rfl ?_
      refine go_iconst (pc := 129) (v := (0 : Int32)) dX9_quay_129 (by decide) ?_
      refine gp_9_182 (pc := 130) dX9_quay_130 ?_
      refine go_aload_n (pc := 133) dX9_quay_133 rfl ?_
      refine gf_9_150 (pc := 134) dX9_quay_134 ?_
      exact go_iret (pc := 137) (Option.some.inj h).symm rfl dX9_quay_137 rfl
    · replace h := (if_neg e7).symm.trans h
      refine go_aload_n (pc := 94) dX9_quay_94 rfl ?_
      refine go_iload_n (pc := 95) dX9_quay_95 rfl ?_
      obtain ⟨u1, c2, h⟩ := g_bd h
      refine go_callV (pc := 96) (as := [.inl v2]) (st := []) (r := u1.1) (M1 := u1.2) (z_X9_comes hok  c2) cw_X9_comes ml_X9_179 (show g_lay[41]? = some _ from rfl) rfl rfl (by decide) (Nat.le_of_ble_eq_true rfl) rfl dX9_quay_96 ?_
      refine go_if_eq (pc := 99) (tgt := 105) dX9_quay_99 (by decide) (fun e6 => ?_) (fun e6 => ?_)
      · replace h := (if_pos e6).symm.trans h
        refine go_aload_n (pc := 105) dX9_quay_105 rfl ?_
        refine go_iconst (pc := 106) (v := (1 : Int32)) dX9_quay_106 (by decide) ?_
        refine go_iconst (pc := 107) (v := (0 : Int32)) dX9_quay_107 (by decide) ?_
        obtain ⟨u3, c4, h⟩ := g_bd h
        refine go_callV (pc := 108) (as := [.inl (1 : Int32), .inl (0 : Int32)]) (st := []) (r := u3.1) (M1 := u3.2) (z_X9_passesAll hok  c4) cw_X9_passesAll ml_X9_175 (show g_lay[41]? = some _ from rfl) rfl rfl (by decide) (Nat.le_of_ble_eq_true rfl) rfl dX9_quay_108 ?_
        refine go_sipush (pc := 111) (v := (-2000 : Int32)) dX9_quay_111 (by decide) ?_
        refine go_aload_n (pc := 114) dX9_quay_114 rfl ?_
        refine gf_9_61 (pc := 115) dX9_quay_115 ?_
        refine go_iload_n (pc := 118) dX9_quay_118 rfl ?_
        obtain ⟨i5, h⟩ := g_gd h
        refine go_iald (pc := 119) (n := 48) rfl (g_inb_ok i5) dX9_quay_119 ?_
        refine go_isub (pc := 120) dX9_quay_120 ?_
        exact go_iret (pc := 121) (Option.some.inj h).symm rfl dX9_quay_121 rfl
      · replace h := (if_neg e6).symm.trans h
        refine go_goto (pc := 102) (tgt := 122) dX9_quay_102 (by decide) ?_
        refine go_iinc (pc := 122) (v := (1 : Int32)) (lv' := [some (.inr 41), none, some (.inl (v2 + (1 : Int32)))]) dX9_quay_122 rfl (by decide) (by decide) rfl ?_
        refine go_goto (pc := 125) (tgt := 86) dX9_quay_125 (by decide) ?_
        exact go_to (ih _ _ h) (And.intro rfl (And.intro rfl trivial))
def x_X9_quay_L60   (v1 : Int32) (M : g_M) : Option (Int32 × g_M) := (if v1 = 0 then (some (((-1000 : Int32) - ((g_upd M 41 24 (0 : Int32)) 41 25)), (g_upd M 41 24 (0 : Int32)))) else (((x_X9_passesAll (1 : Int32) (1 : Int32) (g_upd M 41 24 (0 : Int32))).bind fun u8 => x_X9_quay_L86   g_F (0 : Int32) u8.2)))
set_option maxHeartbeats 4000000 in
set_option maxRecDepth 100000 in
theorem z_X9_quay_L60 {X : g_X} (hok : g_ok X)  {r : Int32 × g_M}  {v1 : Int32} {M : g_M} (h : x_X9_quay_L60   v1 M = some r) : g_Go X cX9_quay RX9 3 (some .int) 5 111 r 60 [some (.inr 41), some (.inl v1), none] [] M := by
  rw [x_X9_quay_L60] at h
  refine go_aload_n (pc := 60) dX9_quay_60 rfl ?_
  refine go_iconst (pc := 61) (v := (0 : Int32)) dX9_quay_61 (by decide) ?_
  refine gp_9_121 (pc := 62) dX9_quay_62 ?_
  refine go_iload_n (pc := 65) dX9_quay_65 rfl ?_
  refine go_if_ne (pc := 66) (tgt := 78) dX9_quay_66 (by decide) (fun e10 => ?_) (fun e10 => ?_)
  · replace h := (if_neg e10).symm.trans h
    refine go_aload_n (pc := 78) dX9_quay_78 rfl ?_
    refine go_iconst (pc := 79) (v := (1 : Int32)) dX9_quay_79 (by decide) ?_
    refine go_iconst (pc := 80) (v := (1 : Int32)) dX9_quay_80 (by decide) ?_
    obtain ⟨u8, c9, h⟩ := g_bd h
    refine go_callV (pc := 81) (as := [.inl (1 : Int32), .inl (1 : Int32)]) (st := []) (r := u8.1) (M1 := u8.2) (z_X9_passesAll hok  c9) cw_X9_passesAll ml_X9_175 (show g_lay[41]? = some _ from rfl) rfl rfl (by decide) (Nat.le_of_ble_eq_true rfl) rfl dX9_quay_81 ?_
    refine go_iconst (pc := 84) (v := (0 : Int32)) dX9_quay_84 (by decide) ?_
    refine go_istore_n (pc := 85) (lv' := [some (.inr 41), some (.inl v1), some (.inl (0 : Int32))]) dX9_quay_85 (by decide) rfl ?_
    exact go_to (z_X9_quay_L86 hok   g_F _ _ h) (And.intro rfl (And.intro rfl trivial))
  · replace h := (if_pos e10).symm.trans h
    refine go_sipush (pc := 69) (v := (-1000 : Int32)) dX9_quay_69 (by decide) ?_
    refine go_aload_n (pc := 72) dX9_quay_72 rfl ?_
    refine gf_9_128 (pc := 73) dX9_quay_73 ?_
    refine go_isub (pc := 76) dX9_quay_76 ?_
    exact go_iret (pc := 77) (Option.some.inj h).symm rfl dX9_quay_77 rfl
def x_X9_quay_L34  (k12 : Int32 → g_M → Option (Int32 × g_M))  (M : g_M) : Option (Int32 × g_M) := (((x_X9_statement M).bind fun u11 => if u11.1 = 0 then (k12 u11.1 (g_upd u11.2 41 26 ((u11.2 41 26) + (0 : Int32)))) else (k12 u11.1 (g_upd u11.2 41 26 ((u11.2 41 26) + (1 : Int32))))))
set_option maxHeartbeats 4000000 in
set_option maxRecDepth 100000 in
theorem z_X9_quay_L34 {X : g_X} (hok : g_ok X)  {r : Int32 × g_M} {k12 : Int32 → g_M → Option (Int32 × g_M)} (hk12 : ∀ (v1 : Int32) (M : g_M), k12 v1 M = some r → g_Go X cX9_quay RX9 3 (some .int) 5 111 r 12 [some (.inr 41), some (.inl v1), none] [] M)  {M : g_M} (h : x_X9_quay_L34  k12  M = some r) : g_Go X cX9_quay RX9 3 (some .int) 5 111 r 34 [some (.inr 41), none, none] [] M := by
  rw [x_X9_quay_L34] at h
  refine go_aload_n (pc := 34) dX9_quay_34 rfl ?_
  obtain ⟨u11, c12, h⟩ := g_bd h
  refine go_callV (pc := 35) (as := []) (st := []) (r := u11.1) (M1 := u11.2) (z_X9_statement hok  c12) cw_X9_statement ml_X9_171 (show g_lay[41]? = some _ from rfl) rfl rfl (by decide) (Nat.le_of_ble_eq_true rfl) rfl dX9_quay_35 ?_
  refine go_istore_n (pc := 38) (lv' := [some (.inr 41), some (.inl u11.1), none]) dX9_quay_38 (by decide) rfl ?_
  refine go_aload_n (pc := 39) dX9_quay_39 rfl ?_
  refine go_dup (pc := 40) dX9_quay_40 ?_
  refine gf_9_150 (pc := 41) dX9_quay_41 ?_
  refine go_iload_n (pc := 44) dX9_quay_44 rfl ?_
  refine go_if_eq (pc := 45) (tgt := 52) dX9_quay_45 (by decide) (fun e13 => ?_) (fun e13 => ?_)
  · replace h := (if_pos e13).symm.trans h
    refine go_iconst (pc := 52) (v := (0 : Int32)) dX9_quay_52 (by decide) ?_
    refine go_iadd (pc := 53) dX9_quay_53 ?_
    refine gp_9_150 (pc := 54) dX9_quay_54 ?_
    refine go_goto (pc := 57) (tgt := 12) dX9_quay_57 (by decide) ?_
    exact go_to (hk12 _ _ h) (And.intro rfl (And.intro rfl trivial))
  · replace h := (if_neg e13).symm.trans h
    refine go_iconst (pc := 48) (v := (1 : Int32)) dX9_quay_48 (by decide) ?_
    refine go_goto (pc := 49) (tgt := 53) dX9_quay_49 (by decide) ?_
    refine go_iadd (pc := 53) dX9_quay_53 ?_
    refine gp_9_150 (pc := 54) dX9_quay_54 ?_
    refine go_goto (pc := 57) (tgt := 12) dX9_quay_57 (by decide) ?_
    exact go_to (hk12 _ _ h) (And.intro rfl (And.intro rfl trivial))
def x_X9_quay_L12   : Nat → Int32 → g_M → Option (Int32 × g_M)
  | 0, _, _ => none
  | n + 1, v1, M => (if v1 = 0 then (x_X9_quay_L60   v1 M) else (if (M 41 25) < (M 41 24) then (x_X9_quay_L34  (x_X9_quay_L12   n)  M) else (if (M 41 26) = 0 then (x_X9_quay_L34  (x_X9_quay_L12   n)  M) else (x_X9_quay_L60   v1 M))))
set_option maxHeartbeats 4000000 in
set_option maxRecDepth 100000 in
theorem z_X9_quay_L12 {X : g_X} (hok : g_ok X)  {r : Int32 × g_M}  : ∀ (n : Nat) (v1 : Int32) (M : g_M), x_X9_quay_L12   n v1 M = some r → g_Go X cX9_quay RX9 3 (some .int) 5 111 r 12 [some (.inr 41), some (.inl v1), none] [] M := by
  intro n
  induction n with
  | zero =>
    intro v1 M h
    rw [x_X9_quay_L12] at h
    cases h
  | succ n ih =>
    intro v1 M h
    rw [x_X9_quay_L12] at h
    refine go_iload_n (pc := 12) dX9_quay_12 rfl ?_
    refine go_if_eq (pc := 13) (tgt := 60) dX9_quay_13 (by decide) (fun e16 => ?_) (fun e16 => ?_)
    · replace h := (if_pos e16).symm.trans h
      exact go_to (z_X9_quay_L60 hok   h) (And.intro rfl (And.intro rfl trivial))
    · replace h := (if_neg e16).symm.trans h
      refine go_aload_n (pc := 16) dX9_quay_16 rfl ?_
      refine gf_9_128 (pc := 17) dX9_quay_17 ?_
      refine go_aload_n (pc := 20) dX9_quay_20 rfl ?_
      refine gf_9_121 (pc := 21) dX9_quay_21 ?_
      refine go_icmp_lt (pc := 24) (tgt := 34) dX9_quay_24 (by decide) (fun e15 => ?_) (fun e15 => ?_)
      · replace h := (if_pos e15).symm.trans h
        exact go_to (z_X9_quay_L34 hok  (ih) h) (And.intro rfl trivial)
      · replace h := (if_neg e15).symm.trans h
        refine go_aload_n (pc := 27) dX9_quay_27 rfl ?_
        refine gf_9_150 (pc := 28) dX9_quay_28 ?_
        refine go_if_ne (pc := 31) (tgt := 60) dX9_quay_31 (by decide) (fun e14 => ?_) (fun e14 => ?_)
        · replace h := (if_neg e14).symm.trans h
          exact go_to (z_X9_quay_L60 hok   h) (And.intro rfl (And.intro rfl trivial))
        · replace h := (if_pos e14).symm.trans h
          exact go_to (z_X9_quay_L34 hok  (ih) h) (And.intro rfl trivial)
def x_X9_quay  (M : g_M) : Option (Int32 × g_M) := (x_X9_quay_L12   g_F (1 : Int32) (g_upd (g_upd M 41 25 (0 : Int32)) 41 26 (0 : Int32)))
set_option maxHeartbeats 4000000 in
set_option maxRecDepth 100000 in
theorem z_X9_quay {X : g_X} (hok : g_ok X)  {M : g_M} {r : Int32 × g_M} (h : x_X9_quay  M = some r) : g_Con X yX9_quay cX9_quay 3 (some .int) 5 111 [.inr 41] M r := by
  rw [x_X9_quay] at h
  refine g_con hok (plainFor_of_name (by decide +kernel)) (Nat.le_of_ble_eq_true rfl) (go_to (lv2 := [some (.inr 41), none, none]) (own := RX9) ?_ (And.intro rfl trivial))
  refine go_aload_n (pc := 0) dX9_quay_0 rfl ?_
  refine go_iconst (pc := 1) (v := (0 : Int32)) dX9_quay_1 (by decide) ?_
  refine gp_9_128 (pc := 2) dX9_quay_2 ?_
  refine go_aload_n (pc := 5) dX9_quay_5 rfl ?_
  refine go_iconst (pc := 6) (v := (0 : Int32)) dX9_quay_6 (by decide) ?_
  refine gp_9_150 (pc := 7) dX9_quay_7 ?_
  refine go_iconst (pc := 10) (v := (1 : Int32)) dX9_quay_10 (by decide) ?_
  refine go_istore_n (pc := 11) (lv' := [some (.inr 41), some (.inl (1 : Int32)), none]) dX9_quay_11 (by decide) rfl ?_
  exact go_to (z_X9_quay_L12 hok   g_F _ _ h) (And.intro rfl (And.intro rfl trivial))
def x_X9_image  (M : g_M) : Option (Int32 × g_M) := (((x_X9_passesAll (0 : Int32) (1 : Int32) (g_upd M 41 28 (1 : Int32))).bind fun u1 => some ((u1.2 41 17), u1.2)))
set_option maxHeartbeats 4000000 in
set_option maxRecDepth 100000 in
theorem z_X9_image {X : g_X} (hok : g_ok X)  {M : g_M} {r : Int32 × g_M} (h : x_X9_image  M = some r) : g_Con X yX9_image cX9_image 1 (some .int) 2 44 [.inr 41] M r := by
  rw [x_X9_image] at h
  refine g_con hok (plainFor_of_name (by decide +kernel)) (Nat.le_of_ble_eq_true rfl) (go_to (lv2 := [some (.inr 41)]) (own := RX9) ?_ (And.intro rfl trivial))
  refine go_aload_n (pc := 0) dX9_image_0 rfl ?_
  refine go_iconst (pc := 1) (v := (1 : Int32)) dX9_image_1 (by decide) ?_
  refine gp_9_208 (pc := 2) (by decide) dX9_image_2 ?_
  refine go_aload_n (pc := 5) dX9_image_5 rfl ?_
  refine go_iconst (pc := 6) (v := (0 : Int32)) dX9_image_6 (by decide) ?_
  refine go_iconst (pc := 7) (v := (1 : Int32)) dX9_image_7 (by decide) ?_
  obtain ⟨u1, c2, h⟩ := g_bd h
  refine go_callV (pc := 8) (as := [.inl (0 : Int32), .inl (1 : Int32)]) (st := []) (r := u1.1) (M1 := u1.2) (z_X9_passesAll hok  c2) cw_X9_passesAll ml_X9_175 (show g_lay[41]? = some _ from rfl) rfl rfl (by decide) (Nat.le_of_ble_eq_true rfl) rfl dX9_image_8 ?_
  refine go_aload_n (pc := 11) dX9_image_11 rfl ?_
  refine gf_9_205 (pc := 12) dX9_image_12 ?_
  exact go_iret (pc := 15) (Option.some.inj h).symm rfl dX9_image_15 rfl
def x_X9_restore  (M : g_M) : Option (Int32 × g_M) := (if (M 41 28) = 0 then (((x_X9_no (-3 : Int32) M).bind fun u3 => some (u3.1, u3.2))) else (((x_X9_passesAll (0 : Int32) (0 : Int32) M).bind fun u1 => some (((g_upd u1.2 41 33 (0 : Int32)) 41 17), (g_upd u1.2 41 33 (0 : Int32))))))
set_option maxHeartbeats 4000000 in
set_option maxRecDepth 100000 in
theorem z_X9_restore {X : g_X} (hok : g_ok X)  {M : g_M} {r : Int32 × g_M} (h : x_X9_restore  M = some r) : g_Con X yX9_restore cX9_restore 1 (some .int) 2 44 [.inr 41] M r := by
  rw [x_X9_restore] at h
  refine g_con hok (plainFor_of_name (by decide +kernel)) (Nat.le_of_ble_eq_true rfl) (go_to (lv2 := [some (.inr 41)]) (own := RX9) ?_ (And.intro rfl trivial))
  refine go_aload_n (pc := 0) dX9_restore_0 rfl ?_
  refine gf_9_208 (pc := 1) dX9_restore_1 ?_
  refine go_if_ne (pc := 4) (tgt := 14) dX9_restore_4 (by decide) (fun e5 => ?_) (fun e5 => ?_)
  · replace h := (if_neg e5).symm.trans h
    refine go_aload_n (pc := 14) dX9_restore_14 rfl ?_
    refine go_iconst (pc := 15) (v := (0 : Int32)) dX9_restore_15 (by decide) ?_
    refine go_iconst (pc := 16) (v := (0 : Int32)) dX9_restore_16 (by decide) ?_
    obtain ⟨u1, c2, h⟩ := g_bd h
    refine go_callV (pc := 17) (as := [.inl (0 : Int32), .inl (0 : Int32)]) (st := []) (r := u1.1) (M1 := u1.2) (z_X9_passesAll hok  c2) cw_X9_passesAll ml_X9_175 (show g_lay[41]? = some _ from rfl) rfl rfl (by decide) (Nat.le_of_ble_eq_true rfl) rfl dX9_restore_17 ?_
    refine go_aload_n (pc := 20) dX9_restore_20 rfl ?_
    refine go_iconst (pc := 21) (v := (0 : Int32)) dX9_restore_21 (by decide) ?_
    refine gp_9_182 (pc := 22) dX9_restore_22 ?_
    refine go_aload_n (pc := 25) dX9_restore_25 rfl ?_
    refine gf_9_205 (pc := 26) dX9_restore_26 ?_
    exact go_iret (pc := 29) (Option.some.inj h).symm rfl dX9_restore_29 rfl
  · replace h := (if_pos e5).symm.trans h
    refine go_aload_n (pc := 7) dX9_restore_7 rfl ?_
    refine go_bipush (pc := 8) (v := (-3 : Int32)) dX9_restore_8 (by decide) ?_
    obtain ⟨u3, c4, h⟩ := g_bd h
    refine go_callV (pc := 10) (as := [.inl (-3 : Int32)]) (st := []) (r := u3.1) (M1 := u3.2) (z_X9_no hok  c4) cw_X9_no ml_X9_124 (show g_lay[41]? = some _ from rfl) rfl rfl (by decide) (Nat.le_of_ble_eq_true rfl) rfl dX9_restore_10 ?_
    exact go_iret (pc := 13) (Option.some.inj h).symm rfl dX9_restore_13 rfl
def x_X9_water  (p1 : Int32) (M : g_M) : Option (Int32 × g_M) := ((if g_inb p1 12 = true then (some (((M 43 p1.toNatClampNeg) + (M 47 (1 : Int32).toNatClampNeg)), M)) else none))
set_option maxHeartbeats 4000000 in
set_option maxRecDepth 100000 in
theorem z_X9_water {X : g_X} (hok : g_ok X)  {p1 : Int32} {M : g_M} {r : Int32 × g_M} (h : x_X9_water p1 M = some r) : g_Con X yX9_water cX9_water 2 (some .int) 0 0 [.inr 41, .inl p1] M r := by
  rw [x_X9_water] at h
  refine g_con hok (plainFor_of_name (by decide +kernel)) (Nat.le_of_ble_eq_true rfl) (go_to (lv2 := [some (.inr 41), some (.inl p1)]) (own := RX9) ?_ (And.intro rfl (And.intro rfl trivial)))
  refine go_aload_n (pc := 0) dX9_water_0 rfl ?_
  refine gf_9_13 (pc := 1) dX9_water_1 ?_
  refine go_iload_n (pc := 4) dX9_water_4 rfl ?_
  obtain ⟨i1, h⟩ := g_gd h
  refine go_iald (pc := 5) (n := 12) rfl (g_inb_ok i1) dX9_water_5 ?_
  refine go_aload_n (pc := 6) dX9_water_6 rfl ?_
  refine gf_9_25 (pc := 7) dX9_water_7 ?_
  refine go_iconst (pc := 10) (v := (1 : Int32)) dX9_water_10 (by decide) ?_
  refine go_iald (pc := 11) (n := 2) rfl (g_inb_ok (by decide)) dX9_water_11 ?_
  refine go_iadd (pc := 12) dX9_water_12 ?_
  exact go_iret (pc := 13) (Option.some.inj h).symm rfl dX9_water_13 rfl
def x_X9_isOfTwo  (p1 : Int32) (M : g_M) : Option (Int32 × g_M) := ((if g_inb p1 5 = true then (if (M 48 p1.toNatClampNeg) = (1 : Int32) then (some ((1 : Int32), M)) else ((if g_inb p1 5 = true then (if (M 48 p1.toNatClampNeg) = (4 : Int32) then (some ((1 : Int32), M)) else (some ((0 : Int32), M))) else none))) else none))
set_option maxHeartbeats 4000000 in
set_option maxRecDepth 100000 in
theorem z_X9_isOfTwo {X : g_X} (hok : g_ok X)  {p1 : Int32} {M : g_M} {r : Int32 × g_M} (h : x_X9_isOfTwo p1 M = some r) : g_Con X yX9_isOfTwo cX9_isOfTwo 2 (some .boolean) 0 0 [.inr 41, .inl p1] M r := by
  rw [x_X9_isOfTwo] at h
  refine g_con hok (plainFor_of_name (by decide +kernel)) (Nat.le_of_ble_eq_true rfl) (go_to (lv2 := [some (.inr 41), some (.inl p1)]) (own := RX9) ?_ (And.intro rfl (And.intro rfl trivial)))
  refine go_aload_n (pc := 0) dX9_isOfTwo_0 rfl ?_
  refine gf_9_28 (pc := 1) dX9_isOfTwo_1 ?_
  refine go_iload_n (pc := 4) dX9_isOfTwo_4 rfl ?_
  obtain ⟨i1, h⟩ := g_gd h
  refine go_iald (pc := 5) (n := 5) rfl (g_inb_ok i1) dX9_isOfTwo_5 ?_
  refine go_iconst (pc := 6) (v := (1 : Int32)) dX9_isOfTwo_6 (by decide) ?_
  refine go_icmp_eq (pc := 7) (tgt := 20) dX9_isOfTwo_7 (by decide) (fun e4 => ?_) (fun e4 => ?_)
  · replace h := (if_pos e4).symm.trans h
    refine go_iconst (pc := 20) (v := (1 : Int32)) dX9_isOfTwo_20 (by decide) ?_
    refine go_goto (pc := 21) (tgt := 25) dX9_isOfTwo_21 (by decide) ?_
    exact go_iret (pc := 25) (Option.some.inj h).symm rfl dX9_isOfTwo_25 rfl
  · replace h := (if_neg e4).symm.trans h
    refine go_aload_n (pc := 10) dX9_isOfTwo_10 rfl ?_
    refine gf_9_28 (pc := 11) dX9_isOfTwo_11 ?_
    refine go_iload_n (pc := 14) dX9_isOfTwo_14 rfl ?_
    obtain ⟨i2, h⟩ := g_gd h
    refine go_iald (pc := 15) (n := 5) rfl (g_inb_ok i2) dX9_isOfTwo_15 ?_
    refine go_iconst (pc := 16) (v := (4 : Int32)) dX9_isOfTwo_16 (by decide) ?_
    refine go_icmp_ne (pc := 17) (tgt := 24) dX9_isOfTwo_17 (by decide) (fun e3 => ?_) (fun e3 => ?_)
    · replace h := (if_neg e3).symm.trans h
      refine go_iconst (pc := 24) (v := (0 : Int32)) dX9_isOfTwo_24 (by decide) ?_
      exact go_iret (pc := 25) (Option.some.inj h).symm rfl dX9_isOfTwo_25 rfl
    · replace h := (if_pos e3).symm.trans h
      refine go_iconst (pc := 20) (v := (1 : Int32)) dX9_isOfTwo_20 (by decide) ?_
      refine go_goto (pc := 21) (tgt := 25) dX9_isOfTwo_21 (by decide) ?_
      exact go_iret (pc := 25) (Option.some.inj h).symm rfl dX9_isOfTwo_25 rfl
def x_X9_needsAt_L56   (v1 : Int32) (v2 : Int32) (v3 : Int32) (s0 : Int32) (M : g_M) : Option (Int32 × g_M) := ((if g_inb v1 5 = true then (if (M 48 v1.toNatClampNeg) = (1 : Int32) then (some (((v3 * v3) + ((s0 / (2 : Int32)) * (s0 / (2 : Int32)))), M)) else if (M 48 v1.toNatClampNeg) = (2 : Int32) then (some ((v3 * v3), M)) else if (M 48 v1.toNatClampNeg) = (3 : Int32) then (if v3 < 0 then (some ((v3 * v3), M)) else (some ((0 : Int32), M))) else if (M 48 v1.toNatClampNeg) = (4 : Int32) then ((if g_inb v1 5 = true then ((if g_inb v1 5 = true then (some ((((v3 * v3) + ((s0 / (2 : Int32)) * (s0 / (2 : Int32)))) + ((M 49 v1.toNatClampNeg) * (M 49 v1.toNatClampNeg))), M)) else none)) else none)) else if (M 48 v1.toNatClampNeg) = (5 : Int32) then ((if g_inb v2 12 = true then ((if g_inb v1 5 = true then (if (M 49 v1.toNatClampNeg) < (M 43 v2.toNatClampNeg) then (some ((v3 * v3), M)) else (some ((0 : Int32), M))) else none)) else none)) else (some ((v3 * v3), M))) else none))
set_option maxHeartbeats 4000000 in
set_option maxRecDepth 100000 in
theorem z_X9_needsAt_L56 {X : g_X} (hok : g_ok X)  {r : Int32 × g_M}  {v1 : Int32} {v2 : Int32} {v3 : Int32} {s0 : Int32} {M : g_M} (h : x_X9_needsAt_L56   v1 v2 v3 s0 M = some r) : g_Go X cX9_needsAt RX9 6 (some .int) 1 21 r 56 [some (.inr 41), some (.inl v1), some (.inl v2), some (.inl v3), none, none] [.inl s0] M := by
  rw [x_X9_needsAt_L56] at h
  refine go_iconst (pc := 56) (v := (2 : Int32)) dX9_needsAt_56 (by decide) ?_
  refine go_idiv (pc := 57) dX9_needsAt_57 (by decide) ?_
  refine go_istore (pc := 58) (lv' := [some (.inr 41), some (.inl v1), some (.inl v2), some (.inl v3), none, some (.inl (s0 / (2 : Int32)))]) dX9_needsAt_58 (by decide) rfl ?_
  refine go_aload_n (pc := 60) dX9_needsAt_60 rfl ?_
  refine gf_9_28 (pc := 61) dX9_needsAt_61 ?_
  refine go_iload_n (pc := 64) dX9_needsAt_64 rfl ?_
  obtain ⟨i1, h⟩ := g_gd h
  refine go_iald (pc := 65) (n := 5) rfl (g_inb_ok i1) dX9_needsAt_65 ?_
  by_cases e8 : (M 48 v1.toNatClampNeg) = (1 : Int32)
  · replace h := (if_pos e8).symm.trans h
    refine go_tabIn (pc := 66) (off := 34) (tgt := 100) dX9_needsAt_66 (by rw [e8]; decide) (by rw [e8]; decide) (by rw [e8]; decide) (by decide) ?_
    refine go_iload_n (pc := 100) dX9_needsAt_100 rfl ?_
    refine go_iload_n (pc := 101) dX9_needsAt_101 rfl ?_
    refine go_imul (pc := 102) dX9_needsAt_102 ?_
    refine go_iload (pc := 103) dX9_needsAt_103 rfl ?_
    refine go_iload (pc := 105) dX9_needsAt_105 rfl ?_
    refine go_imul (pc := 107) dX9_needsAt_107 ?_
    refine go_iadd (pc := 108) dX9_needsAt_108 ?_
    exact go_iret (pc := 109) (Option.some.inj h).symm rfl dX9_needsAt_109 rfl
  · replace h := (if_neg e8).symm.trans h
    by_cases e9 : (M 48 v1.toNatClampNeg) = (2 : Int32)
    · replace h := (if_pos e9).symm.trans h
      refine go_tabIn (pc := 66) (off := 103) (tgt := 169) dX9_needsAt_66 (by rw [e9]; decide) (by rw [e9]; decide) (by rw [e9]; decide) (by decide) ?_
      refine go_iload_n (pc := 169) dX9_needsAt_169 rfl ?_
      refine go_iload_n (pc := 170) dX9_needsAt_170 rfl ?_
      refine go_imul (pc := 171) dX9_needsAt_171 ?_
      exact go_iret (pc := 172) (Option.some.inj h).symm rfl dX9_needsAt_172 rfl
    · replace h := (if_neg e9).symm.trans h
      by_cases e10 : (M 48 v1.toNatClampNeg) = (3 : Int32)
      · replace h := (if_pos e10).symm.trans h
        refine go_tabIn (pc := 66) (off := 44) (tgt := 110) dX9_needsAt_66 (by rw [e10]; decide) (by rw [e10]; decide) (by rw [e10]; decide) (by decide) ?_
        refine go_iload_n (pc := 110) dX9_needsAt_110 rfl ?_
        refine go_if_lt (pc := 111) (tgt := 118) dX9_needsAt_111 (by decide) (fun e2 => ?_) (fun e2 => ?_)
        · replace h := (if_pos e2).symm.trans h
          refine go_iload_n (pc := 118) dX9_needsAt_118 rfl ?_
          refine go_iload_n (pc := 119) dX9_needsAt_119 rfl ?_
          refine go_imul (pc := 120) dX9_needsAt_120 ?_
          exact go_iret (pc := 121) (Option.some.inj h).symm rfl dX9_needsAt_121 rfl
        · replace h := (if_neg e2).symm.trans h
          refine go_iconst (pc := 114) (v := (0 : Int32)) dX9_needsAt_114 (by decide) ?_
          refine go_goto (pc := 115) (tgt := 121) dX9_needsAt_115 (by decide) ?_
          exact go_iret (pc := 121) (Option.some.inj h).symm rfl dX9_needsAt_121 rfl
      · replace h := (if_neg e10).symm.trans h
        by_cases e11 : (M 48 v1.toNatClampNeg) = (4 : Int32)
        · replace h := (if_pos e11).symm.trans h
          refine go_tabIn (pc := 66) (off := 56) (tgt := 122) dX9_needsAt_66 (by rw [e11]; decide) (by rw [e11]; decide) (by rw [e11]; decide) (by decide) ?_
          refine go_iload_n (pc := 122) dX9_needsAt_122 rfl ?_
          refine go_iload_n (pc := 123) dX9_needsAt_123 rfl ?_
          refine go_imul (pc := 124) dX9_needsAt_124 ?_
          refine go_iload (pc := 125) dX9_needsAt_125 rfl ?_
          refine go_iload (pc := 127) dX9_needsAt_127 rfl ?_
          refine go_imul (pc := 129) dX9_needsAt_129 ?_
          refine go_iadd (pc := 130) dX9_needsAt_130 ?_
          refine go_aload_n (pc := 131) dX9_needsAt_131 rfl ?_
          refine gf_9_31 (pc := 132) dX9_needsAt_132 ?_
          refine go_iload_n (pc := 135) dX9_needsAt_135 rfl ?_
          obtain ⟨i3, h⟩ := g_gd h
          refine go_iald (pc := 136) (n := 5) rfl (g_inb_ok i3) dX9_needsAt_136 ?_
          refine go_aload_n (pc := 137) dX9_needsAt_137 rfl ?_
          refine gf_9_31 (pc := 138) dX9_needsAt_138 ?_
          refine go_iload_n (pc := 141) dX9_needsAt_141 rfl ?_
          obtain ⟨i4, h⟩ := g_gd h
          refine go_iald (pc := 142) (n := 5) rfl (g_inb_ok i4) dX9_needsAt_142 ?_
          refine go_imul (pc := 143) dX9_needsAt_143 ?_
          refine go_iadd (pc := 144) dX9_needsAt_144 ?_
          exact go_iret (pc := 145) (Option.some.inj h).symm rfl dX9_needsAt_145 rfl
        · replace h := (if_neg e11).symm.trans h
          by_cases e12 : (M 48 v1.toNatClampNeg) = (5 : Int32)
          · replace h := (if_pos e12).symm.trans h
            refine go_tabIn (pc := 66) (off := 80) (tgt := 146) dX9_needsAt_66 (by rw [e12]; decide) (by rw [e12]; decide) (by rw [e12]; decide) (by decide) ?_
            refine go_aload_n (pc := 146) dX9_needsAt_146 rfl ?_
            refine gf_9_13 (pc := 147) dX9_needsAt_147 ?_
            refine go_iload_n (pc := 150) dX9_needsAt_150 rfl ?_
            obtain ⟨i5, h⟩ := g_gd h
            refine go_iald (pc := 151) (n := 12) rfl (g_inb_ok i5) dX9_needsAt_151 ?_
            refine go_aload_n (pc := 152) dX9_needsAt_152 rfl ?_
            refine gf_9_31 (pc := 153) dX9_needsAt_153 ?_
            refine go_iload_n (pc := 156) dX9_needsAt_156 rfl ?_
            obtain ⟨i6, h⟩ := g_gd h
            refine go_iald (pc := 157) (n := 5) rfl (g_inb_ok i6) dX9_needsAt_157 ?_
            refine go_icmp_gt (pc := 158) (tgt := 165) dX9_needsAt_158 (by decide) (fun e7 => ?_) (fun e7 => ?_)
            · replace h := (if_pos e7).symm.trans h
              refine go_iload_n (pc := 165) dX9_needsAt_165 rfl ?_
              refine go_iload_n (pc := 166) dX9_needsAt_166 rfl ?_
              refine go_imul (pc := 167) dX9_needsAt_167 ?_
              exact go_iret (pc := 168) (Option.some.inj h).symm rfl dX9_needsAt_168 rfl
            · replace h := (if_neg e7).symm.trans h
              refine go_iconst (pc := 161) (v := (0 : Int32)) dX9_needsAt_161 (by decide) ?_
              refine go_goto (pc := 162) (tgt := 168) dX9_needsAt_162 (by decide) ?_
              exact go_iret (pc := 168) (Option.some.inj h).symm rfl dX9_needsAt_168 rfl
          · replace h := (if_neg e12).symm.trans h
            refine go_tabOut (pc := 66) (tgt := 169) dX9_needsAt_66 (by have q0 := g_out e8 (show (1 : Int32).toInt = 1 by decide); have q1 := g_out e9 (show (2 : Int32).toInt = 2 by decide); have q2 := g_out e10 (show (3 : Int32).toInt = 3 by decide); have q3 := g_out e11 (show (4 : Int32).toInt = 4 by decide); have q4 := g_out e12 (show (5 : Int32).toInt = 5 by decide); omega) (by decide) ?_
            refine go_iload_n (pc := 169) dX9_needsAt_169 rfl ?_
            refine go_iload_n (pc := 170) dX9_needsAt_170 rfl ?_
            refine go_imul (pc := 171) dX9_needsAt_171 ?_
            exact go_iret (pc := 172) (Option.some.inj h).symm rfl dX9_needsAt_172 rfl
def x_X9_needsAt  (p1 p2 : Int32) (M : g_M) : Option (Int32 × g_M) := ((if g_inb p1 5 = true then ((if g_inb (M 50 p1.toNatClampNeg) 6 = true then (((x_X9_water p2 M).bind fun u15 => (if g_inb p1 5 = true then ((if g_inb (u15.2 50 p1.toNatClampNeg) 6 = true then ((if g_inb p1 5 = true then ((if g_inb (u15.2 51 p1.toNatClampNeg) 6 = true then (if 0 ≤ ((u15.2 45 (u15.2 50 p1.toNatClampNeg).toNatClampNeg) - (u15.2 45 (u15.2 51 p1.toNatClampNeg).toNatClampNeg)) then (x_X9_needsAt_L56   p1 p2 ((M 46 (M 50 p1.toNatClampNeg).toNatClampNeg) - u15.1) ((u15.2 45 (u15.2 50 p1.toNatClampNeg).toNatClampNeg) - (u15.2 45 (u15.2 51 p1.toNatClampNeg).toNatClampNeg)) u15.2) else (x_X9_needsAt_L56   p1 p2 ((M 46 (M 50 p1.toNatClampNeg).toNatClampNeg) - u15.1) (-((u15.2 45 (u15.2 50 p1.toNatClampNeg).toNatClampNeg) - (u15.2 45 (u15.2 51 p1.toNatClampNeg).toNatClampNeg))) u15.2)) else none)) else none)) else none)) else none))) else none)) else none))
set_option maxHeartbeats 4000000 in
set_option maxRecDepth 100000 in
theorem z_X9_needsAt {X : g_X} (hok : g_ok X)  {p1 p2 : Int32} {M : g_M} {r : Int32 × g_M} (h : x_X9_needsAt p1 p2 M = some r) : g_Con X yX9_needsAt cX9_needsAt 6 (some .int) 1 21 [.inr 41, .inl p1, .inl p2] M r := by
  rw [x_X9_needsAt] at h
  refine g_con hok (plainFor_of_name (by decide +kernel)) (Nat.le_of_ble_eq_true rfl) (go_to (lv2 := [some (.inr 41), some (.inl p1), some (.inl p2), none, none, none]) (own := RX9) ?_ (And.intro rfl (And.intro rfl (And.intro rfl trivial))))
  refine go_aload_n (pc := 0) dX9_needsAt_0 rfl ?_
  refine gf_9_22 (pc := 1) dX9_needsAt_1 ?_
  refine go_aload_n (pc := 4) dX9_needsAt_4 rfl ?_
  refine gf_9_34 (pc := 5) dX9_needsAt_5 ?_
  refine go_iload_n (pc := 8) dX9_needsAt_8 rfl ?_
  obtain ⟨i13, h⟩ := g_gd h
  refine go_iald (pc := 9) (n := 5) rfl (g_inb_ok i13) dX9_needsAt_9 ?_
  obtain ⟨i14, h⟩ := g_gd h
  refine go_iald (pc := 10) (n := 6) rfl (g_inb_ok i14) dX9_needsAt_10 ?_
  refine go_aload_n (pc := 11) dX9_needsAt_11 rfl ?_
  refine go_iload_n (pc := 12) dX9_needsAt_12 rfl ?_
  obtain ⟨u15, c16, h⟩ := g_bd h
  refine go_callV (pc := 13) (as := [.inl p2]) (st := [.inl (M 46 (M 50 p1.toNatClampNeg).toNatClampNeg)]) (r := u15.1) (M1 := u15.2) (z_X9_water hok  c16) cw_X9_water ml_X9_211 (show g_lay[41]? = some _ from rfl) rfl rfl (by decide) (Nat.le_of_ble_eq_true rfl) rfl dX9_needsAt_13 ?_
  refine go_isub (pc := 16) dX9_needsAt_16 ?_
  refine go_istore_n (pc := 17) (lv' := [some (.inr 41), some (.inl p1), some (.inl p2), some (.inl ((M 46 (M 50 p1.toNatClampNeg).toNatClampNeg) - u15.1)), none, none]) dX9_needsAt_17 (by decide) rfl ?_
  refine go_aload_n (pc := 18) dX9_needsAt_18 rfl ?_
  refine gf_9_19 (pc := 19) dX9_needsAt_19 ?_
  refine go_aload_n (pc := 22) dX9_needsAt_22 rfl ?_
  refine gf_9_34 (pc := 23) dX9_needsAt_23 ?_
  refine go_iload_n (pc := 26) dX9_needsAt_26 rfl ?_
  obtain ⟨i17, h⟩ := g_gd h
  refine go_iald (pc := 27) (n := 5) rfl (g_inb_ok i17) dX9_needsAt_27 ?_
  obtain ⟨i18, h⟩ := g_gd h
  refine go_iald (pc := 28) (n := 6) rfl (g_inb_ok i18) dX9_needsAt_28 ?_
  refine go_aload_n (pc := 29) dX9_needsAt_29 rfl ?_
  refine gf_9_19 (pc := 30) dX9_needsAt_30 ?_
  refine go_aload_n (pc := 33) dX9_needsAt_33 rfl ?_
  refine gf_9_37 (pc := 34) dX9_needsAt_34 ?_
  refine go_iload_n (pc := 37) dX9_needsAt_37 rfl ?_
  obtain ⟨i19, h⟩ := g_gd h
  refine go_iald (pc := 38) (n := 5) rfl (g_inb_ok i19) dX9_needsAt_38 ?_
  obtain ⟨i20, h⟩ := g_gd h
  refine go_iald (pc := 39) (n := 6) rfl (g_inb_ok i20) dX9_needsAt_39 ?_
  refine go_isub (pc := 40) dX9_needsAt_40 ?_
  refine go_istore (pc := 41) (lv' := [some (.inr 41), some (.inl p1), some (.inl p2), some (.inl ((M 46 (M 50 p1.toNatClampNeg).toNatClampNeg) - u15.1)), some (.inl ((u15.2 45 (u15.2 50 p1.toNatClampNeg).toNatClampNeg) - (u15.2 45 (u15.2 51 p1.toNatClampNeg).toNatClampNeg))), none]) dX9_needsAt_41 (by decide) rfl ?_
  refine go_iload (pc := 43) dX9_needsAt_43 rfl ?_
  refine go_if_ge (pc := 45) (tgt := 54) dX9_needsAt_45 (by decide) (fun e21 => ?_) (fun e21 => ?_)
  · replace h := (if_pos e21).symm.trans h
    refine go_iload (pc := 54) dX9_needsAt_54 rfl ?_
    exact go_to (z_X9_needsAt_L56 hok   h) (And.intro rfl (And.intro rfl (And.intro rfl (And.intro rfl trivial))))
  · replace h := (if_neg e21).symm.trans h
    refine go_iload (pc := 48) dX9_needsAt_48 rfl ?_
    refine go_ineg (pc := 50) dX9_needsAt_50 ?_
    refine go_goto (pc := 51) (tgt := 56) dX9_needsAt_51 (by decide) ?_
    exact go_to (z_X9_needsAt_L56 hok   h) (And.intro rfl (And.intro rfl (And.intro rfl (And.intro rfl trivial))))
def x_X9_rootOf_L2   : Nat → Int32 → Int32 → g_M → Option (Int32 × g_M)
  | 0, _, _, _ => none
  | n + 1, v0, v1, M => (if v0 < ((v1 + (1 : Int32)) * (v1 + (1 : Int32))) then (some (v1, M)) else (x_X9_rootOf_L2   n v0 (v1 + (1 : Int32)) M))
set_option maxHeartbeats 4000000 in
set_option maxRecDepth 100000 in
theorem z_X9_rootOf_L2 {X : g_X} (hok : g_ok X)  {r : Int32 × g_M}  : ∀ (n : Nat) (v0 : Int32) (v1 : Int32) (M : g_M), x_X9_rootOf_L2   n v0 v1 M = some r → g_Go X cX9_rootOf RX9 2 (some .int) 0 0 r 2 [some (.inl v0), some (.inl v1)] [] M := by
  intro n
  induction n with
  | zero =>
    intro v0 v1 M h
    rw [x_X9_rootOf_L2] at h
    cases h
  | succ n ih =>
    intro v0 v1 M h
    rw [x_X9_rootOf_L2] at h
    refine go_iload_n (pc := 2) dX9_rootOf_2 rfl ?_
    refine go_iconst (pc := 3) (v := (1 : Int32)) dX9_rootOf_3 (by decide) ?_
    refine go_iadd (pc := 4) dX9_rootOf_4 ?_
    refine go_iload_n (pc := 5) dX9_rootOf_5 rfl ?_
    refine go_iconst (pc := 6) (v := (1 : Int32)) dX9_rootOf_6 (by decide) ?_
    refine go_iadd (pc := 7) dX9_rootOf_7 ?_
    refine go_imul (pc := 8) dX9_rootOf_8 ?_
    refine go_iload_n (pc := 9) dX9_rootOf_9 rfl ?_
    refine go_icmp_gt (pc := 10) (tgt := 19) dX9_rootOf_10 (by decide) (fun e1 => ?_) (fun e1 => ?_)
    · replace h := (if_pos e1).symm.trans h
      refine go_iload_n (pc := 19) dX9_rootOf_19 rfl ?_
      exact go_iret (pc := 20) (Option.some.inj h).symm rfl dX9_rootOf_20 rfl
    · replace h := (if_neg e1).symm.trans h
      refine go_iinc (pc := 13) (v := (1 : Int32)) (lv' := [some (.inl v0), some (.inl (v1 + (1 : Int32)))]) dX9_rootOf_13 rfl (by decide) (by decide) rfl ?_
      refine go_goto (pc := 16) (tgt := 2) dX9_rootOf_16 (by decide) ?_
      exact go_to (ih _ _ _ h) (And.intro rfl (And.intro rfl trivial))
def x_X9_rootOf  (p0 : Int32) (M : g_M) : Option (Int32 × g_M) := (x_X9_rootOf_L2   g_F p0 (0 : Int32) M)
set_option maxHeartbeats 4000000 in
set_option maxRecDepth 100000 in
theorem z_X9_rootOf {X : g_X} (hok : g_ok X)  {p0 : Int32} {M : g_M} {r : Int32 × g_M} (h : x_X9_rootOf p0 M = some r) : g_Con X yX9_rootOf cX9_rootOf 2 (some .int) 0 0 [.inl p0] M r := by
  rw [x_X9_rootOf] at h
  refine g_con hok (plainFor_of_name (by decide +kernel)) (Nat.le_of_ble_eq_true rfl) (go_to (lv2 := [some (.inl p0), none]) (own := RX9) ?_ (And.intro rfl trivial))
  refine go_iconst (pc := 0) (v := (0 : Int32)) dX9_rootOf_0 (by decide) ?_
  refine go_istore_n (pc := 1) (lv' := [some (.inl p0), some (.inl (0 : Int32))]) dX9_rootOf_1 (by decide) rfl ?_
  exact go_to (z_X9_rootOf_L2 hok   g_F _ _ _ h) (And.intro rfl (And.intro rfl trivial))
def x_X9_hangsWith  (p1 p2 p3 : Int32) (M : g_M) : Option (Int32 × g_M) := (((x_X9_needsAt p1 p2 M).bind fun u1 => if u1.1 ≤ (p3 * p3) then (some ((0 : Int32), u1.2)) else (some ((1 : Int32), u1.2))))
set_option maxHeartbeats 4000000 in
set_option maxRecDepth 100000 in
theorem z_X9_hangsWith {X : g_X} (hok : g_ok X)  {p1 p2 p3 : Int32} {M : g_M} {r : Int32 × g_M} (h : x_X9_hangsWith p1 p2 p3 M = some r) : g_Con X yX9_hangsWith cX9_hangsWith 4 (some .boolean) 2 46 [.inr 41, .inl p1, .inl p2, .inl p3] M r := by
  rw [x_X9_hangsWith] at h
  refine g_con hok (plainFor_of_name (by decide +kernel)) (Nat.le_of_ble_eq_true rfl) (go_to (lv2 := [some (.inr 41), some (.inl p1), some (.inl p2), some (.inl p3)]) (own := RX9) ?_ (And.intro rfl (And.intro rfl (And.intro rfl (And.intro rfl trivial)))))
  refine go_iload_n (pc := 0) dX9_hangsWith_0 rfl ?_
  refine go_iload_n (pc := 1) dX9_hangsWith_1 rfl ?_
  refine go_imul (pc := 2) dX9_hangsWith_2 ?_
  refine go_aload_n (pc := 3) dX9_hangsWith_3 rfl ?_
  refine go_iload_n (pc := 4) dX9_hangsWith_4 rfl ?_
  refine go_iload_n (pc := 5) dX9_hangsWith_5 rfl ?_
  obtain ⟨u1, c2, h⟩ := g_bd h
  refine go_callV (pc := 6) (as := [.inl p1, .inl p2]) (st := [.inl (p3 * p3)]) (r := u1.1) (M1 := u1.2) (z_X9_needsAt hok  c2) cw_X9_needsAt ml_X9_214 (show g_lay[41]? = some _ from rfl) rfl rfl (by decide) (Nat.le_of_ble_eq_true rfl) rfl dX9_hangsWith_6 ?_
  refine go_icmp_ge (pc := 9) (tgt := 16) dX9_hangsWith_9 (by decide) (fun e3 => ?_) (fun e3 => ?_)
  · replace h := (if_pos e3).symm.trans h
    refine go_iconst (pc := 16) (v := (0 : Int32)) dX9_hangsWith_16 (by decide) ?_
    exact go_iret (pc := 17) (Option.some.inj h).symm rfl dX9_hangsWith_17 rfl
  · replace h := (if_neg e3).symm.trans h
    refine go_iconst (pc := 12) (v := (1 : Int32)) dX9_hangsWith_12 (by decide) ?_
    refine go_goto (pc := 13) (tgt := 17) dX9_hangsWith_13 (by decide) ?_
    exact go_iret (pc := 17) (Option.some.inj h).symm rfl dX9_hangsWith_17 rfl
def x_X9_outWith  (p1 p2 p3 : Int32) (M : g_M) : Option (Int32 × g_M) := (((x_X9_hangsWith p1 p2 p3 M).bind fun u1 => if u1.1 = 0 then (((x_X9_needsAt p1 p2 u1.2).bind fun u3 => ((x_X9_rootOf ((p3 * p3) - u3.1) u3.2).bind fun u5 => (if g_inb p1 5 = true then (if (u5.2 48 p1.toNatClampNeg) = (1 : Int32) then (some ((u5.1 / (2 : Int32)), u5.2)) else if (u5.2 48 p1.toNatClampNeg) = (2 : Int32) then (some ((((3 : Int32) * u5.1) / (4 : Int32)), u5.2)) else if (u5.2 48 p1.toNatClampNeg) = (3 : Int32) then ((if g_inb p1 5 = true then (if (u5.2 49 p1.toNatClampNeg) ≤ u5.1 then ((if g_inb p1 5 = true then (some ((u5.2 49 p1.toNatClampNeg), u5.2)) else none)) else (some (u5.1, u5.2))) else none)) else if (u5.2 48 p1.toNatClampNeg) = (4 : Int32) then (some ((u5.1 / (2 : Int32)), u5.2)) else if (u5.2 48 p1.toNatClampNeg) = (5 : Int32) then ((if g_inb p2 12 = true then ((if g_inb p1 5 = true then (if (u5.2 49 p1.toNatClampNeg) < (u5.2 43 p2.toNatClampNeg) then (some ((((3 : Int32) * u5.1) / (4 : Int32)), u5.2)) else (some ((0 : Int32), u5.2))) else none)) else none)) else (some (u5.1, u5.2))) else none)))) else (some ((0 : Int32), u1.2))))
set_option maxHeartbeats 4000000 in
set_option maxRecDepth 100000 in
theorem z_X9_outWith {X : g_X} (hok : g_ok X)  {p1 p2 p3 : Int32} {M : g_M} {r : Int32 × g_M} (h : x_X9_outWith p1 p2 p3 M = some r) : g_Con X yX9_outWith cX9_outWith 5 (some .int) 3 69 [.inr 41, .inl p1, .inl p2, .inl p3] M r := by
  rw [x_X9_outWith] at h
  refine g_con hok (plainFor_of_name (by decide +kernel)) (Nat.le_of_ble_eq_true rfl) (go_to (lv2 := [some (.inr 41), some (.inl p1), some (.inl p2), some (.inl p3), none]) (own := RX9) ?_ (And.intro rfl (And.intro rfl (And.intro rfl (And.intro rfl trivial)))))
  refine go_aload_n (pc := 0) dX9_outWith_0 rfl ?_
  refine go_iload_n (pc := 1) dX9_outWith_1 rfl ?_
  refine go_iload_n (pc := 2) dX9_outWith_2 rfl ?_
  refine go_iload_n (pc := 3) dX9_outWith_3 rfl ?_
  obtain ⟨u1, c2, h⟩ := g_bd h
  refine go_callV (pc := 4) (as := [.inl p1, .inl p2, .inl p3]) (st := []) (r := u1.1) (M1 := u1.2) (z_X9_hangsWith hok  c2) cw_X9_hangsWith ml_X9_218 (show g_lay[41]? = some _ from rfl) rfl rfl (by decide) (Nat.le_of_ble_eq_true rfl) rfl dX9_outWith_4 ?_
  refine go_if_eq (pc := 7) (tgt := 12) dX9_outWith_7 (by decide) (fun e19 => ?_) (fun e19 => ?_)
  · replace h := (if_pos e19).symm.trans h
    refine go_iload_n (pc := 12) dX9_outWith_12 rfl ?_
    refine go_iload_n (pc := 13) dX9_outWith_13 rfl ?_
    refine go_imul (pc := 14) dX9_outWith_14 ?_
    refine go_aload_n (pc := 15) dX9_outWith_15 rfl ?_
    refine go_iload_n (pc := 16) dX9_outWith_16 rfl ?_
    refine go_iload_n (pc := 17) dX9_outWith_17 rfl ?_
    obtain ⟨u3, c4, h⟩ := g_bd h
    refine go_callV (pc := 18) (as := [.inl p1, .inl p2]) (st := [.inl (p3 * p3)]) (r := u3.1) (M1 := u3.2) (z_X9_needsAt hok  c4) cw_X9_needsAt ml_X9_214 (show g_lay[41]? = some _ from rfl) rfl rfl (by decide) (Nat.le_of_ble_eq_true rfl) rfl dX9_outWith_18 ?_
    refine go_isub (pc := 21) dX9_outWith_21 ?_
    obtain ⟨u5, c6, h⟩ := g_bd h
    refine go_callS (pc := 22) (as := [.inl ((p3 * p3) - u3.1)]) (st := []) (r := u5.1) (M1 := u5.2) (z_X9_rootOf hok  c6) cw_X9_rootOf ml_X9_221 (by decide) (Nat.le_of_ble_eq_true rfl) rfl dX9_outWith_22 ?_
    refine go_istore (pc := 25) (lv' := [some (.inr 41), some (.inl p1), some (.inl p2), some (.inl p3), some (.inl u5.1)]) dX9_outWith_25 (by decide) rfl ?_
    refine go_aload_n (pc := 27) dX9_outWith_27 rfl ?_
    refine gf_9_28 (pc := 28) dX9_outWith_28 ?_
    refine go_iload_n (pc := 31) dX9_outWith_31 rfl ?_
    obtain ⟨i7, h⟩ := g_gd h
    refine go_iald (pc := 32) (n := 5) rfl (g_inb_ok i7) dX9_outWith_32 ?_
    by_cases e14 : (u5.2 48 p1.toNatClampNeg) = (1 : Int32)
    · replace h := (if_pos e14).symm.trans h
      refine go_tabIn (pc := 33) (off := 35) (tgt := 68) dX9_outWith_33 (by rw [e14]; decide) (by rw [e14]; decide) (by rw [e14]; decide) (by decide) ?_
      refine go_iload (pc := 68) dX9_outWith_68 rfl ?_
      refine go_iconst (pc := 70) (v := (2 : Int32)) dX9_outWith_70 (by decide) ?_
      refine go_idiv (pc := 71) dX9_outWith_71 (by decide) ?_
      exact go_iret (pc := 72) (Option.some.inj h).symm rfl dX9_outWith_72 rfl
    · replace h := (if_neg e14).symm.trans h
      by_cases e15 : (u5.2 48 p1.toNatClampNeg) = (2 : Int32)
      · replace h := (if_pos e15).symm.trans h
        refine go_tabIn (pc := 33) (off := 40) (tgt := 73) dX9_outWith_33 (by rw [e15]; decide) (by rw [e15]; decide) (by rw [e15]; decide) (by decide) ?_
        refine go_iconst (pc := 73) (v := (3 : Int32)) dX9_outWith_73 (by decide) ?_
        refine go_iload (pc := 74) dX9_outWith_74 rfl ?_
        refine go_imul (pc := 76) dX9_outWith_76 ?_
        refine go_iconst (pc := 77) (v := (4 : Int32)) dX9_outWith_77 (by decide) ?_
        refine go_idiv (pc := 78) dX9_outWith_78 (by decide) ?_
        exact go_iret (pc := 79) (Option.some.inj h).symm rfl dX9_outWith_79 rfl
      · replace h := (if_neg e15).symm.trans h
        by_cases e16 : (u5.2 48 p1.toNatClampNeg) = (3 : Int32)
        · replace h := (if_pos e16).symm.trans h
          refine go_tabIn (pc := 33) (off := 47) (tgt := 80) dX9_outWith_33 (by rw [e16]; decide) (by rw [e16]; decide) (by rw [e16]; decide) (by decide) ?_
          refine go_iload (pc := 80) dX9_outWith_80 rfl ?_
          refine go_aload_n (pc := 82) dX9_outWith_82 rfl ?_
          refine gf_9_31 (pc := 83) dX9_outWith_83 ?_
          refine go_iload_n (pc := 86) dX9_outWith_86 rfl ?_
          obtain ⟨i8, h⟩ := g_gd h
          refine go_iald (pc := 87) (n := 5) rfl (g_inb_ok i8) dX9_outWith_87 ?_
          refine go_icmp_ge (pc := 88) (tgt := 96) dX9_outWith_88 (by decide) (fun e10 => ?_) (fun e10 => ?_)
          · replace h := (if_pos e10).symm.trans h
            refine go_aload_n (pc := 96) dX9_outWith_96 rfl ?_
            refine gf_9_31 (pc := 97) dX9_outWith_97 ?_
            refine go_iload_n (pc := 100) dX9_outWith_100 rfl ?_
            obtain ⟨i9, h⟩ := g_gd h
            refine go_iald (pc := 101) (n := 5) rfl (g_inb_ok i9) dX9_outWith_101 ?_
            exact go_iret (pc := 102) (Option.some.inj h).symm rfl dX9_outWith_102 rfl
          · replace h := (if_neg e10).symm.trans h
            refine go_iload (pc := 91) dX9_outWith_91 rfl ?_
            refine go_goto (pc := 93) (tgt := 102) dX9_outWith_93 (by decide) ?_
            exact go_iret (pc := 102) (Option.some.inj h).symm rfl dX9_outWith_102 rfl
        · replace h := (if_neg e16).symm.trans h
          by_cases e17 : (u5.2 48 p1.toNatClampNeg) = (4 : Int32)
          · replace h := (if_pos e17).symm.trans h
            refine go_tabIn (pc := 33) (off := 35) (tgt := 68) dX9_outWith_33 (by rw [e17]; decide) (by rw [e17]; decide) (by rw [e17]; decide) (by decide) ?_
            refine go_iload (pc := 68) dX9_outWith_68 rfl ?_
            refine go_iconst (pc := 70) (v := (2 : Int32)) dX9_outWith_70 (by decide) ?_
            refine go_idiv (pc := 71) dX9_outWith_71 (by decide) ?_
            exact go_iret (pc := 72) (Option.some.inj h).symm rfl dX9_outWith_72 rfl
          · replace h := (if_neg e17).symm.trans h
            by_cases e18 : (u5.2 48 p1.toNatClampNeg) = (5 : Int32)
            · replace h := (if_pos e18).symm.trans h
              refine go_tabIn (pc := 33) (off := 70) (tgt := 103) dX9_outWith_33 (by rw [e18]; decide) (by rw [e18]; decide) (by rw [e18]; decide) (by decide) ?_
              refine go_aload_n (pc := 103) dX9_outWith_103 rfl ?_
              refine gf_9_13 (pc := 104) dX9_outWith_104 ?_
              refine go_iload_n (pc := 107) dX9_outWith_107 rfl ?_
              obtain ⟨i11, h⟩ := g_gd h
              refine go_iald (pc := 108) (n := 12) rfl (g_inb_ok i11) dX9_outWith_108 ?_
              refine go_aload_n (pc := 109) dX9_outWith_109 rfl ?_
              refine gf_9_31 (pc := 110) dX9_outWith_110 ?_
              refine go_iload_n (pc := 113) dX9_outWith_113 rfl ?_
              obtain ⟨i12, h⟩ := g_gd h
              refine go_iald (pc := 114) (n := 5) rfl (g_inb_ok i12) dX9_outWith_114 ?_
              refine go_icmp_gt (pc := 115) (tgt := 122) dX9_outWith_115 (by decide) (fun e13 => ?_) (fun e13 => ?_)
              · replace h := (if_pos e13).symm.trans h
                refine go_iconst (pc := 122) (v := (3 : Int32)) dX9_outWith_122 (by decide) ?_
                refine go_iload (pc := 123) dX9_outWith_123 rfl ?_
                refine go_imul (pc := 125) dX9_outWith_125 ?_
                refine go_iconst (pc := 126) (v := (4 : Int32)) dX9_outWith_126 (by decide) ?_
                refine go_idiv (pc := 127) dX9_outWith_127 (by decide) ?_
                exact go_iret (pc := 128) (Option.some.inj h).symm rfl dX9_outWith_128 rfl
              · replace h := (if_neg e13).symm.trans h
                refine go_iconst (pc := 118) (v := (0 : Int32)) dX9_outWith_118 (by decide) ?_
                refine go_goto (pc := 119) (tgt := 128) dX9_outWith_119 (by decide) ?_
                exact go_iret (pc := 128) (Option.some.inj h).symm rfl dX9_outWith_128 rfl
            · replace h := (if_neg e18).symm.trans h
              refine go_tabOut (pc := 33) (tgt := 129) dX9_outWith_33 (by have q0 := g_out e14 (show (1 : Int32).toInt = 1 by decide); have q1 := g_out e15 (show (2 : Int32).toInt = 2 by decide); have q2 := g_out e16 (show (3 : Int32).toInt = 3 by decide); have q3 := g_out e17 (show (4 : Int32).toInt = 4 by decide); have q4 := g_out e18 (show (5 : Int32).toInt = 5 by decide); omega) (by decide) ?_
              refine go_iload (pc := 129) dX9_outWith_129 rfl ?_
              exact go_iret (pc := 131) (Option.some.inj h).symm rfl dX9_outWith_131 rfl
  · replace h := (if_neg e19).symm.trans h
    refine go_iconst (pc := 10) (v := (0 : Int32)) dX9_outWith_10 (by decide) ?_
    exact go_iret (pc := 11) (Option.some.inj h).symm rfl dX9_outWith_11 rfl
def x_X9_outAt  (p1 p2 : Int32) (M : g_M) : Option (Int32 × g_M) := ((if g_inb p1 5 = true then (((x_X9_outWith p1 p2 (M 52 p1.toNatClampNeg) M).bind fun u2 => some (u2.1, u2.2))) else none))
set_option maxHeartbeats 4000000 in
set_option maxRecDepth 100000 in
theorem z_X9_outAt {X : g_X} (hok : g_ok X)  {p1 p2 : Int32} {M : g_M} {r : Int32 × g_M} (h : x_X9_outAt p1 p2 M = some r) : g_Con X yX9_outAt cX9_outAt 3 (some .int) 4 93 [.inr 41, .inl p1, .inl p2] M r := by
  rw [x_X9_outAt] at h
  refine g_con hok (plainFor_of_name (by decide +kernel)) (Nat.le_of_ble_eq_true rfl) (go_to (lv2 := [some (.inr 41), some (.inl p1), some (.inl p2)]) (own := RX9) ?_ (And.intro rfl (And.intro rfl (And.intro rfl trivial))))
  refine go_aload_n (pc := 0) dX9_outAt_0 rfl ?_
  refine go_iload_n (pc := 1) dX9_outAt_1 rfl ?_
  refine go_iload_n (pc := 2) dX9_outAt_2 rfl ?_
  refine go_aload_n (pc := 3) dX9_outAt_3 rfl ?_
  refine gf_9_40 (pc := 4) dX9_outAt_4 ?_
  refine go_iload_n (pc := 7) dX9_outAt_7 rfl ?_
  obtain ⟨i1, h⟩ := g_gd h
  refine go_iald (pc := 8) (n := 5) rfl (g_inb_ok i1) dX9_outAt_8 ?_
  obtain ⟨u2, c3, h⟩ := g_bd h
  refine go_callV (pc := 9) (as := [.inl p1, .inl p2, .inl (M 52 p1.toNatClampNeg)]) (st := []) (r := u2.1) (M1 := u2.2) (z_X9_outWith hok  c3) cw_X9_outWith ml_X9_224 (show g_lay[41]? = some _ from rfl) rfl rfl (by decide) (Nat.le_of_ble_eq_true rfl) rfl dX9_outAt_9 ?_
  exact go_iret (pc := 12) (Option.some.inj h).symm rfl dX9_outAt_12 rfl
def x_X9_middle  (p1 : Int32) (M : g_M) : Option (Int32 × g_M) := (((x_X9_isOfTwo p1 M).bind fun u1 => if u1.1 = 0 then ((if g_inb p1 5 = true then ((if g_inb (u1.2 50 p1.toNatClampNeg) 6 = true then (some ((u1.2 45 (u1.2 50 p1.toNatClampNeg).toNatClampNeg), u1.2)) else none)) else none)) else ((if g_inb p1 5 = true then ((if g_inb (u1.2 50 p1.toNatClampNeg) 6 = true then ((if g_inb p1 5 = true then ((if g_inb (u1.2 51 p1.toNatClampNeg) 6 = true then (some ((((u1.2 45 (u1.2 50 p1.toNatClampNeg).toNatClampNeg) + (u1.2 45 (u1.2 51 p1.toNatClampNeg).toNatClampNeg)) / (2 : Int32)), u1.2)) else none)) else none)) else none)) else none))))
set_option maxHeartbeats 4000000 in
set_option maxRecDepth 100000 in
theorem z_X9_middle {X : g_X} (hok : g_ok X)  {p1 : Int32} {M : g_M} {r : Int32 × g_M} (h : x_X9_middle p1 M = some r) : g_Con X yX9_middle cX9_middle 2 (some .int) 1 21 [.inr 41, .inl p1] M r := by
  rw [x_X9_middle] at h
  refine g_con hok (plainFor_of_name (by decide +kernel)) (Nat.le_of_ble_eq_true rfl) (go_to (lv2 := [some (.inr 41), some (.inl p1)]) (own := RX9) ?_ (And.intro rfl (And.intro rfl trivial)))
  refine go_aload_n (pc := 0) dX9_middle_0 rfl ?_
  refine go_iload_n (pc := 1) dX9_middle_1 rfl ?_
  obtain ⟨u1, c2, h⟩ := g_bd h
  refine go_callV (pc := 2) (as := [.inl p1]) (st := []) (r := u1.1) (M1 := u1.2) (z_X9_isOfTwo hok  c2) cw_X9_isOfTwo ml_X9_227 (show g_lay[41]? = some _ from rfl) rfl rfl (by decide) (Nat.le_of_ble_eq_true rfl) rfl dX9_middle_2 ?_
  refine go_if_eq (pc := 5) (tgt := 36) dX9_middle_5 (by decide) (fun e9 => ?_) (fun e9 => ?_)
  · replace h := (if_pos e9).symm.trans h
    refine go_aload_n (pc := 36) dX9_middle_36 rfl ?_
    refine gf_9_19 (pc := 37) dX9_middle_37 ?_
    refine go_aload_n (pc := 40) dX9_middle_40 rfl ?_
    refine gf_9_34 (pc := 41) dX9_middle_41 ?_
    refine go_iload_n (pc := 44) dX9_middle_44 rfl ?_
    obtain ⟨i3, h⟩ := g_gd h
    refine go_iald (pc := 45) (n := 5) rfl (g_inb_ok i3) dX9_middle_45 ?_
    obtain ⟨i4, h⟩ := g_gd h
    refine go_iald (pc := 46) (n := 6) rfl (g_inb_ok i4) dX9_middle_46 ?_
    exact go_iret (pc := 47) (Option.some.inj h).symm rfl dX9_middle_47 rfl
  · replace h := (if_neg e9).symm.trans h
    refine go_aload_n (pc := 8) dX9_middle_8 rfl ?_
    refine gf_9_19 (pc := 9) dX9_middle_9 ?_
    refine go_aload_n (pc := 12) dX9_middle_12 rfl ?_
    refine gf_9_34 (pc := 13) dX9_middle_13 ?_
    refine go_iload_n (pc := 16) dX9_middle_16 rfl ?_
    obtain ⟨i5, h⟩ := g_gd h
    refine go_iald (pc := 17) (n := 5) rfl (g_inb_ok i5) dX9_middle_17 ?_
    obtain ⟨i6, h⟩ := g_gd h
    refine go_iald (pc := 18) (n := 6) rfl (g_inb_ok i6) dX9_middle_18 ?_
    refine go_aload_n (pc := 19) dX9_middle_19 rfl ?_
    refine gf_9_19 (pc := 20) dX9_middle_20 ?_
    refine go_aload_n (pc := 23) dX9_middle_23 rfl ?_
    refine gf_9_37 (pc := 24) dX9_middle_24 ?_
    refine go_iload_n (pc := 27) dX9_middle_27 rfl ?_
    obtain ⟨i7, h⟩ := g_gd h
    refine go_iald (pc := 28) (n := 5) rfl (g_inb_ok i7) dX9_middle_28 ?_
    obtain ⟨i8, h⟩ := g_gd h
    refine go_iald (pc := 29) (n := 6) rfl (g_inb_ok i8) dX9_middle_29 ?_
    refine go_iadd (pc := 30) dX9_middle_30 ?_
    refine go_iconst (pc := 31) (v := (2 : Int32)) dX9_middle_31 (by decide) ?_
    refine go_idiv (pc := 32) dX9_middle_32 (by decide) ?_
    refine go_goto (pc := 33) (tgt := 47) dX9_middle_33 (by decide) ?_
    exact go_iret (pc := 47) (Option.some.inj h).symm rfl dX9_middle_47 rfl
def x_X9_middleBy_L43   (v1 : Int32) (s0 : Int32) (M : g_M) : Option (Int32 × g_M) := (((x_X9_middle v1 M).bind fun u1 => some ((u1.1 + s0), u1.2)))
set_option maxHeartbeats 4000000 in
set_option maxRecDepth 100000 in
theorem z_X9_middleBy_L43 {X : g_X} (hok : g_ok X)  {r : Int32 × g_M}  {v1 : Int32} {s0 : Int32} {M : g_M} (h : x_X9_middleBy_L43   v1 s0 M = some r) : g_Go X cX9_middleBy RX9 5 (some .int) 5 115 r 43 [some (.inr 41), some (.inl v1), none, none, none] [.inl s0] M := by
  rw [x_X9_middleBy_L43] at h
  refine go_istore (pc := 43) (lv' := [some (.inr 41), some (.inl v1), none, none, some (.inl s0)]) dX9_middleBy_43 (by decide) rfl ?_
  refine go_aload_n (pc := 45) dX9_middleBy_45 rfl ?_
  refine go_iload_n (pc := 46) dX9_middleBy_46 rfl ?_
  obtain ⟨u1, c2, h⟩ := g_bd h
  refine go_callV (pc := 47) (as := [.inl v1]) (st := []) (r := u1.1) (M1 := u1.2) (z_X9_middle hok  c2) cw_X9_middle ml_X9_233 (show g_lay[41]? = some _ from rfl) rfl rfl (by decide) (Nat.le_of_ble_eq_true rfl) rfl dX9_middleBy_47 ?_
  refine go_iload (pc := 50) dX9_middleBy_50 rfl ?_
  refine go_iadd (pc := 52) dX9_middleBy_52 ?_
  exact go_iret (pc := 53) (Option.some.inj h).symm rfl dX9_middleBy_53 rfl
def x_X9_middleBy  (p1 p2 : Int32) (M : g_M) : Option (Int32 × g_M) := (((x_X9_outAt p1 p2 M).bind fun u3 => (if g_inb p2 12 = true then (if (u3.2 44 p2.toNatClampNeg) ≤ u3.1 then ((if g_inb p2 12 = true then (if (-u3.1) ≤ (u3.2 44 p2.toNatClampNeg) then ((if g_inb p2 12 = true then (x_X9_middleBy_L43   p1 (u3.2 44 p2.toNatClampNeg) u3.2) else none)) else (x_X9_middleBy_L43   p1 (-u3.1) u3.2)) else none)) else (x_X9_middleBy_L43   p1 u3.1 u3.2)) else none)))
set_option maxHeartbeats 4000000 in
set_option maxRecDepth 100000 in
theorem z_X9_middleBy {X : g_X} (hok : g_ok X)  {p1 p2 : Int32} {M : g_M} {r : Int32 × g_M} (h : x_X9_middleBy p1 p2 M = some r) : g_Con X yX9_middleBy cX9_middleBy 5 (some .int) 5 115 [.inr 41, .inl p1, .inl p2] M r := by
  rw [x_X9_middleBy] at h
  refine g_con hok (plainFor_of_name (by decide +kernel)) (Nat.le_of_ble_eq_true rfl) (go_to (lv2 := [some (.inr 41), some (.inl p1), some (.inl p2), none, none]) (own := RX9) ?_ (And.intro rfl (And.intro rfl (And.intro rfl trivial))))
  refine go_aload_n (pc := 0) dX9_middleBy_0 rfl ?_
  refine go_iload_n (pc := 1) dX9_middleBy_1 rfl ?_
  refine go_iload_n (pc := 2) dX9_middleBy_2 rfl ?_
  obtain ⟨u3, c4, h⟩ := g_bd h
  refine go_callV (pc := 3) (as := [.inl p1, .inl p2]) (st := []) (r := u3.1) (M1 := u3.2) (z_X9_outAt hok  c4) cw_X9_outAt ml_X9_230 (show g_lay[41]? = some _ from rfl) rfl rfl (by decide) (Nat.le_of_ble_eq_true rfl) rfl dX9_middleBy_3 ?_
  refine go_istore_n (pc := 6) (lv' := [some (.inr 41), some (.inl p1), some (.inl p2), some (.inl u3.1), none]) dX9_middleBy_6 (by decide) rfl ?_
  refine go_aload_n (pc := 7) dX9_middleBy_7 rfl ?_
  refine gf_9_16 (pc := 8) dX9_middleBy_8 ?_
  refine go_iload_n (pc := 11) dX9_middleBy_11 rfl ?_
  obtain ⟨i5, h⟩ := g_gd h
  refine go_iald (pc := 12) (n := 12) rfl (g_inb_ok i5) dX9_middleBy_12 ?_
  refine go_iload_n (pc := 13) dX9_middleBy_13 rfl ?_
  refine go_icmp_le (pc := 14) (tgt := 21) dX9_middleBy_14 (by decide) (fun e9 => ?_) (fun e9 => ?_)
  · replace h := (if_pos e9).symm.trans h
    refine go_aload_n (pc := 21) dX9_middleBy_21 rfl ?_
    refine gf_9_16 (pc := 22) dX9_middleBy_22 ?_
    refine go_iload_n (pc := 25) dX9_middleBy_25 rfl ?_
    obtain ⟨i6, h⟩ := g_gd h
    refine go_iald (pc := 26) (n := 12) rfl (g_inb_ok i6) dX9_middleBy_26 ?_
    refine go_iload_n (pc := 27) dX9_middleBy_27 rfl ?_
    refine go_ineg (pc := 28) dX9_middleBy_28 ?_
    refine go_icmp_ge (pc := 29) (tgt := 37) dX9_middleBy_29 (by decide) (fun e8 => ?_) (fun e8 => ?_)
    · replace h := (if_pos e8).symm.trans h
      refine go_aload_n (pc := 37) dX9_middleBy_37 rfl ?_
      refine gf_9_16 (pc := 38) dX9_middleBy_38 ?_
      refine go_iload_n (pc := 41) dX9_middleBy_41 rfl ?_
      obtain ⟨i7, h⟩ := g_gd h
      refine go_iald (pc := 42) (n := 12) rfl (g_inb_ok i7) dX9_middleBy_42 ?_
      exact go_to (z_X9_middleBy_L43 hok   h) (And.intro rfl (And.intro rfl trivial))
    · replace h := (if_neg e8).symm.trans h
      refine go_iload_n (pc := 32) dX9_middleBy_32 rfl ?_
      refine go_ineg (pc := 33) dX9_middleBy_33 ?_
      refine go_goto (pc := 34) (tgt := 43) dX9_middleBy_34 (by decide) ?_
      exact go_to (z_X9_middleBy_L43 hok   h) (And.intro rfl (And.intro rfl trivial))
  · replace h := (if_neg e9).symm.trans h
    refine go_iload_n (pc := 17) dX9_middleBy_17 rfl ?_
    refine go_goto (pc := 18) (tgt := 43) dX9_middleBy_18 (by decide) ?_
    exact go_to (z_X9_middleBy_L43 hok   h) (And.intro rfl (And.intro rfl trivial))
def x_X9_tide  (p1 : Int32) (M : g_M) : Option (Int32 × g_M) := (((x_X9_isHour p1 M).bind fun u1 => if u1.1 = 0 then (((x_X9_no (-1 : Int32) u1.2).bind fun u3 => some (u3.1, u3.2))) else ((if g_inb p1 12 = true then (some ((u1.2 43 p1.toNatClampNeg), u1.2)) else none))))
set_option maxHeartbeats 4000000 in
set_option maxRecDepth 100000 in
theorem z_X9_tide {X : g_X} (hok : g_ok X)  {p1 : Int32} {M : g_M} {r : Int32 × g_M} (h : x_X9_tide p1 M = some r) : g_Con X yX9_tide cX9_tide 2 (some .int) 1 21 [.inr 41, .inl p1] M r := by
  rw [x_X9_tide] at h
  refine g_con hok (plainFor_of_name (by decide +kernel)) (Nat.le_of_ble_eq_true rfl) (go_to (lv2 := [some (.inr 41), some (.inl p1)]) (own := RX9) ?_ (And.intro rfl (And.intro rfl trivial)))
  refine go_iload_n (pc := 0) dX9_tide_0 rfl ?_
  obtain ⟨u1, c2, h⟩ := g_bd h
  refine go_callS (pc := 1) (as := [.inl p1]) (st := []) (r := u1.1) (M1 := u1.2) (z_X9_isHour hok  c2) cw_X9_isHour ml_X9_159 (by decide) (Nat.le_of_ble_eq_true rfl) rfl dX9_tide_1 ?_
  refine go_if_eq (pc := 4) (tgt := 16) dX9_tide_4 (by decide) (fun e6 => ?_) (fun e6 => ?_)
  · replace h := (if_pos e6).symm.trans h
    refine go_aload_n (pc := 16) dX9_tide_16 rfl ?_
    refine go_iconst (pc := 17) (v := (-1 : Int32)) dX9_tide_17 (by decide) ?_
    obtain ⟨u3, c4, h⟩ := g_bd h
    refine go_callV (pc := 18) (as := [.inl (-1 : Int32)]) (st := []) (r := u3.1) (M1 := u3.2) (z_X9_no hok  c4) cw_X9_no ml_X9_124 (show g_lay[41]? = some _ from rfl) rfl rfl (by decide) (Nat.le_of_ble_eq_true rfl) rfl dX9_tide_18 ?_
    exact go_iret (pc := 21) (Option.some.inj h).symm rfl dX9_tide_21 rfl
  · replace h := (if_neg e6).symm.trans h
    refine go_aload_n (pc := 7) dX9_tide_7 rfl ?_
    refine gf_9_13 (pc := 8) dX9_tide_8 ?_
    refine go_iload_n (pc := 11) dX9_tide_11 rfl ?_
    obtain ⟨i5, h⟩ := g_gd h
    refine go_iald (pc := 12) (n := 12) rfl (g_inb_ok i5) dX9_tide_12 ?_
    refine go_goto (pc := 13) (tgt := 21) dX9_tide_13 (by decide) ?_
    exact go_iret (pc := 21) (Option.some.inj h).symm rfl dX9_tide_21 rfl
def x_X9_wind  (p1 : Int32) (M : g_M) : Option (Int32 × g_M) := (((x_X9_isHour p1 M).bind fun u1 => if u1.1 = 0 then (((x_X9_lower (-1 : Int32) u1.2).bind fun u3 => some (u3.1, u3.2))) else ((if g_inb p1 12 = true then (some ((u1.2 44 p1.toNatClampNeg), u1.2)) else none))))
set_option maxHeartbeats 4000000 in
set_option maxRecDepth 100000 in
theorem z_X9_wind {X : g_X} (hok : g_ok X)  {p1 : Int32} {M : g_M} {r : Int32 × g_M} (h : x_X9_wind p1 M = some r) : g_Con X yX9_wind cX9_wind 2 (some .int) 1 21 [.inr 41, .inl p1] M r := by
  rw [x_X9_wind] at h
  refine g_con hok (plainFor_of_name (by decide +kernel)) (Nat.le_of_ble_eq_true rfl) (go_to (lv2 := [some (.inr 41), some (.inl p1)]) (own := RX9) ?_ (And.intro rfl (And.intro rfl trivial)))
  refine go_iload_n (pc := 0) dX9_wind_0 rfl ?_
  obtain ⟨u1, c2, h⟩ := g_bd h
  refine go_callS (pc := 1) (as := [.inl p1]) (st := []) (r := u1.1) (M1 := u1.2) (z_X9_isHour hok  c2) cw_X9_isHour ml_X9_159 (by decide) (Nat.le_of_ble_eq_true rfl) rfl dX9_wind_1 ?_
  refine go_if_eq (pc := 4) (tgt := 16) dX9_wind_4 (by decide) (fun e6 => ?_) (fun e6 => ?_)
  · replace h := (if_pos e6).symm.trans h
    refine go_aload_n (pc := 16) dX9_wind_16 rfl ?_
    refine go_iconst (pc := 17) (v := (-1 : Int32)) dX9_wind_17 (by decide) ?_
    obtain ⟨u3, c4, h⟩ := g_bd h
    refine go_callV (pc := 18) (as := [.inl (-1 : Int32)]) (st := []) (r := u3.1) (M1 := u3.2) (z_X9_lower hok  c4) cw_X9_lower ml_X9_236 (show g_lay[41]? = some _ from rfl) rfl rfl (by decide) (Nat.le_of_ble_eq_true rfl) rfl dX9_wind_18 ?_
    exact go_iret (pc := 21) (Option.some.inj h).symm rfl dX9_wind_21 rfl
  · replace h := (if_neg e6).symm.trans h
    refine go_aload_n (pc := 7) dX9_wind_7 rfl ?_
    refine gf_9_16 (pc := 8) dX9_wind_8 ?_
    refine go_iload_n (pc := 11) dX9_wind_11 rfl ?_
    obtain ⟨i5, h⟩ := g_gd h
    refine go_iald (pc := 12) (n := 12) rfl (g_inb_ok i5) dX9_wind_12 ?_
    refine go_goto (pc := 13) (tgt := 21) dX9_wind_13 (by decide) ?_
    exact go_iret (pc := 21) (Option.some.inj h).symm rfl dX9_wind_21 rfl
def x_X9_rises_L18   (v1 : Int32) (v2 : Int32) (s0 : Int32) (M : g_M) : Option (Int32 × g_M) := (if s0 = 0 then ((if g_inb v1 12 = true then ((if g_inb v1 12 = true then (some ((M 43 v1.toNatClampNeg), (g_upd M 43 v1.toNatClampNeg v2))) else none)) else none)) else (((x_X9_no s0 M).bind fun u3 => some (u3.1, u3.2))))
set_option maxHeartbeats 4000000 in
set_option maxRecDepth 100000 in
theorem z_X9_rises_L18 {X : g_X} (hok : g_ok X)  {r : Int32 × g_M}  {v1 : Int32} {v2 : Int32} {s0 : Int32} {M : g_M} (h : x_X9_rises_L18   v1 v2 s0 M = some r) : g_Go X cX9_rises RX9 5 (some .int) 1 22 r 18 [some (.inr 41), some (.inl v1), some (.inl v2), none, none] [.inl s0] M := by
  rw [x_X9_rises_L18] at h
  refine go_istore_n (pc := 18) (lv' := [some (.inr 41), some (.inl v1), some (.inl v2), some (.inl s0), none]) dX9_rises_18 (by decide) rfl ?_
  refine go_iload_n (pc := 19) dX9_rises_19 rfl ?_
  refine go_if_eq (pc := 20) (tgt := 29) dX9_rises_20 (by decide) (fun e5 => ?_) (fun e5 => ?_)
  · replace h := (if_pos e5).symm.trans h
    refine go_aload_n (pc := 29) dX9_rises_29 rfl ?_
    refine gf_9_13 (pc := 30) dX9_rises_30 ?_
    refine go_iload_n (pc := 33) dX9_rises_33 rfl ?_
    obtain ⟨i1, h⟩ := g_gd h
    refine go_iald (pc := 34) (n := 12) rfl (g_inb_ok i1) dX9_rises_34 ?_
    refine go_istore (pc := 35) (lv' := [some (.inr 41), some (.inl v1), some (.inl v2), some (.inl s0), some (.inl (M 43 v1.toNatClampNeg))]) dX9_rises_35 (by decide) rfl ?_
    refine go_aload_n (pc := 37) dX9_rises_37 rfl ?_
    refine gf_9_13 (pc := 38) dX9_rises_38 ?_
    refine go_iload_n (pc := 41) dX9_rises_41 rfl ?_
    refine go_iload_n (pc := 42) dX9_rises_42 rfl ?_
    obtain ⟨i2, h⟩ := g_gd h
    refine go_iast (pc := 43) (n := 12) rfl (g_inb_ok i2) dX9_rises_43 ?_
    refine go_iload (pc := 44) dX9_rises_44 rfl ?_
    exact go_iret (pc := 46) (Option.some.inj h).symm rfl dX9_rises_46 rfl
  · replace h := (if_neg e5).symm.trans h
    refine go_aload_n (pc := 23) dX9_rises_23 rfl ?_
    refine go_iload_n (pc := 24) dX9_rises_24 rfl ?_
    obtain ⟨u3, c4, h⟩ := g_bd h
    refine go_callV (pc := 25) (as := [.inl s0]) (st := []) (r := u3.1) (M1 := u3.2) (z_X9_no hok  c4) cw_X9_no ml_X9_124 (show g_lay[41]? = some _ from rfl) rfl rfl (by decide) (Nat.le_of_ble_eq_true rfl) rfl dX9_rises_25 ?_
    exact go_iret (pc := 28) (Option.some.inj h).symm rfl dX9_rises_28 rfl
def x_X9_rises  (p1 p2 : Int32) (M : g_M) : Option (Int32 × g_M) := (((x_X9_isHour p1 M).bind fun u6 => if u6.1 = 0 then (x_X9_rises_L18   p1 p2 (-1 : Int32) u6.2) else (((x_X9_bound p2 (0 : Int32) (40 : Int32) u6.2).bind fun u8 => x_X9_rises_L18   p1 p2 u8.1 u8.2))))
set_option maxHeartbeats 4000000 in
set_option maxRecDepth 100000 in
theorem z_X9_rises {X : g_X} (hok : g_ok X)  {p1 p2 : Int32} {M : g_M} {r : Int32 × g_M} (h : x_X9_rises p1 p2 M = some r) : g_Con X yX9_rises cX9_rises 5 (some .int) 1 22 [.inr 41, .inl p1, .inl p2] M r := by
  rw [x_X9_rises] at h
  refine g_con hok (plainFor_of_name (by decide +kernel)) (Nat.le_of_ble_eq_true rfl) (go_to (lv2 := [some (.inr 41), some (.inl p1), some (.inl p2), none, none]) (own := RX9) ?_ (And.intro rfl (And.intro rfl (And.intro rfl trivial))))
  refine go_iload_n (pc := 0) dX9_rises_0 rfl ?_
  obtain ⟨u6, c7, h⟩ := g_bd h
  refine go_callS (pc := 1) (as := [.inl p1]) (st := []) (r := u6.1) (M1 := u6.2) (z_X9_isHour hok  c7) cw_X9_isHour ml_X9_159 (by decide) (Nat.le_of_ble_eq_true rfl) rfl dX9_rises_1 ?_
  refine go_if_ne (pc := 4) (tgt := 11) dX9_rises_4 (by decide) (fun e10 => ?_) (fun e10 => ?_)
  · replace h := (if_neg e10).symm.trans h
    refine go_iload_n (pc := 11) dX9_rises_11 rfl ?_
    refine go_iconst (pc := 12) (v := (0 : Int32)) dX9_rises_12 (by decide) ?_
    refine go_bipush (pc := 13) (v := (40 : Int32)) dX9_rises_13 (by decide) ?_
    obtain ⟨u8, c9, h⟩ := g_bd h
    refine go_callS (pc := 15) (as := [.inl p2, .inl (0 : Int32), .inl (40 : Int32)]) (st := []) (r := u8.1) (M1 := u8.2) (z_X9_bound hok  c9) cw_X9_bound ml_X9_117 (by decide) (Nat.le_of_ble_eq_true rfl) rfl dX9_rises_15 ?_
    exact go_to (z_X9_rises_L18 hok   h) (And.intro rfl (And.intro rfl (And.intro rfl trivial)))
  · replace h := (if_pos e10).symm.trans h
    refine go_iconst (pc := 7) (v := (-1 : Int32)) dX9_rises_7 (by decide) ?_
    refine go_goto (pc := 8) (tgt := 18) dX9_rises_8 (by decide) ?_
    exact go_to (z_X9_rises_L18 hok   h) (And.intro rfl (And.intro rfl (And.intro rfl trivial)))
def x_X9_ring  (p1 p2 : Int32) (M : g_M) : Option (Int32 × g_M) := (((x_X9_isRing p1 M).bind fun u1 => if u1.1 = 0 then (((x_X9_no (-1 : Int32) u1.2).bind fun u11 => some (u11.1, u11.2))) else (((x_X9_isIn p2 (0 : Int32) (1 : Int32) u1.2).bind fun u3 => if u3.1 = 0 then (((x_X9_no (-2 : Int32) u3.2).bind fun u8 => some (u8.1, u8.2))) else (if p2 = 0 then ((if g_inb p1 6 = true then (some ((u3.2 45 p1.toNatClampNeg), u3.2)) else none)) else ((if g_inb p1 6 = true then (some ((u3.2 46 p1.toNatClampNeg), u3.2)) else none)))))))
set_option maxHeartbeats 4000000 in
set_option maxRecDepth 100000 in
theorem z_X9_ring {X : g_X} (hok : g_ok X)  {p1 p2 : Int32} {M : g_M} {r : Int32 × g_M} (h : x_X9_ring p1 p2 M = some r) : g_Con X yX9_ring cX9_ring 3 (some .int) 1 22 [.inr 41, .inl p1, .inl p2] M r := by
  rw [x_X9_ring] at h
  refine g_con hok (plainFor_of_name (by decide +kernel)) (Nat.le_of_ble_eq_true rfl) (go_to (lv2 := [some (.inr 41), some (.inl p1), some (.inl p2)]) (own := RX9) ?_ (And.intro rfl (And.intro rfl (And.intro rfl trivial))))
  refine go_aload_n (pc := 0) dX9_ring_0 rfl ?_
  refine go_iload_n (pc := 1) dX9_ring_1 rfl ?_
  obtain ⟨u1, c2, h⟩ := g_bd h
  refine go_callV (pc := 2) (as := [.inl p1]) (st := []) (r := u1.1) (M1 := u1.2) (z_X9_isRing hok  c2) cw_X9_isRing ml_X9_156 (show g_lay[41]? = some _ from rfl) rfl rfl (by decide) (Nat.le_of_ble_eq_true rfl) rfl dX9_ring_2 ?_
  refine go_if_ne (pc := 5) (tgt := 14) dX9_ring_5 (by decide) (fun e13 => ?_) (fun e13 => ?_)
  · replace h := (if_neg e13).symm.trans h
    refine go_iload_n (pc := 14) dX9_ring_14 rfl ?_
    refine go_iconst (pc := 15) (v := (0 : Int32)) dX9_ring_15 (by decide) ?_
    refine go_iconst (pc := 16) (v := (1 : Int32)) dX9_ring_16 (by decide) ?_
    obtain ⟨u3, c4, h⟩ := g_bd h
    refine go_callS (pc := 17) (as := [.inl p2, .inl (0 : Int32), .inl (1 : Int32)]) (st := []) (r := u3.1) (M1 := u3.2) (z_X9_isIn hok  c4) cw_X9_isIn ml_X9_135 (by decide) (Nat.le_of_ble_eq_true rfl) rfl dX9_ring_17 ?_
    refine go_if_ne (pc := 20) (tgt := 30) dX9_ring_20 (by decide) (fun e10 => ?_) (fun e10 => ?_)
    · replace h := (if_neg e10).symm.trans h
      refine go_iload_n (pc := 30) dX9_ring_30 rfl ?_
      refine go_if_ne (pc := 31) (tgt := 43) dX9_ring_31 (by decide) (fun e7 => ?_) (fun e7 => ?_)
      · replace h := (if_neg e7).symm.trans h
        refine go_aload_n (pc := 43) dX9_ring_43 rfl ?_
        refine gf_9_22 (pc := 44) dX9_ring_44 ?_
        refine go_iload_n (pc := 47) dX9_ring_47 rfl ?_
        obtain ⟨i5, h⟩ := g_gd h
        refine go_iald (pc := 48) (n := 6) rfl (g_inb_ok i5) dX9_ring_48 ?_
        exact go_iret (pc := 49) (Option.some.inj h).symm rfl dX9_ring_49 rfl
      · replace h := (if_pos e7).symm.trans h
        refine go_aload_n (pc := 34) dX9_ring_34 rfl ?_
        refine gf_9_19 (pc := 35) dX9_ring_35 ?_
        refine go_iload_n (pc := 38) dX9_ring_38 rfl ?_
        obtain ⟨i6, h⟩ := g_gd h
        refine go_iald (pc := 39) (n := 6) rfl (g_inb_ok i6) dX9_ring_39 ?_
        refine go_goto (pc := 40) (tgt := 49) dX9_ring_40 (by decide) ?_
        exact go_iret (pc := 49) (Option.some.inj h).symm rfl dX9_ring_49 rfl
    · replace h := (if_pos e10).symm.trans h
      refine go_aload_n (pc := 23) dX9_ring_23 rfl ?_
      refine go_bipush (pc := 24) (v := (-2 : Int32)) dX9_ring_24 (by decide) ?_
      obtain ⟨u8, c9, h⟩ := g_bd h
      refine go_callV (pc := 26) (as := [.inl (-2 : Int32)]) (st := []) (r := u8.1) (M1 := u8.2) (z_X9_no hok  c9) cw_X9_no ml_X9_124 (show g_lay[41]? = some _ from rfl) rfl rfl (by decide) (Nat.le_of_ble_eq_true rfl) rfl dX9_ring_26 ?_
      exact go_iret (pc := 29) (Option.some.inj h).symm rfl dX9_ring_29 rfl
  · replace h := (if_pos e13).symm.trans h
    refine go_aload_n (pc := 8) dX9_ring_8 rfl ?_
    refine go_iconst (pc := 9) (v := (-1 : Int32)) dX9_ring_9 (by decide) ?_
    obtain ⟨u11, c12, h⟩ := g_bd h
    refine go_callV (pc := 10) (as := [.inl (-1 : Int32)]) (st := []) (r := u11.1) (M1 := u11.2) (z_X9_no hok  c12) cw_X9_no ml_X9_124 (show g_lay[41]? = some _ from rfl) rfl rfl (by decide) (Nat.le_of_ble_eq_true rfl) rfl dX9_ring_10 ?_
    exact go_iret (pc := 13) (Option.some.inj h).symm rfl dX9_ring_13 rfl
def x_X9_boat  (p1 p2 : Int32) (M : g_M) : Option (Int32 × g_M) := (((x_X9_isBoat p1 M).bind fun u1 => if u1.1 = 0 then (((x_X9_no (-1 : Int32) u1.2).bind fun u19 => some (u19.1, u19.2))) else (if p2 = (0 : Int32) then ((if g_inb p1 5 = true then (some ((u1.2 48 p1.toNatClampNeg), u1.2)) else none)) else if p2 = (1 : Int32) then ((if g_inb p1 5 = true then (some ((u1.2 49 p1.toNatClampNeg), u1.2)) else none)) else if p2 = (2 : Int32) then ((if g_inb p1 5 = true then (some ((u1.2 50 p1.toNatClampNeg), u1.2)) else none)) else if p2 = (3 : Int32) then ((if g_inb p1 5 = true then (some ((u1.2 51 p1.toNatClampNeg), u1.2)) else none)) else if p2 = (4 : Int32) then ((if g_inb p1 5 = true then (some ((u1.2 52 p1.toNatClampNeg), u1.2)) else none)) else if p2 = (5 : Int32) then ((if g_inb p1 5 = true then (some ((u1.2 53 p1.toNatClampNeg), u1.2)) else none)) else if p2 = (6 : Int32) then ((if g_inb p1 5 = true then (some ((u1.2 54 p1.toNatClampNeg), u1.2)) else none)) else (((x_X9_no (-2 : Int32) u1.2).bind fun u10 => some (u10.1, u10.2))))))
set_option maxHeartbeats 4000000 in
set_option maxRecDepth 100000 in
theorem z_X9_boat {X : g_X} (hok : g_ok X)  {p1 p2 : Int32} {M : g_M} {r : Int32 × g_M} (h : x_X9_boat p1 p2 M = some r) : g_Con X yX9_boat cX9_boat 3 (some .int) 1 21 [.inr 41, .inl p1, .inl p2] M r := by
  rw [x_X9_boat] at h
  refine g_con hok (plainFor_of_name (by decide +kernel)) (Nat.le_of_ble_eq_true rfl) (go_to (lv2 := [some (.inr 41), some (.inl p1), some (.inl p2)]) (own := RX9) ?_ (And.intro rfl (And.intro rfl (And.intro rfl trivial))))
  refine go_aload_n (pc := 0) dX9_boat_0 rfl ?_
  refine go_iload_n (pc := 1) dX9_boat_1 rfl ?_
  obtain ⟨u1, c2, h⟩ := g_bd h
  refine go_callV (pc := 2) (as := [.inl p1]) (st := []) (r := u1.1) (M1 := u1.2) (z_X9_isBoat hok  c2) cw_X9_isBoat ml_X9_168 (show g_lay[41]? = some _ from rfl) rfl rfl (by decide) (Nat.le_of_ble_eq_true rfl) rfl dX9_boat_2 ?_
  refine go_if_ne (pc := 5) (tgt := 14) dX9_boat_5 (by decide) (fun e21 => ?_) (fun e21 => ?_)
  · replace h := (if_neg e21).symm.trans h
    refine go_iload_n (pc := 14) dX9_boat_14 rfl ?_
    by_cases e12 : p2 = (0 : Int32)
    · replace h := (if_pos e12).symm.trans h
      refine go_tabIn (pc := 15) (off := 41) (tgt := 56) dX9_boat_15 (by rw [e12]; decide) (by rw [e12]; decide) (by rw [e12]; decide) (by decide) ?_
      refine go_aload_n (pc := 56) dX9_boat_56 rfl ?_
      refine gf_9_28 (pc := 57) dX9_boat_57 ?_
      refine go_iload_n (pc := 60) dX9_boat_60 rfl ?_
      obtain ⟨i3, h⟩ := g_gd h
      refine go_iald (pc := 61) (n := 5) rfl (g_inb_ok i3) dX9_boat_61 ?_
      exact go_iret (pc := 62) (Option.some.inj h).symm rfl dX9_boat_62 rfl
    · replace h := (if_neg e12).symm.trans h
      by_cases e13 : p2 = (1 : Int32)
      · replace h := (if_pos e13).symm.trans h
        refine go_tabIn (pc := 15) (off := 48) (tgt := 63) dX9_boat_15 (by rw [e13]; decide) (by rw [e13]; decide) (by rw [e13]; decide) (by decide) ?_
        refine go_aload_n (pc := 63) dX9_boat_63 rfl ?_
        refine gf_9_31 (pc := 64) dX9_boat_64 ?_
        refine go_iload_n (pc := 67) dX9_boat_67 rfl ?_
        obtain ⟨i4, h⟩ := g_gd h
        refine go_iald (pc := 68) (n := 5) rfl (g_inb_ok i4) dX9_boat_68 ?_
        exact go_iret (pc := 69) (Option.some.inj h).symm rfl dX9_boat_69 rfl
      · replace h := (if_neg e13).symm.trans h
        by_cases e14 : p2 = (2 : Int32)
        · replace h := (if_pos e14).symm.trans h
          refine go_tabIn (pc := 15) (off := 55) (tgt := 70) dX9_boat_15 (by rw [e14]; decide) (by rw [e14]; decide) (by rw [e14]; decide) (by decide) ?_
          refine go_aload_n (pc := 70) dX9_boat_70 rfl ?_
          refine gf_9_34 (pc := 71) dX9_boat_71 ?_
          refine go_iload_n (pc := 74) dX9_boat_74 rfl ?_
          obtain ⟨i5, h⟩ := g_gd h
          refine go_iald (pc := 75) (n := 5) rfl (g_inb_ok i5) dX9_boat_75 ?_
          exact go_iret (pc := 76) (Option.some.inj h).symm rfl dX9_boat_76 rfl
        · replace h := (if_neg e14).symm.trans h
          by_cases e15 : p2 = (3 : Int32)
          · replace h := (if_pos e15).symm.trans h
            refine go_tabIn (pc := 15) (off := 62) (tgt := 77) dX9_boat_15 (by rw [e15]; decide) (by rw [e15]; decide) (by rw [e15]; decide) (by decide) ?_
            refine go_aload_n (pc := 77) dX9_boat_77 rfl ?_
            refine gf_9_37 (pc := 78) dX9_boat_78 ?_
            refine go_iload_n (pc := 81) dX9_boat_81 rfl ?_
            obtain ⟨i6, h⟩ := g_gd h
            refine go_iald (pc := 82) (n := 5) rfl (g_inb_ok i6) dX9_boat_82 ?_
            exact go_iret (pc := 83) (Option.some.inj h).symm rfl dX9_boat_83 rfl
          · replace h := (if_neg e15).symm.trans h
            by_cases e16 : p2 = (4 : Int32)
            · replace h := (if_pos e16).symm.trans h
              refine go_tabIn (pc := 15) (off := 69) (tgt := 84) dX9_boat_15 (by rw [e16]; decide) (by rw [e16]; decide) (by rw [e16]; decide) (by decide) ?_
              refine go_aload_n (pc := 84) dX9_boat_84 rfl ?_
              refine gf_9_40 (pc := 85) dX9_boat_85 ?_
              refine go_iload_n (pc := 88) dX9_boat_88 rfl ?_
              obtain ⟨i7, h⟩ := g_gd h
              refine go_iald (pc := 89) (n := 5) rfl (g_inb_ok i7) dX9_boat_89 ?_
              exact go_iret (pc := 90) (Option.some.inj h).symm rfl dX9_boat_90 rfl
            · replace h := (if_neg e16).symm.trans h
              by_cases e17 : p2 = (5 : Int32)
              · replace h := (if_pos e17).symm.trans h
                refine go_tabIn (pc := 15) (off := 76) (tgt := 91) dX9_boat_15 (by rw [e17]; decide) (by rw [e17]; decide) (by rw [e17]; decide) (by decide) ?_
                refine go_aload_n (pc := 91) dX9_boat_91 rfl ?_
                refine gf_9_43 (pc := 92) dX9_boat_92 ?_
                refine go_iload_n (pc := 95) dX9_boat_95 rfl ?_
                obtain ⟨i8, h⟩ := g_gd h
                refine go_iald (pc := 96) (n := 5) rfl (g_inb_ok i8) dX9_boat_96 ?_
                exact go_iret (pc := 97) (Option.some.inj h).symm rfl dX9_boat_97 rfl
              · replace h := (if_neg e17).symm.trans h
                by_cases e18 : p2 = (6 : Int32)
                · replace h := (if_pos e18).symm.trans h
                  refine go_tabIn (pc := 15) (off := 83) (tgt := 98) dX9_boat_15 (by rw [e18]; decide) (by rw [e18]; decide) (by rw [e18]; decide) (by decide) ?_
                  refine go_aload_n (pc := 98) dX9_boat_98 rfl ?_
                  refine gf_9_46 (pc := 99) dX9_boat_99 ?_
                  refine go_iload_n (pc := 102) dX9_boat_102 rfl ?_
                  obtain ⟨i9, h⟩ := g_gd h
                  refine go_iald (pc := 103) (n := 5) rfl (g_inb_ok i9) dX9_boat_103 ?_
                  exact go_iret (pc := 104) (Option.some.inj h).symm rfl dX9_boat_104 rfl
                · replace h := (if_neg e18).symm.trans h
                  refine go_tabOut (pc := 15) (tgt := 105) dX9_boat_15 (by have q0 := g_out e12 (show (0 : Int32).toInt = 0 by decide); have q1 := g_out e13 (show (1 : Int32).toInt = 1 by decide); have q2 := g_out e14 (show (2 : Int32).toInt = 2 by decide); have q3 := g_out e15 (show (3 : Int32).toInt = 3 by decide); have q4 := g_out e16 (show (4 : Int32).toInt = 4 by decide); have q5 := g_out e17 (show (5 : Int32).toInt = 5 by decide); have q6 := g_out e18 (show (6 : Int32).toInt = 6 by decide); omega) (by decide) ?_
                  refine go_aload_n (pc := 105) dX9_boat_105 rfl ?_
                  refine go_bipush (pc := 106) (v := (-2 : Int32)) dX9_boat_106 (by decide) ?_
                  obtain ⟨u10, c11, h⟩ := g_bd h
                  refine go_callV (pc := 108) (as := [.inl (-2 : Int32)]) (st := []) (r := u10.1) (M1 := u10.2) (z_X9_no hok  c11) cw_X9_no ml_X9_124 (show g_lay[41]? = some _ from rfl) rfl rfl (by decide) (Nat.le_of_ble_eq_true rfl) rfl dX9_boat_108 ?_
                  exact go_iret (pc := 111) (Option.some.inj h).symm rfl dX9_boat_111 rfl
  · replace h := (if_pos e21).symm.trans h
    refine go_aload_n (pc := 8) dX9_boat_8 rfl ?_
    refine go_iconst (pc := 9) (v := (-1 : Int32)) dX9_boat_9 (by decide) ?_
    obtain ⟨u19, c20, h⟩ := g_bd h
    refine go_callV (pc := 10) (as := [.inl (-1 : Int32)]) (st := []) (r := u19.1) (M1 := u19.2) (z_X9_no hok  c20) cw_X9_no ml_X9_124 (show g_lay[41]? = some _ from rfl) rfl rfl (by decide) (Nat.le_of_ble_eq_true rfl) rfl dX9_boat_10 ?_
    exact go_iret (pc := 13) (Option.some.inj h).symm rfl dX9_boat_13 rfl
def x_X9_keepsPaid_L3   : Nat → Int32 → Int32 → g_M → Option (Int32 × g_M)
  | 0, _, _, _ => none
  | n + 1, v1, v2, M => (if v2 ≤ 0 then ((if g_inb v1 5 = true then (if (8 : Int32) ≤ ((g_upd (g_upd M 62 (0 : Int32).toNatClampNeg v1) 63 (0 : Int32).toNatClampNeg ((g_upd M 62 (0 : Int32).toNatClampNeg v1) 52 v1.toNatClampNeg)) 41 33) then (some (0, (g_upd (g_upd (g_upd M 62 (0 : Int32).toNatClampNeg v1) 63 (0 : Int32).toNatClampNeg ((g_upd M 62 (0 : Int32).toNatClampNeg v1) 52 v1.toNatClampNeg)) 41 33 (8 : Int32)))) else (some (0, (g_upd (g_upd (g_upd M 62 (0 : Int32).toNatClampNeg v1) 63 (0 : Int32).toNatClampNeg ((g_upd M 62 (0 : Int32).toNatClampNeg v1) 52 v1.toNatClampNeg)) 41 33 (((g_upd (g_upd M 62 (0 : Int32).toNatClampNeg v1) 63 (0 : Int32).toNatClampNeg ((g_upd M 62 (0 : Int32).toNatClampNeg v1) 52 v1.toNatClampNeg)) 41 33) + (1 : Int32)))))) else none)) else ((if g_inb (v2 - (1 : Int32)) 8 = true then ((if g_inb v2 8 = true then ((if g_inb (v2 - (1 : Int32)) 8 = true then ((if g_inb v2 8 = true then (x_X9_keepsPaid_L3   n v1 (v2 + (-1 : Int32)) (g_upd (g_upd M 62 v2.toNatClampNeg (M 62 (v2 - (1 : Int32)).toNatClampNeg)) 63 v2.toNatClampNeg ((g_upd M 62 v2.toNatClampNeg (M 62 (v2 - (1 : Int32)).toNatClampNeg)) 63 (v2 - (1 : Int32)).toNatClampNeg))) else none)) else none)) else none)) else none)))
set_option maxHeartbeats 4000000 in
set_option maxRecDepth 100000 in
theorem z_X9_keepsPaid_L3 {X : g_X} (hok : g_ok X)  {r : Int32 × g_M}  : ∀ (n : Nat) (v1 : Int32) (v2 : Int32) (M : g_M), x_X9_keepsPaid_L3   n v1 v2 M = some r → g_Go X cX9_keepsPaid RX9 3 none 0 0 r 3 [some (.inr 41), some (.inl v1), some (.inl v2)] [] M := by
  intro n
  induction n with
  | zero =>
    intro v1 v2 M h
    rw [x_X9_keepsPaid_L3] at h
    cases h
  | succ n ih =>
    intro v1 v2 M h
    rw [x_X9_keepsPaid_L3] at h
    refine go_iload_n (pc := 3) dX9_keepsPaid_3 rfl ?_
    refine go_if_le (pc := 4) (tgt := 41) dX9_keepsPaid_4 (by decide) (fun e7 => ?_) (fun e7 => ?_)
    · replace h := (if_pos e7).symm.trans h
      refine go_aload_n (pc := 41) dX9_keepsPaid_41 rfl ?_
      refine gf_9_70 (pc := 42) dX9_keepsPaid_42 ?_
      refine go_iconst (pc := 45) (v := (0 : Int32)) dX9_keepsPaid_45 (by decide) ?_
      refine go_iload_n (pc := 46) dX9_keepsPaid_46 rfl ?_
      refine go_iast (pc := 47) (n := 8) rfl (g_inb_ok (by decide)) dX9_keepsPaid_47 ?_
      refine go_aload_n (pc := 48) dX9_keepsPaid_48 rfl ?_
      refine gf_9_73 (pc := 49) dX9_keepsPaid_49 ?_
      refine go_iconst (pc := 52) (v := (0 : Int32)) dX9_keepsPaid_52 (by decide) ?_
      refine go_aload_n (pc := 53) dX9_keepsPaid_53 rfl ?_
      refine gf_9_40 (pc := 54) dX9_keepsPaid_54 ?_
      refine go_iload_n (pc := 57) dX9_keepsPaid_57 rfl ?_
      obtain ⟨i1, h⟩ := g_gd h
      refine go_iald (pc := 58) (n := 5) rfl (g_inb_ok i1) dX9_keepsPaid_58 ?_
      refine go_iast (pc := 59) (n := 8) rfl (g_inb_ok (by decide)) dX9_keepsPaid_59 ?_
      refine go_aload_n (pc := 60) dX9_keepsPaid_60 rfl ?_
      refine go_aload_n (pc := 61) dX9_keepsPaid_61 rfl ?_
      refine gf_9_182 (pc := 62) dX9_keepsPaid_62 ?_
      refine go_bipush (pc := 65) (v := (8 : Int32)) dX9_keepsPaid_65 (by decide) ?_
      refine go_icmp_ge (pc := 67) (tgt := 79) dX9_keepsPaid_67 (by decide) (fun e2 => ?_) (fun e2 => ?_)
      · replace h := (if_pos e2).symm.trans h
        refine go_bipush (pc := 79) (v := (8 : Int32)) dX9_keepsPaid_79 (by decide) ?_
        refine gp_9_182 (pc := 81) dX9_keepsPaid_81 ?_
        exact go_vret (pc := 84) (Option.some.inj h).symm rfl dX9_keepsPaid_84
      · replace h := (if_neg e2).symm.trans h
        refine go_aload_n (pc := 70) dX9_keepsPaid_70 rfl ?_
        refine gf_9_182 (pc := 71) dX9_keepsPaid_71 ?_
        refine go_iconst (pc := 74) (v := (1 : Int32)) dX9_keepsPaid_74 (by decide) ?_
        refine go_iadd (pc := 75) dX9_keepsPaid_75 ?_
        refine go_goto (pc := 76) (tgt := 81) dX9_keepsPaid_76 (by decide) ?_
        refine gp_9_182 (pc := 81) dX9_keepsPaid_81 ?_
        exact go_vret (pc := 84) (Option.some.inj h).symm rfl dX9_keepsPaid_84
    · replace h := (if_neg e7).symm.trans h
      refine go_aload_n (pc := 7) dX9_keepsPaid_7 rfl ?_
      refine gf_9_70 (pc := 8) dX9_keepsPaid_8 ?_
      refine go_iload_n (pc := 11) dX9_keepsPaid_11 rfl ?_
      refine go_aload_n (pc := 12) dX9_keepsPaid_12 rfl ?_
      refine gf_9_70 (pc := 13) dX9_keepsPaid_13 ?_
      refine go_iload_n (pc := 16) dX9_keepsPaid_16 rfl ?_
      refine go_iconst (pc := 17) (v := (1 : Int32)) dX9_keepsPaid_17 (by decide) ?_
      refine go_isub (pc := 18) dX9_keepsPaid_18 ?_
      obtain ⟨i3, h⟩ := g_gd h
      refine go_iald (pc := 19) (n := 8) rfl (g_inb_ok i3) dX9_keepsPaid_19 ?_
      obtain ⟨i4, h⟩ := g_gd h
      refine go_iast (pc := 20) (n := 8) rfl (g_inb_ok i4) dX9_keepsPaid_20 ?_
      refine go_aload_n (pc := 21) dX9_keepsPaid_21 rfl ?_
      refine gf_9_73 (pc := 22) dX9_keepsPaid_22 ?_
      refine go_iload_n (pc := 25) dX9_keepsPaid_25 rfl ?_
      refine go_aload_n (pc := 26) dX9_keepsPaid_26 rfl ?_
      refine gf_9_73 (pc := 27) dX9_keepsPaid_27 ?_
      refine go_iload_n (pc := 30) dX9_keepsPaid_30 rfl ?_
      refine go_iconst (pc := 31) (v := (1 : Int32)) dX9_keepsPaid_31 (by decide) ?_
      refine go_isub (pc := 32) dX9_keepsPaid_32 ?_
      obtain ⟨i5, h⟩ := g_gd h
      refine go_iald (pc := 33) (n := 8) rfl (g_inb_ok i5) dX9_keepsPaid_33 ?_
      obtain ⟨i6, h⟩ := g_gd h
      refine go_iast (pc := 34) (n := 8) rfl (g_inb_ok i6) dX9_keepsPaid_34 ?_
      refine go_iinc (pc := 35) (v := (-1 : Int32)) (lv' := [some (.inr 41), some (.inl v1), some (.inl (v2 + (-1 : Int32)))]) dX9_keepsPaid_35 rfl (by decide) (by decide) rfl ?_
      refine go_goto (pc := 38) (tgt := 3) dX9_keepsPaid_38 (by decide) ?_
      exact go_to (ih _ _ _ h) (And.intro rfl (And.intro rfl (And.intro rfl trivial)))
def x_X9_keepsPaid  (p1 : Int32) (M : g_M) : Option (Int32 × g_M) := (x_X9_keepsPaid_L3   g_F p1 (7 : Int32) M)
set_option maxHeartbeats 4000000 in
set_option maxRecDepth 100000 in
theorem z_X9_keepsPaid {X : g_X} (hok : g_ok X)  {p1 : Int32} {M : g_M} {r : Int32 × g_M} (h : x_X9_keepsPaid p1 M = some r) : g_Con X yX9_keepsPaid cX9_keepsPaid 3 none 0 0 [.inr 41, .inl p1] M r := by
  rw [x_X9_keepsPaid] at h
  refine g_con hok (plainFor_of_name (by decide +kernel)) (Nat.le_of_ble_eq_true rfl) (go_to (lv2 := [some (.inr 41), some (.inl p1), none]) (own := RX9) ?_ (And.intro rfl (And.intro rfl trivial)))
  refine go_bipush (pc := 0) (v := (7 : Int32)) dX9_keepsPaid_0 (by decide) ?_
  refine go_istore_n (pc := 2) (lv' := [some (.inr 41), some (.inl p1), some (.inl (7 : Int32))]) dX9_keepsPaid_2 (by decide) rfl ?_
  exact go_to (z_X9_keepsPaid_L3 hok   g_F _ _ _ h) (And.intro rfl (And.intro rfl (And.intro rfl trivial)))
def x_X9_pay_L19   (v1 : Int32) (v2 : Int32) (s0 : Int32) (M : g_M) : Option (Int32 × g_M) := (if s0 = 0 then ((if g_inb v1 5 = true then (((x_X9_keepsPaid v1 M).bind fun u2 => (if g_inb v1 5 = true then (some ((M 52 v1.toNatClampNeg), (g_upd u2.2 52 v1.toNatClampNeg v2))) else none))) else none)) else (((x_X9_no s0 M).bind fun u5 => some (u5.1, u5.2))))
set_option maxHeartbeats 4000000 in
set_option maxRecDepth 100000 in
theorem z_X9_pay_L19 {X : g_X} (hok : g_ok X)  {r : Int32 × g_M}  {v1 : Int32} {v2 : Int32} {s0 : Int32} {M : g_M} (h : x_X9_pay_L19   v1 v2 s0 M = some r) : g_Go X cX9_pay RX9 5 (some .int) 1 22 r 19 [some (.inr 41), some (.inl v1), some (.inl v2), none, none] [.inl s0] M := by
  rw [x_X9_pay_L19] at h
  refine go_istore_n (pc := 19) (lv' := [some (.inr 41), some (.inl v1), some (.inl v2), some (.inl s0), none]) dX9_pay_19 (by decide) rfl ?_
  refine go_iload_n (pc := 20) dX9_pay_20 rfl ?_
  refine go_if_eq (pc := 21) (tgt := 30) dX9_pay_21 (by decide) (fun e7 => ?_) (fun e7 => ?_)
  · replace h := (if_pos e7).symm.trans h
    refine go_aload_n (pc := 30) dX9_pay_30 rfl ?_
    refine gf_9_40 (pc := 31) dX9_pay_31 ?_
    refine go_iload_n (pc := 34) dX9_pay_34 rfl ?_
    obtain ⟨i1, h⟩ := g_gd h
    refine go_iald (pc := 35) (n := 5) rfl (g_inb_ok i1) dX9_pay_35 ?_
    refine go_istore (pc := 36) (lv' := [some (.inr 41), some (.inl v1), some (.inl v2), some (.inl s0), some (.inl (M 52 v1.toNatClampNeg))]) dX9_pay_36 (by decide) rfl ?_
    refine go_aload_n (pc := 38) dX9_pay_38 rfl ?_
    refine go_iload_n (pc := 39) dX9_pay_39 rfl ?_
    obtain ⟨u2, c3, h⟩ := g_bd h
    refine go_callV (pc := 40) (as := [.inl v1]) (st := []) (r := u2.1) (M1 := u2.2) (z_X9_keepsPaid hok  c3) cw_X9_keepsPaid ml_X9_239 (show g_lay[41]? = some _ from rfl) rfl rfl (by decide) (Nat.le_of_ble_eq_true rfl) rfl dX9_pay_40 ?_
    refine go_aload_n (pc := 43) dX9_pay_43 rfl ?_
    refine gf_9_40 (pc := 44) dX9_pay_44 ?_
    refine go_iload_n (pc := 47) dX9_pay_47 rfl ?_
    refine go_iload_n (pc := 48) dX9_pay_48 rfl ?_
    obtain ⟨i4, h⟩ := g_gd h
    refine go_iast (pc := 49) (n := 5) rfl (g_inb_ok i4) dX9_pay_49 ?_
    refine go_iload (pc := 50) dX9_pay_50 rfl ?_
    exact go_iret (pc := 52) (Option.some.inj h).symm rfl dX9_pay_52 rfl
  · replace h := (if_neg e7).symm.trans h
    refine go_aload_n (pc := 24) dX9_pay_24 rfl ?_
    refine go_iload_n (pc := 25) dX9_pay_25 rfl ?_
    obtain ⟨u5, c6, h⟩ := g_bd h
    refine go_callV (pc := 26) (as := [.inl s0]) (st := []) (r := u5.1) (M1 := u5.2) (z_X9_no hok  c6) cw_X9_no ml_X9_124 (show g_lay[41]? = some _ from rfl) rfl rfl (by decide) (Nat.le_of_ble_eq_true rfl) rfl dX9_pay_26 ?_
    exact go_iret (pc := 29) (Option.some.inj h).symm rfl dX9_pay_29 rfl
def x_X9_pay  (p1 p2 : Int32) (M : g_M) : Option (Int32 × g_M) := (((x_X9_isBoat p1 M).bind fun u8 => if u8.1 = 0 then (x_X9_pay_L19   p1 p2 (-1 : Int32) u8.2) else (((x_X9_bound p2 (0 : Int32) (99 : Int32) u8.2).bind fun u10 => x_X9_pay_L19   p1 p2 u10.1 u10.2))))
set_option maxHeartbeats 4000000 in
set_option maxRecDepth 100000 in
theorem z_X9_pay {X : g_X} (hok : g_ok X)  {p1 p2 : Int32} {M : g_M} {r : Int32 × g_M} (h : x_X9_pay p1 p2 M = some r) : g_Con X yX9_pay cX9_pay 5 (some .int) 1 22 [.inr 41, .inl p1, .inl p2] M r := by
  rw [x_X9_pay] at h
  refine g_con hok (plainFor_of_name (by decide +kernel)) (Nat.le_of_ble_eq_true rfl) (go_to (lv2 := [some (.inr 41), some (.inl p1), some (.inl p2), none, none]) (own := RX9) ?_ (And.intro rfl (And.intro rfl (And.intro rfl trivial))))
  refine go_aload_n (pc := 0) dX9_pay_0 rfl ?_
  refine go_iload_n (pc := 1) dX9_pay_1 rfl ?_
  obtain ⟨u8, c9, h⟩ := g_bd h
  refine go_callV (pc := 2) (as := [.inl p1]) (st := []) (r := u8.1) (M1 := u8.2) (z_X9_isBoat hok  c9) cw_X9_isBoat ml_X9_168 (show g_lay[41]? = some _ from rfl) rfl rfl (by decide) (Nat.le_of_ble_eq_true rfl) rfl dX9_pay_2 ?_
  refine go_if_ne (pc := 5) (tgt := 12) dX9_pay_5 (by decide) (fun e12 => ?_) (fun e12 => ?_)
  · replace h := (if_neg e12).symm.trans h
    refine go_iload_n (pc := 12) dX9_pay_12 rfl ?_
    refine go_iconst (pc := 13) (v := (0 : Int32)) dX9_pay_13 (by decide) ?_
    refine go_bipush (pc := 14) (v := (99 : Int32)) dX9_pay_14 (by decide) ?_
    obtain ⟨u10, c11, h⟩ := g_bd h
    refine go_callS (pc := 16) (as := [.inl p2, .inl (0 : Int32), .inl (99 : Int32)]) (st := []) (r := u10.1) (M1 := u10.2) (z_X9_bound hok  c11) cw_X9_bound ml_X9_117 (by decide) (Nat.le_of_ble_eq_true rfl) rfl dX9_pay_16 ?_
    exact go_to (z_X9_pay_L19 hok   h) (And.intro rfl (And.intro rfl (And.intro rfl trivial)))
  · replace h := (if_pos e12).symm.trans h
    refine go_iconst (pc := 8) (v := (-1 : Int32)) dX9_pay_8 (by decide) ?_
    refine go_goto (pc := 9) (tgt := 19) dX9_pay_9 (by decide) ?_
    exact go_to (z_X9_pay_L19 hok   h) (And.intro rfl (And.intro rfl (And.intro rfl trivial)))
def x_X9_back_L35   : Nat → Int32 → Int32 → g_M → Option (Int32 × g_M)
  | 0, _, _, _ => none
  | n + 1, v1, v2, M => (if (7 : Int32) ≤ v2 then (some (v1, (g_upd M 41 33 ((M 41 33) - (1 : Int32))))) else ((if g_inb (v2 + (1 : Int32)) 8 = true then ((if g_inb v2 8 = true then ((if g_inb (v2 + (1 : Int32)) 8 = true then ((if g_inb v2 8 = true then (x_X9_back_L35   n v1 (v2 + (1 : Int32)) (g_upd (g_upd M 62 v2.toNatClampNeg (M 62 (v2 + (1 : Int32)).toNatClampNeg)) 63 v2.toNatClampNeg ((g_upd M 62 v2.toNatClampNeg (M 62 (v2 + (1 : Int32)).toNatClampNeg)) 63 (v2 + (1 : Int32)).toNatClampNeg))) else none)) else none)) else none)) else none)))
set_option maxHeartbeats 4000000 in
set_option maxRecDepth 100000 in
theorem z_X9_back_L35 {X : g_X} (hok : g_ok X)  {r : Int32 × g_M}  : ∀ (n : Nat) (v1 : Int32) (v2 : Int32) (M : g_M), x_X9_back_L35   n v1 v2 M = some r → g_Go X cX9_back RX9 3 (some .int) 1 21 r 35 [some (.inr 41), some (.inl v1), some (.inl v2)] [] M := by
  intro n
  induction n with
  | zero =>
    intro v1 v2 M h
    rw [x_X9_back_L35] at h
    cases h
  | succ n ih =>
    intro v1 v2 M h
    rw [x_X9_back_L35] at h
    refine go_iload_n (pc := 35) dX9_back_35 rfl ?_
    refine go_bipush (pc := 36) (v := (7 : Int32)) dX9_back_36 (by decide) ?_
    refine go_icmp_ge (pc := 38) (tgt := 75) dX9_back_38 (by decide) (fun e5 => ?_) (fun e5 => ?_)
    · replace h := (if_pos e5).symm.trans h
      refine go_aload_n (pc := 75) dX9_back_75 rfl ?_
      refine go_dup (pc := 76) dX9_back_76 ?_
      refine gf_9_182 (pc := 77) dX9_back_77 ?_
      refine go_iconst (pc := 80) (v := (1 : Int32)) dX9_back_80 (by decide) ?_
      refine go_isub (pc := 81) dX9_back_81 ?_
      refine gp_9_182 (pc := 82) dX9_back_82 ?_
      refine go_iload_n (pc := 85) dX9_back_85 rfl ?_
      exact go_iret (pc := 86) (Option.some.inj h).symm rfl dX9_back_86 rfl
    · replace h := (if_neg e5).symm.trans h
      refine go_aload_n (pc := 41) dX9_back_41 rfl ?_
      refine gf_9_70 (pc := 42) dX9_back_42 ?_
      refine go_iload_n (pc := 45) dX9_back_45 rfl ?_
      refine go_aload_n (pc := 46) dX9_back_46 rfl ?_
      refine gf_9_70 (pc := 47) dX9_back_47 ?_
      refine go_iload_n (pc := 50) dX9_back_50 rfl ?_
      refine go_iconst (pc := 51) (v := (1 : Int32)) dX9_back_51 (by decide) ?_
      refine go_iadd (pc := 52) dX9_back_52 ?_
      obtain ⟨i1, h⟩ := g_gd h
      refine go_iald (pc := 53) (n := 8) rfl (g_inb_ok i1) dX9_back_53 ?_
      obtain ⟨i2, h⟩ := g_gd h
      refine go_iast (pc := 54) (n := 8) rfl (g_inb_ok i2) dX9_back_54 ?_
      refine go_aload_n (pc := 55) dX9_back_55 rfl ?_
      refine gf_9_73 (pc := 56) dX9_back_56 ?_
      refine go_iload_n (pc := 59) dX9_back_59 rfl ?_
      refine go_aload_n (pc := 60) dX9_back_60 rfl ?_
      refine gf_9_73 (pc := 61) dX9_back_61 ?_
      refine go_iload_n (pc := 64) dX9_back_64 rfl ?_
      refine go_iconst (pc := 65) (v := (1 : Int32)) dX9_back_65 (by decide) ?_
      refine go_iadd (pc := 66) dX9_back_66 ?_
      obtain ⟨i3, h⟩ := g_gd h
      refine go_iald (pc := 67) (n := 8) rfl (g_inb_ok i3) dX9_back_67 ?_
      obtain ⟨i4, h⟩ := g_gd h
      refine go_iast (pc := 68) (n := 8) rfl (g_inb_ok i4) dX9_back_68 ?_
      refine go_iinc (pc := 69) (v := (1 : Int32)) (lv' := [some (.inr 41), some (.inl v1), some (.inl (v2 + (1 : Int32)))]) dX9_back_69 rfl (by decide) (by decide) rfl ?_
      refine go_goto (pc := 72) (tgt := 35) dX9_back_72 (by decide) ?_
      exact go_to (ih _ _ _ h) (And.intro rfl (And.intro rfl (And.intro rfl trivial)))
def x_X9_back  (M : g_M) : Option (Int32 × g_M) := (if (M 41 33) = 0 then (((x_X9_no (-3 : Int32) M).bind fun u7 => some (u7.1, u7.2))) else ((if g_inb (M 62 (0 : Int32).toNatClampNeg) 5 = true then (x_X9_back_L35   g_F (M 62 (0 : Int32).toNatClampNeg) (0 : Int32) (g_upd M 52 (M 62 (0 : Int32).toNatClampNeg).toNatClampNeg (M 63 (0 : Int32).toNatClampNeg))) else none)))
set_option maxHeartbeats 4000000 in
set_option maxRecDepth 100000 in
theorem z_X9_back {X : g_X} (hok : g_ok X)  {M : g_M} {r : Int32 × g_M} (h : x_X9_back  M = some r) : g_Con X yX9_back cX9_back 3 (some .int) 1 21 [.inr 41] M r := by
  rw [x_X9_back] at h
  refine g_con hok (plainFor_of_name (by decide +kernel)) (Nat.le_of_ble_eq_true rfl) (go_to (lv2 := [some (.inr 41), none, none]) (own := RX9) ?_ (And.intro rfl trivial))
  refine go_aload_n (pc := 0) dX9_back_0 rfl ?_
  refine gf_9_182 (pc := 1) dX9_back_1 ?_
  refine go_if_ne (pc := 4) (tgt := 14) dX9_back_4 (by decide) (fun e9 => ?_) (fun e9 => ?_)
  · replace h := (if_neg e9).symm.trans h
    refine go_aload_n (pc := 14) dX9_back_14 rfl ?_
    refine gf_9_70 (pc := 15) dX9_back_15 ?_
    refine go_iconst (pc := 18) (v := (0 : Int32)) dX9_back_18 (by decide) ?_
    refine go_iald (pc := 19) (n := 8) rfl (g_inb_ok (by decide)) dX9_back_19 ?_
    refine go_istore_n (pc := 20) (lv' := [some (.inr 41), some (.inl (M 62 (0 : Int32).toNatClampNeg)), none]) dX9_back_20 (by decide) rfl ?_
    refine go_aload_n (pc := 21) dX9_back_21 rfl ?_
    refine gf_9_40 (pc := 22) dX9_back_22 ?_
    refine go_iload_n (pc := 25) dX9_back_25 rfl ?_
    refine go_aload_n (pc := 26) dX9_back_26 rfl ?_
    refine gf_9_73 (pc := 27) dX9_back_27 ?_
    refine go_iconst (pc := 30) (v := (0 : Int32)) dX9_back_30 (by decide) ?_
    refine go_iald (pc := 31) (n := 8) rfl (g_inb_ok (by decide)) dX9_back_31 ?_
    obtain ⟨i6, h⟩ := g_gd h
    refine go_iast (pc := 32) (n := 5) rfl (g_inb_ok i6) dX9_back_32 ?_
    refine go_iconst (pc := 33) (v := (0 : Int32)) dX9_back_33 (by decide) ?_
    refine go_istore_n (pc := 34) (lv' := [some (.inr 41), some (.inl (M 62 (0 : Int32).toNatClampNeg)), some (.inl (0 : Int32))]) dX9_back_34 (by decide) rfl ?_
    exact go_to (z_X9_back_L35 hok   g_F _ _ _ h) (And.intro rfl (And.intro rfl (And.intro rfl trivial)))
  · replace h := (if_pos e9).symm.trans h
    refine go_aload_n (pc := 7) dX9_back_7 rfl ?_
    refine go_bipush (pc := 8) (v := (-3 : Int32)) dX9_back_8 (by decide) ?_
    obtain ⟨u7, c8, h⟩ := g_bd h
    refine go_callV (pc := 10) (as := [.inl (-3 : Int32)]) (st := []) (r := u7.1) (M1 := u7.2) (z_X9_no hok  c8) cw_X9_no ml_X9_124 (show g_lay[41]? = some _ from rfl) rfl rfl (by decide) (Nat.le_of_ble_eq_true rfl) rfl dX9_back_10 ?_
    exact go_iret (pc := 13) (Option.some.inj h).symm rfl dX9_back_13 rfl
def x_X9_tie  (p1 p2 : Int32) (M : g_M) : Option (Int32 × g_M) := (((x_X9_isBoat p1 M).bind fun u1 => if u1.1 = 0 then (((x_X9_no (-1 : Int32) u1.2).bind fun u3 => some (u3.1, u3.2))) else (((x_X9_isRing p2 u1.2).bind fun u5 => if u5.1 = 0 then (((x_X9_no (-1 : Int32) u5.2).bind fun u9 => some (u9.1, u9.2))) else ((if g_inb p1 5 = true then ((if g_inb p1 5 = true then (some ((u5.2 50 p1.toNatClampNeg), (g_upd (g_upd u5.2 50 p1.toNatClampNeg p2) 41 33 (0 : Int32)))) else none)) else none))))))
set_option maxHeartbeats 4000000 in
set_option maxRecDepth 100000 in
theorem z_X9_tie {X : g_X} (hok : g_ok X)  {p1 p2 : Int32} {M : g_M} {r : Int32 × g_M} (h : x_X9_tie p1 p2 M = some r) : g_Con X yX9_tie cX9_tie 4 (some .int) 1 21 [.inr 41, .inl p1, .inl p2] M r := by
  rw [x_X9_tie] at h
  refine g_con hok (plainFor_of_name (by decide +kernel)) (Nat.le_of_ble_eq_true rfl) (go_to (lv2 := [some (.inr 41), some (.inl p1), some (.inl p2), none]) (own := RX9) ?_ (And.intro rfl (And.intro rfl (And.intro rfl trivial))))
  refine go_aload_n (pc := 0) dX9_tie_0 rfl ?_
  refine go_iload_n (pc := 1) dX9_tie_1 rfl ?_
  obtain ⟨u1, c2, h⟩ := g_bd h
  refine go_callV (pc := 2) (as := [.inl p1]) (st := []) (r := u1.1) (M1 := u1.2) (z_X9_isBoat hok  c2) cw_X9_isBoat ml_X9_168 (show g_lay[41]? = some _ from rfl) rfl rfl (by decide) (Nat.le_of_ble_eq_true rfl) rfl dX9_tie_2 ?_
  refine go_if_eq (pc := 5) (tgt := 16) dX9_tie_5 (by decide) (fun e12 => ?_) (fun e12 => ?_)
  · replace h := (if_pos e12).symm.trans h
    refine go_aload_n (pc := 16) dX9_tie_16 rfl ?_
    refine go_iconst (pc := 17) (v := (-1 : Int32)) dX9_tie_17 (by decide) ?_
    obtain ⟨u3, c4, h⟩ := g_bd h
    refine go_callV (pc := 18) (as := [.inl (-1 : Int32)]) (st := []) (r := u3.1) (M1 := u3.2) (z_X9_no hok  c4) cw_X9_no ml_X9_124 (show g_lay[41]? = some _ from rfl) rfl rfl (by decide) (Nat.le_of_ble_eq_true rfl) rfl dX9_tie_18 ?_
    exact go_iret (pc := 21) (Option.some.inj h).symm rfl dX9_tie_21 rfl
  · replace h := (if_neg e12).symm.trans h
    refine go_aload_n (pc := 8) dX9_tie_8 rfl ?_
    refine go_iload_n (pc := 9) dX9_tie_9 rfl ?_
    obtain ⟨u5, c6, h⟩ := g_bd h
    refine go_callV (pc := 10) (as := [.inl p2]) (st := []) (r := u5.1) (M1 := u5.2) (z_X9_isRing hok  c6) cw_X9_isRing ml_X9_156 (show g_lay[41]? = some _ from rfl) rfl rfl (by decide) (Nat.le_of_ble_eq_true rfl) rfl dX9_tie_10 ?_
    refine go_if_ne (pc := 13) (tgt := 22) dX9_tie_13 (by decide) (fun e11 => ?_) (fun e11 => ?_)
    · replace h := (if_neg e11).symm.trans h
      refine go_aload_n (pc := 22) dX9_tie_22 rfl ?_
      refine gf_9_34 (pc := 23) dX9_tie_23 ?_
      refine go_iload_n (pc := 26) dX9_tie_26 rfl ?_
      obtain ⟨i7, h⟩ := g_gd h
      refine go_iald (pc := 27) (n := 5) rfl (g_inb_ok i7) dX9_tie_27 ?_
      refine go_istore_n (pc := 28) (lv' := [some (.inr 41), some (.inl p1), some (.inl p2), some (.inl (u5.2 50 p1.toNatClampNeg))]) dX9_tie_28 (by decide) rfl ?_
      refine go_aload_n (pc := 29) dX9_tie_29 rfl ?_
      refine gf_9_34 (pc := 30) dX9_tie_30 ?_
      refine go_iload_n (pc := 33) dX9_tie_33 rfl ?_
      refine go_iload_n (pc := 34) dX9_tie_34 rfl ?_
      obtain ⟨i8, h⟩ := g_gd h
      refine go_iast (pc := 35) (n := 5) rfl (g_inb_ok i8) dX9_tie_35 ?_
      refine go_aload_n (pc := 36) dX9_tie_36 rfl ?_
      refine go_iconst (pc := 37) (v := (0 : Int32)) dX9_tie_37 (by decide) ?_
      refine gp_9_182 (pc := 38) dX9_tie_38 ?_
      refine go_iload_n (pc := 41) dX9_tie_41 rfl ?_
      exact go_iret (pc := 42) (Option.some.inj h).symm rfl dX9_tie_42 rfl
    · replace h := (if_pos e11).symm.trans h
      refine go_aload_n (pc := 16) dX9_tie_16 rfl ?_
      refine go_iconst (pc := 17) (v := (-1 : Int32)) dX9_tie_17 (by decide) ?_
      obtain ⟨u9, c10, h⟩ := g_bd h
      refine go_callV (pc := 18) (as := [.inl (-1 : Int32)]) (st := []) (r := u9.1) (M1 := u9.2) (z_X9_no hok  c10) cw_X9_no ml_X9_124 (show g_lay[41]? = some _ from rfl) rfl rfl (by decide) (Nat.le_of_ble_eq_true rfl) rfl dX9_tie_18 ?_
      exact go_iret (pc := 21) (Option.some.inj h).symm rfl dX9_tie_21 rfl
def x_X9_set_L30   (v1 : Int32) (v2 : Int32) (s0 : Int32) (M : g_M) : Option (Int32 × g_M) := (if s0 = 0 then ((if g_inb v1 2 = true then ((if g_inb v1 2 = true then (some ((M 47 v1.toNatClampNeg), (g_upd M 47 v1.toNatClampNeg v2))) else none)) else none)) else (((x_X9_no s0 M).bind fun u3 => some (u3.1, u3.2))))
set_option maxHeartbeats 4000000 in
set_option maxRecDepth 100000 in
theorem z_X9_set_L30 {X : g_X} (hok : g_ok X)  {r : Int32 × g_M}  {v1 : Int32} {v2 : Int32} {s0 : Int32} {M : g_M} (h : x_X9_set_L30   v1 v2 s0 M = some r) : g_Go X cX9_set RX9 5 (some .int) 1 22 r 30 [some (.inr 41), some (.inl v1), some (.inl v2), none, none] [.inl s0] M := by
  rw [x_X9_set_L30] at h
  refine go_istore_n (pc := 30) (lv' := [some (.inr 41), some (.inl v1), some (.inl v2), some (.inl s0), none]) dX9_set_30 (by decide) rfl ?_
  refine go_iload_n (pc := 31) dX9_set_31 rfl ?_
  refine go_if_eq (pc := 32) (tgt := 41) dX9_set_32 (by decide) (fun e5 => ?_) (fun e5 => ?_)
  · replace h := (if_pos e5).symm.trans h
    refine go_aload_n (pc := 41) dX9_set_41 rfl ?_
    refine gf_9_25 (pc := 42) dX9_set_42 ?_
    refine go_iload_n (pc := 45) dX9_set_45 rfl ?_
    obtain ⟨i1, h⟩ := g_gd h
    refine go_iald (pc := 46) (n := 2) rfl (g_inb_ok i1) dX9_set_46 ?_
    refine go_istore (pc := 47) (lv' := [some (.inr 41), some (.inl v1), some (.inl v2), some (.inl s0), some (.inl (M 47 v1.toNatClampNeg))]) dX9_set_47 (by decide) rfl ?_
    refine go_aload_n (pc := 49) dX9_set_49 rfl ?_
    refine gf_9_25 (pc := 50) dX9_set_50 ?_
    refine go_iload_n (pc := 53) dX9_set_53 rfl ?_
    refine go_iload_n (pc := 54) dX9_set_54 rfl ?_
    obtain ⟨i2, h⟩ := g_gd h
    refine go_iast (pc := 55) (n := 2) rfl (g_inb_ok i2) dX9_set_55 ?_
    refine go_iload (pc := 56) dX9_set_56 rfl ?_
    exact go_iret (pc := 58) (Option.some.inj h).symm rfl dX9_set_58 rfl
  · replace h := (if_neg e5).symm.trans h
    refine go_aload_n (pc := 35) dX9_set_35 rfl ?_
    refine go_iload_n (pc := 36) dX9_set_36 rfl ?_
    obtain ⟨u3, c4, h⟩ := g_bd h
    refine go_callV (pc := 37) (as := [.inl s0]) (st := []) (r := u3.1) (M1 := u3.2) (z_X9_no hok  c4) cw_X9_no ml_X9_124 (show g_lay[41]? = some _ from rfl) rfl rfl (by decide) (Nat.le_of_ble_eq_true rfl) rfl dX9_set_37 ?_
    exact go_iret (pc := 40) (Option.some.inj h).symm rfl dX9_set_40 rfl
def x_X9_set  (p1 p2 : Int32) (M : g_M) : Option (Int32 × g_M) := (((x_X9_isIn p1 (0 : Int32) (1 : Int32) M).bind fun u6 => if u6.1 = 0 then (x_X9_set_L30   p1 p2 (-2 : Int32) u6.2) else (if p1 = 0 then (((x_X9_bound p2 (0 : Int32) (60 : Int32) u6.2).bind fun u10 => x_X9_set_L30   p1 p2 u10.1 u10.2)) else (((x_X9_bound p2 (0 : Int32) (9 : Int32) u6.2).bind fun u8 => x_X9_set_L30   p1 p2 u8.1 u8.2)))))
set_option maxHeartbeats 4000000 in
set_option maxRecDepth 100000 in
theorem z_X9_set {X : g_X} (hok : g_ok X)  {p1 p2 : Int32} {M : g_M} {r : Int32 × g_M} (h : x_X9_set p1 p2 M = some r) : g_Con X yX9_set cX9_set 5 (some .int) 1 22 [.inr 41, .inl p1, .inl p2] M r := by
  rw [x_X9_set] at h
  refine g_con hok (plainFor_of_name (by decide +kernel)) (Nat.le_of_ble_eq_true rfl) (go_to (lv2 := [some (.inr 41), some (.inl p1), some (.inl p2), none, none]) (own := RX9) ?_ (And.intro rfl (And.intro rfl (And.intro rfl trivial))))
  refine go_iload_n (pc := 0) dX9_set_0 rfl ?_
  refine go_iconst (pc := 1) (v := (0 : Int32)) dX9_set_1 (by decide) ?_
  refine go_iconst (pc := 2) (v := (1 : Int32)) dX9_set_2 (by decide) ?_
  obtain ⟨u6, c7, h⟩ := g_bd h
  refine go_callS (pc := 3) (as := [.inl p1, .inl (0 : Int32), .inl (1 : Int32)]) (st := []) (r := u6.1) (M1 := u6.2) (z_X9_isIn hok  c7) cw_X9_isIn ml_X9_135 (by decide) (Nat.le_of_ble_eq_true rfl) rfl dX9_set_3 ?_
  refine go_if_ne (pc := 6) (tgt := 14) dX9_set_6 (by decide) (fun e13 => ?_) (fun e13 => ?_)
  · replace h := (if_neg e13).symm.trans h
    refine go_iload_n (pc := 14) dX9_set_14 rfl ?_
    refine go_iconst (pc := 15) (v := (0 : Int32)) dX9_set_15 (by decide) ?_
    refine go_iload_n (pc := 16) dX9_set_16 rfl ?_
    refine go_if_ne (pc := 17) (tgt := 25) dX9_set_17 (by decide) (fun e12 => ?_) (fun e12 => ?_)
    · replace h := (if_neg e12).symm.trans h
      refine go_bipush (pc := 25) (v := (9 : Int32)) dX9_set_25 (by decide) ?_
      obtain ⟨u8, c9, h⟩ := g_bd h
      refine go_callS (pc := 27) (as := [.inl p2, .inl (0 : Int32), .inl (9 : Int32)]) (st := []) (r := u8.1) (M1 := u8.2) (z_X9_bound hok  c9) cw_X9_bound ml_X9_117 (by decide) (Nat.le_of_ble_eq_true rfl) rfl dX9_set_27 ?_
      exact go_to (z_X9_set_L30 hok   h) (And.intro rfl (And.intro rfl (And.intro rfl trivial)))
    · replace h := (if_pos e12).symm.trans h
      refine go_bipush (pc := 20) (v := (60 : Int32)) dX9_set_20 (by decide) ?_
      refine go_goto (pc := 22) (tgt := 27) dX9_set_22 (by decide) ?_
      obtain ⟨u10, c11, h⟩ := g_bd h
      refine go_callS (pc := 27) (as := [.inl p2, .inl (0 : Int32), .inl (60 : Int32)]) (st := []) (r := u10.1) (M1 := u10.2) (z_X9_bound hok  c11) cw_X9_bound ml_X9_117 (by decide) (Nat.le_of_ble_eq_true rfl) rfl dX9_set_27 ?_
      exact go_to (z_X9_set_L30 hok   h) (And.intro rfl (And.intro rfl (And.intro rfl trivial)))
  · replace h := (if_pos e13).symm.trans h
    refine go_bipush (pc := 9) (v := (-2 : Int32)) dX9_set_9 (by decide) ?_
    refine go_goto (pc := 11) (tgt := 30) dX9_set_11 (by decide) ?_
    exact go_to (z_X9_set_L30 hok   h) (And.intro rfl (And.intro rfl (And.intro rfl trivial)))
def x_X9_hour  (M : g_M) : Option (Int32 × g_M) := (some (((g_upd M 41 17 (((M 41 17) + (1 : Int32)) - ((M 41 17) + (1 : Int32)) / (12 : Int32) * (12 : Int32))) 41 17), (g_upd M 41 17 (((M 41 17) + (1 : Int32)) - ((M 41 17) + (1 : Int32)) / (12 : Int32) * (12 : Int32)))))
set_option maxHeartbeats 4000000 in
set_option maxRecDepth 100000 in
theorem z_X9_hour {X : g_X} (hok : g_ok X)  {M : g_M} {r : Int32 × g_M} (h : x_X9_hour  M = some r) : g_Con X yX9_hour cX9_hour 1 (some .int) 0 0 [.inr 41] M r := by
  rw [x_X9_hour] at h
  refine g_con hok (plainFor_of_name (by decide +kernel)) (Nat.le_of_ble_eq_true rfl) (go_to (lv2 := [some (.inr 41)]) (own := RX9) ?_ (And.intro rfl trivial))
  refine go_aload_n (pc := 0) dX9_hour_0 rfl ?_
  refine go_aload_n (pc := 1) dX9_hour_1 rfl ?_
  refine gf_9_205 (pc := 2) dX9_hour_2 ?_
  refine go_iconst (pc := 5) (v := (1 : Int32)) dX9_hour_5 (by decide) ?_
  refine go_iadd (pc := 6) dX9_hour_6 ?_
  refine go_bipush (pc := 7) (v := (12 : Int32)) dX9_hour_7 (by decide) ?_
  refine go_irem (pc := 9) dX9_hour_9 (by decide) ?_
  refine gp_9_205 (pc := 10) dX9_hour_10 ?_
  refine go_aload_n (pc := 13) dX9_hour_13 rfl ?_
  refine gf_9_205 (pc := 14) dX9_hour_14 ?_
  exact go_iret (pc := 17) (Option.some.inj h).symm rfl dX9_hour_17 rfl
def x_X9_needs  (p1 p2 : Int32) (M : g_M) : Option (Int32 × g_M) := (((x_X9_isBoat p1 M).bind fun u1 => if u1.1 = 0 then (((x_X9_no (-1 : Int32) u1.2).bind fun u3 => some (u3.1, u3.2))) else (((x_X9_isHour p2 u1.2).bind fun u5 => if u5.1 = 0 then (((x_X9_no (-1 : Int32) u5.2).bind fun u7 => some (u7.1, u7.2))) else (((x_X9_needsAt p1 p2 u5.2).bind fun u9 => some (u9.1, u9.2)))))))
set_option maxHeartbeats 4000000 in
set_option maxRecDepth 100000 in
theorem z_X9_needs {X : g_X} (hok : g_ok X)  {p1 p2 : Int32} {M : g_M} {r : Int32 × g_M} (h : x_X9_needs p1 p2 M = some r) : g_Con X yX9_needs cX9_needs 3 (some .int) 2 46 [.inr 41, .inl p1, .inl p2] M r := by
  rw [x_X9_needs] at h
  refine g_con hok (plainFor_of_name (by decide +kernel)) (Nat.le_of_ble_eq_true rfl) (go_to (lv2 := [some (.inr 41), some (.inl p1), some (.inl p2)]) (own := RX9) ?_ (And.intro rfl (And.intro rfl (And.intro rfl trivial))))
  refine go_aload_n (pc := 0) dX9_needs_0 rfl ?_
  refine go_iload_n (pc := 1) dX9_needs_1 rfl ?_
  obtain ⟨u1, c2, h⟩ := g_bd h
  refine go_callV (pc := 2) (as := [.inl p1]) (st := []) (r := u1.1) (M1 := u1.2) (z_X9_isBoat hok  c2) cw_X9_isBoat ml_X9_168 (show g_lay[41]? = some _ from rfl) rfl rfl (by decide) (Nat.le_of_ble_eq_true rfl) rfl dX9_needs_2 ?_
  refine go_if_eq (pc := 5) (tgt := 24) dX9_needs_5 (by decide) (fun e12 => ?_) (fun e12 => ?_)
  · replace h := (if_pos e12).symm.trans h
    refine go_aload_n (pc := 24) dX9_needs_24 rfl ?_
    refine go_iconst (pc := 25) (v := (-1 : Int32)) dX9_needs_25 (by decide) ?_
    obtain ⟨u3, c4, h⟩ := g_bd h
    refine go_callV (pc := 26) (as := [.inl (-1 : Int32)]) (st := []) (r := u3.1) (M1 := u3.2) (z_X9_no hok  c4) cw_X9_no ml_X9_124 (show g_lay[41]? = some _ from rfl) rfl rfl (by decide) (Nat.le_of_ble_eq_true rfl) rfl dX9_needs_26 ?_
    exact go_iret (pc := 29) (Option.some.inj h).symm rfl dX9_needs_29 rfl
  · replace h := (if_neg e12).symm.trans h
    refine go_iload_n (pc := 8) dX9_needs_8 rfl ?_
    obtain ⟨u5, c6, h⟩ := g_bd h
    refine go_callS (pc := 9) (as := [.inl p2]) (st := []) (r := u5.1) (M1 := u5.2) (z_X9_isHour hok  c6) cw_X9_isHour ml_X9_159 (by decide) (Nat.le_of_ble_eq_true rfl) rfl dX9_needs_9 ?_
    refine go_if_eq (pc := 12) (tgt := 24) dX9_needs_12 (by decide) (fun e11 => ?_) (fun e11 => ?_)
    · replace h := (if_pos e11).symm.trans h
      refine go_aload_n (pc := 24) dX9_needs_24 rfl ?_
      refine go_iconst (pc := 25) (v := (-1 : Int32)) dX9_needs_25 (by decide) ?_
      obtain ⟨u7, c8, h⟩ := g_bd h
      refine go_callV (pc := 26) (as := [.inl (-1 : Int32)]) (st := []) (r := u7.1) (M1 := u7.2) (z_X9_no hok  c8) cw_X9_no ml_X9_124 (show g_lay[41]? = some _ from rfl) rfl rfl (by decide) (Nat.le_of_ble_eq_true rfl) rfl dX9_needs_26 ?_
      exact go_iret (pc := 29) (Option.some.inj h).symm rfl dX9_needs_29 rfl
    · replace h := (if_neg e11).symm.trans h
      refine go_aload_n (pc := 15) dX9_needs_15 rfl ?_
      refine go_iload_n (pc := 16) dX9_needs_16 rfl ?_
      refine go_iload_n (pc := 17) dX9_needs_17 rfl ?_
      obtain ⟨u9, c10, h⟩ := g_bd h
      refine go_callV (pc := 18) (as := [.inl p1, .inl p2]) (st := []) (r := u9.1) (M1 := u9.2) (z_X9_needsAt hok  c10) cw_X9_needsAt ml_X9_214 (show g_lay[41]? = some _ from rfl) rfl rfl (by decide) (Nat.le_of_ble_eq_true rfl) rfl dX9_needs_18 ?_
      refine go_goto (pc := 21) (tgt := 29) dX9_needs_21 (by decide) ?_
      exact go_iret (pc := 29) (Option.some.inj h).symm rfl dX9_needs_29 rfl
def x_X9_out  (p1 p2 : Int32) (M : g_M) : Option (Int32 × g_M) := (((x_X9_isBoat p1 M).bind fun u1 => if u1.1 = 0 then (((x_X9_no (-1 : Int32) u1.2).bind fun u3 => some (u3.1, u3.2))) else (((x_X9_isHour p2 u1.2).bind fun u5 => if u5.1 = 0 then (((x_X9_no (-1 : Int32) u5.2).bind fun u7 => some (u7.1, u7.2))) else (((x_X9_outAt p1 p2 u5.2).bind fun u9 => some (u9.1, u9.2)))))))
set_option maxHeartbeats 4000000 in
set_option maxRecDepth 100000 in
theorem z_X9_out {X : g_X} (hok : g_ok X)  {p1 p2 : Int32} {M : g_M} {r : Int32 × g_M} (h : x_X9_out p1 p2 M = some r) : g_Con X yX9_out cX9_out 3 (some .int) 5 115 [.inr 41, .inl p1, .inl p2] M r := by
  rw [x_X9_out] at h
  refine g_con hok (plainFor_of_name (by decide +kernel)) (Nat.le_of_ble_eq_true rfl) (go_to (lv2 := [some (.inr 41), some (.inl p1), some (.inl p2)]) (own := RX9) ?_ (And.intro rfl (And.intro rfl (And.intro rfl trivial))))
  refine go_aload_n (pc := 0) dX9_out_0 rfl ?_
  refine go_iload_n (pc := 1) dX9_out_1 rfl ?_
  obtain ⟨u1, c2, h⟩ := g_bd h
  refine go_callV (pc := 2) (as := [.inl p1]) (st := []) (r := u1.1) (M1 := u1.2) (z_X9_isBoat hok  c2) cw_X9_isBoat ml_X9_168 (show g_lay[41]? = some _ from rfl) rfl rfl (by decide) (Nat.le_of_ble_eq_true rfl) rfl dX9_out_2 ?_
  refine go_if_eq (pc := 5) (tgt := 24) dX9_out_5 (by decide) (fun e12 => ?_) (fun e12 => ?_)
  · replace h := (if_pos e12).symm.trans h
    refine go_aload_n (pc := 24) dX9_out_24 rfl ?_
    refine go_iconst (pc := 25) (v := (-1 : Int32)) dX9_out_25 (by decide) ?_
    obtain ⟨u3, c4, h⟩ := g_bd h
    refine go_callV (pc := 26) (as := [.inl (-1 : Int32)]) (st := []) (r := u3.1) (M1 := u3.2) (z_X9_no hok  c4) cw_X9_no ml_X9_124 (show g_lay[41]? = some _ from rfl) rfl rfl (by decide) (Nat.le_of_ble_eq_true rfl) rfl dX9_out_26 ?_
    exact go_iret (pc := 29) (Option.some.inj h).symm rfl dX9_out_29 rfl
  · replace h := (if_neg e12).symm.trans h
    refine go_iload_n (pc := 8) dX9_out_8 rfl ?_
    obtain ⟨u5, c6, h⟩ := g_bd h
    refine go_callS (pc := 9) (as := [.inl p2]) (st := []) (r := u5.1) (M1 := u5.2) (z_X9_isHour hok  c6) cw_X9_isHour ml_X9_159 (by decide) (Nat.le_of_ble_eq_true rfl) rfl dX9_out_9 ?_
    refine go_if_eq (pc := 12) (tgt := 24) dX9_out_12 (by decide) (fun e11 => ?_) (fun e11 => ?_)
    · replace h := (if_pos e11).symm.trans h
      refine go_aload_n (pc := 24) dX9_out_24 rfl ?_
      refine go_iconst (pc := 25) (v := (-1 : Int32)) dX9_out_25 (by decide) ?_
      obtain ⟨u7, c8, h⟩ := g_bd h
      refine go_callV (pc := 26) (as := [.inl (-1 : Int32)]) (st := []) (r := u7.1) (M1 := u7.2) (z_X9_no hok  c8) cw_X9_no ml_X9_124 (show g_lay[41]? = some _ from rfl) rfl rfl (by decide) (Nat.le_of_ble_eq_true rfl) rfl dX9_out_26 ?_
      exact go_iret (pc := 29) (Option.some.inj h).symm rfl dX9_out_29 rfl
    · replace h := (if_neg e11).symm.trans h
      refine go_aload_n (pc := 15) dX9_out_15 rfl ?_
      refine go_iload_n (pc := 16) dX9_out_16 rfl ?_
      refine go_iload_n (pc := 17) dX9_out_17 rfl ?_
      obtain ⟨u9, c10, h⟩ := g_bd h
      refine go_callV (pc := 18) (as := [.inl p1, .inl p2]) (st := []) (r := u9.1) (M1 := u9.2) (z_X9_outAt hok  c10) cw_X9_outAt ml_X9_230 (show g_lay[41]? = some _ from rfl) rfl rfl (by decide) (Nat.le_of_ble_eq_true rfl) rfl dX9_out_18 ?_
      refine go_goto (pc := 21) (tgt := 29) dX9_out_21 (by decide) ?_
      exact go_iret (pc := 29) (Option.some.inj h).symm rfl dX9_out_29 rfl
def x_X9_lies  (p1 p2 p3 : Int32) (M : g_M) : Option (Int32 × g_M) := (((x_X9_isBoat p1 M).bind fun u1 => if u1.1 = 0 then (((x_X9_lower (-1 : Int32) u1.2).bind fun u3 => some (u3.1, u3.2))) else (((x_X9_isHour p2 u1.2).bind fun u5 => if u5.1 = 0 then (((x_X9_lower (-1 : Int32) u5.2).bind fun u23 => some (u23.1, u23.2))) else (if p3 = (0 : Int32) then (((x_X9_middle p1 u5.2).bind fun u7 => ((x_X9_outAt p1 p2 u7.2).bind fun u9 => some ((u7.1 - u9.1), u9.2)))) else if p3 = (1 : Int32) then (((x_X9_middle p1 u5.2).bind fun u11 => ((x_X9_outAt p1 p2 u11.2).bind fun u13 => (if g_inb p1 5 = true then (some (((u11.1 + u13.1) + (u13.2 53 p1.toNatClampNeg)), u13.2)) else none)))) else if p3 = (2 : Int32) then (((x_X9_middleBy p1 p2 u5.2).bind fun u16 => some (u16.1, u16.2))) else (((x_X9_lower (-2 : Int32) u5.2).bind fun u18 => some (u18.1, u18.2))))))))
set_option maxHeartbeats 4000000 in
set_option maxRecDepth 100000 in
theorem z_X9_lies {X : g_X} (hok : g_ok X)  {p1 p2 p3 : Int32} {M : g_M} {r : Int32 × g_M} (h : x_X9_lies p1 p2 p3 M = some r) : g_Con X yX9_lies cX9_lies 4 (some .int) 6 139 [.inr 41, .inl p1, .inl p2, .inl p3] M r := by
  rw [x_X9_lies] at h
  refine g_con hok (plainFor_of_name (by decide +kernel)) (Nat.le_of_ble_eq_true rfl) (go_to (lv2 := [some (.inr 41), some (.inl p1), some (.inl p2), some (.inl p3)]) (own := RX9) ?_ (And.intro rfl (And.intro rfl (And.intro rfl (And.intro rfl trivial)))))
  refine go_aload_n (pc := 0) dX9_lies_0 rfl ?_
  refine go_iload_n (pc := 1) dX9_lies_1 rfl ?_
  obtain ⟨u1, c2, h⟩ := g_bd h
  refine go_callV (pc := 2) (as := [.inl p1]) (st := []) (r := u1.1) (M1 := u1.2) (z_X9_isBoat hok  c2) cw_X9_isBoat ml_X9_168 (show g_lay[41]? = some _ from rfl) rfl rfl (by decide) (Nat.le_of_ble_eq_true rfl) rfl dX9_lies_2 ?_
  refine go_if_eq (pc := 5) (tgt := 15) dX9_lies_5 (by decide) (fun e26 => ?_) (fun e26 => ?_)
  · replace h := (if_pos e26).symm.trans h
    refine go_aload_n (pc := 15) dX9_lies_15 rfl ?_
    refine go_iconst (pc := 16) (v := (-1 : Int32)) dX9_lies_16 (by decide) ?_
    obtain ⟨u3, c4, h⟩ := g_bd h
    refine go_callV (pc := 17) (as := [.inl (-1 : Int32)]) (st := []) (r := u3.1) (M1 := u3.2) (z_X9_lower hok  c4) cw_X9_lower ml_X9_236 (show g_lay[41]? = some _ from rfl) rfl rfl (by decide) (Nat.le_of_ble_eq_true rfl) rfl dX9_lies_17 ?_
    exact go_iret (pc := 20) (Option.some.inj h).symm rfl dX9_lies_20 rfl
  · replace h := (if_neg e26).symm.trans h
    refine go_iload_n (pc := 8) dX9_lies_8 rfl ?_
    obtain ⟨u5, c6, h⟩ := g_bd h
    refine go_callS (pc := 9) (as := [.inl p2]) (st := []) (r := u5.1) (M1 := u5.2) (z_X9_isHour hok  c6) cw_X9_isHour ml_X9_159 (by decide) (Nat.le_of_ble_eq_true rfl) rfl dX9_lies_9 ?_
    refine go_if_ne (pc := 12) (tgt := 21) dX9_lies_12 (by decide) (fun e25 => ?_) (fun e25 => ?_)
    · replace h := (if_neg e25).symm.trans h
      refine go_iload_n (pc := 21) dX9_lies_21 rfl ?_
      by_cases e20 : p3 = (0 : Int32)
      · replace h := (if_pos e20).symm.trans h
        refine go_tabIn (pc := 22) (off := 26) (tgt := 48) dX9_lies_22 (by rw [e20]; decide) (by rw [e20]; decide) (by rw [e20]; decide) (by decide) ?_
        refine go_aload_n (pc := 48) dX9_lies_48 rfl ?_
        refine go_iload_n (pc := 49) dX9_lies_49 rfl ?_
        obtain ⟨u7, c8, h⟩ := g_bd h
        refine go_callV (pc := 50) (as := [.inl p1]) (st := []) (r := u7.1) (M1 := u7.2) (z_X9_middle hok  c8) cw_X9_middle ml_X9_233 (show g_lay[41]? = some _ from rfl) rfl rfl (by decide) (Nat.le_of_ble_eq_true rfl) rfl dX9_lies_50 ?_
        refine go_aload_n (pc := 53) dX9_lies_53 rfl ?_
        refine go_iload_n (pc := 54) dX9_lies_54 rfl ?_
        refine go_iload_n (pc := 55) dX9_lies_55 rfl ?_
        obtain ⟨u9, c10, h⟩ := g_bd h
        refine go_callV (pc := 56) (as := [.inl p1, .inl p2]) (st := [.inl u7.1]) (r := u9.1) (M1 := u9.2) (z_X9_outAt hok  c10) cw_X9_outAt ml_X9_230 (show g_lay[41]? = some _ from rfl) rfl rfl (by decide) (Nat.le_of_ble_eq_true rfl) rfl dX9_lies_56 ?_
        refine go_isub (pc := 59) dX9_lies_59 ?_
        exact go_iret (pc := 60) (Option.some.inj h).symm rfl dX9_lies_60 rfl
      · replace h := (if_neg e20).symm.trans h
        by_cases e21 : p3 = (1 : Int32)
        · replace h := (if_pos e21).symm.trans h
          refine go_tabIn (pc := 22) (off := 39) (tgt := 61) dX9_lies_22 (by rw [e21]; decide) (by rw [e21]; decide) (by rw [e21]; decide) (by decide) ?_
          refine go_aload_n (pc := 61) dX9_lies_61 rfl ?_
          refine go_iload_n (pc := 62) dX9_lies_62 rfl ?_
          obtain ⟨u11, c12, h⟩ := g_bd h
          refine go_callV (pc := 63) (as := [.inl p1]) (st := []) (r := u11.1) (M1 := u11.2) (z_X9_middle hok  c12) cw_X9_middle ml_X9_233 (show g_lay[41]? = some _ from rfl) rfl rfl (by decide) (Nat.le_of_ble_eq_true rfl) rfl dX9_lies_63 ?_
          refine go_aload_n (pc := 66) dX9_lies_66 rfl ?_
          refine go_iload_n (pc := 67) dX9_lies_67 rfl ?_
          refine go_iload_n (pc := 68) dX9_lies_68 rfl ?_
          obtain ⟨u13, c14, h⟩ := g_bd h
          refine go_callV (pc := 69) (as := [.inl p1, .inl p2]) (st := [.inl u11.1]) (r := u13.1) (M1 := u13.2) (z_X9_outAt hok  c14) cw_X9_outAt ml_X9_230 (show g_lay[41]? = some _ from rfl) rfl rfl (by decide) (Nat.le_of_ble_eq_true rfl) rfl dX9_lies_69 ?_
          refine go_iadd (pc := 72) dX9_lies_72 ?_
          refine go_aload_n (pc := 73) dX9_lies_73 rfl ?_
          refine gf_9_43 (pc := 74) dX9_lies_74 ?_
          refine go_iload_n (pc := 77) dX9_lies_77 rfl ?_
          obtain ⟨i15, h⟩ := g_gd h
          refine go_iald (pc := 78) (n := 5) rfl (g_inb_ok i15) dX9_lies_78 ?_
          refine go_iadd (pc := 79) dX9_lies_79 ?_
          exact go_iret (pc := 80) (Option.some.inj h).symm rfl dX9_lies_80 rfl
        · replace h := (if_neg e21).symm.trans h
          by_cases e22 : p3 = (2 : Int32)
          · replace h := (if_pos e22).symm.trans h
            refine go_tabIn (pc := 22) (off := 59) (tgt := 81) dX9_lies_22 (by rw [e22]; decide) (by rw [e22]; decide) (by rw [e22]; decide) (by decide) ?_
            refine go_aload_n (pc := 81) dX9_lies_81 rfl ?_
            refine go_iload_n (pc := 82) dX9_lies_82 rfl ?_
            refine go_iload_n (pc := 83) dX9_lies_83 rfl ?_
            obtain ⟨u16, c17, h⟩ := g_bd h
            refine go_callV (pc := 84) (as := [.inl p1, .inl p2]) (st := []) (r := u16.1) (M1 := u16.2) (z_X9_middleBy hok  c17) cw_X9_middleBy ml_X9_243 (show g_lay[41]? = some _ from rfl) rfl rfl (by decide) (Nat.le_of_ble_eq_true rfl) rfl dX9_lies_84 ?_
            exact go_iret (pc := 87) (Option.some.inj h).symm rfl dX9_lies_87 rfl
          · replace h := (if_neg e22).symm.trans h
            refine go_tabOut (pc := 22) (tgt := 88) dX9_lies_22 (by have q0 := g_out e20 (show (0 : Int32).toInt = 0 by decide); have q1 := g_out e21 (show (1 : Int32).toInt = 1 by decide); have q2 := g_out e22 (show (2 : Int32).toInt = 2 by decide); omega) (by decide) ?_
            refine go_aload_n (pc := 88) dX9_lies_88 rfl ?_
            refine go_bipush (pc := 89) (v := (-2 : Int32)) dX9_lies_89 (by decide) ?_
            obtain ⟨u18, c19, h⟩ := g_bd h
            refine go_callV (pc := 91) (as := [.inl (-2 : Int32)]) (st := []) (r := u18.1) (M1 := u18.2) (z_X9_lower hok  c19) cw_X9_lower ml_X9_236 (show g_lay[41]? = some _ from rfl) rfl rfl (by decide) (Nat.le_of_ble_eq_true rfl) rfl dX9_lies_91 ?_
            exact go_iret (pc := 94) (Option.some.inj h).symm rfl dX9_lies_94 rfl
    · replace h := (if_pos e25).symm.trans h
      refine go_aload_n (pc := 15) dX9_lies_15 rfl ?_
      refine go_iconst (pc := 16) (v := (-1 : Int32)) dX9_lies_16 (by decide) ?_
      obtain ⟨u23, c24, h⟩ := g_bd h
      refine go_callV (pc := 17) (as := [.inl (-1 : Int32)]) (st := []) (r := u23.1) (M1 := u23.2) (z_X9_lower hok  c24) cw_X9_lower ml_X9_236 (show g_lay[41]? = some _ from rfl) rfl rfl (by decide) (Nat.le_of_ble_eq_true rfl) rfl dX9_lies_17 ?_
      exact go_iret (pc := 20) (Option.some.inj h).symm rfl dX9_lies_20 rfl
def x_X9_hangHours_L5   : Nat → Int32 → Int32 → Int32 → Int32 → g_M → Option (Int32 × g_M)
  | 0, _, _, _, _, _ => none
  | n + 1, v1, v2, v3, v4, M => (if (12 : Int32) ≤ v4 then (some (v3, M)) else (((x_X9_hangsWith v1 v4 v2 M).bind fun u1 => if u1.1 = 0 then (x_X9_hangHours_L5   n v1 v2 (v3 ||| (0 : Int32)) (v4 + (1 : Int32)) u1.2) else (x_X9_hangHours_L5   n v1 v2 (v3 ||| ((1 : Int32) <<< (v4 &&& 31))) (v4 + (1 : Int32)) u1.2))))
set_option maxHeartbeats 4000000 in
set_option maxRecDepth 100000 in
theorem z_X9_hangHours_L5 {X : g_X} (hok : g_ok X)  {r : Int32 × g_M}  : ∀ (n : Nat) (v1 : Int32) (v2 : Int32) (v3 : Int32) (v4 : Int32) (M : g_M), x_X9_hangHours_L5   n v1 v2 v3 v4 M = some r → g_Go X cX9_hangHours RX9 5 (some .int) 3 69 r 5 [some (.inr 41), some (.inl v1), some (.inl v2), some (.inl v3), some (.inl v4)] [] M := by
  intro n
  induction n with
  | zero =>
    intro v1 v2 v3 v4 M h
    rw [x_X9_hangHours_L5] at h
    cases h
  | succ n ih =>
    intro v1 v2 v3 v4 M h
    rw [x_X9_hangHours_L5] at h
    refine go_iload (pc := 5) dX9_hangHours_5 rfl ?_
    refine go_bipush (pc := 7) (v := (12 : Int32)) dX9_hangHours_7 (by decide) ?_
    refine go_icmp_ge (pc := 9) (tgt := 40) dX9_hangHours_9 (by decide) (fun e4 => ?_) (fun e4 => ?_)
    · replace h := (if_pos e4).symm.trans h
      refine go_iload_n (pc := 40) dX9_hangHours_40 rfl ?_
      exact go_iret (pc := 41) (Option.some.inj h).symm rfl dX9_hangHours_41 rfl
    · replace h := (if_neg e4).symm.trans h
      refine go_iload_n (pc := 12) dX9_hangHours_12 rfl ?_
      refine go_aload_n (pc := 13) dX9_hangHours_13 rfl ?_
      refine go_iload_n (pc := 14) dX9_hangHours_14 rfl ?_
      refine go_iload (pc := 15) dX9_hangHours_15 rfl ?_
      refine go_iload_n (pc := 17) dX9_hangHours_17 rfl ?_
      obtain ⟨u1, c2, h⟩ := g_bd h
      refine go_callV (pc := 18) (as := [.inl v1, .inl v4, .inl v2]) (st := [.inl v3]) (r := u1.1) (M1 := u1.2) (z_X9_hangsWith hok  c2) cw_X9_hangsWith ml_X9_218 (show g_lay[41]? = some _ from rfl) rfl rfl (by decide) (Nat.le_of_ble_eq_true rfl) rfl dX9_hangHours_18 ?_
      refine go_if_eq (pc := 21) (tgt := 31) dX9_hangHours_21 (by decide) (fun e3 => ?_) (fun e3 => ?_)
      · replace h := (if_pos e3).symm.trans h
        refine go_iconst (pc := 31) (v := (0 : Int32)) dX9_hangHours_31 (by decide) ?_
        refine go_ior (pc := 32) dX9_hangHours_32 ?_
        refine go_istore_n (pc := 33) (lv' := [some (.inr 41), some (.inl v1), some (.inl v2), some (.inl (v3 ||| (0 : Int32))), some (.inl v4)]) dX9_hangHours_33 (by decide) rfl ?_
        refine go_iinc (pc := 34) (v := (1 : Int32)) (lv' := [some (.inr 41), some (.inl v1), some (.inl v2), some (.inl (v3 ||| (0 : Int32))), some (.inl (v4 + (1 : Int32)))]) dX9_hangHours_34 rfl (by decide) (by decide) rfl ?_
        refine go_goto (pc := 37) (tgt := 5) dX9_hangHours_37 (by decide) ?_
        exact go_to (ih _ _ _ _ _ h) (And.intro rfl (And.intro rfl (And.intro rfl (And.intro rfl (And.intro rfl trivial)))))
      · replace h := (if_neg e3).symm.trans h
        refine go_iconst (pc := 24) (v := (1 : Int32)) dX9_hangHours_24 (by decide) ?_
        refine go_iload (pc := 25) dX9_hangHours_25 rfl ?_
        refine go_ishl (pc := 27) dX9_hangHours_27 ?_
        refine go_goto (pc := 28) (tgt := 32) dX9_hangHours_28 (by decide) ?_
        refine go_ior (pc := 32) dX9_hangHours_32 ?_
        refine go_istore_n (pc := 33) (lv' := [some (.inr 41), some (.inl v1), some (.inl v2), some (.inl (v3 ||| ((1 : Int32) <<< (v4 &&& 31)))), some (.inl v4)]) dX9_hangHours_33 (by decide) rfl ?_
        refine go_iinc (pc := 34) (v := (1 : Int32)) (lv' := [some (.inr 41), some (.inl v1), some (.inl v2), some (.inl (v3 ||| ((1 : Int32) <<< (v4 &&& 31)))), some (.inl (v4 + (1 : Int32)))]) dX9_hangHours_34 rfl (by decide) (by decide) rfl ?_
        refine go_goto (pc := 37) (tgt := 5) dX9_hangHours_37 (by decide) ?_
        exact go_to (ih _ _ _ _ _ h) (And.intro rfl (And.intro rfl (And.intro rfl (And.intro rfl (And.intro rfl trivial)))))
def x_X9_hangHours  (p1 p2 : Int32) (M : g_M) : Option (Int32 × g_M) := (x_X9_hangHours_L5   g_F p1 p2 (0 : Int32) (0 : Int32) M)
set_option maxHeartbeats 4000000 in
set_option maxRecDepth 100000 in
theorem z_X9_hangHours {X : g_X} (hok : g_ok X)  {p1 p2 : Int32} {M : g_M} {r : Int32 × g_M} (h : x_X9_hangHours p1 p2 M = some r) : g_Con X yX9_hangHours cX9_hangHours 5 (some .int) 3 69 [.inr 41, .inl p1, .inl p2] M r := by
  rw [x_X9_hangHours] at h
  refine g_con hok (plainFor_of_name (by decide +kernel)) (Nat.le_of_ble_eq_true rfl) (go_to (lv2 := [some (.inr 41), some (.inl p1), some (.inl p2), none, none]) (own := RX9) ?_ (And.intro rfl (And.intro rfl (And.intro rfl trivial))))
  refine go_iconst (pc := 0) (v := (0 : Int32)) dX9_hangHours_0 (by decide) ?_
  refine go_istore_n (pc := 1) (lv' := [some (.inr 41), some (.inl p1), some (.inl p2), some (.inl (0 : Int32)), none]) dX9_hangHours_1 (by decide) rfl ?_
  refine go_iconst (pc := 2) (v := (0 : Int32)) dX9_hangHours_2 (by decide) ?_
  refine go_istore (pc := 3) (lv' := [some (.inr 41), some (.inl p1), some (.inl p2), some (.inl (0 : Int32)), some (.inl (0 : Int32))]) dX9_hangHours_3 (by decide) rfl ?_
  exact go_to (z_X9_hangHours_L5 hok   g_F _ _ _ _ _ h) (And.intro rfl (And.intro rfl (And.intro rfl (And.intro rfl (And.intro rfl trivial)))))
def x_X9_farHours_L5   : Nat → Int32 → Int32 → Int32 → Int32 → g_M → Option (Int32 × g_M)
  | 0, _, _, _, _, _ => none
  | n + 1, v1, v2, v3, v4, M => (if (12 : Int32) ≤ v4 then (some (v3, M)) else (((x_X9_outWith v1 v4 v2 M).bind fun u1 => (if g_inb v1 5 = true then (if u1.1 ≤ (u1.2 54 v1.toNatClampNeg) then (x_X9_farHours_L5   n v1 v2 (v3 ||| (0 : Int32)) (v4 + (1 : Int32)) u1.2) else (x_X9_farHours_L5   n v1 v2 (v3 ||| ((1 : Int32) <<< (v4 &&& 31))) (v4 + (1 : Int32)) u1.2)) else none))))
set_option maxHeartbeats 4000000 in
set_option maxRecDepth 100000 in
theorem z_X9_farHours_L5 {X : g_X} (hok : g_ok X)  {r : Int32 × g_M}  : ∀ (n : Nat) (v1 : Int32) (v2 : Int32) (v3 : Int32) (v4 : Int32) (M : g_M), x_X9_farHours_L5   n v1 v2 v3 v4 M = some r → g_Go X cX9_farHours RX9 5 (some .int) 4 93 r 5 [some (.inr 41), some (.inl v1), some (.inl v2), some (.inl v3), some (.inl v4)] [] M := by
  intro n
  induction n with
  | zero =>
    intro v1 v2 v3 v4 M h
    rw [x_X9_farHours_L5] at h
    cases h
  | succ n ih =>
    intro v1 v2 v3 v4 M h
    rw [x_X9_farHours_L5] at h
    refine go_iload (pc := 5) dX9_farHours_5 rfl ?_
    refine go_bipush (pc := 7) (v := (12 : Int32)) dX9_farHours_7 (by decide) ?_
    refine go_icmp_ge (pc := 9) (tgt := 46) dX9_farHours_9 (by decide) (fun e5 => ?_) (fun e5 => ?_)
    · replace h := (if_pos e5).symm.trans h
      refine go_iload_n (pc := 46) dX9_farHours_46 rfl ?_
      exact go_iret (pc := 47) (Option.some.inj h).symm rfl dX9_farHours_47 rfl
    · replace h := (if_neg e5).symm.trans h
      refine go_iload_n (pc := 12) dX9_farHours_12 rfl ?_
      refine go_aload_n (pc := 13) dX9_farHours_13 rfl ?_
      refine go_iload_n (pc := 14) dX9_farHours_14 rfl ?_
      refine go_iload (pc := 15) dX9_farHours_15 rfl ?_
      refine go_iload_n (pc := 17) dX9_farHours_17 rfl ?_
      obtain ⟨u1, c2, h⟩ := g_bd h
      refine go_callV (pc := 18) (as := [.inl v1, .inl v4, .inl v2]) (st := [.inl v3]) (r := u1.1) (M1 := u1.2) (z_X9_outWith hok  c2) cw_X9_outWith ml_X9_224 (show g_lay[41]? = some _ from rfl) rfl rfl (by decide) (Nat.le_of_ble_eq_true rfl) rfl dX9_farHours_18 ?_
      refine go_aload_n (pc := 21) dX9_farHours_21 rfl ?_
      refine gf_9_46 (pc := 22) dX9_farHours_22 ?_
      refine go_iload_n (pc := 25) dX9_farHours_25 rfl ?_
      obtain ⟨i3, h⟩ := g_gd h
      refine go_iald (pc := 26) (n := 5) rfl (g_inb_ok i3) dX9_farHours_26 ?_
      refine go_icmp_le (pc := 27) (tgt := 37) dX9_farHours_27 (by decide) (fun e4 => ?_) (fun e4 => ?_)
      · replace h := (if_pos e4).symm.trans h
        refine go_iconst (pc := 37) (v := (0 : Int32)) dX9_farHours_37 (by decide) ?_
        refine go_ior (pc := 38) dX9_farHours_38 ?_
        refine go_istore_n (pc := 39) (lv' := [some (.inr 41), some (.inl v1), some (.inl v2), some (.inl (v3 ||| (0 : Int32))), some (.inl v4)]) dX9_farHours_39 (by decide) rfl ?_
        refine go_iinc (pc := 40) (v := (1 : Int32)) (lv' := [some (.inr 41), some (.inl v1), some (.inl v2), some (.inl (v3 ||| (0 : Int32))), some (.inl (v4 + (1 : Int32)))]) dX9_farHours_40 rfl (by decide) (by decide) rfl ?_
        refine go_goto (pc := 43) (tgt := 5) dX9_farHours_43 (by decide) ?_
        exact go_to (ih _ _ _ _ _ h) (And.intro rfl (And.intro rfl (And.intro rfl (And.intro rfl (And.intro rfl trivial)))))
      · replace h := (if_neg e4).symm.trans h
        refine go_iconst (pc := 30) (v := (1 : Int32)) dX9_farHours_30 (by decide) ?_
        refine go_iload (pc := 31) dX9_farHours_31 rfl ?_
        refine go_ishl (pc := 33) dX9_farHours_33 ?_
        refine go_goto (pc := 34) (tgt := 38) dX9_farHours_34 (by decide) ?_
        refine go_ior (pc := 38) dX9_farHours_38 ?_
        refine go_istore_n (pc := 39) (lv' := [some (.inr 41), some (.inl v1), some (.inl v2), some (.inl (v3 ||| ((1 : Int32) <<< (v4 &&& 31)))), some (.inl v4)]) dX9_farHours_39 (by decide) rfl ?_
        refine go_iinc (pc := 40) (v := (1 : Int32)) (lv' := [some (.inr 41), some (.inl v1), some (.inl v2), some (.inl (v3 ||| ((1 : Int32) <<< (v4 &&& 31)))), some (.inl (v4 + (1 : Int32)))]) dX9_farHours_40 rfl (by decide) (by decide) rfl ?_
        refine go_goto (pc := 43) (tgt := 5) dX9_farHours_43 (by decide) ?_
        exact go_to (ih _ _ _ _ _ h) (And.intro rfl (And.intro rfl (And.intro rfl (And.intro rfl (And.intro rfl trivial)))))
def x_X9_farHours  (p1 p2 : Int32) (M : g_M) : Option (Int32 × g_M) := (x_X9_farHours_L5   g_F p1 p2 (0 : Int32) (0 : Int32) M)
set_option maxHeartbeats 4000000 in
set_option maxRecDepth 100000 in
theorem z_X9_farHours {X : g_X} (hok : g_ok X)  {p1 p2 : Int32} {M : g_M} {r : Int32 × g_M} (h : x_X9_farHours p1 p2 M = some r) : g_Con X yX9_farHours cX9_farHours 5 (some .int) 4 93 [.inr 41, .inl p1, .inl p2] M r := by
  rw [x_X9_farHours] at h
  refine g_con hok (plainFor_of_name (by decide +kernel)) (Nat.le_of_ble_eq_true rfl) (go_to (lv2 := [some (.inr 41), some (.inl p1), some (.inl p2), none, none]) (own := RX9) ?_ (And.intro rfl (And.intro rfl (And.intro rfl trivial))))
  refine go_iconst (pc := 0) (v := (0 : Int32)) dX9_farHours_0 (by decide) ?_
  refine go_istore_n (pc := 1) (lv' := [some (.inr 41), some (.inl p1), some (.inl p2), some (.inl (0 : Int32)), none]) dX9_farHours_1 (by decide) rfl ?_
  refine go_iconst (pc := 2) (v := (0 : Int32)) dX9_farHours_2 (by decide) ?_
  refine go_istore (pc := 3) (lv' := [some (.inr 41), some (.inl p1), some (.inl p2), some (.inl (0 : Int32)), some (.inl (0 : Int32))]) dX9_farHours_3 (by decide) rfl ?_
  exact go_to (z_X9_farHours_L5 hok   g_F _ _ _ _ _ h) (And.intro rfl (And.intro rfl (And.intro rfl (And.intro rfl (And.intro rfl trivial)))))
def x_X9_underHours_L4   : Nat → Int32 → Int32 → g_M → Option (Int32 × g_M)
  | 0, _, _, _ => none
  | n + 1, v1, v2, M => (if (12 : Int32) ≤ v2 then (some (v1, M)) else (((x_X9_water v2 M).bind fun u1 => if u1.1 ≤ (u1.2 47 (0 : Int32).toNatClampNeg) then (x_X9_underHours_L4   n (v1 ||| (0 : Int32)) (v2 + (1 : Int32)) u1.2) else (x_X9_underHours_L4   n (v1 ||| ((1 : Int32) <<< (v2 &&& 31))) (v2 + (1 : Int32)) u1.2))))
set_option maxHeartbeats 4000000 in
set_option maxRecDepth 100000 in
theorem z_X9_underHours_L4 {X : g_X} (hok : g_ok X)  {r : Int32 × g_M}  : ∀ (n : Nat) (v1 : Int32) (v2 : Int32) (M : g_M), x_X9_underHours_L4   n v1 v2 M = some r → g_Go X cX9_underHours RX9 3 (some .int) 1 21 r 4 [some (.inr 41), some (.inl v1), some (.inl v2)] [] M := by
  intro n
  induction n with
  | zero =>
    intro v1 v2 M h
    rw [x_X9_underHours_L4] at h
    cases h
  | succ n ih =>
    intro v1 v2 M h
    rw [x_X9_underHours_L4] at h
    refine go_iload_n (pc := 4) dX9_underHours_4 rfl ?_
    refine go_bipush (pc := 5) (v := (12 : Int32)) dX9_underHours_5 (by decide) ?_
    refine go_icmp_ge (pc := 7) (tgt := 40) dX9_underHours_7 (by decide) (fun e4 => ?_) (fun e4 => ?_)
    · replace h := (if_pos e4).symm.trans h
      refine go_iload_n (pc := 40) dX9_underHours_40 rfl ?_
      exact go_iret (pc := 41) (Option.some.inj h).symm rfl dX9_underHours_41 rfl
    · replace h := (if_neg e4).symm.trans h
      refine go_iload_n (pc := 10) dX9_underHours_10 rfl ?_
      refine go_aload_n (pc := 11) dX9_underHours_11 rfl ?_
      refine go_iload_n (pc := 12) dX9_underHours_12 rfl ?_
      obtain ⟨u1, c2, h⟩ := g_bd h
      refine go_callV (pc := 13) (as := [.inl v2]) (st := [.inl v1]) (r := u1.1) (M1 := u1.2) (z_X9_water hok  c2) cw_X9_water ml_X9_211 (show g_lay[41]? = some _ from rfl) rfl rfl (by decide) (Nat.le_of_ble_eq_true rfl) rfl dX9_underHours_13 ?_
      refine go_aload_n (pc := 16) dX9_underHours_16 rfl ?_
      refine gf_9_25 (pc := 17) dX9_underHours_17 ?_
      refine go_iconst (pc := 20) (v := (0 : Int32)) dX9_underHours_20 (by decide) ?_
      refine go_iald (pc := 21) (n := 2) rfl (g_inb_ok (by decide)) dX9_underHours_21 ?_
      refine go_icmp_le (pc := 22) (tgt := 31) dX9_underHours_22 (by decide) (fun e3 => ?_) (fun e3 => ?_)
      · replace h := (if_pos e3).symm.trans h
        refine go_iconst (pc := 31) (v := (0 : Int32)) dX9_underHours_31 (by decide) ?_
        refine go_ior (pc := 32) dX9_underHours_32 ?_
        refine go_istore_n (pc := 33) (lv' := [some (.inr 41), some (.inl (v1 ||| (0 : Int32))), some (.inl v2)]) dX9_underHours_33 (by decide) rfl ?_
        refine go_iinc (pc := 34) (v := (1 : Int32)) (lv' := [some (.inr 41), some (.inl (v1 ||| (0 : Int32))), some (.inl (v2 + (1 : Int32)))]) dX9_underHours_34 rfl (by decide) (by decide) rfl ?_
        refine go_goto (pc := 37) (tgt := 4) dX9_underHours_37 (by decide) ?_
        exact go_to (ih _ _ _ h) (And.intro rfl (And.intro rfl (And.intro rfl trivial)))
      · replace h := (if_neg e3).symm.trans h
        refine go_iconst (pc := 25) (v := (1 : Int32)) dX9_underHours_25 (by decide) ?_
        refine go_iload_n (pc := 26) dX9_underHours_26 rfl ?_
        refine go_ishl (pc := 27) dX9_underHours_27 ?_
        refine go_goto (pc := 28) (tgt := 32) dX9_underHours_28 (by decide) ?_
        refine go_ior (pc := 32) dX9_underHours_32 ?_
        refine go_istore_n (pc := 33) (lv' := [some (.inr 41), some (.inl (v1 ||| ((1 : Int32) <<< (v2 &&& 31)))), some (.inl v2)]) dX9_underHours_33 (by decide) rfl ?_
        refine go_iinc (pc := 34) (v := (1 : Int32)) (lv' := [some (.inr 41), some (.inl (v1 ||| ((1 : Int32) <<< (v2 &&& 31)))), some (.inl (v2 + (1 : Int32)))]) dX9_underHours_34 rfl (by decide) (by decide) rfl ?_
        refine go_goto (pc := 37) (tgt := 4) dX9_underHours_37 (by decide) ?_
        exact go_to (ih _ _ _ h) (And.intro rfl (And.intro rfl (And.intro rfl trivial)))
def x_X9_underHours  (M : g_M) : Option (Int32 × g_M) := (x_X9_underHours_L4   g_F (0 : Int32) (0 : Int32) M)
set_option maxHeartbeats 4000000 in
set_option maxRecDepth 100000 in
theorem z_X9_underHours {X : g_X} (hok : g_ok X)  {M : g_M} {r : Int32 × g_M} (h : x_X9_underHours  M = some r) : g_Con X yX9_underHours cX9_underHours 3 (some .int) 1 21 [.inr 41] M r := by
  rw [x_X9_underHours] at h
  refine g_con hok (plainFor_of_name (by decide +kernel)) (Nat.le_of_ble_eq_true rfl) (go_to (lv2 := [some (.inr 41), none, none]) (own := RX9) ?_ (And.intro rfl trivial))
  refine go_iconst (pc := 0) (v := (0 : Int32)) dX9_underHours_0 (by decide) ?_
  refine go_istore_n (pc := 1) (lv' := [some (.inr 41), some (.inl (0 : Int32)), none]) dX9_underHours_1 (by decide) rfl ?_
  refine go_iconst (pc := 2) (v := (0 : Int32)) dX9_underHours_2 (by decide) ?_
  refine go_istore_n (pc := 3) (lv' := [some (.inr 41), some (.inl (0 : Int32)), some (.inl (0 : Int32))]) dX9_underHours_3 (by decide) rfl ?_
  exact go_to (z_X9_underHours_L4 hok   g_F _ _ _ h) (And.intro rfl (And.intro rfl (And.intro rfl trivial)))
def x_X9_wellHours  (p1 p2 : Int32) (M : g_M) : Option (Int32 × g_M) := (((x_X9_hangHours p1 p2 M).bind fun u1 => ((x_X9_farHours p1 p2 u1.2).bind fun u3 => ((x_X9_underHours u3.2).bind fun u5 => some (((((4095 : Int32) &&& (u1.1 ^^^ (-1 : Int32))) &&& (u3.1 ^^^ (-1 : Int32))) &&& (u5.1 ^^^ (-1 : Int32))), u5.2)))))
set_option maxHeartbeats 4000000 in
set_option maxRecDepth 100000 in
theorem z_X9_wellHours {X : g_X} (hok : g_ok X)  {p1 p2 : Int32} {M : g_M} {r : Int32 × g_M} (h : x_X9_wellHours p1 p2 M = some r) : g_Con X yX9_wellHours cX9_wellHours 3 (some .int) 5 117 [.inr 41, .inl p1, .inl p2] M r := by
  rw [x_X9_wellHours] at h
  refine g_con hok (plainFor_of_name (by decide +kernel)) (Nat.le_of_ble_eq_true rfl) (go_to (lv2 := [some (.inr 41), some (.inl p1), some (.inl p2)]) (own := RX9) ?_ (And.intro rfl (And.intro rfl (And.intro rfl trivial))))
  refine go_sipush (pc := 0) (v := (4095 : Int32)) dX9_wellHours_0 (by decide) ?_
  refine go_aload_n (pc := 3) dX9_wellHours_3 rfl ?_
  refine go_iload_n (pc := 4) dX9_wellHours_4 rfl ?_
  refine go_iload_n (pc := 5) dX9_wellHours_5 rfl ?_
  obtain ⟨u1, c2, h⟩ := g_bd h
  refine go_callV (pc := 6) (as := [.inl p1, .inl p2]) (st := [.inl (4095 : Int32)]) (r := u1.1) (M1 := u1.2) (z_X9_hangHours hok  c2) cw_X9_hangHours ml_X9_246 (show g_lay[41]? = some _ from rfl) rfl rfl (by decide) (Nat.le_of_ble_eq_true rfl) rfl dX9_wellHours_6 ?_
  refine go_iconst (pc := 9) (v := (-1 : Int32)) dX9_wellHours_9 (by decide) ?_
  refine go_ixor (pc := 10) dX9_wellHours_10 ?_
  refine go_iand (pc := 11) dX9_wellHours_11 ?_
  refine go_aload_n (pc := 12) dX9_wellHours_12 rfl ?_
  refine go_iload_n (pc := 13) dX9_wellHours_13 rfl ?_
  refine go_iload_n (pc := 14) dX9_wellHours_14 rfl ?_
  obtain ⟨u3, c4, h⟩ := g_bd h
  refine go_callV (pc := 15) (as := [.inl p1, .inl p2]) (st := [.inl ((4095 : Int32) &&& (u1.1 ^^^ (-1 : Int32)))]) (r := u3.1) (M1 := u3.2) (z_X9_farHours hok  c4) cw_X9_farHours ml_X9_249 (show g_lay[41]? = some _ from rfl) rfl rfl (by decide) (Nat.le_of_ble_eq_true rfl) rfl dX9_wellHours_15 ?_
  refine go_iconst (pc := 18) (v := (-1 : Int32)) dX9_wellHours_18 (by decide) ?_
  refine go_ixor (pc := 19) dX9_wellHours_19 ?_
  refine go_iand (pc := 20) dX9_wellHours_20 ?_
  refine go_aload_n (pc := 21) dX9_wellHours_21 rfl ?_
  obtain ⟨u5, c6, h⟩ := g_bd h
  refine go_callV (pc := 22) (as := []) (st := [.inl (((4095 : Int32) &&& (u1.1 ^^^ (-1 : Int32))) &&& (u3.1 ^^^ (-1 : Int32)))]) (r := u5.1) (M1 := u5.2) (z_X9_underHours hok  c6) cw_X9_underHours ml_X9_252 (show g_lay[41]? = some _ from rfl) rfl rfl (by decide) (Nat.le_of_ble_eq_true rfl) rfl dX9_wellHours_22 ?_
  refine go_iconst (pc := 25) (v := (-1 : Int32)) dX9_wellHours_25 (by decide) ?_
  refine go_ixor (pc := 26) dX9_wellHours_26 ?_
  refine go_iand (pc := 27) dX9_wellHours_27 ?_
  exact go_iret (pc := 28) (Option.some.inj h).symm rfl dX9_wellHours_28 rfl
def x_X9_hours  (p1 p2 : Int32) (M : g_M) : Option (Int32 × g_M) := (((x_X9_isBoat p1 M).bind fun u1 => if u1.1 = 0 then (((x_X9_no (-1 : Int32) u1.2).bind fun u20 => some (u20.1, u20.2))) else (if p2 = (0 : Int32) then ((if g_inb p1 5 = true then (((x_X9_hangHours p1 (u1.2 52 p1.toNatClampNeg) u1.2).bind fun u4 => some (u4.1, u4.2))) else none)) else if p2 = (1 : Int32) then ((if g_inb p1 5 = true then (((x_X9_farHours p1 (u1.2 52 p1.toNatClampNeg) u1.2).bind fun u7 => some (u7.1, u7.2))) else none)) else if p2 = (2 : Int32) then (((x_X9_underHours u1.2).bind fun u9 => some (u9.1, u9.2))) else if p2 = (3 : Int32) then ((if g_inb p1 5 = true then (((x_X9_wellHours p1 (u1.2 52 p1.toNatClampNeg) u1.2).bind fun u12 => some (u12.1, u12.2))) else none)) else (((x_X9_no (-2 : Int32) u1.2).bind fun u14 => some (u14.1, u14.2))))))
set_option maxHeartbeats 4000000 in
set_option maxRecDepth 100000 in
theorem z_X9_hours {X : g_X} (hok : g_ok X)  {p1 p2 : Int32} {M : g_M} {r : Int32 × g_M} (h : x_X9_hours p1 p2 M = some r) : g_Con X yX9_hours cX9_hours 3 (some .int) 6 139 [.inr 41, .inl p1, .inl p2] M r := by
  rw [x_X9_hours] at h
  refine g_con hok (plainFor_of_name (by decide +kernel)) (Nat.le_of_ble_eq_true rfl) (go_to (lv2 := [some (.inr 41), some (.inl p1), some (.inl p2)]) (own := RX9) ?_ (And.intro rfl (And.intro rfl (And.intro rfl trivial))))
  refine go_aload_n (pc := 0) dX9_hours_0 rfl ?_
  refine go_iload_n (pc := 1) dX9_hours_1 rfl ?_
  obtain ⟨u1, c2, h⟩ := g_bd h
  refine go_callV (pc := 2) (as := [.inl p1]) (st := []) (r := u1.1) (M1 := u1.2) (z_X9_isBoat hok  c2) cw_X9_isBoat ml_X9_168 (show g_lay[41]? = some _ from rfl) rfl rfl (by decide) (Nat.le_of_ble_eq_true rfl) rfl dX9_hours_2 ?_
  refine go_if_ne (pc := 5) (tgt := 14) dX9_hours_5 (by decide) (fun e22 => ?_) (fun e22 => ?_)
  · replace h := (if_neg e22).symm.trans h
    refine go_iload_n (pc := 14) dX9_hours_14 rfl ?_
    by_cases e16 : p2 = (0 : Int32)
    · replace h := (if_pos e16).symm.trans h
      refine go_tabIn (pc := 15) (off := 29) (tgt := 44) dX9_hours_15 (by rw [e16]; decide) (by rw [e16]; decide) (by rw [e16]; decide) (by decide) ?_
      refine go_aload_n (pc := 44) dX9_hours_44 rfl ?_
      refine go_iload_n (pc := 45) dX9_hours_45 rfl ?_
      refine go_aload_n (pc := 46) dX9_hours_46 rfl ?_
      refine gf_9_40 (pc := 47) dX9_hours_47 ?_
      refine go_iload_n (pc := 50) dX9_hours_50 rfl ?_
      obtain ⟨i3, h⟩ := g_gd h
      refine go_iald (pc := 51) (n := 5) rfl (g_inb_ok i3) dX9_hours_51 ?_
      obtain ⟨u4, c5, h⟩ := g_bd h
      refine go_callV (pc := 52) (as := [.inl p1, .inl (u1.2 52 p1.toNatClampNeg)]) (st := []) (r := u4.1) (M1 := u4.2) (z_X9_hangHours hok  c5) cw_X9_hangHours ml_X9_246 (show g_lay[41]? = some _ from rfl) rfl rfl (by decide) (Nat.le_of_ble_eq_true rfl) rfl dX9_hours_52 ?_
      exact go_iret (pc := 55) (Option.some.inj h).symm rfl dX9_hours_55 rfl
    · replace h := (if_neg e16).symm.trans h
      by_cases e17 : p2 = (1 : Int32)
      · replace h := (if_pos e17).symm.trans h
        refine go_tabIn (pc := 15) (off := 41) (tgt := 56) dX9_hours_15 (by rw [e17]; decide) (by rw [e17]; decide) (by rw [e17]; decide) (by decide) ?_
        refine go_aload_n (pc := 56) dX9_hours_56 rfl ?_
        refine go_iload_n (pc := 57) dX9_hours_57 rfl ?_
        refine go_aload_n (pc := 58) dX9_hours_58 rfl ?_
        refine gf_9_40 (pc := 59) dX9_hours_59 ?_
        refine go_iload_n (pc := 62) dX9_hours_62 rfl ?_
        obtain ⟨i6, h⟩ := g_gd h
        refine go_iald (pc := 63) (n := 5) rfl (g_inb_ok i6) dX9_hours_63 ?_
        obtain ⟨u7, c8, h⟩ := g_bd h
        refine go_callV (pc := 64) (as := [.inl p1, .inl (u1.2 52 p1.toNatClampNeg)]) (st := []) (r := u7.1) (M1 := u7.2) (z_X9_farHours hok  c8) cw_X9_farHours ml_X9_249 (show g_lay[41]? = some _ from rfl) rfl rfl (by decide) (Nat.le_of_ble_eq_true rfl) rfl dX9_hours_64 ?_
        exact go_iret (pc := 67) (Option.some.inj h).symm rfl dX9_hours_67 rfl
      · replace h := (if_neg e17).symm.trans h
        by_cases e18 : p2 = (2 : Int32)
        · replace h := (if_pos e18).symm.trans h
          refine go_tabIn (pc := 15) (off := 53) (tgt := 68) dX9_hours_15 (by rw [e18]; decide) (by rw [e18]; decide) (by rw [e18]; decide) (by decide) ?_
          refine go_aload_n (pc := 68) dX9_hours_68 rfl ?_
          obtain ⟨u9, c10, h⟩ := g_bd h
          refine go_callV (pc := 69) (as := []) (st := []) (r := u9.1) (M1 := u9.2) (z_X9_underHours hok  c10) cw_X9_underHours ml_X9_252 (show g_lay[41]? = some _ from rfl) rfl rfl (by decide) (Nat.le_of_ble_eq_true rfl) rfl dX9_hours_69 ?_
          exact go_iret (pc := 72) (Option.some.inj h).symm rfl dX9_hours_72 rfl
        · replace h := (if_neg e18).symm.trans h
          by_cases e19 : p2 = (3 : Int32)
          · replace h := (if_pos e19).symm.trans h
            refine go_tabIn (pc := 15) (off := 58) (tgt := 73) dX9_hours_15 (by rw [e19]; decide) (by rw [e19]; decide) (by rw [e19]; decide) (by decide) ?_
            refine go_aload_n (pc := 73) dX9_hours_73 rfl ?_
            refine go_iload_n (pc := 74) dX9_hours_74 rfl ?_
            refine go_aload_n (pc := 75) dX9_hours_75 rfl ?_
            refine gf_9_40 (pc := 76) dX9_hours_76 ?_
            refine go_iload_n (pc := 79) dX9_hours_79 rfl ?_
            obtain ⟨i11, h⟩ := g_gd h
            refine go_iald (pc := 80) (n := 5) rfl (g_inb_ok i11) dX9_hours_80 ?_
            obtain ⟨u12, c13, h⟩ := g_bd h
            refine go_callV (pc := 81) (as := [.inl p1, .inl (u1.2 52 p1.toNatClampNeg)]) (st := []) (r := u12.1) (M1 := u12.2) (z_X9_wellHours hok  c13) cw_X9_wellHours ml_X9_255 (show g_lay[41]? = some _ from rfl) rfl rfl (by decide) (Nat.le_of_ble_eq_true rfl) rfl dX9_hours_81 ?_
            exact go_iret (pc := 84) (Option.some.inj h).symm rfl dX9_hours_84 rfl
          · replace h := (if_neg e19).symm.trans h
            refine go_tabOut (pc := 15) (tgt := 85) dX9_hours_15 (by have q0 := g_out e16 (show (0 : Int32).toInt = 0 by decide); have q1 := g_out e17 (show (1 : Int32).toInt = 1 by decide); have q2 := g_out e18 (show (2 : Int32).toInt = 2 by decide); have q3 := g_out e19 (show (3 : Int32).toInt = 3 by decide); omega) (by decide) ?_
            refine go_aload_n (pc := 85) dX9_hours_85 rfl ?_
            refine go_bipush (pc := 86) (v := (-2 : Int32)) dX9_hours_86 (by decide) ?_
            obtain ⟨u14, c15, h⟩ := g_bd h
            refine go_callV (pc := 88) (as := [.inl (-2 : Int32)]) (st := []) (r := u14.1) (M1 := u14.2) (z_X9_no hok  c15) cw_X9_no ml_X9_124 (show g_lay[41]? = some _ from rfl) rfl rfl (by decide) (Nat.le_of_ble_eq_true rfl) rfl dX9_hours_88 ?_
            exact go_iret (pc := 91) (Option.some.inj h).symm rfl dX9_hours_91 rfl
  · replace h := (if_pos e22).symm.trans h
    refine go_aload_n (pc := 8) dX9_hours_8 rfl ?_
    refine go_iconst (pc := 9) (v := (-1 : Int32)) dX9_hours_9 (by decide) ?_
    obtain ⟨u20, c21, h⟩ := g_bd h
    refine go_callV (pc := 10) (as := [.inl (-1 : Int32)]) (st := []) (r := u20.1) (M1 := u20.2) (z_X9_no hok  c21) cw_X9_no ml_X9_124 (show g_lay[41]? = some _ from rfl) rfl rfl (by decide) (Nat.le_of_ble_eq_true rfl) rfl dX9_hours_10 ?_
    exact go_iret (pc := 13) (Option.some.inj h).symm rfl dX9_hours_13 rfl
def x_X9_leastLength_L2   : Nat → Int32 → Int32 → g_M → Option (Int32 × g_M)
  | 0, _, _, _ => none
  | n + 1, v1, v2, M => (if (99 : Int32) < v2 then (some ((-9 : Int32), M)) else (((x_X9_hangHours v1 v2 M).bind fun u1 => if u1.1 = 0 then (some (v2, u1.2)) else (x_X9_leastLength_L2   n v1 (v2 + (1 : Int32)) u1.2))))
set_option maxHeartbeats 4000000 in
set_option maxRecDepth 100000 in
theorem z_X9_leastLength_L2 {X : g_X} (hok : g_ok X)  {r : Int32 × g_M}  : ∀ (n : Nat) (v1 : Int32) (v2 : Int32) (M : g_M), x_X9_leastLength_L2   n v1 v2 M = some r → g_Go X cX9_leastLength RX9 3 (some .int) 4 93 r 2 [some (.inr 41), some (.inl v1), some (.inl v2)] [] M := by
  intro n
  induction n with
  | zero =>
    intro v1 v2 M h
    rw [x_X9_leastLength_L2] at h
    cases h
  | succ n ih =>
    intro v1 v2 M h
    rw [x_X9_leastLength_L2] at h
    refine go_iload_n (pc := 2) dX9_leastLength_2 rfl ?_
    refine go_bipush (pc := 3) (v := (99 : Int32)) dX9_leastLength_3 (by decide) ?_
    refine go_icmp_gt (pc := 5) (tgt := 25) dX9_leastLength_5 (by decide) (fun e4 => ?_) (fun e4 => ?_)
    · replace h := (if_pos e4).symm.trans h
      refine go_bipush (pc := 25) (v := (-9 : Int32)) dX9_leastLength_25 (by decide) ?_
      exact go_iret (pc := 27) (Option.some.inj h).symm rfl dX9_leastLength_27 rfl
    · replace h := (if_neg e4).symm.trans h
      refine go_aload_n (pc := 8) dX9_leastLength_8 rfl ?_
      refine go_iload_n (pc := 9) dX9_leastLength_9 rfl ?_
      refine go_iload_n (pc := 10) dX9_leastLength_10 rfl ?_
      obtain ⟨u1, c2, h⟩ := g_bd h
      refine go_callV (pc := 11) (as := [.inl v1, .inl v2]) (st := []) (r := u1.1) (M1 := u1.2) (z_X9_hangHours hok  c2) cw_X9_hangHours ml_X9_246 (show g_lay[41]? = some _ from rfl) rfl rfl (by decide) (Nat.le_of_ble_eq_true rfl) rfl dX9_leastLength_11 ?_
      refine go_if_ne (pc := 14) (tgt := 19) dX9_leastLength_14 (by decide) (fun e3 => ?_) (fun e3 => ?_)
      · replace h := (if_neg e3).symm.trans h
        refine go_iinc (pc := 19) (v := (1 : Int32)) (lv' := [some (.inr 41), some (.inl v1), some (.inl (v2 + (1 : Int32)))]) dX9_leastLength_19 rfl (by decide) (by decide) rfl ?_
        refine go_goto (pc := 22) (tgt := 2) dX9_leastLength_22 (by decide) ?_
        exact go_to (ih _ _ _ h) (And.intro rfl (And.intro rfl (And.intro rfl trivial)))
      · replace h := (if_pos e3).symm.trans h
        refine go_iload_n (pc := 17) dX9_leastLength_17 rfl ?_
        exact go_iret (pc := 18) (Option.some.inj h).symm rfl dX9_leastLength_18 rfl
def x_X9_leastLength  (p1 : Int32) (M : g_M) : Option (Int32 × g_M) := (x_X9_leastLength_L2   g_F p1 (0 : Int32) M)
set_option maxHeartbeats 4000000 in
set_option maxRecDepth 100000 in
theorem z_X9_leastLength {X : g_X} (hok : g_ok X)  {p1 : Int32} {M : g_M} {r : Int32 × g_M} (h : x_X9_leastLength p1 M = some r) : g_Con X yX9_leastLength cX9_leastLength 3 (some .int) 4 93 [.inr 41, .inl p1] M r := by
  rw [x_X9_leastLength] at h
  refine g_con hok (plainFor_of_name (by decide +kernel)) (Nat.le_of_ble_eq_true rfl) (go_to (lv2 := [some (.inr 41), some (.inl p1), none]) (own := RX9) ?_ (And.intro rfl (And.intro rfl trivial)))
  refine go_iconst (pc := 0) (v := (0 : Int32)) dX9_leastLength_0 (by decide) ?_
  refine go_istore_n (pc := 1) (lv' := [some (.inr 41), some (.inl p1), some (.inl (0 : Int32))]) dX9_leastLength_1 (by decide) rfl ?_
  exact go_to (z_X9_leastLength_L2 hok   g_F _ _ _ h) (And.intro rfl (And.intro rfl (And.intro rfl trivial)))
def x_X9_greatestLength_L3   : Nat → Int32 → Int32 → g_M → Option (Int32 × g_M)
  | 0, _, _, _ => none
  | n + 1, v1, v2, M => (if v2 < 0 then (some ((-9 : Int32), M)) else (((x_X9_farHours v1 v2 M).bind fun u1 => if u1.1 = 0 then (some (v2, u1.2)) else (x_X9_greatestLength_L3   n v1 (v2 + (-1 : Int32)) u1.2))))
set_option maxHeartbeats 4000000 in
set_option maxRecDepth 100000 in
theorem z_X9_greatestLength_L3 {X : g_X} (hok : g_ok X)  {r : Int32 × g_M}  : ∀ (n : Nat) (v1 : Int32) (v2 : Int32) (M : g_M), x_X9_greatestLength_L3   n v1 v2 M = some r → g_Go X cX9_greatestLength RX9 3 (some .int) 5 117 r 3 [some (.inr 41), some (.inl v1), some (.inl v2)] [] M := by
  intro n
  induction n with
  | zero =>
    intro v1 v2 M h
    rw [x_X9_greatestLength_L3] at h
    cases h
  | succ n ih =>
    intro v1 v2 M h
    rw [x_X9_greatestLength_L3] at h
    refine go_iload_n (pc := 3) dX9_greatestLength_3 rfl ?_
    refine go_if_lt (pc := 4) (tgt := 24) dX9_greatestLength_4 (by decide) (fun e4 => ?_) (fun e4 => ?_)
    · replace h := (if_pos e4).symm.trans h
      refine go_bipush (pc := 24) (v := (-9 : Int32)) dX9_greatestLength_24 (by decide) ?_
      exact go_iret (pc := 26) (Option.some.inj h).symm rfl dX9_greatestLength_26 rfl
    · replace h := (if_neg e4).symm.trans h
      refine go_aload_n (pc := 7) dX9_greatestLength_7 rfl ?_
      refine go_iload_n (pc := 8) dX9_greatestLength_8 rfl ?_
      refine go_iload_n (pc := 9) dX9_greatestLength_9 rfl ?_
      obtain ⟨u1, c2, h⟩ := g_bd h
      refine go_callV (pc := 10) (as := [.inl v1, .inl v2]) (st := []) (r := u1.1) (M1 := u1.2) (z_X9_farHours hok  c2) cw_X9_farHours ml_X9_249 (show g_lay[41]? = some _ from rfl) rfl rfl (by decide) (Nat.le_of_ble_eq_true rfl) rfl dX9_greatestLength_10 ?_
      refine go_if_ne (pc := 13) (tgt := 18) dX9_greatestLength_13 (by decide) (fun e3 => ?_) (fun e3 => ?_)
      · replace h := (if_neg e3).symm.trans h
        refine go_iinc (pc := 18) (v := (-1 : Int32)) (lv' := [some (.inr 41), some (.inl v1), some (.inl (v2 + (-1 : Int32)))]) dX9_greatestLength_18 rfl (by decide) (by decide) rfl ?_
        refine go_goto (pc := 21) (tgt := 3) dX9_greatestLength_21 (by decide) ?_
        exact go_to (ih _ _ _ h) (And.intro rfl (And.intro rfl (And.intro rfl trivial)))
      · replace h := (if_pos e3).symm.trans h
        refine go_iload_n (pc := 16) dX9_greatestLength_16 rfl ?_
        exact go_iret (pc := 17) (Option.some.inj h).symm rfl dX9_greatestLength_17 rfl
def x_X9_greatestLength  (p1 : Int32) (M : g_M) : Option (Int32 × g_M) := (x_X9_greatestLength_L3   g_F p1 (99 : Int32) M)
set_option maxHeartbeats 4000000 in
set_option maxRecDepth 100000 in
theorem z_X9_greatestLength {X : g_X} (hok : g_ok X)  {p1 : Int32} {M : g_M} {r : Int32 × g_M} (h : x_X9_greatestLength p1 M = some r) : g_Con X yX9_greatestLength cX9_greatestLength 3 (some .int) 5 117 [.inr 41, .inl p1] M r := by
  rw [x_X9_greatestLength] at h
  refine g_con hok (plainFor_of_name (by decide +kernel)) (Nat.le_of_ble_eq_true rfl) (go_to (lv2 := [some (.inr 41), some (.inl p1), none]) (own := RX9) ?_ (And.intro rfl (And.intro rfl trivial)))
  refine go_bipush (pc := 0) (v := (99 : Int32)) dX9_greatestLength_0 (by decide) ?_
  refine go_istore_n (pc := 2) (lv' := [some (.inr 41), some (.inl p1), some (.inl (99 : Int32))]) dX9_greatestLength_2 (by decide) rfl ?_
  exact go_to (z_X9_greatestLength_L3 hok   g_F _ _ _ h) (And.intro rfl (And.intro rfl (And.intro rfl trivial)))
def x_X9_bothLengths_L4   : Nat → Int32 → Int32 → Int32 → g_M → Option (Int32 × g_M)
  | 0, _, _, _, _ => none
  | n + 1, v1, v2, v3, M => (if (99 : Int32) < v3 then (some (v2, M)) else (((x_X9_wellHours v1 v3 M).bind fun u1 => if u1.1 = (4095 : Int32) then (x_X9_bothLengths_L4   n v1 (v2 + (1 : Int32)) (v3 + (1 : Int32)) u1.2) else (x_X9_bothLengths_L4   n v1 (v2 + (0 : Int32)) (v3 + (1 : Int32)) u1.2))))
set_option maxHeartbeats 4000000 in
set_option maxRecDepth 100000 in
theorem z_X9_bothLengths_L4 {X : g_X} (hok : g_ok X)  {r : Int32 × g_M}  : ∀ (n : Nat) (v1 : Int32) (v2 : Int32) (v3 : Int32) (M : g_M), x_X9_bothLengths_L4   n v1 v2 v3 M = some r → g_Go X cX9_bothLengths RX9 4 (some .int) 6 139 r 4 [some (.inr 41), some (.inl v1), some (.inl v2), some (.inl v3)] [] M := by
  intro n
  induction n with
  | zero =>
    intro v1 v2 v3 M h
    rw [x_X9_bothLengths_L4] at h
    cases h
  | succ n ih =>
    intro v1 v2 v3 M h
    rw [x_X9_bothLengths_L4] at h
    refine go_iload_n (pc := 4) dX9_bothLengths_4 rfl ?_
    refine go_bipush (pc := 5) (v := (99 : Int32)) dX9_bothLengths_5 (by decide) ?_
    refine go_icmp_gt (pc := 7) (tgt := 36) dX9_bothLengths_7 (by decide) (fun e4 => ?_) (fun e4 => ?_)
    · replace h := (if_pos e4).symm.trans h
      refine go_iload_n (pc := 36) dX9_bothLengths_36 rfl ?_
      exact go_iret (pc := 37) (Option.some.inj h).symm rfl dX9_bothLengths_37 rfl
    · replace h := (if_neg e4).symm.trans h
      refine go_iload_n (pc := 10) dX9_bothLengths_10 rfl ?_
      refine go_aload_n (pc := 11) dX9_bothLengths_11 rfl ?_
      refine go_iload_n (pc := 12) dX9_bothLengths_12 rfl ?_
      refine go_iload_n (pc := 13) dX9_bothLengths_13 rfl ?_
      obtain ⟨u1, c2, h⟩ := g_bd h
      refine go_callV (pc := 14) (as := [.inl v1, .inl v3]) (st := [.inl v2]) (r := u1.1) (M1 := u1.2) (z_X9_wellHours hok  c2) cw_X9_wellHours ml_X9_255 (show g_lay[41]? = some _ from rfl) rfl rfl (by decide) (Nat.le_of_ble_eq_true rfl) rfl dX9_bothLengths_14 ?_
      refine go_sipush (pc := 17) (v := (4095 : Int32)) dX9_bothLengths_17 (by decide) ?_
      refine go_icmp_ne (pc := 20) (tgt := 27) dX9_bothLengths_20 (by decide) (fun e3 => ?_) (fun e3 => ?_)
      · replace h := (if_neg e3).symm.trans h
        refine go_iconst (pc := 27) (v := (0 : Int32)) dX9_bothLengths_27 (by decide) ?_
        refine go_iadd (pc := 28) dX9_bothLengths_28 ?_
        refine go_istore_n (pc := 29) (lv' := [some (.inr 41), some (.inl v1), some (.inl (v2 + (0 : Int32))), some (.inl v3)]) dX9_bothLengths_29 (by decide) rfl ?_
        refine go_iinc (pc := 30) (v := (1 : Int32)) (lv' := [some (.inr 41), some (.inl v1), some (.inl (v2 + (0 : Int32))), some (.inl (v3 + (1 : Int32)))]) dX9_bothLengths_30 rfl (by decide) (by decide) rfl ?_
        refine go_goto (pc := 33) (tgt := 4) dX9_bothLengths_33 (by decide) ?_
        exact go_to (ih _ _ _ _ h) (And.intro rfl (And.intro rfl (And.intro rfl (And.intro rfl trivial))))
      · replace h := (if_pos e3).symm.trans h
        refine go_iconst (pc := 23) (v := (1 : Int32)) dX9_bothLengths_23 (by decide) ?_
        refine go_goto (pc := 24) (tgt := 28) dX9_bothLengths_24 (by decide) ?_
        refine go_iadd (pc := 28) dX9_bothLengths_28 ?_
        refine go_istore_n (pc := 29) (lv' := [some (.inr 41), some (.inl v1), some (.inl (v2 + (1 : Int32))), some (.inl v3)]) dX9_bothLengths_29 (by decide) rfl ?_
        refine go_iinc (pc := 30) (v := (1 : Int32)) (lv' := [some (.inr 41), some (.inl v1), some (.inl (v2 + (1 : Int32))), some (.inl (v3 + (1 : Int32)))]) dX9_bothLengths_30 rfl (by decide) (by decide) rfl ?_
        refine go_goto (pc := 33) (tgt := 4) dX9_bothLengths_33 (by decide) ?_
        exact go_to (ih _ _ _ _ h) (And.intro rfl (And.intro rfl (And.intro rfl (And.intro rfl trivial))))
def x_X9_bothLengths  (p1 : Int32) (M : g_M) : Option (Int32 × g_M) := (x_X9_bothLengths_L4   g_F p1 (0 : Int32) (0 : Int32) M)
set_option maxHeartbeats 4000000 in
set_option maxRecDepth 100000 in
theorem z_X9_bothLengths {X : g_X} (hok : g_ok X)  {p1 : Int32} {M : g_M} {r : Int32 × g_M} (h : x_X9_bothLengths p1 M = some r) : g_Con X yX9_bothLengths cX9_bothLengths 4 (some .int) 6 139 [.inr 41, .inl p1] M r := by
  rw [x_X9_bothLengths] at h
  refine g_con hok (plainFor_of_name (by decide +kernel)) (Nat.le_of_ble_eq_true rfl) (go_to (lv2 := [some (.inr 41), some (.inl p1), none, none]) (own := RX9) ?_ (And.intro rfl (And.intro rfl trivial)))
  refine go_iconst (pc := 0) (v := (0 : Int32)) dX9_bothLengths_0 (by decide) ?_
  refine go_istore_n (pc := 1) (lv' := [some (.inr 41), some (.inl p1), some (.inl (0 : Int32)), none]) dX9_bothLengths_1 (by decide) rfl ?_
  refine go_iconst (pc := 2) (v := (0 : Int32)) dX9_bothLengths_2 (by decide) ?_
  refine go_istore_n (pc := 3) (lv' := [some (.inr 41), some (.inl p1), some (.inl (0 : Int32)), some (.inl (0 : Int32))]) dX9_bothLengths_3 (by decide) rfl ?_
  exact go_to (z_X9_bothLengths_L4 hok   g_F _ _ _ _ h) (And.intro rfl (And.intro rfl (And.intro rfl (And.intro rfl trivial))))
def x_X9_length  (p1 p2 : Int32) (M : g_M) : Option (Int32 × g_M) := (((x_X9_isBoat p1 M).bind fun u1 => if u1.1 = 0 then (((x_X9_no (-1 : Int32) u1.2).bind fun u14 => some (u14.1, u14.2))) else (if p2 = (0 : Int32) then (((x_X9_leastLength p1 u1.2).bind fun u3 => some (u3.1, u3.2))) else if p2 = (1 : Int32) then (((x_X9_greatestLength p1 u1.2).bind fun u5 => some (u5.1, u5.2))) else if p2 = (2 : Int32) then (((x_X9_bothLengths p1 u1.2).bind fun u7 => some (u7.1, u7.2))) else (((x_X9_no (-2 : Int32) u1.2).bind fun u9 => some (u9.1, u9.2))))))
set_option maxHeartbeats 4000000 in
set_option maxRecDepth 100000 in
theorem z_X9_length {X : g_X} (hok : g_ok X)  {p1 p2 : Int32} {M : g_M} {r : Int32 × g_M} (h : x_X9_length p1 p2 M = some r) : g_Con X yX9_length cX9_length 3 (some .int) 7 162 [.inr 41, .inl p1, .inl p2] M r := by
  rw [x_X9_length] at h
  refine g_con hok (plainFor_of_name (by decide +kernel)) (Nat.le_of_ble_eq_true rfl) (go_to (lv2 := [some (.inr 41), some (.inl p1), some (.inl p2)]) (own := RX9) ?_ (And.intro rfl (And.intro rfl (And.intro rfl trivial))))
  refine go_aload_n (pc := 0) dX9_length_0 rfl ?_
  refine go_iload_n (pc := 1) dX9_length_1 rfl ?_
  obtain ⟨u1, c2, h⟩ := g_bd h
  refine go_callV (pc := 2) (as := [.inl p1]) (st := []) (r := u1.1) (M1 := u1.2) (z_X9_isBoat hok  c2) cw_X9_isBoat ml_X9_168 (show g_lay[41]? = some _ from rfl) rfl rfl (by decide) (Nat.le_of_ble_eq_true rfl) rfl dX9_length_2 ?_
  refine go_if_ne (pc := 5) (tgt := 14) dX9_length_5 (by decide) (fun e16 => ?_) (fun e16 => ?_)
  · replace h := (if_neg e16).symm.trans h
    refine go_iload_n (pc := 14) dX9_length_14 rfl ?_
    by_cases e11 : p2 = (0 : Int32)
    · replace h := (if_pos e11).symm.trans h
      refine go_tabIn (pc := 15) (off := 25) (tgt := 40) dX9_length_15 (by rw [e11]; decide) (by rw [e11]; decide) (by rw [e11]; decide) (by decide) ?_
      refine go_aload_n (pc := 40) dX9_length_40 rfl ?_
      refine go_iload_n (pc := 41) dX9_length_41 rfl ?_
      obtain ⟨u3, c4, h⟩ := g_bd h
      refine go_callV (pc := 42) (as := [.inl p1]) (st := []) (r := u3.1) (M1 := u3.2) (z_X9_leastLength hok  c4) cw_X9_leastLength ml_X9_258 (show g_lay[41]? = some _ from rfl) rfl rfl (by decide) (Nat.le_of_ble_eq_true rfl) rfl dX9_length_42 ?_
      exact go_iret (pc := 45) (Option.some.inj h).symm rfl dX9_length_45 rfl
    · replace h := (if_neg e11).symm.trans h
      by_cases e12 : p2 = (1 : Int32)
      · replace h := (if_pos e12).symm.trans h
        refine go_tabIn (pc := 15) (off := 31) (tgt := 46) dX9_length_15 (by rw [e12]; decide) (by rw [e12]; decide) (by rw [e12]; decide) (by decide) ?_
        refine go_aload_n (pc := 46) dX9_length_46 rfl ?_
        refine go_iload_n (pc := 47) dX9_length_47 rfl ?_
        obtain ⟨u5, c6, h⟩ := g_bd h
        refine go_callV (pc := 48) (as := [.inl p1]) (st := []) (r := u5.1) (M1 := u5.2) (z_X9_greatestLength hok  c6) cw_X9_greatestLength ml_X9_261 (show g_lay[41]? = some _ from rfl) rfl rfl (by decide) (Nat.le_of_ble_eq_true rfl) rfl dX9_length_48 ?_
        exact go_iret (pc := 51) (Option.some.inj h).symm rfl dX9_length_51 rfl
      · replace h := (if_neg e12).symm.trans h
        by_cases e13 : p2 = (2 : Int32)
        · replace h := (if_pos e13).symm.trans h
          refine go_tabIn (pc := 15) (off := 37) (tgt := 52) dX9_length_15 (by rw [e13]; decide) (by rw [e13]; decide) (by rw [e13]; decide) (by decide) ?_
          refine go_aload_n (pc := 52) dX9_length_52 rfl ?_
          refine go_iload_n (pc := 53) dX9_length_53 rfl ?_
          obtain ⟨u7, c8, h⟩ := g_bd h
          refine go_callV (pc := 54) (as := [.inl p1]) (st := []) (r := u7.1) (M1 := u7.2) (z_X9_bothLengths hok  c8) cw_X9_bothLengths ml_X9_264 (show g_lay[41]? = some _ from rfl) rfl rfl (by decide) (Nat.le_of_ble_eq_true rfl) rfl dX9_length_54 ?_
          exact go_iret (pc := 57) (Option.some.inj h).symm rfl dX9_length_57 rfl
        · replace h := (if_neg e13).symm.trans h
          refine go_tabOut (pc := 15) (tgt := 58) dX9_length_15 (by have q0 := g_out e11 (show (0 : Int32).toInt = 0 by decide); have q1 := g_out e12 (show (1 : Int32).toInt = 1 by decide); have q2 := g_out e13 (show (2 : Int32).toInt = 2 by decide); omega) (by decide) ?_
          refine go_aload_n (pc := 58) dX9_length_58 rfl ?_
          refine go_bipush (pc := 59) (v := (-2 : Int32)) dX9_length_59 (by decide) ?_
          obtain ⟨u9, c10, h⟩ := g_bd h
          refine go_callV (pc := 61) (as := [.inl (-2 : Int32)]) (st := []) (r := u9.1) (M1 := u9.2) (z_X9_no hok  c10) cw_X9_no ml_X9_124 (show g_lay[41]? = some _ from rfl) rfl rfl (by decide) (Nat.le_of_ble_eq_true rfl) rfl dX9_length_61 ?_
          exact go_iret (pc := 64) (Option.some.inj h).symm rfl dX9_length_64 rfl
  · replace h := (if_pos e16).symm.trans h
    refine go_aload_n (pc := 8) dX9_length_8 rfl ?_
    refine go_iconst (pc := 9) (v := (-1 : Int32)) dX9_length_9 (by decide) ?_
    obtain ⟨u14, c15, h⟩ := g_bd h
    refine go_callV (pc := 10) (as := [.inl (-1 : Int32)]) (st := []) (r := u14.1) (M1 := u14.2) (z_X9_no hok  c15) cw_X9_no ml_X9_124 (show g_lay[41]? = some _ from rfl) rfl rfl (by decide) (Nat.le_of_ble_eq_true rfl) rfl dX9_length_10 ?_
    exact go_iret (pc := 13) (Option.some.inj h).symm rfl dX9_length_13 rfl
def x_X9_isTended_L16  (k3 : Int32 → Int32 → Int32 → Int32 → g_M → Option (Int32 × g_M)) : Nat → Int32 → Int32 → Int32 → Int32 → Int32 → Int32 → g_M → Option (Int32 × g_M)
  | 0, _, _, _, _, _, _, _ => none
  | n + 1, v1, v2, v3, v4, v5, v6, M => (if v3 < v6 then (if v5 = 0 then (k3 v1 v2 v3 (v4 + (1 : Int32)) M) else (some ((1 : Int32), M))) else (if v5 = 0 then (if v5 = 0 then (k3 v1 v2 v3 (v4 + (1 : Int32)) M) else (some ((1 : Int32), M))) else (((x_X9_hangsWith v1 v6 v4 M).bind fun u3 => if u3.1 = 0 then (((x_X9_outWith v1 v6 v4 u3.2).bind fun u5 => (if g_inb v1 5 = true then (if (u5.2 54 v1.toNatClampNeg) < u5.1 then (x_X9_isTended_L16  k3 n v1 v2 v3 v4 (0 : Int32) (v6 + (1 : Int32)) u5.2) else (x_X9_isTended_L16  k3 n v1 v2 v3 v4 (1 : Int32) (v6 + (1 : Int32)) u5.2)) else none))) else (x_X9_isTended_L16  k3 n v1 v2 v3 v4 (0 : Int32) (v6 + (1 : Int32)) u3.2)))))
set_option maxHeartbeats 4000000 in
set_option maxRecDepth 100000 in
theorem z_X9_isTended_L16 {X : g_X} (hok : g_ok X)  {r : Int32 × g_M} {k3 : Int32 → Int32 → Int32 → Int32 → g_M → Option (Int32 × g_M)} (hk3 : ∀ (v1 : Int32) (v2 : Int32) (v3 : Int32) (v4 : Int32) (M : g_M), k3 v1 v2 v3 v4 M = some r → g_Go X cX9_isTended RX9 7 (some .boolean) 4 93 r 3 [some (.inr 41), some (.inl v1), some (.inl v2), some (.inl v3), some (.inl v4), none, none] [] M) : ∀ (n : Nat) (v1 : Int32) (v2 : Int32) (v3 : Int32) (v4 : Int32) (v5 : Int32) (v6 : Int32) (M : g_M), x_X9_isTended_L16  k3 n v1 v2 v3 v4 v5 v6 M = some r → g_Go X cX9_isTended RX9 7 (some .boolean) 4 93 r 16 [some (.inr 41), some (.inl v1), some (.inl v2), some (.inl v3), some (.inl v4), some (.inl v5), some (.inl v6)] [] M := by
  intro n
  induction n with
  | zero =>
    intro v1 v2 v3 v4 v5 v6 M h
    rw [x_X9_isTended_L16] at h
    cases h
  | succ n ih =>
    intro v1 v2 v3 v4 v5 v6 M h
    rw [x_X9_isTended_L16] at h
    refine go_iload (pc := 16) dX9_isTended_16 rfl ?_
    refine go_iload_n (pc := 18) dX9_isTended_18 rfl ?_
    refine go_icmp_gt (pc := 19) (tgt := 70) dX9_isTended_19 (by decide) (fun e11 => ?_) (fun e11 => ?_)
    · replace h := (if_pos e11).symm.trans h
      refine go_iload (pc := 70) dX9_isTended_70 rfl ?_
      refine go_if_eq (pc := 72) (tgt := 77) dX9_isTended_72 (by decide) (fun e1 => ?_) (fun e1 => ?_)
      · replace h := (if_pos e1).symm.trans h
        refine go_iinc (pc := 77) (v := (1 : Int32)) (lv' := [some (.inr 41), some (.inl v1), some (.inl v2), some (.inl v3), some (.inl (v4 + (1 : Int32))), some (.inl v5), some (.inl v6)]) dX9_isTended_77 rfl (by decide) (by decide) rfl ?_
        refine go_goto (pc := 80) (tgt := 3) dX9_isTended_80 (by decide) ?_
        exact go_to (hk3 _ _ _ _ _ h) (And.intro rfl (And.intro rfl (And.intro rfl (And.intro rfl (And.intro rfl trivial)))))
      · replace h := (if_neg e1).symm.trans h
        refine go_iconst (pc := 75) (v := (1 : Int32)) dX9_isTended_75 (by decide) ?_
        exact go_iret (pc := 76) (Option.some.inj h).symm rfl dX9_isTended_76 rfl
    · replace h := (if_neg e11).symm.trans h
      refine go_iload (pc := 22) dX9_isTended_22 rfl ?_
      refine go_if_eq (pc := 24) (tgt := 70) dX9_isTended_24 (by decide) (fun e10 => ?_) (fun e10 => ?_)
      · replace h := (if_pos e10).symm.trans h
        refine go_iload (pc := 70) dX9_isTended_70 rfl ?_
        refine go_if_eq (pc := 72) (tgt := 77) dX9_isTended_72 (by decide) (fun e2 => ?_) (fun e2 => ?_)
        · replace h := (if_pos e2).symm.trans h
          refine go_iinc (pc := 77) (v := (1 : Int32)) (lv' := [some (.inr 41), some (.inl v1), some (.inl v2), some (.inl v3), some (.inl (v4 + (1 : Int32))), some (.inl v5), some (.inl v6)]) dX9_isTended_77 rfl (by decide) (by decide) rfl ?_
          refine go_goto (pc := 80) (tgt := 3) dX9_isTended_80 (by decide) ?_
          exact go_to (hk3 _ _ _ _ _ h) (And.intro rfl (And.intro rfl (And.intro rfl (And.intro rfl (And.intro rfl trivial)))))
        · replace h := (if_neg e2).symm.trans h
          refine go_iconst (pc := 75) (v := (1 : Int32)) dX9_isTended_75 (by decide) ?_
          exact go_iret (pc := 76) (Option.some.inj h).symm rfl dX9_isTended_76 rfl
      · replace h := (if_neg e10).symm.trans h
        refine go_aload_n (pc := 27) dX9_isTended_27 rfl ?_
        refine go_iload_n (pc := 28) dX9_isTended_28 rfl ?_
        refine go_iload (pc := 29) dX9_isTended_29 rfl ?_
        refine go_iload (pc := 31) dX9_isTended_31 rfl ?_
        obtain ⟨u3, c4, h⟩ := g_bd h
        refine go_callV (pc := 33) (as := [.inl v1, .inl v6, .inl v4]) (st := []) (r := u3.1) (M1 := u3.2) (z_X9_hangsWith hok  c4) cw_X9_hangsWith ml_X9_218 (show g_lay[41]? = some _ from rfl) rfl rfl (by decide) (Nat.le_of_ble_eq_true rfl) rfl dX9_isTended_33 ?_
        refine go_if_ne (pc := 36) (tgt := 61) dX9_isTended_36 (by decide) (fun e9 => ?_) (fun e9 => ?_)
        · replace h := (if_neg e9).symm.trans h
          refine go_iconst (pc := 61) (v := (0 : Int32)) dX9_isTended_61 (by decide) ?_
          refine go_istore (pc := 62) (lv' := [some (.inr 41), some (.inl v1), some (.inl v2), some (.inl v3), some (.inl v4), some (.inl (0 : Int32)), some (.inl v6)]) dX9_isTended_62 (by decide) rfl ?_
          refine go_iinc (pc := 64) (v := (1 : Int32)) (lv' := [some (.inr 41), some (.inl v1), some (.inl v2), some (.inl v3), some (.inl v4), some (.inl (0 : Int32)), some (.inl (v6 + (1 : Int32)))]) dX9_isTended_64 rfl (by decide) (by decide) rfl ?_
          refine go_goto (pc := 67) (tgt := 16) dX9_isTended_67 (by decide) ?_
          exact go_to (ih _ _ _ _ _ _ _ h) (And.intro rfl (And.intro rfl (And.intro rfl (And.intro rfl (And.intro rfl (And.intro rfl (And.intro rfl trivial)))))))
        · replace h := (if_pos e9).symm.trans h
          refine go_aload_n (pc := 39) dX9_isTended_39 rfl ?_
          refine go_iload_n (pc := 40) dX9_isTended_40 rfl ?_
          refine go_iload (pc := 41) dX9_isTended_41 rfl ?_
          refine go_iload (pc := 43) dX9_isTended_43 rfl ?_
          obtain ⟨u5, c6, h⟩ := g_bd h
          refine go_callV (pc := 45) (as := [.inl v1, .inl v6, .inl v4]) (st := []) (r := u5.1) (M1 := u5.2) (z_X9_outWith hok  c6) cw_X9_outWith ml_X9_224 (show g_lay[41]? = some _ from rfl) rfl rfl (by decide) (Nat.le_of_ble_eq_true rfl) rfl dX9_isTended_45 ?_
          refine go_aload_n (pc := 48) dX9_isTended_48 rfl ?_
          refine gf_9_46 (pc := 49) dX9_isTended_49 ?_
          refine go_iload_n (pc := 52) dX9_isTended_52 rfl ?_
          obtain ⟨i7, h⟩ := g_gd h
          refine go_iald (pc := 53) (n := 5) rfl (g_inb_ok i7) dX9_isTended_53 ?_
          refine go_icmp_gt (pc := 54) (tgt := 61) dX9_isTended_54 (by decide) (fun e8 => ?_) (fun e8 => ?_)
          · replace h := (if_pos e8).symm.trans h
            refine go_iconst (pc := 61) (v := (0 : Int32)) dX9_isTended_61 (by decide) ?_
            refine go_istore (pc := 62) (lv' := [some (.inr 41), some (.inl v1), some (.inl v2), some (.inl v3), some (.inl v4), some (.inl (0 : Int32)), some (.inl v6)]) dX9_isTended_62 (by decide) rfl ?_
            refine go_iinc (pc := 64) (v := (1 : Int32)) (lv' := [some (.inr 41), some (.inl v1), some (.inl v2), some (.inl v3), some (.inl v4), some (.inl (0 : Int32)), some (.inl (v6 + (1 : Int32)))]) dX9_isTended_64 rfl (by decide) (by decide) rfl ?_
            refine go_goto (pc := 67) (tgt := 16) dX9_isTended_67 (by decide) ?_
            exact go_to (ih _ _ _ _ _ _ _ h) (And.intro rfl (And.intro rfl (And.intro rfl (And.intro rfl (And.intro rfl (And.intro rfl (And.intro rfl trivial)))))))
          · replace h := (if_neg e8).symm.trans h
            refine go_iconst (pc := 57) (v := (1 : Int32)) dX9_isTended_57 (by decide) ?_
            refine go_goto (pc := 58) (tgt := 62) dX9_isTended_58 (by decide) ?_
            refine go_istore (pc := 62) (lv' := [some (.inr 41), some (.inl v1), some (.inl v2), some (.inl v3), some (.inl v4), some (.inl (1 : Int32)), some (.inl v6)]) dX9_isTended_62 (by decide) rfl ?_
            refine go_iinc (pc := 64) (v := (1 : Int32)) (lv' := [some (.inr 41), some (.inl v1), some (.inl v2), some (.inl v3), some (.inl v4), some (.inl (1 : Int32)), some (.inl (v6 + (1 : Int32)))]) dX9_isTended_64 rfl (by decide) (by decide) rfl ?_
            refine go_goto (pc := 67) (tgt := 16) dX9_isTended_67 (by decide) ?_
            exact go_to (ih _ _ _ _ _ _ _ h) (And.intro rfl (And.intro rfl (And.intro rfl (And.intro rfl (And.intro rfl (And.intro rfl (And.intro rfl trivial)))))))
def x_X9_isTended_L3   : Nat → Int32 → Int32 → Int32 → Int32 → g_M → Option (Int32 × g_M)
  | 0, _, _, _, _, _ => none
  | n + 1, v1, v2, v3, v4, M => (if (99 : Int32) < v4 then (some ((0 : Int32), M)) else (x_X9_isTended_L16  (x_X9_isTended_L3   n) g_F v1 v2 v3 v4 (1 : Int32) v2 M))
set_option maxHeartbeats 4000000 in
set_option maxRecDepth 100000 in
theorem z_X9_isTended_L3 {X : g_X} (hok : g_ok X)  {r : Int32 × g_M}  : ∀ (n : Nat) (v1 : Int32) (v2 : Int32) (v3 : Int32) (v4 : Int32) (M : g_M), x_X9_isTended_L3   n v1 v2 v3 v4 M = some r → g_Go X cX9_isTended RX9 7 (some .boolean) 4 93 r 3 [some (.inr 41), some (.inl v1), some (.inl v2), some (.inl v3), some (.inl v4), none, none] [] M := by
  intro n
  induction n with
  | zero =>
    intro v1 v2 v3 v4 M h
    rw [x_X9_isTended_L3] at h
    cases h
  | succ n ih =>
    intro v1 v2 v3 v4 M h
    rw [x_X9_isTended_L3] at h
    refine go_iload (pc := 3) dX9_isTended_3 rfl ?_
    refine go_bipush (pc := 5) (v := (99 : Int32)) dX9_isTended_5 (by decide) ?_
    refine go_icmp_gt (pc := 7) (tgt := 83) dX9_isTended_7 (by decide) (fun e12 => ?_) (fun e12 => ?_)
    · replace h := (if_pos e12).symm.trans h
      refine go_iconst (pc := 83) (v := (0 : Int32)) dX9_isTended_83 (by decide) ?_
      exact go_iret (pc := 84) (Option.some.inj h).symm rfl dX9_isTended_84 rfl
    · replace h := (if_neg e12).symm.trans h
      refine go_iconst (pc := 10) (v := (1 : Int32)) dX9_isTended_10 (by decide) ?_
      refine go_istore (pc := 11) (lv' := [some (.inr 41), some (.inl v1), some (.inl v2), some (.inl v3), some (.inl v4), some (.inl (1 : Int32)), none]) dX9_isTended_11 (by decide) rfl ?_
      refine go_iload_n (pc := 13) dX9_isTended_13 rfl ?_
      refine go_istore (pc := 14) (lv' := [some (.inr 41), some (.inl v1), some (.inl v2), some (.inl v3), some (.inl v4), some (.inl (1 : Int32)), some (.inl v2)]) dX9_isTended_14 (by decide) rfl ?_
      exact go_to (z_X9_isTended_L16 hok  (ih) g_F _ _ _ _ _ _ _ h) (And.intro rfl (And.intro rfl (And.intro rfl (And.intro rfl (And.intro rfl (And.intro rfl (And.intro rfl trivial)))))))
def x_X9_isTended  (p1 p2 p3 : Int32) (M : g_M) : Option (Int32 × g_M) := (x_X9_isTended_L3   g_F p1 p2 p3 (0 : Int32) M)
set_option maxHeartbeats 4000000 in
set_option maxRecDepth 100000 in
theorem z_X9_isTended {X : g_X} (hok : g_ok X)  {p1 p2 p3 : Int32} {M : g_M} {r : Int32 × g_M} (h : x_X9_isTended p1 p2 p3 M = some r) : g_Con X yX9_isTended cX9_isTended 7 (some .boolean) 4 93 [.inr 41, .inl p1, .inl p2, .inl p3] M r := by
  rw [x_X9_isTended] at h
  refine g_con hok (plainFor_of_name (by decide +kernel)) (Nat.le_of_ble_eq_true rfl) (go_to (lv2 := [some (.inr 41), some (.inl p1), some (.inl p2), some (.inl p3), none, none, none]) (own := RX9) ?_ (And.intro rfl (And.intro rfl (And.intro rfl (And.intro rfl trivial)))))
  refine go_iconst (pc := 0) (v := (0 : Int32)) dX9_isTended_0 (by decide) ?_
  refine go_istore (pc := 1) (lv' := [some (.inr 41), some (.inl p1), some (.inl p2), some (.inl p3), some (.inl (0 : Int32)), none, none]) dX9_isTended_1 (by decide) rfl ?_
  exact go_to (z_X9_isTended_L3 hok   g_F _ _ _ _ _ h) (And.intro rfl (And.intro rfl (And.intro rfl (And.intro rfl (And.intro rfl trivial)))))
def x_X9_tendedHours_L7   : Nat → Int32 → Int32 → Int32 → Int32 → g_M → Option (Int32 × g_M)
  | 0, _, _, _, _, _ => none
  | n + 1, v1, v2, v3, v4, M => (if (12 : Int32) ≤ v4 then (some (v3, M)) else (((x_X9_isTended v1 v4 v4 M).bind fun u1 => if u1.1 = 0 then (some ((-9 : Int32), u1.2)) else (((x_X9_isTended v1 v2 v4 u1.2).bind fun u3 => if u3.1 = 0 then (x_X9_tendedHours_L7   n v1 v4 (v3 ||| ((1 : Int32) <<< (v4 &&& 31))) (v4 + (1 : Int32)) u3.2) else (x_X9_tendedHours_L7   n v1 v2 v3 (v4 + (1 : Int32)) u3.2))))))
set_option maxHeartbeats 4000000 in
set_option maxRecDepth 100000 in
theorem z_X9_tendedHours_L7 {X : g_X} (hok : g_ok X)  {r : Int32 × g_M}  : ∀ (n : Nat) (v1 : Int32) (v2 : Int32) (v3 : Int32) (v4 : Int32) (M : g_M), x_X9_tendedHours_L7   n v1 v2 v3 v4 M = some r → g_Go X cX9_tendedHours RX9 5 (some .int) 5 119 r 7 [some (.inr 41), some (.inl v1), some (.inl v2), some (.inl v3), some (.inl v4)] [] M := by
  intro n
  induction n with
  | zero =>
    intro v1 v2 v3 v4 M h
    rw [x_X9_tendedHours_L7] at h
    cases h
  | succ n ih =>
    intro v1 v2 v3 v4 M h
    rw [x_X9_tendedHours_L7] at h
    refine go_iload (pc := 7) dX9_tendedHours_7 rfl ?_
    refine go_bipush (pc := 9) (v := (12 : Int32)) dX9_tendedHours_9 (by decide) ?_
    refine go_icmp_ge (pc := 11) (tgt := 59) dX9_tendedHours_11 (by decide) (fun e7 => ?_) (fun e7 => ?_)
    · replace h := (if_pos e7).symm.trans h
      refine go_iload_n (pc := 59) dX9_tendedHours_59 rfl ?_
      exact go_iret (pc := 60) (Option.some.inj h).symm rfl dX9_tendedHours_60 rfl
    · replace h := (if_neg e7).symm.trans h
      refine go_aload_n (pc := 14) dX9_tendedHours_14 rfl ?_
      refine go_iload_n (pc := 15) dX9_tendedHours_15 rfl ?_
      refine go_iload (pc := 16) dX9_tendedHours_16 rfl ?_
      refine go_iload (pc := 18) dX9_tendedHours_18 rfl ?_
      obtain ⟨u1, c2, h⟩ := g_bd h
      refine go_callV (pc := 20) (as := [.inl v1, .inl v4, .inl v4]) (st := []) (r := u1.1) (M1 := u1.2) (z_X9_isTended hok  c2) cw_X9_isTended ml_X9_267 (show g_lay[41]? = some _ from rfl) rfl rfl (by decide) (Nat.le_of_ble_eq_true rfl) rfl dX9_tendedHours_20 ?_
      refine go_if_ne (pc := 23) (tgt := 29) dX9_tendedHours_23 (by decide) (fun e6 => ?_) (fun e6 => ?_)
      · replace h := (if_neg e6).symm.trans h
        refine go_aload_n (pc := 29) dX9_tendedHours_29 rfl ?_
        refine go_iload_n (pc := 30) dX9_tendedHours_30 rfl ?_
        refine go_iload_n (pc := 31) dX9_tendedHours_31 rfl ?_
        refine go_iload (pc := 32) dX9_tendedHours_32 rfl ?_
        obtain ⟨u3, c4, h⟩ := g_bd h
        refine go_callV (pc := 34) (as := [.inl v1, .inl v2, .inl v4]) (st := []) (r := u3.1) (M1 := u3.2) (z_X9_isTended hok  c4) cw_X9_isTended ml_X9_267 (show g_lay[41]? = some _ from rfl) rfl rfl (by decide) (Nat.le_of_ble_eq_true rfl) rfl dX9_tendedHours_34 ?_
        refine go_if_eq (pc := 37) (tgt := 43) dX9_tendedHours_37 (by decide) (fun e5 => ?_) (fun e5 => ?_)
        · replace h := (if_pos e5).symm.trans h
          refine go_iload_n (pc := 43) dX9_tendedHours_43 rfl ?_
          refine go_iconst (pc := 44) (v := (1 : Int32)) dX9_tendedHours_44 (by decide) ?_
          refine go_iload (pc := 45) dX9_tendedHours_45 rfl ?_
          refine go_ishl (pc := 47) dX9_tendedHours_47 ?_
          refine go_ior (pc := 48) dX9_tendedHours_48 ?_
          refine go_istore_n (pc := 49) (lv' := [some (.inr 41), some (.inl v1), some (.inl v2), some (.inl (v3 ||| ((1 : Int32) <<< (v4 &&& 31)))), some (.inl v4)]) dX9_tendedHours_49 (by decide) rfl ?_
          refine go_iload (pc := 50) dX9_tendedHours_50 rfl ?_
          refine go_istore_n (pc := 52) (lv' := [some (.inr 41), some (.inl v1), some (.inl v4), some (.inl (v3 ||| ((1 : Int32) <<< (v4 &&& 31)))), some (.inl v4)]) dX9_tendedHours_52 (by decide) rfl ?_
          refine go_iinc (pc := 53) (v := (1 : Int32)) (lv' := [some (.inr 41), some (.inl v1), some (.inl v4), some (.inl (v3 ||| ((1 : Int32) <<< (v4 &&& 31)))), some (.inl (v4 + (1 : Int32)))]) dX9_tendedHours_53 rfl (by decide) (by decide) rfl ?_
          refine go_goto (pc := 56) (tgt := 7) dX9_tendedHours_56 (by decide) ?_
          exact go_to (ih _ _ _ _ _ h) (And.intro rfl (And.intro rfl (And.intro rfl (And.intro rfl (And.intro rfl trivial)))))
        · replace h := (if_neg e5).symm.trans h
          refine go_goto (pc := 40) (tgt := 53) dX9_tendedHours_40 (by decide) ?_
          refine go_iinc (pc := 53) (v := (1 : Int32)) (lv' := [some (.inr 41), some (.inl v1), some (.inl v2), some (.inl v3), some (.inl (v4 + (1 : Int32)))]) dX9_tendedHours_53 rfl (by decide) (by decide) rfl ?_
          refine go_goto (pc := 56) (tgt := 7) dX9_tendedHours_56 (by decide) ?_
          exact go_to (ih _ _ _ _ _ h) (And.intro rfl (And.intro rfl (And.intro rfl (And.intro rfl (And.intro rfl trivial)))))
      · replace h := (if_pos e6).symm.trans h
        refine go_bipush (pc := 26) (v := (-9 : Int32)) dX9_tendedHours_26 (by decide) ?_
        exact go_iret (pc := 28) (Option.some.inj h).symm rfl dX9_tendedHours_28 rfl
def x_X9_tendedHours  (p1 : Int32) (M : g_M) : Option (Int32 × g_M) := (x_X9_tendedHours_L7   g_F p1 (0 : Int32) (0 : Int32) (0 : Int32) M)
set_option maxHeartbeats 4000000 in
set_option maxRecDepth 100000 in
theorem z_X9_tendedHours {X : g_X} (hok : g_ok X)  {p1 : Int32} {M : g_M} {r : Int32 × g_M} (h : x_X9_tendedHours p1 M = some r) : g_Con X yX9_tendedHours cX9_tendedHours 5 (some .int) 5 119 [.inr 41, .inl p1] M r := by
  rw [x_X9_tendedHours] at h
  refine g_con hok (plainFor_of_name (by decide +kernel)) (Nat.le_of_ble_eq_true rfl) (go_to (lv2 := [some (.inr 41), some (.inl p1), none, none, none]) (own := RX9) ?_ (And.intro rfl (And.intro rfl trivial)))
  refine go_iconst (pc := 0) (v := (0 : Int32)) dX9_tendedHours_0 (by decide) ?_
  refine go_istore_n (pc := 1) (lv' := [some (.inr 41), some (.inl p1), some (.inl (0 : Int32)), none, none]) dX9_tendedHours_1 (by decide) rfl ?_
  refine go_iconst (pc := 2) (v := (0 : Int32)) dX9_tendedHours_2 (by decide) ?_
  refine go_istore_n (pc := 3) (lv' := [some (.inr 41), some (.inl p1), some (.inl (0 : Int32)), some (.inl (0 : Int32)), none]) dX9_tendedHours_3 (by decide) rfl ?_
  refine go_iconst (pc := 4) (v := (0 : Int32)) dX9_tendedHours_4 (by decide) ?_
  refine go_istore (pc := 5) (lv' := [some (.inr 41), some (.inl p1), some (.inl (0 : Int32)), some (.inl (0 : Int32)), some (.inl (0 : Int32))]) dX9_tendedHours_5 (by decide) rfl ?_
  exact go_to (z_X9_tendedHours_L7 hok   g_F _ _ _ _ _ h) (And.intro rfl (And.intro rfl (And.intro rfl (And.intro rfl (And.intro rfl trivial)))))
def x_X9_tended  (p1 p2 : Int32) (M : g_M) : Option (Int32 × g_M) := (((x_X9_isBoat p1 M).bind fun u1 => if u1.1 = 0 then (((x_X9_no (-1 : Int32) u1.2).bind fun u14 => some (u14.1, u14.2))) else (((x_X9_isIn p2 (0 : Int32) (1 : Int32) u1.2).bind fun u3 => if u3.1 = 0 then (((x_X9_no (-2 : Int32) u3.2).bind fun u11 => some (u11.1, u11.2))) else (((x_X9_tendedHours p1 u3.2).bind fun u5 => if u5.1 < 0 then (some (u5.1, u5.2)) else (if p2 = (1 : Int32) then (some (u5.1, u5.2)) else (((x_X9_bits u5.1 u5.2).bind fun u7 => some (u7.1, u7.2))))))))))
set_option maxHeartbeats 4000000 in
set_option maxRecDepth 100000 in
theorem z_X9_tended {X : g_X} (hok : g_ok X)  {p1 p2 : Int32} {M : g_M} {r : Int32 × g_M} (h : x_X9_tended p1 p2 M = some r) : g_Con X yX9_tended cX9_tended 4 (some .int) 6 143 [.inr 41, .inl p1, .inl p2] M r := by
  rw [x_X9_tended] at h
  refine g_con hok (plainFor_of_name (by decide +kernel)) (Nat.le_of_ble_eq_true rfl) (go_to (lv2 := [some (.inr 41), some (.inl p1), some (.inl p2), none]) (own := RX9) ?_ (And.intro rfl (And.intro rfl (And.intro rfl trivial))))
  refine go_aload_n (pc := 0) dX9_tended_0 rfl ?_
  refine go_iload_n (pc := 1) dX9_tended_1 rfl ?_
  obtain ⟨u1, c2, h⟩ := g_bd h
  refine go_callV (pc := 2) (as := [.inl p1]) (st := []) (r := u1.1) (M1 := u1.2) (z_X9_isBoat hok  c2) cw_X9_isBoat ml_X9_168 (show g_lay[41]? = some _ from rfl) rfl rfl (by decide) (Nat.le_of_ble_eq_true rfl) rfl dX9_tended_2 ?_
  refine go_if_ne (pc := 5) (tgt := 14) dX9_tended_5 (by decide) (fun e16 => ?_) (fun e16 => ?_)
  · replace h := (if_neg e16).symm.trans h
    refine go_iload_n (pc := 14) dX9_tended_14 rfl ?_
    refine go_iconst (pc := 15) (v := (0 : Int32)) dX9_tended_15 (by decide) ?_
    refine go_iconst (pc := 16) (v := (1 : Int32)) dX9_tended_16 (by decide) ?_
    obtain ⟨u3, c4, h⟩ := g_bd h
    refine go_callS (pc := 17) (as := [.inl p2, .inl (0 : Int32), .inl (1 : Int32)]) (st := []) (r := u3.1) (M1 := u3.2) (z_X9_isIn hok  c4) cw_X9_isIn ml_X9_135 (by decide) (Nat.le_of_ble_eq_true rfl) rfl dX9_tended_17 ?_
    refine go_if_ne (pc := 20) (tgt := 30) dX9_tended_20 (by decide) (fun e13 => ?_) (fun e13 => ?_)
    · replace h := (if_neg e13).symm.trans h
      refine go_aload_n (pc := 30) dX9_tended_30 rfl ?_
      refine go_iload_n (pc := 31) dX9_tended_31 rfl ?_
      obtain ⟨u5, c6, h⟩ := g_bd h
      refine go_callV (pc := 32) (as := [.inl p1]) (st := []) (r := u5.1) (M1 := u5.2) (z_X9_tendedHours hok  c6) cw_X9_tendedHours ml_X9_270 (show g_lay[41]? = some _ from rfl) rfl rfl (by decide) (Nat.le_of_ble_eq_true rfl) rfl dX9_tended_32 ?_
      refine go_istore_n (pc := 35) (lv' := [some (.inr 41), some (.inl p1), some (.inl p2), some (.inl u5.1)]) dX9_tended_35 (by decide) rfl ?_
      refine go_iload_n (pc := 36) dX9_tended_36 rfl ?_
      refine go_if_lt (pc := 37) (tgt := 45) dX9_tended_37 (by decide) (fun e10 => ?_) (fun e10 => ?_)
      · replace h := (if_pos e10).symm.trans h
        refine go_iload_n (pc := 45) dX9_tended_45 rfl ?_
        refine go_goto (pc := 46) (tgt := 53) dX9_tended_46 (by decide) ?_
        exact go_iret (pc := 53) (Option.some.inj h).symm rfl dX9_tended_53 rfl
      · replace h := (if_neg e10).symm.trans h
        refine go_iload_n (pc := 40) dX9_tended_40 rfl ?_
        refine go_iconst (pc := 41) (v := (1 : Int32)) dX9_tended_41 (by decide) ?_
        refine go_icmp_ne (pc := 42) (tgt := 49) dX9_tended_42 (by decide) (fun e9 => ?_) (fun e9 => ?_)
        · replace h := (if_neg e9).symm.trans h
          refine go_iload_n (pc := 49) dX9_tended_49 rfl ?_
          obtain ⟨u7, c8, h⟩ := g_bd h
          refine go_callS (pc := 50) (as := [.inl u5.1]) (st := []) (r := u7.1) (M1 := u7.2) (z_X9_bits hok  c8) cw_X9_bits ml_X9_273 (by decide) (Nat.le_of_ble_eq_true rfl) rfl dX9_tended_50 ?_
          exact go_iret (pc := 53) (Option.some.inj h).symm rfl dX9_tended_53 rfl
        · replace h := (if_pos e9).symm.trans h
          refine go_iload_n (pc := 45) dX9_tended_45 rfl ?_
          refine go_goto (pc := 46) (tgt := 53) dX9_tended_46 (by decide) ?_
          exact go_iret (pc := 53) (Option.some.inj h).symm rfl dX9_tended_53 rfl
    · replace h := (if_pos e13).symm.trans h
      refine go_aload_n (pc := 23) dX9_tended_23 rfl ?_
      refine go_bipush (pc := 24) (v := (-2 : Int32)) dX9_tended_24 (by decide) ?_
      obtain ⟨u11, c12, h⟩ := g_bd h
      refine go_callV (pc := 26) (as := [.inl (-2 : Int32)]) (st := []) (r := u11.1) (M1 := u11.2) (z_X9_no hok  c12) cw_X9_no ml_X9_124 (show g_lay[41]? = some _ from rfl) rfl rfl (by decide) (Nat.le_of_ble_eq_true rfl) rfl dX9_tended_26 ?_
      exact go_iret (pc := 29) (Option.some.inj h).symm rfl dX9_tended_29 rfl
  · replace h := (if_pos e16).symm.trans h
    refine go_aload_n (pc := 8) dX9_tended_8 rfl ?_
    refine go_iconst (pc := 9) (v := (-1 : Int32)) dX9_tended_9 (by decide) ?_
    obtain ⟨u14, c15, h⟩ := g_bd h
    refine go_callV (pc := 10) (as := [.inl (-1 : Int32)]) (st := []) (r := u14.1) (M1 := u14.2) (z_X9_no hok  c15) cw_X9_no ml_X9_124 (show g_lay[41]? = some _ from rfl) rfl rfl (by decide) (Nat.le_of_ble_eq_true rfl) rfl dX9_tended_10 ?_
    exact go_iret (pc := 13) (Option.some.inj h).symm rfl dX9_tended_13 rfl
def x_X9_areTwo  (p1 p2 : Int32) (M : g_M) : Option (Int32 × g_M) := (((x_X9_isBoat p1 M).bind fun u1 => if u1.1 = 0 then (some ((0 : Int32), u1.2)) else (((x_X9_isBoat p2 u1.2).bind fun u3 => if u3.1 = 0 then (some ((0 : Int32), u3.2)) else (if p1 = p2 then (some ((0 : Int32), u3.2)) else (some ((1 : Int32), u3.2)))))))
set_option maxHeartbeats 4000000 in
set_option maxRecDepth 100000 in
theorem z_X9_areTwo {X : g_X} (hok : g_ok X)  {p1 p2 : Int32} {M : g_M} {r : Int32 × g_M} (h : x_X9_areTwo p1 p2 M = some r) : g_Con X yX9_areTwo cX9_areTwo 3 (some .boolean) 1 21 [.inr 41, .inl p1, .inl p2] M r := by
  rw [x_X9_areTwo] at h
  refine g_con hok (plainFor_of_name (by decide +kernel)) (Nat.le_of_ble_eq_true rfl) (go_to (lv2 := [some (.inr 41), some (.inl p1), some (.inl p2)]) (own := RX9) ?_ (And.intro rfl (And.intro rfl (And.intro rfl trivial))))
  refine go_aload_n (pc := 0) dX9_areTwo_0 rfl ?_
  refine go_iload_n (pc := 1) dX9_areTwo_1 rfl ?_
  obtain ⟨u1, c2, h⟩ := g_bd h
  refine go_callV (pc := 2) (as := [.inl p1]) (st := []) (r := u1.1) (M1 := u1.2) (z_X9_isBoat hok  c2) cw_X9_isBoat ml_X9_168 (show g_lay[41]? = some _ from rfl) rfl rfl (by decide) (Nat.le_of_ble_eq_true rfl) rfl dX9_areTwo_2 ?_
  refine go_if_eq (pc := 5) (tgt := 25) dX9_areTwo_5 (by decide) (fun e7 => ?_) (fun e7 => ?_)
  · replace h := (if_pos e7).symm.trans h
    refine go_iconst (pc := 25) (v := (0 : Int32)) dX9_areTwo_25 (by decide) ?_
    exact go_iret (pc := 26) (Option.some.inj h).symm rfl dX9_areTwo_26 rfl
  · replace h := (if_neg e7).symm.trans h
    refine go_aload_n (pc := 8) dX9_areTwo_8 rfl ?_
    refine go_iload_n (pc := 9) dX9_areTwo_9 rfl ?_
    obtain ⟨u3, c4, h⟩ := g_bd h
    refine go_callV (pc := 10) (as := [.inl p2]) (st := []) (r := u3.1) (M1 := u3.2) (z_X9_isBoat hok  c4) cw_X9_isBoat ml_X9_168 (show g_lay[41]? = some _ from rfl) rfl rfl (by decide) (Nat.le_of_ble_eq_true rfl) rfl dX9_areTwo_10 ?_
    refine go_if_eq (pc := 13) (tgt := 25) dX9_areTwo_13 (by decide) (fun e6 => ?_) (fun e6 => ?_)
    · replace h := (if_pos e6).symm.trans h
      refine go_iconst (pc := 25) (v := (0 : Int32)) dX9_areTwo_25 (by decide) ?_
      exact go_iret (pc := 26) (Option.some.inj h).symm rfl dX9_areTwo_26 rfl
    · replace h := (if_neg e6).symm.trans h
      refine go_iload_n (pc := 16) dX9_areTwo_16 rfl ?_
      refine go_iload_n (pc := 17) dX9_areTwo_17 rfl ?_
      refine go_icmp_eq (pc := 18) (tgt := 25) dX9_areTwo_18 (by decide) (fun e5 => ?_) (fun e5 => ?_)
      · replace h := (if_pos e5).symm.trans h
        refine go_iconst (pc := 25) (v := (0 : Int32)) dX9_areTwo_25 (by decide) ?_
        exact go_iret (pc := 26) (Option.some.inj h).symm rfl dX9_areTwo_26 rfl
      · replace h := (if_neg e5).symm.trans h
        refine go_iconst (pc := 21) (v := (1 : Int32)) dX9_areTwo_21 (by decide) ?_
        refine go_goto (pc := 22) (tgt := 26) dX9_areTwo_22 (by decide) ?_
        exact go_iret (pc := 26) (Option.some.inj h).symm rfl dX9_areTwo_26 rfl
def x_X9_doTouch  (p1 p2 p3 : Int32) (M : g_M) : Option (Int32 × g_M) := ((if g_inb p1 5 = true then (((x_X9_hangsWith p1 p3 (M 52 p1.toNatClampNeg) M).bind fun u2 => if u2.1 = 0 then ((if g_inb p2 5 = true then (((x_X9_hangsWith p2 p3 (u2.2 52 p2.toNatClampNeg) u2.2).bind fun u5 => if u5.1 = 0 then (((x_X9_middle p1 u5.2).bind fun u7 => ((x_X9_outAt p1 p3 u7.2).bind fun u9 => ((x_X9_middle p2 u9.2).bind fun u11 => ((x_X9_outAt p2 p3 u11.2).bind fun u13 => (if g_inb p2 5 = true then (if ((u11.1 + u13.1) + (u13.2 53 p2.toNatClampNeg)) < (u7.1 - u9.1) then (some ((0 : Int32), u13.2)) else (((x_X9_middle p2 u13.2).bind fun u16 => ((x_X9_outAt p2 p3 u16.2).bind fun u18 => ((x_X9_middle p1 u18.2).bind fun u20 => ((x_X9_outAt p1 p3 u20.2).bind fun u22 => (if g_inb p1 5 = true then (if ((u20.1 + u22.1) + (u22.2 53 p1.toNatClampNeg)) < (u16.1 - u18.1) then (some ((0 : Int32), u22.2)) else (some ((1 : Int32), u22.2))) else none))))))) else none)))))) else (some ((0 : Int32), u5.2)))) else none)) else (some ((0 : Int32), u2.2)))) else none))
set_option maxHeartbeats 4000000 in
set_option maxRecDepth 100000 in
theorem z_X9_doTouch {X : g_X} (hok : g_ok X)  {p1 p2 p3 : Int32} {M : g_M} {r : Int32 × g_M} (h : x_X9_doTouch p1 p2 p3 M = some r) : g_Con X yX9_doTouch cX9_doTouch 4 (some .boolean) 5 115 [.inr 41, .inl p1, .inl p2, .inl p3] M r := by
  rw [x_X9_doTouch] at h
  refine g_con hok (plainFor_of_name (by decide +kernel)) (Nat.le_of_ble_eq_true rfl) (go_to (lv2 := [some (.inr 41), some (.inl p1), some (.inl p2), some (.inl p3)]) (own := RX9) ?_ (And.intro rfl (And.intro rfl (And.intro rfl (And.intro rfl trivial)))))
  refine go_aload_n (pc := 0) dX9_doTouch_0 rfl ?_
  refine go_iload_n (pc := 1) dX9_doTouch_1 rfl ?_
  refine go_iload_n (pc := 2) dX9_doTouch_2 rfl ?_
  refine go_aload_n (pc := 3) dX9_doTouch_3 rfl ?_
  refine gf_9_40 (pc := 4) dX9_doTouch_4 ?_
  refine go_iload_n (pc := 7) dX9_doTouch_7 rfl ?_
  obtain ⟨i1, h⟩ := g_gd h
  refine go_iald (pc := 8) (n := 5) rfl (g_inb_ok i1) dX9_doTouch_8 ?_
  obtain ⟨u2, c3, h⟩ := g_bd h
  refine go_callV (pc := 9) (as := [.inl p1, .inl p3, .inl (M 52 p1.toNatClampNeg)]) (st := []) (r := u2.1) (M1 := u2.2) (z_X9_hangsWith hok  c3) cw_X9_hangsWith ml_X9_218 (show g_lay[41]? = some _ from rfl) rfl rfl (by decide) (Nat.le_of_ble_eq_true rfl) rfl dX9_doTouch_9 ?_
  refine go_if_ne (pc := 12) (tgt := 30) dX9_doTouch_12 (by decide) (fun e28 => ?_) (fun e28 => ?_)
  · replace h := (if_neg e28).symm.trans h
    refine go_iconst (pc := 30) (v := (0 : Int32)) dX9_doTouch_30 (by decide) ?_
    exact go_iret (pc := 31) (Option.some.inj h).symm rfl dX9_doTouch_31 rfl
  · replace h := (if_pos e28).symm.trans h
    refine go_aload_n (pc := 15) dX9_doTouch_15 rfl ?_
    refine go_iload_n (pc := 16) dX9_doTouch_16 rfl ?_
    refine go_iload_n (pc := 17) dX9_doTouch_17 rfl ?_
    refine go_aload_n (pc := 18) dX9_doTouch_18 rfl ?_
    refine gf_9_40 (pc := 19) dX9_doTouch_19 ?_
    refine go_iload_n (pc := 22) dX9_doTouch_22 rfl ?_
    obtain ⟨i4, h⟩ := g_gd h
    refine go_iald (pc := 23) (n := 5) rfl (g_inb_ok i4) dX9_doTouch_23 ?_
    obtain ⟨u5, c6, h⟩ := g_bd h
    refine go_callV (pc := 24) (as := [.inl p2, .inl p3, .inl (u2.2 52 p2.toNatClampNeg)]) (st := []) (r := u5.1) (M1 := u5.2) (z_X9_hangsWith hok  c6) cw_X9_hangsWith ml_X9_218 (show g_lay[41]? = some _ from rfl) rfl rfl (by decide) (Nat.le_of_ble_eq_true rfl) rfl dX9_doTouch_24 ?_
    refine go_if_eq (pc := 27) (tgt := 32) dX9_doTouch_27 (by decide) (fun e27 => ?_) (fun e27 => ?_)
    · replace h := (if_pos e27).symm.trans h
      refine go_aload_n (pc := 32) dX9_doTouch_32 rfl ?_
      refine go_iload_n (pc := 33) dX9_doTouch_33 rfl ?_
      obtain ⟨u7, c8, h⟩ := g_bd h
      refine go_callV (pc := 34) (as := [.inl p1]) (st := []) (r := u7.1) (M1 := u7.2) (z_X9_middle hok  c8) cw_X9_middle ml_X9_233 (show g_lay[41]? = some _ from rfl) rfl rfl (by decide) (Nat.le_of_ble_eq_true rfl) rfl dX9_doTouch_34 ?_
      refine go_aload_n (pc := 37) dX9_doTouch_37 rfl ?_
      refine go_iload_n (pc := 38) dX9_doTouch_38 rfl ?_
      refine go_iload_n (pc := 39) dX9_doTouch_39 rfl ?_
      obtain ⟨u9, c10, h⟩ := g_bd h
      refine go_callV (pc := 40) (as := [.inl p1, .inl p3]) (st := [.inl u7.1]) (r := u9.1) (M1 := u9.2) (z_X9_outAt hok  c10) cw_X9_outAt ml_X9_230 (show g_lay[41]? = some _ from rfl) rfl rfl (by decide) (Nat.le_of_ble_eq_true rfl) rfl dX9_doTouch_40 ?_
      refine go_isub (pc := 43) dX9_doTouch_43 ?_
      refine go_aload_n (pc := 44) dX9_doTouch_44 rfl ?_
      refine go_iload_n (pc := 45) dX9_doTouch_45 rfl ?_
      obtain ⟨u11, c12, h⟩ := g_bd h
      refine go_callV (pc := 46) (as := [.inl p2]) (st := [.inl (u7.1 - u9.1)]) (r := u11.1) (M1 := u11.2) (z_X9_middle hok  c12) cw_X9_middle ml_X9_233 (show g_lay[41]? = some _ from rfl) rfl rfl (by decide) (Nat.le_of_ble_eq_true rfl) rfl dX9_doTouch_46 ?_
      refine go_aload_n (pc := 49) dX9_doTouch_49 rfl ?_
      refine go_iload_n (pc := 50) dX9_doTouch_50 rfl ?_
      refine go_iload_n (pc := 51) dX9_doTouch_51 rfl ?_
      obtain ⟨u13, c14, h⟩ := g_bd h
      refine go_callV (pc := 52) (as := [.inl p2, .inl p3]) (st := [.inl u11.1, .inl (u7.1 - u9.1)]) (r := u13.1) (M1 := u13.2) (z_X9_outAt hok  c14) cw_X9_outAt ml_X9_230 (show g_lay[41]? = some _ from rfl) rfl rfl (by decide) (Nat.le_of_ble_eq_true rfl) rfl dX9_doTouch_52 ?_
      refine go_iadd (pc := 55) dX9_doTouch_55 ?_
      refine go_aload_n (pc := 56) dX9_doTouch_56 rfl ?_
      refine gf_9_43 (pc := 57) dX9_doTouch_57 ?_
      refine go_iload_n (pc := 60) dX9_doTouch_60 rfl ?_
      obtain ⟨i15, h⟩ := g_gd h
      refine go_iald (pc := 61) (n := 5) rfl (g_inb_ok i15) dX9_doTouch_61 ?_
      refine go_iadd (pc := 62) dX9_doTouch_62 ?_
      refine go_icmp_gt (pc := 63) (tgt := 104) dX9_doTouch_63 (by decide) (fun e26 => ?_) (fun e26 => ?_)
      · replace h := (if_pos e26).symm.trans h
        refine go_iconst (pc := 104) (v := (0 : Int32)) dX9_doTouch_104 (by decide) ?_
        exact go_iret (pc := 105) (Option.some.inj h).symm rfl dX9_doTouch_105 rfl
      · replace h := (if_neg e26).symm.trans h
        refine go_aload_n (pc := 66) dX9_doTouch_66 rfl ?_
        refine go_iload_n (pc := 67) dX9_doTouch_67 rfl ?_
        obtain ⟨u16, c17, h⟩ := g_bd h
        refine go_callV (pc := 68) (as := [.inl p2]) (st := []) (r := u16.1) (M1 := u16.2) (z_X9_middle hok  c17) cw_X9_middle ml_X9_233 (show g_lay[41]? = some _ from rfl) rfl rfl (by decide) (Nat.le_of_ble_eq_true rfl) rfl dX9_doTouch_68 ?_
        refine go_aload_n (pc := 71) dX9_doTouch_71 rfl ?_
        refine go_iload_n (pc := 72) dX9_doTouch_72 rfl ?_
        refine go_iload_n (pc := 73) dX9_doTouch_73 rfl ?_
        obtain ⟨u18, c19, h⟩ := g_bd h
        refine go_callV (pc := 74) (as := [.inl p2, .inl p3]) (st := [.inl u16.1]) (r := u18.1) (M1 := u18.2) (z_X9_outAt hok  c19) cw_X9_outAt ml_X9_230 (show g_lay[41]? = some _ from rfl) rfl rfl (by decide) (Nat.le_of_ble_eq_true rfl) rfl dX9_doTouch_74 ?_
        refine go_isub (pc := 77) dX9_doTouch_77 ?_
        refine go_aload_n (pc := 78) dX9_doTouch_78 rfl ?_
        refine go_iload_n (pc := 79) dX9_doTouch_79 rfl ?_
        obtain ⟨u20, c21, h⟩ := g_bd h
        refine go_callV (pc := 80) (as := [.inl p1]) (st := [.inl (u16.1 - u18.1)]) (r := u20.1) (M1 := u20.2) (z_X9_middle hok  c21) cw_X9_middle ml_X9_233 (show g_lay[41]? = some _ from rfl) rfl rfl (by decide) (Nat.le_of_ble_eq_true rfl) rfl dX9_doTouch_80 ?_
        refine go_aload_n (pc := 83) dX9_doTouch_83 rfl ?_
        refine go_iload_n (pc := 84) dX9_doTouch_84 rfl ?_
        refine go_iload_n (pc := 85) dX9_doTouch_85 rfl ?_
        obtain ⟨u22, c23, h⟩ := g_bd h
        refine go_callV (pc := 86) (as := [.inl p1, .inl p3]) (st := [.inl u20.1, .inl (u16.1 - u18.1)]) (r := u22.1) (M1 := u22.2) (z_X9_outAt hok  c23) cw_X9_outAt ml_X9_230 (show g_lay[41]? = some _ from rfl) rfl rfl (by decide) (Nat.le_of_ble_eq_true rfl) rfl dX9_doTouch_86 ?_
        refine go_iadd (pc := 89) dX9_doTouch_89 ?_
        refine go_aload_n (pc := 90) dX9_doTouch_90 rfl ?_
        refine gf_9_43 (pc := 91) dX9_doTouch_91 ?_
        refine go_iload_n (pc := 94) dX9_doTouch_94 rfl ?_
        obtain ⟨i24, h⟩ := g_gd h
        refine go_iald (pc := 95) (n := 5) rfl (g_inb_ok i24) dX9_doTouch_95 ?_
        refine go_iadd (pc := 96) dX9_doTouch_96 ?_
        refine go_icmp_gt (pc := 97) (tgt := 104) dX9_doTouch_97 (by decide) (fun e25 => ?_) (fun e25 => ?_)
        · replace h := (if_pos e25).symm.trans h
          refine go_iconst (pc := 104) (v := (0 : Int32)) dX9_doTouch_104 (by decide) ?_
          exact go_iret (pc := 105) (Option.some.inj h).symm rfl dX9_doTouch_105 rfl
        · replace h := (if_neg e25).symm.trans h
          refine go_iconst (pc := 100) (v := (1 : Int32)) dX9_doTouch_100 (by decide) ?_
          refine go_goto (pc := 101) (tgt := 105) dX9_doTouch_101 (by decide) ?_
          exact go_iret (pc := 105) (Option.some.inj h).symm rfl dX9_doTouch_105 rfl
    · replace h := (if_neg e27).symm.trans h
      refine go_iconst (pc := 30) (v := (0 : Int32)) dX9_doTouch_30 (by decide) ?_
      exact go_iret (pc := 31) (Option.some.inj h).symm rfl dX9_doTouch_31 rfl
def x_X9_touchHours_L5   : Nat → Int32 → Int32 → Int32 → Int32 → g_M → Option (Int32 × g_M)
  | 0, _, _, _, _, _ => none
  | n + 1, v1, v2, v3, v4, M => (if (12 : Int32) ≤ v4 then (some (v3, M)) else (((x_X9_doTouch v1 v2 v4 M).bind fun u1 => if u1.1 = 0 then (x_X9_touchHours_L5   n v1 v2 (v3 ||| (0 : Int32)) (v4 + (1 : Int32)) u1.2) else (x_X9_touchHours_L5   n v1 v2 (v3 ||| ((1 : Int32) <<< (v4 &&& 31))) (v4 + (1 : Int32)) u1.2))))
set_option maxHeartbeats 4000000 in
set_option maxRecDepth 100000 in
theorem z_X9_touchHours_L5 {X : g_X} (hok : g_ok X)  {r : Int32 × g_M}  : ∀ (n : Nat) (v1 : Int32) (v2 : Int32) (v3 : Int32) (v4 : Int32) (M : g_M), x_X9_touchHours_L5   n v1 v2 v3 v4 M = some r → g_Go X cX9_touchHours RX9 5 (some .int) 6 138 r 5 [some (.inr 41), some (.inl v1), some (.inl v2), some (.inl v3), some (.inl v4)] [] M := by
  intro n
  induction n with
  | zero =>
    intro v1 v2 v3 v4 M h
    rw [x_X9_touchHours_L5] at h
    cases h
  | succ n ih =>
    intro v1 v2 v3 v4 M h
    rw [x_X9_touchHours_L5] at h
    refine go_iload (pc := 5) dX9_touchHours_5 rfl ?_
    refine go_bipush (pc := 7) (v := (12 : Int32)) dX9_touchHours_7 (by decide) ?_
    refine go_icmp_ge (pc := 9) (tgt := 40) dX9_touchHours_9 (by decide) (fun e4 => ?_) (fun e4 => ?_)
    · replace h := (if_pos e4).symm.trans h
      refine go_iload_n (pc := 40) dX9_touchHours_40 rfl ?_
      exact go_iret (pc := 41) (Option.some.inj h).symm rfl dX9_touchHours_41 rfl
    · replace h := (if_neg e4).symm.trans h
      refine go_iload_n (pc := 12) dX9_touchHours_12 rfl ?_
      refine go_aload_n (pc := 13) dX9_touchHours_13 rfl ?_
      refine go_iload_n (pc := 14) dX9_touchHours_14 rfl ?_
      refine go_iload_n (pc := 15) dX9_touchHours_15 rfl ?_
      refine go_iload (pc := 16) dX9_touchHours_16 rfl ?_
      obtain ⟨u1, c2, h⟩ := g_bd h
      refine go_callV (pc := 18) (as := [.inl v1, .inl v2, .inl v4]) (st := [.inl v3]) (r := u1.1) (M1 := u1.2) (z_X9_doTouch hok  c2) cw_X9_doTouch ml_X9_276 (show g_lay[41]? = some _ from rfl) rfl rfl (by decide) (Nat.le_of_ble_eq_true rfl) rfl dX9_touchHours_18 ?_
      refine go_if_eq (pc := 21) (tgt := 31) dX9_touchHours_21 (by decide) (fun e3 => ?_) (fun e3 => ?_)
      · replace h := (if_pos e3).symm.trans h
        refine go_iconst (pc := 31) (v := (0 : Int32)) dX9_touchHours_31 (by decide) ?_
        refine go_ior (pc := 32) dX9_touchHours_32 ?_
        refine go_istore_n (pc := 33) (lv' := [some (.inr 41), some (.inl v1), some (.inl v2), some (.inl (v3 ||| (0 : Int32))), some (.inl v4)]) dX9_touchHours_33 (by decide) rfl ?_
        refine go_iinc (pc := 34) (v := (1 : Int32)) (lv' := [some (.inr 41), some (.inl v1), some (.inl v2), some (.inl (v3 ||| (0 : Int32))), some (.inl (v4 + (1 : Int32)))]) dX9_touchHours_34 rfl (by decide) (by decide) rfl ?_
        refine go_goto (pc := 37) (tgt := 5) dX9_touchHours_37 (by decide) ?_
        exact go_to (ih _ _ _ _ _ h) (And.intro rfl (And.intro rfl (And.intro rfl (And.intro rfl (And.intro rfl trivial)))))
      · replace h := (if_neg e3).symm.trans h
        refine go_iconst (pc := 24) (v := (1 : Int32)) dX9_touchHours_24 (by decide) ?_
        refine go_iload (pc := 25) dX9_touchHours_25 rfl ?_
        refine go_ishl (pc := 27) dX9_touchHours_27 ?_
        refine go_goto (pc := 28) (tgt := 32) dX9_touchHours_28 (by decide) ?_
        refine go_ior (pc := 32) dX9_touchHours_32 ?_
        refine go_istore_n (pc := 33) (lv' := [some (.inr 41), some (.inl v1), some (.inl v2), some (.inl (v3 ||| ((1 : Int32) <<< (v4 &&& 31)))), some (.inl v4)]) dX9_touchHours_33 (by decide) rfl ?_
        refine go_iinc (pc := 34) (v := (1 : Int32)) (lv' := [some (.inr 41), some (.inl v1), some (.inl v2), some (.inl (v3 ||| ((1 : Int32) <<< (v4 &&& 31)))), some (.inl (v4 + (1 : Int32)))]) dX9_touchHours_34 rfl (by decide) (by decide) rfl ?_
        refine go_goto (pc := 37) (tgt := 5) dX9_touchHours_37 (by decide) ?_
        exact go_to (ih _ _ _ _ _ h) (And.intro rfl (And.intro rfl (And.intro rfl (And.intro rfl (And.intro rfl trivial)))))
def x_X9_touchHours  (p1 p2 : Int32) (M : g_M) : Option (Int32 × g_M) := (x_X9_touchHours_L5   g_F p1 p2 (0 : Int32) (0 : Int32) M)
set_option maxHeartbeats 4000000 in
set_option maxRecDepth 100000 in
theorem z_X9_touchHours {X : g_X} (hok : g_ok X)  {p1 p2 : Int32} {M : g_M} {r : Int32 × g_M} (h : x_X9_touchHours p1 p2 M = some r) : g_Con X yX9_touchHours cX9_touchHours 5 (some .int) 6 138 [.inr 41, .inl p1, .inl p2] M r := by
  rw [x_X9_touchHours] at h
  refine g_con hok (plainFor_of_name (by decide +kernel)) (Nat.le_of_ble_eq_true rfl) (go_to (lv2 := [some (.inr 41), some (.inl p1), some (.inl p2), none, none]) (own := RX9) ?_ (And.intro rfl (And.intro rfl (And.intro rfl trivial))))
  refine go_iconst (pc := 0) (v := (0 : Int32)) dX9_touchHours_0 (by decide) ?_
  refine go_istore_n (pc := 1) (lv' := [some (.inr 41), some (.inl p1), some (.inl p2), some (.inl (0 : Int32)), none]) dX9_touchHours_1 (by decide) rfl ?_
  refine go_iconst (pc := 2) (v := (0 : Int32)) dX9_touchHours_2 (by decide) ?_
  refine go_istore (pc := 3) (lv' := [some (.inr 41), some (.inl p1), some (.inl p2), some (.inl (0 : Int32)), some (.inl (0 : Int32))]) dX9_touchHours_3 (by decide) rfl ?_
  exact go_to (z_X9_touchHours_L5 hok   g_F _ _ _ _ _ h) (And.intro rfl (And.intro rfl (And.intro rfl (And.intro rfl (And.intro rfl trivial)))))
def x_X9_touch  (p1 p2 : Int32) (M : g_M) : Option (Int32 × g_M) := (((x_X9_areTwo p1 p2 M).bind fun u1 => if u1.1 = 0 then (((x_X9_no (-1 : Int32) u1.2).bind fun u3 => some (u3.1, u3.2))) else (((x_X9_touchHours p1 p2 u1.2).bind fun u5 => some (u5.1, u5.2)))))
set_option maxHeartbeats 4000000 in
set_option maxRecDepth 100000 in
theorem z_X9_touch {X : g_X} (hok : g_ok X)  {p1 p2 : Int32} {M : g_M} {r : Int32 × g_M} (h : x_X9_touch p1 p2 M = some r) : g_Con X yX9_touch cX9_touch 3 (some .int) 7 162 [.inr 41, .inl p1, .inl p2] M r := by
  rw [x_X9_touch] at h
  refine g_con hok (plainFor_of_name (by decide +kernel)) (Nat.le_of_ble_eq_true rfl) (go_to (lv2 := [some (.inr 41), some (.inl p1), some (.inl p2)]) (own := RX9) ?_ (And.intro rfl (And.intro rfl (And.intro rfl trivial))))
  refine go_aload_n (pc := 0) dX9_touch_0 rfl ?_
  refine go_iload_n (pc := 1) dX9_touch_1 rfl ?_
  refine go_iload_n (pc := 2) dX9_touch_2 rfl ?_
  obtain ⟨u1, c2, h⟩ := g_bd h
  refine go_callV (pc := 3) (as := [.inl p1, .inl p2]) (st := []) (r := u1.1) (M1 := u1.2) (z_X9_areTwo hok  c2) cw_X9_areTwo ml_X9_279 (show g_lay[41]? = some _ from rfl) rfl rfl (by decide) (Nat.le_of_ble_eq_true rfl) rfl dX9_touch_3 ?_
  refine go_if_eq (pc := 6) (tgt := 18) dX9_touch_6 (by decide) (fun e7 => ?_) (fun e7 => ?_)
  · replace h := (if_pos e7).symm.trans h
    refine go_aload_n (pc := 18) dX9_touch_18 rfl ?_
    refine go_iconst (pc := 19) (v := (-1 : Int32)) dX9_touch_19 (by decide) ?_
    obtain ⟨u3, c4, h⟩ := g_bd h
    refine go_callV (pc := 20) (as := [.inl (-1 : Int32)]) (st := []) (r := u3.1) (M1 := u3.2) (z_X9_no hok  c4) cw_X9_no ml_X9_124 (show g_lay[41]? = some _ from rfl) rfl rfl (by decide) (Nat.le_of_ble_eq_true rfl) rfl dX9_touch_20 ?_
    exact go_iret (pc := 23) (Option.some.inj h).symm rfl dX9_touch_23 rfl
  · replace h := (if_neg e7).symm.trans h
    refine go_aload_n (pc := 9) dX9_touch_9 rfl ?_
    refine go_iload_n (pc := 10) dX9_touch_10 rfl ?_
    refine go_iload_n (pc := 11) dX9_touch_11 rfl ?_
    obtain ⟨u5, c6, h⟩ := g_bd h
    refine go_callV (pc := 12) (as := [.inl p1, .inl p2]) (st := []) (r := u5.1) (M1 := u5.2) (z_X9_touchHours hok  c6) cw_X9_touchHours ml_X9_282 (show g_lay[41]? = some _ from rfl) rfl rfl (by decide) (Nat.le_of_ble_eq_true rfl) rfl dX9_touch_12 ?_
    refine go_goto (pc := 15) (tgt := 23) dX9_touch_15 (by decide) ?_
    exact go_iret (pc := 23) (Option.some.inj h).symm rfl dX9_touch_23 rfl
def x_X9_clear_L40   : Nat → Int32 → Int32 → Int32 → Int32 → Int32 → Int32 → Int32 → g_M → Option (Int32 × g_M)
  | 0, _, _, _, _, _, _, _, _ => none
  | n + 1, v1, v2, v3, v4, v5, v6, v7, M => (if (99 : Int32) < v7 then ((if g_inb v1 5 = true then (some (v5, (g_upd M 52 v1.toNatClampNeg v4))) else none)) else (if v3 < 0 then ((if g_inb v1 5 = true then (some (v5, (g_upd M 52 v1.toNatClampNeg v4))) else none)) else ((if g_inb v1 5 = true then (((x_X9_touchHours v1 v2 (g_upd M 52 v1.toNatClampNeg v7)).bind fun u4 => ((x_X9_bits u4.1 u4.2).bind fun u6 => if u6.1 < v6 then (x_X9_clear_L40   n v1 v2 v3 v4 v7 u6.1 (v7 + (1 : Int32)) u6.2) else (x_X9_clear_L40   n v1 v2 v3 v4 v5 v6 (v7 + (1 : Int32)) u6.2)))) else none))))
set_option maxHeartbeats 4000000 in
set_option maxRecDepth 100000 in
theorem z_X9_clear_L40 {X : g_X} (hok : g_ok X)  {r : Int32 × g_M}  : ∀ (n : Nat) (v1 : Int32) (v2 : Int32) (v3 : Int32) (v4 : Int32) (v5 : Int32) (v6 : Int32) (v7 : Int32) (M : g_M), x_X9_clear_L40   n v1 v2 v3 v4 v5 v6 v7 M = some r → g_Go X cX9_clear RX9 9 (some .int) 7 162 r 40 [some (.inr 41), some (.inl v1), some (.inl v2), some (.inl v3), some (.inl v4), some (.inl v5), some (.inl v6), some (.inl v7), none] [] M := by
  intro n
  induction n with
  | zero =>
    intro v1 v2 v3 v4 v5 v6 v7 M h
    rw [x_X9_clear_L40] at h
    cases h
  | succ n ih =>
    intro v1 v2 v3 v4 v5 v6 v7 M h
    rw [x_X9_clear_L40] at h
    refine go_iload (pc := 40) dX9_clear_40 rfl ?_
    refine go_bipush (pc := 42) (v := (99 : Int32)) dX9_clear_42 (by decide) ?_
    refine go_icmp_gt (pc := 44) (tgt := 94) dX9_clear_44 (by decide) (fun e10 => ?_) (fun e10 => ?_)
    · replace h := (if_pos e10).symm.trans h
      refine go_aload_n (pc := 94) dX9_clear_94 rfl ?_
      refine gf_9_40 (pc := 95) dX9_clear_95 ?_
      refine go_iload_n (pc := 98) dX9_clear_98 rfl ?_
      refine go_iload (pc := 99) dX9_clear_99 rfl ?_
      obtain ⟨i1, h⟩ := g_gd h
      refine go_iast (pc := 101) (n := 5) rfl (g_inb_ok i1) dX9_clear_101 ?_
      refine go_iload (pc := 102) dX9_clear_102 rfl ?_
      exact go_iret (pc := 104) (Option.some.inj h).symm rfl dX9_clear_104 rfl
    · replace h := (if_neg e10).symm.trans h
      refine go_iload_n (pc := 47) dX9_clear_47 rfl ?_
      refine go_if_lt (pc := 48) (tgt := 94) dX9_clear_48 (by decide) (fun e9 => ?_) (fun e9 => ?_)
      · replace h := (if_pos e9).symm.trans h
        refine go_aload_n (pc := 94) dX9_clear_94 rfl ?_
        refine gf_9_40 (pc := 95) dX9_clear_95 ?_
        refine go_iload_n (pc := 98) dX9_clear_98 rfl ?_
        refine go_iload (pc := 99) dX9_clear_99 rfl ?_
        obtain ⟨i2, h⟩ := g_gd h
        refine go_iast (pc := 101) (n := 5) rfl (g_inb_ok i2) dX9_clear_101 ?_
        refine go_iload (pc := 102) dX9_clear_102 rfl ?_
        exact go_iret (pc := 104) (Option.some.inj h).symm rfl dX9_clear_104 rfl
      · replace h := (if_neg e9).symm.trans h
        refine go_aload_n (pc := 51) dX9_clear_51 rfl ?_
        refine gf_9_40 (pc := 52) dX9_clear_52 ?_
        refine go_iload_n (pc := 55) dX9_clear_55 rfl ?_
        refine go_iload (pc := 56) dX9_clear_56 rfl ?_
        obtain ⟨i3, h⟩ := g_gd h
        refine go_iast (pc := 58) (n := 5) rfl (g_inb_ok i3) dX9_clear_58 ?_
        refine go_aload_n (pc := 59) dX9_clear_59 rfl ?_
        refine go_iload_n (pc := 60) dX9_clear_60 rfl ?_
        refine go_iload_n (pc := 61) dX9_clear_61 rfl ?_
        obtain ⟨u4, c5, h⟩ := g_bd h
        refine go_callV (pc := 62) (as := [.inl v1, .inl v2]) (st := []) (r := u4.1) (M1 := u4.2) (z_X9_touchHours hok  c5) cw_X9_touchHours ml_X9_282 (show g_lay[41]? = some _ from rfl) rfl rfl (by decide) (Nat.le_of_ble_eq_true rfl) rfl dX9_clear_62 ?_
        obtain ⟨u6, c7, h⟩ := g_bd h
        refine go_callS (pc := 65) (as := [.inl u4.1]) (st := []) (r := u6.1) (M1 := u6.2) (z_X9_bits hok  c7) cw_X9_bits ml_X9_273 (by decide) (Nat.le_of_ble_eq_true rfl) rfl dX9_clear_65 ?_
        refine go_istore (pc := 68) (lv' := [some (.inr 41), some (.inl v1), some (.inl v2), some (.inl v3), some (.inl v4), some (.inl v5), some (.inl v6), some (.inl v7), some (.inl u6.1)]) dX9_clear_68 (by decide) rfl ?_
        refine go_iload (pc := 70) dX9_clear_70 rfl ?_
        refine go_iload (pc := 72) dX9_clear_72 rfl ?_
        refine go_icmp_lt (pc := 74) (tgt := 80) dX9_clear_74 (by decide) (fun e8 => ?_) (fun e8 => ?_)
        · replace h := (if_pos e8).symm.trans h
          refine go_iload (pc := 80) dX9_clear_80 rfl ?_
          refine go_istore (pc := 82) (lv' := [some (.inr 41), some (.inl v1), some (.inl v2), some (.inl v3), some (.inl v4), some (.inl v7), some (.inl v6), some (.inl v7), some (.inl u6.1)]) dX9_clear_82 (by decide) rfl ?_
          refine go_iload (pc := 84) dX9_clear_84 rfl ?_
          refine go_istore (pc := 86) (lv' := [some (.inr 41), some (.inl v1), some (.inl v2), some (.inl v3), some (.inl v4), some (.inl v7), some (.inl u6.1), some (.inl v7), some (.inl u6.1)]) dX9_clear_86 (by decide) rfl ?_
          refine go_iinc (pc := 88) (v := (1 : Int32)) (lv' := [some (.inr 41), some (.inl v1), some (.inl v2), some (.inl v3), some (.inl v4), some (.inl v7), some (.inl u6.1), some (.inl (v7 + (1 : Int32))), some (.inl u6.1)]) dX9_clear_88 rfl (by decide) (by decide) rfl ?_
          refine go_goto (pc := 91) (tgt := 40) dX9_clear_91 (by decide) ?_
          exact go_to (ih _ _ _ _ _ _ _ _ h) (And.intro rfl (And.intro rfl (And.intro rfl (And.intro rfl (And.intro rfl (And.intro rfl (And.intro rfl (And.intro rfl trivial))))))))
        · replace h := (if_neg e8).symm.trans h
          refine go_goto (pc := 77) (tgt := 88) dX9_clear_77 (by decide) ?_
          refine go_iinc (pc := 88) (v := (1 : Int32)) (lv' := [some (.inr 41), some (.inl v1), some (.inl v2), some (.inl v3), some (.inl v4), some (.inl v5), some (.inl v6), some (.inl (v7 + (1 : Int32))), some (.inl u6.1)]) dX9_clear_88 rfl (by decide) (by decide) rfl ?_
          refine go_goto (pc := 91) (tgt := 40) dX9_clear_91 (by decide) ?_
          exact go_to (ih _ _ _ _ _ _ _ _ h) (And.intro rfl (And.intro rfl (And.intro rfl (And.intro rfl (And.intro rfl (And.intro rfl (And.intro rfl (And.intro rfl trivial))))))))
def x_X9_clear  (p1 p2 : Int32) (M : g_M) : Option (Int32 × g_M) := (((x_X9_areTwo p1 p2 M).bind fun u11 => if u11.1 = 0 then (((x_X9_no (-1 : Int32) u11.2).bind fun u16 => some (u16.1, u16.2))) else (((x_X9_leastLength p1 u11.2).bind fun u13 => (if g_inb p1 5 = true then (x_X9_clear_L40   g_F p1 p2 u13.1 (u13.2 52 p1.toNatClampNeg) (-9 : Int32) (99 : Int32) u13.1 u13.2) else none)))))
set_option maxHeartbeats 4000000 in
set_option maxRecDepth 100000 in
theorem z_X9_clear {X : g_X} (hok : g_ok X)  {p1 p2 : Int32} {M : g_M} {r : Int32 × g_M} (h : x_X9_clear p1 p2 M = some r) : g_Con X yX9_clear cX9_clear 9 (some .int) 7 162 [.inr 41, .inl p1, .inl p2] M r := by
  rw [x_X9_clear] at h
  refine g_con hok (plainFor_of_name (by decide +kernel)) (Nat.le_of_ble_eq_true rfl) (go_to (lv2 := [some (.inr 41), some (.inl p1), some (.inl p2), none, none, none, none, none, none]) (own := RX9) ?_ (And.intro rfl (And.intro rfl (And.intro rfl trivial))))
  refine go_aload_n (pc := 0) dX9_clear_0 rfl ?_
  refine go_iload_n (pc := 1) dX9_clear_1 rfl ?_
  refine go_iload_n (pc := 2) dX9_clear_2 rfl ?_
  obtain ⟨u11, c12, h⟩ := g_bd h
  refine go_callV (pc := 3) (as := [.inl p1, .inl p2]) (st := []) (r := u11.1) (M1 := u11.2) (z_X9_areTwo hok  c12) cw_X9_areTwo ml_X9_279 (show g_lay[41]? = some _ from rfl) rfl rfl (by decide) (Nat.le_of_ble_eq_true rfl) rfl dX9_clear_3 ?_
  refine go_if_ne (pc := 6) (tgt := 15) dX9_clear_6 (by decide) (fun e18 => ?_) (fun e18 => ?_)
  · replace h := (if_neg e18).symm.trans h
    refine go_aload_n (pc := 15) dX9_clear_15 rfl ?_
    refine go_iload_n (pc := 16) dX9_clear_16 rfl ?_
    obtain ⟨u13, c14, h⟩ := g_bd h
    refine go_callV (pc := 17) (as := [.inl p1]) (st := []) (r := u13.1) (M1 := u13.2) (z_X9_leastLength hok  c14) cw_X9_leastLength ml_X9_258 (show g_lay[41]? = some _ from rfl) rfl rfl (by decide) (Nat.le_of_ble_eq_true rfl) rfl dX9_clear_17 ?_
    refine go_istore_n (pc := 20) (lv' := [some (.inr 41), some (.inl p1), some (.inl p2), some (.inl u13.1), none, none, none, none, none]) dX9_clear_20 (by decide) rfl ?_
    refine go_aload_n (pc := 21) dX9_clear_21 rfl ?_
    refine gf_9_40 (pc := 22) dX9_clear_22 ?_
    refine go_iload_n (pc := 25) dX9_clear_25 rfl ?_
    obtain ⟨i15, h⟩ := g_gd h
    refine go_iald (pc := 26) (n := 5) rfl (g_inb_ok i15) dX9_clear_26 ?_
    refine go_istore (pc := 27) (lv' := [some (.inr 41), some (.inl p1), some (.inl p2), some (.inl u13.1), some (.inl (u13.2 52 p1.toNatClampNeg)), none, none, none, none]) dX9_clear_27 (by decide) rfl ?_
    refine go_bipush (pc := 29) (v := (-9 : Int32)) dX9_clear_29 (by decide) ?_
    refine go_istore (pc := 31) (lv' := [some (.inr 41), some (.inl p1), some (.inl p2), some (.inl u13.1), some (.inl (u13.2 52 p1.toNatClampNeg)), some (.inl (-9 : Int32)), none, none, none]) dX9_clear_31 (by decide) rfl ?_
    refine go_bipush (pc := 33) (v := (99 : Int32)) dX9_clear_33 (by decide) ?_
    refine go_istore (pc := 35) (lv' := [some (.inr 41), some (.inl p1), some (.inl p2), some (.inl u13.1), some (.inl (u13.2 52 p1.toNatClampNeg)), some (.inl (-9 : Int32)), some (.inl (99 : Int32)), none, none]) dX9_clear_35 (by decide) rfl ?_
    refine go_iload_n (pc := 37) dX9_clear_37 rfl ?_
    refine go_istore (pc := 38) (lv' := [some (.inr 41), some (.inl p1), some (.inl p2), some (.inl u13.1), some (.inl (u13.2 52 p1.toNatClampNeg)), some (.inl (-9 : Int32)), some (.inl (99 : Int32)), some (.inl u13.1), none]) dX9_clear_38 (by decide) rfl ?_
    exact go_to (z_X9_clear_L40 hok   g_F _ _ _ _ _ _ _ _ h) (And.intro rfl (And.intro rfl (And.intro rfl (And.intro rfl (And.intro rfl (And.intro rfl (And.intro rfl (And.intro rfl trivial))))))))
  · replace h := (if_pos e18).symm.trans h
    refine go_aload_n (pc := 9) dX9_clear_9 rfl ?_
    refine go_iconst (pc := 10) (v := (-1 : Int32)) dX9_clear_10 (by decide) ?_
    obtain ⟨u16, c17, h⟩ := g_bd h
    refine go_callV (pc := 11) (as := [.inl (-1 : Int32)]) (st := []) (r := u16.1) (M1 := u16.2) (z_X9_no hok  c17) cw_X9_no ml_X9_124 (show g_lay[41]? = some _ from rfl) rfl rfl (by decide) (Nat.le_of_ble_eq_true rfl) rfl dX9_clear_11 ?_
    exact go_iret (pc := 14) (Option.some.inj h).symm rfl dX9_clear_14 rfl
def x_X9_slack_L18   : Nat → Int32 → Int32 → Int32 → g_M → Option (Int32 × g_M)
  | 0, _, _, _, _ => none
  | n + 1, v1, v2, v3, M => (if (12 : Int32) ≤ v3 then (((x_X9_rootOf v2 M).bind fun u1 => (if g_inb v1 5 = true then (if v2 ≤ (u1.1 * u1.1) then (some (((u1.2 52 v1.toNatClampNeg) - u1.1), u1.2)) else (some (((u1.2 52 v1.toNatClampNeg) - (u1.1 + (1 : Int32))), u1.2))) else none))) else (((x_X9_needsAt v1 v3 M).bind fun u5 => if u5.1 ≤ v2 then (x_X9_slack_L18   n v1 v2 (v3 + (1 : Int32)) u5.2) else (((x_X9_needsAt v1 v3 u5.2).bind fun u7 => x_X9_slack_L18   n v1 u7.1 (v3 + (1 : Int32)) u7.2)))))
set_option maxHeartbeats 4000000 in
set_option maxRecDepth 100000 in
theorem z_X9_slack_L18 {X : g_X} (hok : g_ok X)  {r : Int32 × g_M}  : ∀ (n : Nat) (v1 : Int32) (v2 : Int32) (v3 : Int32) (M : g_M), x_X9_slack_L18   n v1 v2 v3 M = some r → g_Go X cX9_slack RX9 4 (some .int) 2 46 r 18 [some (.inr 41), some (.inl v1), some (.inl v2), some (.inl v3)] [] M := by
  intro n
  induction n with
  | zero =>
    intro v1 v2 v3 M h
    rw [x_X9_slack_L18] at h
    cases h
  | succ n ih =>
    intro v1 v2 v3 M h
    rw [x_X9_slack_L18] at h
    refine go_iload_n (pc := 18) dX9_slack_18 rfl ?_
    refine go_bipush (pc := 19) (v := (12 : Int32)) dX9_slack_19 (by decide) ?_
    refine go_icmp_ge (pc := 21) (tgt := 51) dX9_slack_21 (by decide) (fun e10 => ?_) (fun e10 => ?_)
    · replace h := (if_pos e10).symm.trans h
      refine go_iload_n (pc := 51) dX9_slack_51 rfl ?_
      obtain ⟨u1, c2, h⟩ := g_bd h
      refine go_callS (pc := 52) (as := [.inl v2]) (st := []) (r := u1.1) (M1 := u1.2) (z_X9_rootOf hok  c2) cw_X9_rootOf ml_X9_221 (by decide) (Nat.le_of_ble_eq_true rfl) rfl dX9_slack_52 ?_
      refine go_istore_n (pc := 55) (lv' := [some (.inr 41), some (.inl v1), some (.inl v2), some (.inl u1.1)]) dX9_slack_55 (by decide) rfl ?_
      refine go_aload_n (pc := 56) dX9_slack_56 rfl ?_
      refine gf_9_40 (pc := 57) dX9_slack_57 ?_
      refine go_iload_n (pc := 60) dX9_slack_60 rfl ?_
      obtain ⟨i3, h⟩ := g_gd h
      refine go_iald (pc := 61) (n := 5) rfl (g_inb_ok i3) dX9_slack_61 ?_
      refine go_iload_n (pc := 62) dX9_slack_62 rfl ?_
      refine go_iload_n (pc := 63) dX9_slack_63 rfl ?_
      refine go_imul (pc := 64) dX9_slack_64 ?_
      refine go_iload_n (pc := 65) dX9_slack_65 rfl ?_
      refine go_icmp_ge (pc := 66) (tgt := 75) dX9_slack_66 (by decide) (fun e4 => ?_) (fun e4 => ?_)
      · replace h := (if_pos e4).symm.trans h
        refine go_iload_n (pc := 75) dX9_slack_75 rfl ?_
        refine go_isub (pc := 76) dX9_slack_76 ?_
        exact go_iret (pc := 77) (Option.some.inj h).symm rfl dX9_slack_77 rfl
      · replace h := (if_neg e4).symm.trans h
        refine go_iload_n (pc := 69) dX9_slack_69 rfl ?_
        refine go_iconst (pc := 70) (v := (1 : Int32)) dX9_slack_70 (by decide) ?_
        refine go_iadd (pc := 71) dX9_slack_71 ?_
        refine go_goto (pc := 72) (tgt := 76) dX9_slack_72 (by decide) ?_
        refine go_isub (pc := 76) dX9_slack_76 ?_
        exact go_iret (pc := 77) (Option.some.inj h).symm rfl dX9_slack_77 rfl
    · replace h := (if_neg e10).symm.trans h
      refine go_aload_n (pc := 24) dX9_slack_24 rfl ?_
      refine go_iload_n (pc := 25) dX9_slack_25 rfl ?_
      refine go_iload_n (pc := 26) dX9_slack_26 rfl ?_
      obtain ⟨u5, c6, h⟩ := g_bd h
      refine go_callV (pc := 27) (as := [.inl v1, .inl v3]) (st := []) (r := u5.1) (M1 := u5.2) (z_X9_needsAt hok  c6) cw_X9_needsAt ml_X9_214 (show g_lay[41]? = some _ from rfl) rfl rfl (by decide) (Nat.le_of_ble_eq_true rfl) rfl dX9_slack_27 ?_
      refine go_iload_n (pc := 30) dX9_slack_30 rfl ?_
      refine go_icmp_le (pc := 31) (tgt := 43) dX9_slack_31 (by decide) (fun e9 => ?_) (fun e9 => ?_)
      · replace h := (if_pos e9).symm.trans h
        refine go_iload_n (pc := 43) dX9_slack_43 rfl ?_
        refine go_istore_n (pc := 44) (lv' := [some (.inr 41), some (.inl v1), some (.inl v2), some (.inl v3)]) dX9_slack_44 (by decide) rfl ?_
        refine go_iinc (pc := 45) (v := (1 : Int32)) (lv' := [some (.inr 41), some (.inl v1), some (.inl v2), some (.inl (v3 + (1 : Int32)))]) dX9_slack_45 rfl (by decide) (by decide) rfl ?_
        refine go_goto (pc := 48) (tgt := 18) dX9_slack_48 (by decide) ?_
        exact go_to (ih _ _ _ _ h) (And.intro rfl (And.intro rfl (And.intro rfl (And.intro rfl trivial))))
      · replace h := (if_neg e9).symm.trans h
        refine go_aload_n (pc := 34) dX9_slack_34 rfl ?_
        refine go_iload_n (pc := 35) dX9_slack_35 rfl ?_
        refine go_iload_n (pc := 36) dX9_slack_36 rfl ?_
        obtain ⟨u7, c8, h⟩ := g_bd h
        refine go_callV (pc := 37) (as := [.inl v1, .inl v3]) (st := []) (r := u7.1) (M1 := u7.2) (z_X9_needsAt hok  c8) cw_X9_needsAt ml_X9_214 (show g_lay[41]? = some _ from rfl) rfl rfl (by decide) (Nat.le_of_ble_eq_true rfl) rfl dX9_slack_37 ?_
        refine go_goto (pc := 40) (tgt := 44) dX9_slack_40 (by decide) ?_
        refine go_istore_n (pc := 44) (lv' := [some (.inr 41), some (.inl v1), some (.inl u7.1), some (.inl v3)]) dX9_slack_44 (by decide) rfl ?_
        refine go_iinc (pc := 45) (v := (1 : Int32)) (lv' := [some (.inr 41), some (.inl v1), some (.inl u7.1), some (.inl (v3 + (1 : Int32)))]) dX9_slack_45 rfl (by decide) (by decide) rfl ?_
        refine go_goto (pc := 48) (tgt := 18) dX9_slack_48 (by decide) ?_
        exact go_to (ih _ _ _ _ h) (And.intro rfl (And.intro rfl (And.intro rfl (And.intro rfl trivial))))
def x_X9_slack  (p1 : Int32) (M : g_M) : Option (Int32 × g_M) := (((x_X9_isBoat p1 M).bind fun u11 => if u11.1 = 0 then (((x_X9_lower (-1 : Int32) u11.2).bind fun u13 => some (u13.1, u13.2))) else (x_X9_slack_L18   g_F p1 (0 : Int32) (0 : Int32) u11.2)))
set_option maxHeartbeats 4000000 in
set_option maxRecDepth 100000 in
theorem z_X9_slack {X : g_X} (hok : g_ok X)  {p1 : Int32} {M : g_M} {r : Int32 × g_M} (h : x_X9_slack p1 M = some r) : g_Con X yX9_slack cX9_slack 4 (some .int) 2 46 [.inr 41, .inl p1] M r := by
  rw [x_X9_slack] at h
  refine g_con hok (plainFor_of_name (by decide +kernel)) (Nat.le_of_ble_eq_true rfl) (go_to (lv2 := [some (.inr 41), some (.inl p1), none, none]) (own := RX9) ?_ (And.intro rfl (And.intro rfl trivial)))
  refine go_aload_n (pc := 0) dX9_slack_0 rfl ?_
  refine go_iload_n (pc := 1) dX9_slack_1 rfl ?_
  obtain ⟨u11, c12, h⟩ := g_bd h
  refine go_callV (pc := 2) (as := [.inl p1]) (st := []) (r := u11.1) (M1 := u11.2) (z_X9_isBoat hok  c12) cw_X9_isBoat ml_X9_168 (show g_lay[41]? = some _ from rfl) rfl rfl (by decide) (Nat.le_of_ble_eq_true rfl) rfl dX9_slack_2 ?_
  refine go_if_ne (pc := 5) (tgt := 14) dX9_slack_5 (by decide) (fun e15 => ?_) (fun e15 => ?_)
  · replace h := (if_neg e15).symm.trans h
    refine go_iconst (pc := 14) (v := (0 : Int32)) dX9_slack_14 (by decide) ?_
    refine go_istore_n (pc := 15) (lv' := [some (.inr 41), some (.inl p1), some (.inl (0 : Int32)), none]) dX9_slack_15 (by decide) rfl ?_
    refine go_iconst (pc := 16) (v := (0 : Int32)) dX9_slack_16 (by decide) ?_
    refine go_istore_n (pc := 17) (lv' := [some (.inr 41), some (.inl p1), some (.inl (0 : Int32)), some (.inl (0 : Int32))]) dX9_slack_17 (by decide) rfl ?_
    exact go_to (z_X9_slack_L18 hok   g_F _ _ _ _ h) (And.intro rfl (And.intro rfl (And.intro rfl (And.intro rfl trivial))))
  · replace h := (if_pos e15).symm.trans h
    refine go_aload_n (pc := 8) dX9_slack_8 rfl ?_
    refine go_iconst (pc := 9) (v := (-1 : Int32)) dX9_slack_9 (by decide) ?_
    obtain ⟨u13, c14, h⟩ := g_bd h
    refine go_callV (pc := 10) (as := [.inl (-1 : Int32)]) (st := []) (r := u13.1) (M1 := u13.2) (z_X9_lower hok  c14) cw_X9_lower ml_X9_236 (show g_lay[41]? = some _ from rfl) rfl rfl (by decide) (Nat.le_of_ble_eq_true rfl) rfl dX9_slack_10 ?_
    exact go_iret (pc := 13) (Option.some.inj h).symm rfl dX9_slack_13 rfl
def x_X9_movesBy_L16  (k4 : Int32 → Int32 → g_M → Option (Int32 × g_M)) : Nat → Int32 → Int32 → Int32 → g_M → Option (Int32 × g_M)
  | 0, _, _, _, _ => none
  | n + 1, v1, v2, v3, M => (if (M 41 16) ≤ v3 then (k4 v1 (v2 + (1 : Int32)) M) else ((if g_inb v2 5 = true then ((if g_inb (M 65 v2.toNatClampNeg) 12 = true then ((if g_inb v3 5 = true then ((if g_inb (M 65 v3.toNatClampNeg) 12 = true then (if (M 64 (M 65 v3.toNatClampNeg).toNatClampNeg) ≤ (M 64 (M 65 v2.toNatClampNeg).toNatClampNeg) then (x_X9_movesBy_L16  k4 n (v1 + (0 : Int32)) v2 (v3 + (1 : Int32)) M) else (x_X9_movesBy_L16  k4 n (v1 + (1 : Int32)) v2 (v3 + (1 : Int32)) M)) else none)) else none)) else none)) else none)))
set_option maxHeartbeats 4000000 in
set_option maxRecDepth 100000 in
theorem z_X9_movesBy_L16 {X : g_X} (hok : g_ok X)  {r : Int32 × g_M} {k4 : Int32 → Int32 → g_M → Option (Int32 × g_M)} (hk4 : ∀ (v1 : Int32) (v2 : Int32) (M : g_M), k4 v1 v2 M = some r → g_Go X cX9_movesBy RX9 4 (some .int) 0 0 r 4 [some (.inr 41), some (.inl v1), some (.inl v2), none] [] M) : ∀ (n : Nat) (v1 : Int32) (v2 : Int32) (v3 : Int32) (M : g_M), x_X9_movesBy_L16  k4 n v1 v2 v3 M = some r → g_Go X cX9_movesBy RX9 4 (some .int) 0 0 r 16 [some (.inr 41), some (.inl v1), some (.inl v2), some (.inl v3)] [] M := by
  intro n
  induction n with
  | zero =>
    intro v1 v2 v3 M h
    rw [x_X9_movesBy_L16] at h
    cases h
  | succ n ih =>
    intro v1 v2 v3 M h
    rw [x_X9_movesBy_L16] at h
    refine go_iload_n (pc := 16) dX9_movesBy_16 rfl ?_
    refine go_aload_n (pc := 17) dX9_movesBy_17 rfl ?_
    refine gf_9_114 (pc := 18) dX9_movesBy_18 ?_
    refine go_icmp_ge (pc := 21) (tgt := 63) dX9_movesBy_21 (by decide) (fun e6 => ?_) (fun e6 => ?_)
    · replace h := (if_pos e6).symm.trans h
      refine go_iinc (pc := 63) (v := (1 : Int32)) (lv' := [some (.inr 41), some (.inl v1), some (.inl (v2 + (1 : Int32))), some (.inl v3)]) dX9_movesBy_63 rfl (by decide) (by decide) rfl ?_
      refine go_goto (pc := 66) (tgt := 4) dX9_movesBy_66 (by decide) ?_
      exact go_to (hk4 _ _ _ h) (And.intro rfl (And.intro rfl (And.intro rfl trivial)))
    · replace h := (if_neg e6).symm.trans h
      refine go_iload_n (pc := 24) dX9_movesBy_24 rfl ?_
      refine go_aload_n (pc := 25) dX9_movesBy_25 rfl ?_
      refine gf_9_76 (pc := 26) dX9_movesBy_26 ?_
      refine go_aload_n (pc := 29) dX9_movesBy_29 rfl ?_
      refine gf_9_79 (pc := 30) dX9_movesBy_30 ?_
      refine go_iload_n (pc := 33) dX9_movesBy_33 rfl ?_
      obtain ⟨i1, h⟩ := g_gd h
      refine go_iald (pc := 34) (n := 5) rfl (g_inb_ok i1) dX9_movesBy_34 ?_
      obtain ⟨i2, h⟩ := g_gd h
      refine go_iald (pc := 35) (n := 12) rfl (g_inb_ok i2) dX9_movesBy_35 ?_
      refine go_aload_n (pc := 36) dX9_movesBy_36 rfl ?_
      refine gf_9_76 (pc := 37) dX9_movesBy_37 ?_
      refine go_aload_n (pc := 40) dX9_movesBy_40 rfl ?_
      refine gf_9_79 (pc := 41) dX9_movesBy_41 ?_
      refine go_iload_n (pc := 44) dX9_movesBy_44 rfl ?_
      obtain ⟨i3, h⟩ := g_gd h
      refine go_iald (pc := 45) (n := 5) rfl (g_inb_ok i3) dX9_movesBy_45 ?_
      obtain ⟨i4, h⟩ := g_gd h
      refine go_iald (pc := 46) (n := 12) rfl (g_inb_ok i4) dX9_movesBy_46 ?_
      refine go_icmp_ge (pc := 47) (tgt := 54) dX9_movesBy_47 (by decide) (fun e5 => ?_) (fun e5 => ?_)
      · replace h := (if_pos e5).symm.trans h
        refine go_iconst (pc := 54) (v := (0 : Int32)) dX9_movesBy_54 (by decide) ?_
        refine go_iadd (pc := 55) dX9_movesBy_55 ?_
        refine go_istore_n (pc := 56) (lv' := [some (.inr 41), some (.inl (v1 + (0 : Int32))), some (.inl v2), some (.inl v3)]) dX9_movesBy_56 (by decide) rfl ?_
        refine go_iinc (pc := 57) (v := (1 : Int32)) (lv' := [some (.inr 41), some (.inl (v1 + (0 : Int32))), some (.inl v2), some (.inl (v3 + (1 : Int32)))]) dX9_movesBy_57 rfl (by decide) (by decide) rfl ?_
        refine go_goto (pc := 60) (tgt := 16) dX9_movesBy_60 (by decide) ?_
        exact go_to (ih _ _ _ _ h) (And.intro rfl (And.intro rfl (And.intro rfl (And.intro rfl trivial))))
      · replace h := (if_neg e5).symm.trans h
        refine go_iconst (pc := 50) (v := (1 : Int32)) dX9_movesBy_50 (by decide) ?_
        refine go_goto (pc := 51) (tgt := 55) dX9_movesBy_51 (by decide) ?_
        refine go_iadd (pc := 55) dX9_movesBy_55 ?_
        refine go_istore_n (pc := 56) (lv' := [some (.inr 41), some (.inl (v1 + (1 : Int32))), some (.inl v2), some (.inl v3)]) dX9_movesBy_56 (by decide) rfl ?_
        refine go_iinc (pc := 57) (v := (1 : Int32)) (lv' := [some (.inr 41), some (.inl (v1 + (1 : Int32))), some (.inl v2), some (.inl (v3 + (1 : Int32)))]) dX9_movesBy_57 rfl (by decide) (by decide) rfl ?_
        refine go_goto (pc := 60) (tgt := 16) dX9_movesBy_60 (by decide) ?_
        exact go_to (ih _ _ _ _ h) (And.intro rfl (And.intro rfl (And.intro rfl (And.intro rfl trivial))))
def x_X9_movesBy_L4   : Nat → Int32 → Int32 → g_M → Option (Int32 × g_M)
  | 0, _, _, _ => none
  | n + 1, v1, v2, M => (if (M 41 16) ≤ v2 then (some (v1, M)) else (x_X9_movesBy_L16  (x_X9_movesBy_L4   n) g_F v1 v2 (v2 + (1 : Int32)) M))
set_option maxHeartbeats 4000000 in
set_option maxRecDepth 100000 in
theorem z_X9_movesBy_L4 {X : g_X} (hok : g_ok X)  {r : Int32 × g_M}  : ∀ (n : Nat) (v1 : Int32) (v2 : Int32) (M : g_M), x_X9_movesBy_L4   n v1 v2 M = some r → g_Go X cX9_movesBy RX9 4 (some .int) 0 0 r 4 [some (.inr 41), some (.inl v1), some (.inl v2), none] [] M := by
  intro n
  induction n with
  | zero =>
    intro v1 v2 M h
    rw [x_X9_movesBy_L4] at h
    cases h
  | succ n ih =>
    intro v1 v2 M h
    rw [x_X9_movesBy_L4] at h
    refine go_iload_n (pc := 4) dX9_movesBy_4 rfl ?_
    refine go_aload_n (pc := 5) dX9_movesBy_5 rfl ?_
    refine gf_9_114 (pc := 6) dX9_movesBy_6 ?_
    refine go_icmp_ge (pc := 9) (tgt := 69) dX9_movesBy_9 (by decide) (fun e7 => ?_) (fun e7 => ?_)
    · replace h := (if_pos e7).symm.trans h
      refine go_iload_n (pc := 69) dX9_movesBy_69 rfl ?_
      exact go_iret (pc := 70) (Option.some.inj h).symm rfl dX9_movesBy_70 rfl
    · replace h := (if_neg e7).symm.trans h
      refine go_iload_n (pc := 12) dX9_movesBy_12 rfl ?_
      refine go_iconst (pc := 13) (v := (1 : Int32)) dX9_movesBy_13 (by decide) ?_
      refine go_iadd (pc := 14) dX9_movesBy_14 ?_
      refine go_istore_n (pc := 15) (lv' := [some (.inr 41), some (.inl v1), some (.inl v2), some (.inl (v2 + (1 : Int32)))]) dX9_movesBy_15 (by decide) rfl ?_
      exact go_to (z_X9_movesBy_L16 hok  (ih) g_F _ _ _ _ h) (And.intro rfl (And.intro rfl (And.intro rfl (And.intro rfl trivial))))
def x_X9_movesBy  (M : g_M) : Option (Int32 × g_M) := (x_X9_movesBy_L4   g_F (0 : Int32) (0 : Int32) M)
set_option maxHeartbeats 4000000 in
set_option maxRecDepth 100000 in
theorem z_X9_movesBy {X : g_X} (hok : g_ok X)  {M : g_M} {r : Int32 × g_M} (h : x_X9_movesBy  M = some r) : g_Con X yX9_movesBy cX9_movesBy 4 (some .int) 0 0 [.inr 41] M r := by
  rw [x_X9_movesBy] at h
  refine g_con hok (plainFor_of_name (by decide +kernel)) (Nat.le_of_ble_eq_true rfl) (go_to (lv2 := [some (.inr 41), none, none, none]) (own := RX9) ?_ (And.intro rfl trivial))
  refine go_iconst (pc := 0) (v := (0 : Int32)) dX9_movesBy_0 (by decide) ?_
  refine go_istore_n (pc := 1) (lv' := [some (.inr 41), some (.inl (0 : Int32)), none, none]) dX9_movesBy_1 (by decide) rfl ?_
  refine go_iconst (pc := 2) (v := (0 : Int32)) dX9_movesBy_2 (by decide) ?_
  refine go_istore_n (pc := 3) (lv' := [some (.inr 41), some (.inl (0 : Int32)), some (.inl (0 : Int32)), none]) dX9_movesBy_3 (by decide) rfl ?_
  exact go_to (z_X9_movesBy_L4 hok   g_F _ _ _ h) (And.intro rfl (And.intro rfl (And.intro rfl trivial)))
def x_X9_laysOrder_L12   : Nat → Int32 → Int32 → Int32 → g_M → Option (Int32 × g_M)
  | 0, _, _, _, _ => none
  | n + 1, v2, v3, v4, M => (if v4 < 0 then (((x_X9_bits v3 M).bind fun u1 => if u1.1 = (u1.2 41 16) then (some ((1 : Int32), u1.2)) else (some ((0 : Int32), u1.2)))) else ((if (M 41 16) = 0 then none else (if g_inb v4 5 = true then ((if ((g_upd M 65 v4.toNatClampNeg (v2 - v2 / (M 41 16) * (M 41 16))) 41 16) = 0 then none else (if g_inb v4 5 = true then (x_X9_laysOrder_L12   n (v2 / ((g_upd M 65 v4.toNatClampNeg (v2 - v2 / (M 41 16) * (M 41 16))) 41 16)) (v3 ||| ((1 : Int32) <<< (((g_upd M 65 v4.toNatClampNeg (v2 - v2 / (M 41 16) * (M 41 16))) 65 v4.toNatClampNeg) &&& 31))) (v4 + (-1 : Int32)) (g_upd M 65 v4.toNatClampNeg (v2 - v2 / (M 41 16) * (M 41 16)))) else none))) else none))))
set_option maxHeartbeats 4000000 in
set_option maxRecDepth 100000 in
theorem z_X9_laysOrder_L12 {X : g_X} (hok : g_ok X)  {r : Int32 × g_M}  : ∀ (n : Nat) (v2 : Int32) (v3 : Int32) (v4 : Int32) (M : g_M), x_X9_laysOrder_L12   n v2 v3 v4 M = some r → g_Go X cX9_laysOrder RX9 5 (some .boolean) 1 22 r 12 [some (.inr 41), none, some (.inl v2), some (.inl v3), some (.inl v4)] [] M := by
  intro n
  induction n with
  | zero =>
    intro v2 v3 v4 M h
    rw [x_X9_laysOrder_L12] at h
    cases h
  | succ n ih =>
    intro v2 v3 v4 M h
    rw [x_X9_laysOrder_L12] at h
    refine go_iload (pc := 12) dX9_laysOrder_12 rfl ?_
    refine go_if_lt (pc := 14) (tgt := 55) dX9_laysOrder_14 (by decide) (fun e8 => ?_) (fun e8 => ?_)
    · replace h := (if_pos e8).symm.trans h
      refine go_iload_n (pc := 55) dX9_laysOrder_55 rfl ?_
      obtain ⟨u1, c2, h⟩ := g_bd h
      refine go_callS (pc := 56) (as := [.inl v3]) (st := []) (r := u1.1) (M1 := u1.2) (z_X9_bits hok  c2) cw_X9_bits ml_X9_273 (by decide) (Nat.le_of_ble_eq_true rfl) rfl dX9_laysOrder_56 ?_
      refine go_aload_n (pc := 59) dX9_laysOrder_59 rfl ?_
      refine gf_9_114 (pc := 60) dX9_laysOrder_60 ?_
      refine go_icmp_ne (pc := 63) (tgt := 70) dX9_laysOrder_63 (by decide) (fun e3 => ?_) (fun e3 => ?_)
      · replace h := (if_neg e3).symm.trans h
        refine go_iconst (pc := 70) (v := (0 : Int32)) dX9_laysOrder_70 (by decide) ?_
        exact go_iret (pc := 71) (Option.some.inj h).symm rfl dX9_laysOrder_71 rfl
      · replace h := (if_pos e3).symm.trans h
        refine go_iconst (pc := 66) (v := (1 : Int32)) dX9_laysOrder_66 (by decide) ?_
        refine go_goto (pc := 67) (tgt := 71) dX9_laysOrder_67 (by decide) ?_
        exact go_iret (pc := 71) (Option.some.inj h).symm rfl dX9_laysOrder_71 rfl
    · replace h := (if_neg e8).symm.trans h
      refine go_aload_n (pc := 17) dX9_laysOrder_17 rfl ?_
      refine gf_9_79 (pc := 18) dX9_laysOrder_18 ?_
      refine go_iload (pc := 21) dX9_laysOrder_21 rfl ?_
      refine go_iload_n (pc := 23) dX9_laysOrder_23 rfl ?_
      refine go_aload_n (pc := 24) dX9_laysOrder_24 rfl ?_
      refine gf_9_114 (pc := 25) dX9_laysOrder_25 ?_
      obtain ⟨z4, h⟩ := g_nz h
      refine go_irem (pc := 28) dX9_laysOrder_28 z4 ?_
      obtain ⟨i5, h⟩ := g_gd h
      refine go_iast (pc := 29) (n := 5) rfl (g_inb_ok i5) dX9_laysOrder_29 ?_
      refine go_iload_n (pc := 30) dX9_laysOrder_30 rfl ?_
      refine go_aload_n (pc := 31) dX9_laysOrder_31 rfl ?_
      refine gf_9_114 (pc := 32) dX9_laysOrder_32 ?_
      obtain ⟨z6, h⟩ := g_nz h
      refine go_idiv (pc := 35) dX9_laysOrder_35 z6 ?_
      refine go_istore_n (pc := 36) (lv' := [some (.inr 41), none, some (.inl (v2 / ((g_upd M 65 v4.toNatClampNeg (v2 - v2 / (M 41 16) * (M 41 16))) 41 16))), some (.inl v3), some (.inl v4)]) dX9_laysOrder_36 (by decide) rfl ?_
      refine go_iload_n (pc := 37) dX9_laysOrder_37 rfl ?_
      refine go_iconst (pc := 38) (v := (1 : Int32)) dX9_laysOrder_38 (by decide) ?_
      refine go_aload_n (pc := 39) dX9_laysOrder_39 rfl ?_
      refine gf_9_79 (pc := 40) dX9_laysOrder_40 ?_
      refine go_iload (pc := 43) dX9_laysOrder_43 rfl ?_
      obtain ⟨i7, h⟩ := g_gd h
      refine go_iald (pc := 45) (n := 5) rfl (g_inb_ok i7) dX9_laysOrder_45 ?_
      refine go_ishl (pc := 46) dX9_laysOrder_46 ?_
      refine go_ior (pc := 47) dX9_laysOrder_47 ?_
      refine go_istore_n (pc := 48) (lv' := [some (.inr 41), none, some (.inl (v2 / ((g_upd M 65 v4.toNatClampNeg (v2 - v2 / (M 41 16) * (M 41 16))) 41 16))), some (.inl (v3 ||| ((1 : Int32) <<< (((g_upd M 65 v4.toNatClampNeg (v2 - v2 / (M 41 16) * (M 41 16))) 65 v4.toNatClampNeg) &&& 31)))), some (.inl v4)]) dX9_laysOrder_48 (by decide) rfl ?_
      refine go_iinc (pc := 49) (v := (-1 : Int32)) (lv' := [some (.inr 41), none, some (.inl (v2 / ((g_upd M 65 v4.toNatClampNeg (v2 - v2 / (M 41 16) * (M 41 16))) 41 16))), some (.inl (v3 ||| ((1 : Int32) <<< (((g_upd M 65 v4.toNatClampNeg (v2 - v2 / (M 41 16) * (M 41 16))) 65 v4.toNatClampNeg) &&& 31)))), some (.inl (v4 + (-1 : Int32)))]) dX9_laysOrder_49 rfl (by decide) (by decide) rfl ?_
      refine go_goto (pc := 52) (tgt := 12) dX9_laysOrder_52 (by decide) ?_
      exact go_to (ih _ _ _ _ h) (And.intro rfl (And.intro rfl (And.intro rfl (And.intro rfl trivial))))
def x_X9_laysOrder  (p1 : Int32) (M : g_M) : Option (Int32 × g_M) := (x_X9_laysOrder_L12   g_F p1 (0 : Int32) ((M 41 16) - (1 : Int32)) M)
set_option maxHeartbeats 4000000 in
set_option maxRecDepth 100000 in
theorem z_X9_laysOrder {X : g_X} (hok : g_ok X)  {p1 : Int32} {M : g_M} {r : Int32 × g_M} (h : x_X9_laysOrder p1 M = some r) : g_Con X yX9_laysOrder cX9_laysOrder 5 (some .boolean) 1 22 [.inr 41, .inl p1] M r := by
  rw [x_X9_laysOrder] at h
  refine g_con hok (plainFor_of_name (by decide +kernel)) (Nat.le_of_ble_eq_true rfl) (go_to (lv2 := [some (.inr 41), some (.inl p1), none, none, none]) (own := RX9) ?_ (And.intro rfl (And.intro rfl trivial)))
  refine go_iload_n (pc := 0) dX9_laysOrder_0 rfl ?_
  refine go_istore_n (pc := 1) (lv' := [some (.inr 41), some (.inl p1), some (.inl p1), none, none]) dX9_laysOrder_1 (by decide) rfl ?_
  refine go_iconst (pc := 2) (v := (0 : Int32)) dX9_laysOrder_2 (by decide) ?_
  refine go_istore_n (pc := 3) (lv' := [some (.inr 41), some (.inl p1), some (.inl p1), some (.inl (0 : Int32)), none]) dX9_laysOrder_3 (by decide) rfl ?_
  refine go_aload_n (pc := 4) dX9_laysOrder_4 rfl ?_
  refine gf_9_114 (pc := 5) dX9_laysOrder_5 ?_
  refine go_iconst (pc := 8) (v := (1 : Int32)) dX9_laysOrder_8 (by decide) ?_
  refine go_isub (pc := 9) dX9_laysOrder_9 ?_
  refine go_istore (pc := 10) (lv' := [some (.inr 41), some (.inl p1), some (.inl p1), some (.inl (0 : Int32)), some (.inl ((M 41 16) - (1 : Int32)))]) dX9_laysOrder_10 (by decide) rfl ?_
  exact go_to (z_X9_laysOrder_L12 hok   g_F _ _ _ _ h) (And.intro rfl (And.intro rfl (And.intro rfl (And.intro rfl trivial))))
def x_X9_findOrder_L62  (k30 : Int32 → Int32 → Int32 → g_M → Option (Int32 × g_M)) : Nat → Int32 → Int32 → Int32 → Int32 → g_M → Option (Int32 × g_M)
  | 0, _, _, _, _, _ => none
  | n + 1, v1, v2, v3, v4, M => (if (M 41 16) ≤ v4 then (k30 v1 v2 (v3 + (1 : Int32)) M) else ((if g_inb v4 5 = true then ((if g_inb v4 5 = true then (x_X9_findOrder_L62  k30 n v1 v2 v3 (v4 + (1 : Int32)) (g_upd M 66 v4.toNatClampNeg (M 65 v4.toNatClampNeg))) else none)) else none)))
set_option maxHeartbeats 4000000 in
set_option maxRecDepth 100000 in
theorem z_X9_findOrder_L62 {X : g_X} (hok : g_ok X)  {r : Int32 × g_M} {k30 : Int32 → Int32 → Int32 → g_M → Option (Int32 × g_M)} (hk30 : ∀ (v1 : Int32) (v2 : Int32) (v3 : Int32) (M : g_M), k30 v1 v2 v3 M = some r → g_Go X cX9_findOrder RX9 5 (some .int) 2 46 r 30 [some (.inr 41), some (.inl v1), some (.inl v2), some (.inl v3), none] [] M) : ∀ (n : Nat) (v1 : Int32) (v2 : Int32) (v3 : Int32) (v4 : Int32) (M : g_M), x_X9_findOrder_L62  k30 n v1 v2 v3 v4 M = some r → g_Go X cX9_findOrder RX9 5 (some .int) 2 46 r 62 [some (.inr 41), some (.inl v1), some (.inl v2), some (.inl v3), some (.inl v4)] [] M := by
  intro n
  induction n with
  | zero =>
    intro v1 v2 v3 v4 M h
    rw [x_X9_findOrder_L62] at h
    cases h
  | succ n ih =>
    intro v1 v2 v3 v4 M h
    rw [x_X9_findOrder_L62] at h
    refine go_iload (pc := 62) dX9_findOrder_62 rfl ?_
    refine go_aload_n (pc := 64) dX9_findOrder_64 rfl ?_
    refine gf_9_114 (pc := 65) dX9_findOrder_65 ?_
    refine go_icmp_ge (pc := 68) (tgt := 91) dX9_findOrder_68 (by decide) (fun e3 => ?_) (fun e3 => ?_)
    · replace h := (if_pos e3).symm.trans h
      refine go_iinc (pc := 91) (v := (1 : Int32)) (lv' := [some (.inr 41), some (.inl v1), some (.inl v2), some (.inl (v3 + (1 : Int32))), some (.inl v4)]) dX9_findOrder_91 rfl (by decide) (by decide) rfl ?_
      refine go_goto (pc := 94) (tgt := 30) dX9_findOrder_94 (by decide) ?_
      exact go_to (hk30 _ _ _ _ h) (And.intro rfl (And.intro rfl (And.intro rfl (And.intro rfl trivial))))
    · replace h := (if_neg e3).symm.trans h
      refine go_aload_n (pc := 71) dX9_findOrder_71 rfl ?_
      refine gf_9_82 (pc := 72) dX9_findOrder_72 ?_
      refine go_iload (pc := 75) dX9_findOrder_75 rfl ?_
      refine go_aload_n (pc := 77) dX9_findOrder_77 rfl ?_
      refine gf_9_79 (pc := 78) dX9_findOrder_78 ?_
      refine go_iload (pc := 81) dX9_findOrder_81 rfl ?_
      obtain ⟨i1, h⟩ := g_gd h
      refine go_iald (pc := 83) (n := 5) rfl (g_inb_ok i1) dX9_findOrder_83 ?_
      obtain ⟨i2, h⟩ := g_gd h
      refine go_iast (pc := 84) (n := 5) rfl (g_inb_ok i2) dX9_findOrder_84 ?_
      refine go_iinc (pc := 85) (v := (1 : Int32)) (lv' := [some (.inr 41), some (.inl v1), some (.inl v2), some (.inl v3), some (.inl (v4 + (1 : Int32)))]) dX9_findOrder_85 rfl (by decide) (by decide) rfl ?_
      refine go_goto (pc := 88) (tgt := 62) dX9_findOrder_88 (by decide) ?_
      exact go_to (ih _ _ _ _ _ h) (And.intro rfl (And.intro rfl (And.intro rfl (And.intro rfl (And.intro rfl trivial)))))
def x_X9_findOrder_L30   : Nat → Int32 → Int32 → Int32 → g_M → Option (Int32 × g_M)
  | 0, _, _, _, _ => none
  | n + 1, v1, v2, v3, M => (if v1 ≤ v3 then (some (v2, M)) else (((x_X9_laysOrder v3 M).bind fun u4 => if u4.1 = 0 then (x_X9_findOrder_L30   n v1 v2 (v3 + (1 : Int32)) u4.2) else (((x_X9_movesBy u4.2).bind fun u6 => if u6.1 < v2 then (((x_X9_movesBy u6.2).bind fun u8 => x_X9_findOrder_L62  (x_X9_findOrder_L30   n) g_F v1 u8.1 v3 (0 : Int32) u8.2)) else (x_X9_findOrder_L30   n v1 v2 (v3 + (1 : Int32)) u6.2))))))
set_option maxHeartbeats 4000000 in
set_option maxRecDepth 100000 in
theorem z_X9_findOrder_L30 {X : g_X} (hok : g_ok X)  {r : Int32 × g_M}  : ∀ (n : Nat) (v1 : Int32) (v2 : Int32) (v3 : Int32) (M : g_M), x_X9_findOrder_L30   n v1 v2 v3 M = some r → g_Go X cX9_findOrder RX9 5 (some .int) 2 46 r 30 [some (.inr 41), some (.inl v1), some (.inl v2), some (.inl v3), none] [] M := by
  intro n
  induction n with
  | zero =>
    intro v1 v2 v3 M h
    rw [x_X9_findOrder_L30] at h
    cases h
  | succ n ih =>
    intro v1 v2 v3 M h
    rw [x_X9_findOrder_L30] at h
    refine go_iload_n (pc := 30) dX9_findOrder_30 rfl ?_
    refine go_iload_n (pc := 31) dX9_findOrder_31 rfl ?_
    refine go_icmp_ge (pc := 32) (tgt := 97) dX9_findOrder_32 (by decide) (fun e12 => ?_) (fun e12 => ?_)
    · replace h := (if_pos e12).symm.trans h
      refine go_iload_n (pc := 97) dX9_findOrder_97 rfl ?_
      exact go_iret (pc := 98) (Option.some.inj h).symm rfl dX9_findOrder_98 rfl
    · replace h := (if_neg e12).symm.trans h
      refine go_aload_n (pc := 35) dX9_findOrder_35 rfl ?_
      refine go_iload_n (pc := 36) dX9_findOrder_36 rfl ?_
      obtain ⟨u4, c5, h⟩ := g_bd h
      refine go_callV (pc := 37) (as := [.inl v3]) (st := []) (r := u4.1) (M1 := u4.2) (z_X9_laysOrder hok  c5) cw_X9_laysOrder ml_X9_285 (show g_lay[41]? = some _ from rfl) rfl rfl (by decide) (Nat.le_of_ble_eq_true rfl) rfl dX9_findOrder_37 ?_
      refine go_if_eq (pc := 40) (tgt := 91) dX9_findOrder_40 (by decide) (fun e11 => ?_) (fun e11 => ?_)
      · replace h := (if_pos e11).symm.trans h
        refine go_iinc (pc := 91) (v := (1 : Int32)) (lv' := [some (.inr 41), some (.inl v1), some (.inl v2), some (.inl (v3 + (1 : Int32))), none]) dX9_findOrder_91 rfl (by decide) (by decide) rfl ?_
        refine go_goto (pc := 94) (tgt := 30) dX9_findOrder_94 (by decide) ?_
        exact go_to (ih _ _ _ _ h) (And.intro rfl (And.intro rfl (And.intro rfl (And.intro rfl trivial))))
      · replace h := (if_neg e11).symm.trans h
        refine go_aload_n (pc := 43) dX9_findOrder_43 rfl ?_
        obtain ⟨u6, c7, h⟩ := g_bd h
        refine go_callV (pc := 44) (as := []) (st := []) (r := u6.1) (M1 := u6.2) (z_X9_movesBy hok  c7) cw_X9_movesBy ml_X9_288 (show g_lay[41]? = some _ from rfl) rfl rfl (by decide) (Nat.le_of_ble_eq_true rfl) rfl dX9_findOrder_44 ?_
        refine go_iload_n (pc := 47) dX9_findOrder_47 rfl ?_
        refine go_icmp_lt (pc := 48) (tgt := 54) dX9_findOrder_48 (by decide) (fun e10 => ?_) (fun e10 => ?_)
        · replace h := (if_pos e10).symm.trans h
          refine go_aload_n (pc := 54) dX9_findOrder_54 rfl ?_
          obtain ⟨u8, c9, h⟩ := g_bd h
          refine go_callV (pc := 55) (as := []) (st := []) (r := u8.1) (M1 := u8.2) (z_X9_movesBy hok  c9) cw_X9_movesBy ml_X9_288 (show g_lay[41]? = some _ from rfl) rfl rfl (by decide) (Nat.le_of_ble_eq_true rfl) rfl dX9_findOrder_55 ?_
          refine go_istore_n (pc := 58) (lv' := [some (.inr 41), some (.inl v1), some (.inl u8.1), some (.inl v3), none]) dX9_findOrder_58 (by decide) rfl ?_
          refine go_iconst (pc := 59) (v := (0 : Int32)) dX9_findOrder_59 (by decide) ?_
          refine go_istore (pc := 60) (lv' := [some (.inr 41), some (.inl v1), some (.inl u8.1), some (.inl v3), some (.inl (0 : Int32))]) dX9_findOrder_60 (by decide) rfl ?_
          exact go_to (z_X9_findOrder_L62 hok  (ih) g_F _ _ _ _ _ h) (And.intro rfl (And.intro rfl (And.intro rfl (And.intro rfl (And.intro rfl trivial)))))
        · replace h := (if_neg e10).symm.trans h
          refine go_goto (pc := 51) (tgt := 91) dX9_findOrder_51 (by decide) ?_
          refine go_iinc (pc := 91) (v := (1 : Int32)) (lv' := [some (.inr 41), some (.inl v1), some (.inl v2), some (.inl (v3 + (1 : Int32))), none]) dX9_findOrder_91 rfl (by decide) (by decide) rfl ?_
          refine go_goto (pc := 94) (tgt := 30) dX9_findOrder_94 (by decide) ?_
          exact go_to (ih _ _ _ _ h) (And.intro rfl (And.intro rfl (And.intro rfl (And.intro rfl trivial))))
def x_X9_findOrder_L4   : Nat → Int32 → Int32 → g_M → Option (Int32 × g_M)
  | 0, _, _, _ => none
  | n + 1, v1, v2, M => (if (M 41 16) ≤ v2 then (x_X9_findOrder_L30   g_F v1 (99 : Int32) (0 : Int32) M) else (x_X9_findOrder_L4   n (v1 * (M 41 16)) (v2 + (1 : Int32)) M))
set_option maxHeartbeats 4000000 in
set_option maxRecDepth 100000 in
theorem z_X9_findOrder_L4 {X : g_X} (hok : g_ok X)  {r : Int32 × g_M}  : ∀ (n : Nat) (v1 : Int32) (v2 : Int32) (M : g_M), x_X9_findOrder_L4   n v1 v2 M = some r → g_Go X cX9_findOrder RX9 5 (some .int) 2 46 r 4 [some (.inr 41), some (.inl v1), some (.inl v2), none, none] [] M := by
  intro n
  induction n with
  | zero =>
    intro v1 v2 M h
    rw [x_X9_findOrder_L4] at h
    cases h
  | succ n ih =>
    intro v1 v2 M h
    rw [x_X9_findOrder_L4] at h
    refine go_iload_n (pc := 4) dX9_findOrder_4 rfl ?_
    refine go_aload_n (pc := 5) dX9_findOrder_5 rfl ?_
    refine gf_9_114 (pc := 6) dX9_findOrder_6 ?_
    refine go_icmp_ge (pc := 9) (tgt := 25) dX9_findOrder_9 (by decide) (fun e13 => ?_) (fun e13 => ?_)
    · replace h := (if_pos e13).symm.trans h
      refine go_bipush (pc := 25) (v := (99 : Int32)) dX9_findOrder_25 (by decide) ?_
      refine go_istore_n (pc := 27) (lv' := [some (.inr 41), some (.inl v1), some (.inl (99 : Int32)), none, none]) dX9_findOrder_27 (by decide) rfl ?_
      refine go_iconst (pc := 28) (v := (0 : Int32)) dX9_findOrder_28 (by decide) ?_
      refine go_istore_n (pc := 29) (lv' := [some (.inr 41), some (.inl v1), some (.inl (99 : Int32)), some (.inl (0 : Int32)), none]) dX9_findOrder_29 (by decide) rfl ?_
      exact go_to (z_X9_findOrder_L30 hok   g_F _ _ _ _ h) (And.intro rfl (And.intro rfl (And.intro rfl (And.intro rfl trivial))))
    · replace h := (if_neg e13).symm.trans h
      refine go_iload_n (pc := 12) dX9_findOrder_12 rfl ?_
      refine go_aload_n (pc := 13) dX9_findOrder_13 rfl ?_
      refine gf_9_114 (pc := 14) dX9_findOrder_14 ?_
      refine go_imul (pc := 17) dX9_findOrder_17 ?_
      refine go_istore_n (pc := 18) (lv' := [some (.inr 41), some (.inl (v1 * (M 41 16))), some (.inl v2), none, none]) dX9_findOrder_18 (by decide) rfl ?_
      refine go_iinc (pc := 19) (v := (1 : Int32)) (lv' := [some (.inr 41), some (.inl (v1 * (M 41 16))), some (.inl (v2 + (1 : Int32))), none, none]) dX9_findOrder_19 rfl (by decide) (by decide) rfl ?_
      refine go_goto (pc := 22) (tgt := 4) dX9_findOrder_22 (by decide) ?_
      exact go_to (ih _ _ _ h) (And.intro rfl (And.intro rfl (And.intro rfl trivial)))
def x_X9_findOrder  (M : g_M) : Option (Int32 × g_M) := (x_X9_findOrder_L4   g_F (1 : Int32) (0 : Int32) M)
set_option maxHeartbeats 4000000 in
set_option maxRecDepth 100000 in
theorem z_X9_findOrder {X : g_X} (hok : g_ok X)  {M : g_M} {r : Int32 × g_M} (h : x_X9_findOrder  M = some r) : g_Con X yX9_findOrder cX9_findOrder 5 (some .int) 2 46 [.inr 41] M r := by
  rw [x_X9_findOrder] at h
  refine g_con hok (plainFor_of_name (by decide +kernel)) (Nat.le_of_ble_eq_true rfl) (go_to (lv2 := [some (.inr 41), none, none, none, none]) (own := RX9) ?_ (And.intro rfl trivial))
  refine go_iconst (pc := 0) (v := (1 : Int32)) dX9_findOrder_0 (by decide) ?_
  refine go_istore_n (pc := 1) (lv' := [some (.inr 41), some (.inl (1 : Int32)), none, none, none]) dX9_findOrder_1 (by decide) rfl ?_
  refine go_iconst (pc := 2) (v := (0 : Int32)) dX9_findOrder_2 (by decide) ?_
  refine go_istore_n (pc := 3) (lv' := [some (.inr 41), some (.inl (1 : Int32)), some (.inl (0 : Int32)), none, none]) dX9_findOrder_3 (by decide) rfl ?_
  exact go_to (z_X9_findOrder_L4 hok   g_F _ _ _ h) (And.intro rfl (And.intro rfl (And.intro rfl trivial)))
def x_X9_isRowOfHours_L2   : Nat → Int32 → g_M → Option (Int32 × g_M)
  | 0, _, _ => none
  | n + 1, v1, M => (if (M 41 37) ≤ v1 then (if (M 41 37) = (M 41 16) then (if (M 41 16) ≤ 0 then (some ((0 : Int32), M)) else (some ((1 : Int32), M))) else (some ((0 : Int32), M))) else ((if g_inb v1 12 = true then (if (M 64 v1.toNatClampNeg) ≤ (12 : Int32) then (x_X9_isRowOfHours_L2   n (v1 + (1 : Int32)) M) else (some ((0 : Int32), M))) else none)))
set_option maxHeartbeats 4000000 in
set_option maxRecDepth 100000 in
theorem z_X9_isRowOfHours_L2 {X : g_X} (hok : g_ok X)  {r : Int32 × g_M}  : ∀ (n : Nat) (v1 : Int32) (M : g_M), x_X9_isRowOfHours_L2   n v1 M = some r → g_Go X cX9_isRowOfHours RX9 2 (some .boolean) 0 0 r 2 [some (.inr 41), some (.inl v1)] [] M := by
  intro n
  induction n with
  | zero =>
    intro v1 M h
    rw [x_X9_isRowOfHours_L2] at h
    cases h
  | succ n ih =>
    intro v1 M h
    rw [x_X9_isRowOfHours_L2] at h
    refine go_iload_n (pc := 2) dX9_isRowOfHours_2 rfl ?_
    refine go_aload_n (pc := 3) dX9_isRowOfHours_3 rfl ?_
    refine gf_9_291 (pc := 4) dX9_isRowOfHours_4 ?_
    refine go_icmp_ge (pc := 7) (tgt := 29) dX9_isRowOfHours_7 (by decide) (fun e5 => ?_) (fun e5 => ?_)
    · replace h := (if_pos e5).symm.trans h
      refine go_aload_n (pc := 29) dX9_isRowOfHours_29 rfl ?_
      refine gf_9_291 (pc := 30) dX9_isRowOfHours_30 ?_
      refine go_aload_n (pc := 33) dX9_isRowOfHours_33 rfl ?_
      refine gf_9_114 (pc := 34) dX9_isRowOfHours_34 ?_
      refine go_icmp_ne (pc := 37) (tgt := 51) dX9_isRowOfHours_37 (by decide) (fun e2 => ?_) (fun e2 => ?_)
      · replace h := (if_neg e2).symm.trans h
        refine go_iconst (pc := 51) (v := (0 : Int32)) dX9_isRowOfHours_51 (by decide) ?_
        exact go_iret (pc := 52) (Option.some.inj h).symm rfl dX9_isRowOfHours_52 rfl
      · replace h := (if_pos e2).symm.trans h
        refine go_aload_n (pc := 40) dX9_isRowOfHours_40 rfl ?_
        refine gf_9_114 (pc := 41) dX9_isRowOfHours_41 ?_
        refine go_if_le (pc := 44) (tgt := 51) dX9_isRowOfHours_44 (by decide) (fun e1 => ?_) (fun e1 => ?_)
        · replace h := (if_pos e1).symm.trans h
          refine go_iconst (pc := 51) (v := (0 : Int32)) dX9_isRowOfHours_51 (by decide) ?_
          exact go_iret (pc := 52) (Option.some.inj h).symm rfl dX9_isRowOfHours_52 rfl
        · replace h := (if_neg e1).symm.trans h
          refine go_iconst (pc := 47) (v := (1 : Int32)) dX9_isRowOfHours_47 (by decide) ?_
          refine go_goto (pc := 48) (tgt := 52) dX9_isRowOfHours_48 (by decide) ?_
          exact go_iret (pc := 52) (Option.some.inj h).symm rfl dX9_isRowOfHours_52 rfl
    · replace h := (if_neg e5).symm.trans h
      refine go_aload_n (pc := 10) dX9_isRowOfHours_10 rfl ?_
      refine gf_9_76 (pc := 11) dX9_isRowOfHours_11 ?_
      refine go_iload_n (pc := 14) dX9_isRowOfHours_14 rfl ?_
      obtain ⟨i3, h⟩ := g_gd h
      refine go_iald (pc := 15) (n := 12) rfl (g_inb_ok i3) dX9_isRowOfHours_15 ?_
      refine go_bipush (pc := 16) (v := (12 : Int32)) dX9_isRowOfHours_16 (by decide) ?_
      refine go_icmp_le (pc := 18) (tgt := 23) dX9_isRowOfHours_18 (by decide) (fun e4 => ?_) (fun e4 => ?_)
      · replace h := (if_pos e4).symm.trans h
        refine go_iinc (pc := 23) (v := (1 : Int32)) (lv' := [some (.inr 41), some (.inl (v1 + (1 : Int32)))]) dX9_isRowOfHours_23 rfl (by decide) (by decide) rfl ?_
        refine go_goto (pc := 26) (tgt := 2) dX9_isRowOfHours_26 (by decide) ?_
        exact go_to (ih _ _ h) (And.intro rfl (And.intro rfl trivial))
      · replace h := (if_neg e4).symm.trans h
        refine go_iconst (pc := 21) (v := (0 : Int32)) dX9_isRowOfHours_21 (by decide) ?_
        exact go_iret (pc := 22) (Option.some.inj h).symm rfl dX9_isRowOfHours_22 rfl
def x_X9_isRowOfHours  (M : g_M) : Option (Int32 × g_M) := (x_X9_isRowOfHours_L2   g_F (0 : Int32) M)
set_option maxHeartbeats 4000000 in
set_option maxRecDepth 100000 in
theorem z_X9_isRowOfHours {X : g_X} (hok : g_ok X)  {M : g_M} {r : Int32 × g_M} (h : x_X9_isRowOfHours  M = some r) : g_Con X yX9_isRowOfHours cX9_isRowOfHours 2 (some .boolean) 0 0 [.inr 41] M r := by
  rw [x_X9_isRowOfHours] at h
  refine g_con hok (plainFor_of_name (by decide +kernel)) (Nat.le_of_ble_eq_true rfl) (go_to (lv2 := [some (.inr 41), none]) (own := RX9) ?_ (And.intro rfl trivial))
  refine go_iconst (pc := 0) (v := (0 : Int32)) dX9_isRowOfHours_0 (by decide) ?_
  refine go_istore_n (pc := 1) (lv' := [some (.inr 41), some (.inl (0 : Int32))]) dX9_isRowOfHours_1 (by decide) rfl ?_
  exact go_to (z_X9_isRowOfHours_L2 hok   g_F _ _ h) (And.intro rfl (And.intro rfl trivial))
def x_X9_alongside_L61   : Nat → Int32 → Int32 → Int32 → g_M → Option (Int32 × g_M)
  | 0, _, _, _, _ => none
  | n + 1, v1, v4, v5, M => (if v5 < 0 then (if v1 = 0 then (((x_X9_movesBy M).bind fun u1 => some (u1.1, u1.2))) else (some (v4, M))) else ((if g_inb v5 5 = true then ((if g_inb v5 5 = true then (x_X9_alongside_L61   n v1 (((10 : Int32) * v4) + (M 66 v5.toNatClampNeg)) (v5 + (-1 : Int32)) (g_upd M 65 v5.toNatClampNeg v5)) else none)) else none)))
set_option maxHeartbeats 4000000 in
set_option maxRecDepth 100000 in
theorem z_X9_alongside_L61 {X : g_X} (hok : g_ok X)  {r : Int32 × g_M}  : ∀ (n : Nat) (v1 : Int32) (v4 : Int32) (v5 : Int32) (M : g_M), x_X9_alongside_L61   n v1 v4 v5 M = some r → g_Go X cX9_alongside RX9 6 (some .int) 3 70 r 61 [some (.inr 41), some (.inl v1), none, none, some (.inl v4), some (.inl v5)] [] M := by
  intro n
  induction n with
  | zero =>
    intro v1 v4 v5 M h
    rw [x_X9_alongside_L61] at h
    cases h
  | succ n ih =>
    intro v1 v4 v5 M h
    rw [x_X9_alongside_L61] at h
    refine go_iload (pc := 61) dX9_alongside_61 rfl ?_
    refine go_if_lt (pc := 63) (tgt := 96) dX9_alongside_63 (by decide) (fun e6 => ?_) (fun e6 => ?_)
    · replace h := (if_pos e6).symm.trans h
      refine go_iload_n (pc := 96) dX9_alongside_96 rfl ?_
      refine go_if_ne (pc := 97) (tgt := 107) dX9_alongside_97 (by decide) (fun e3 => ?_) (fun e3 => ?_)
      · replace h := (if_neg e3).symm.trans h
        refine go_iload (pc := 107) dX9_alongside_107 rfl ?_
        exact go_iret (pc := 109) (Option.some.inj h).symm rfl dX9_alongside_109 rfl
      · replace h := (if_pos e3).symm.trans h
        refine go_aload_n (pc := 100) dX9_alongside_100 rfl ?_
        obtain ⟨u1, c2, h⟩ := g_bd h
        refine go_callV (pc := 101) (as := []) (st := []) (r := u1.1) (M1 := u1.2) (z_X9_movesBy hok  c2) cw_X9_movesBy ml_X9_288 (show g_lay[41]? = some _ from rfl) rfl rfl (by decide) (Nat.le_of_ble_eq_true rfl) rfl dX9_alongside_101 ?_
        refine go_goto (pc := 104) (tgt := 109) dX9_alongside_104 (by decide) ?_
        exact go_iret (pc := 109) (Option.some.inj h).symm rfl dX9_alongside_109 rfl
    · replace h := (if_neg e6).symm.trans h
      refine go_bipush (pc := 66) (v := (10 : Int32)) dX9_alongside_66 (by decide) ?_
      refine go_iload (pc := 68) dX9_alongside_68 rfl ?_
      refine go_imul (pc := 70) dX9_alongside_70 ?_
      refine go_aload_n (pc := 71) dX9_alongside_71 rfl ?_
      refine gf_9_82 (pc := 72) dX9_alongside_72 ?_
      refine go_iload (pc := 75) dX9_alongside_75 rfl ?_
      obtain ⟨i4, h⟩ := g_gd h
      refine go_iald (pc := 77) (n := 5) rfl (g_inb_ok i4) dX9_alongside_77 ?_
      refine go_iadd (pc := 78) dX9_alongside_78 ?_
      refine go_istore (pc := 79) (lv' := [some (.inr 41), some (.inl v1), none, none, some (.inl (((10 : Int32) * v4) + (M 66 v5.toNatClampNeg))), some (.inl v5)]) dX9_alongside_79 (by decide) rfl ?_
      refine go_aload_n (pc := 81) dX9_alongside_81 rfl ?_
      refine gf_9_79 (pc := 82) dX9_alongside_82 ?_
      refine go_iload (pc := 85) dX9_alongside_85 rfl ?_
      refine go_iload (pc := 87) dX9_alongside_87 rfl ?_
      obtain ⟨i5, h⟩ := g_gd h
      refine go_iast (pc := 89) (n := 5) rfl (g_inb_ok i5) dX9_alongside_89 ?_
      refine go_iinc (pc := 90) (v := (-1 : Int32)) (lv' := [some (.inr 41), some (.inl v1), none, none, some (.inl (((10 : Int32) * v4) + (M 66 v5.toNatClampNeg))), some (.inl (v5 + (-1 : Int32)))]) dX9_alongside_90 rfl (by decide) (by decide) rfl ?_
      refine go_goto (pc := 93) (tgt := 61) dX9_alongside_93 (by decide) ?_
      exact go_to (ih _ _ _ _ h) (And.intro rfl (And.intro rfl (And.intro rfl (And.intro rfl trivial))))
def x_X9_alongside_L27   (v1 : Int32) (s0 : Int32) (M : g_M) : Option (Int32 × g_M) := (if s0 = 0 then (((x_X9_findOrder M).bind fun u7 => if v1 = (1 : Int32) then (some (u7.1, u7.2)) else (x_X9_alongside_L61   g_F v1 (0 : Int32) ((u7.2 41 16) - (1 : Int32)) u7.2))) else (((x_X9_no s0 M).bind fun u10 => some (u10.1, u10.2))))
set_option maxHeartbeats 4000000 in
set_option maxRecDepth 100000 in
theorem z_X9_alongside_L27 {X : g_X} (hok : g_ok X)  {r : Int32 × g_M}  {v1 : Int32} {s0 : Int32} {M : g_M} (h : x_X9_alongside_L27   v1 s0 M = some r) : g_Go X cX9_alongside RX9 6 (some .int) 3 70 r 27 [some (.inr 41), some (.inl v1), none, none, none, none] [.inl s0] M := by
  rw [x_X9_alongside_L27] at h
  refine go_istore_n (pc := 27) (lv' := [some (.inr 41), some (.inl v1), some (.inl s0), none, none, none]) dX9_alongside_27 (by decide) rfl ?_
  refine go_iload_n (pc := 28) dX9_alongside_28 rfl ?_
  refine go_if_eq (pc := 29) (tgt := 38) dX9_alongside_29 (by decide) (fun e12 => ?_) (fun e12 => ?_)
  · replace h := (if_pos e12).symm.trans h
    refine go_aload_n (pc := 38) dX9_alongside_38 rfl ?_
    obtain ⟨u7, c8, h⟩ := g_bd h
    refine go_callV (pc := 39) (as := []) (st := []) (r := u7.1) (M1 := u7.2) (z_X9_findOrder hok  c8) cw_X9_findOrder ml_X9_297 (show g_lay[41]? = some _ from rfl) rfl rfl (by decide) (Nat.le_of_ble_eq_true rfl) rfl dX9_alongside_39 ?_
    refine go_istore_n (pc := 42) (lv' := [some (.inr 41), some (.inl v1), some (.inl s0), some (.inl u7.1), none, none]) dX9_alongside_42 (by decide) rfl ?_
    refine go_iload_n (pc := 43) dX9_alongside_43 rfl ?_
    refine go_iconst (pc := 44) (v := (1 : Int32)) dX9_alongside_44 (by decide) ?_
    refine go_icmp_ne (pc := 45) (tgt := 50) dX9_alongside_45 (by decide) (fun e9 => ?_) (fun e9 => ?_)
    · replace h := (if_neg e9).symm.trans h
      refine go_iconst (pc := 50) (v := (0 : Int32)) dX9_alongside_50 (by decide) ?_
      refine go_istore (pc := 51) (lv' := [some (.inr 41), some (.inl v1), some (.inl s0), some (.inl u7.1), some (.inl (0 : Int32)), none]) dX9_alongside_51 (by decide) rfl ?_
      refine go_aload_n (pc := 53) dX9_alongside_53 rfl ?_
      refine gf_9_114 (pc := 54) dX9_alongside_54 ?_
      refine go_iconst (pc := 57) (v := (1 : Int32)) dX9_alongside_57 (by decide) ?_
      refine go_isub (pc := 58) dX9_alongside_58 ?_
      refine go_istore (pc := 59) (lv' := [some (.inr 41), some (.inl v1), some (.inl s0), some (.inl u7.1), some (.inl (0 : Int32)), some (.inl ((u7.2 41 16) - (1 : Int32)))]) dX9_alongside_59 (by decide) rfl ?_
      exact go_to (z_X9_alongside_L61 hok   g_F _ _ _ _ h) (And.intro rfl (And.intro rfl (And.intro rfl (And.intro rfl trivial))))
    · replace h := (if_pos e9).symm.trans h
      refine go_iload_n (pc := 48) dX9_alongside_48 rfl ?_
      exact go_iret (pc := 49) (Option.some.inj h).symm rfl dX9_alongside_49 rfl
  · replace h := (if_neg e12).symm.trans h
    refine go_aload_n (pc := 32) dX9_alongside_32 rfl ?_
    refine go_iload_n (pc := 33) dX9_alongside_33 rfl ?_
    obtain ⟨u10, c11, h⟩ := g_bd h
    refine go_callV (pc := 34) (as := [.inl s0]) (st := []) (r := u10.1) (M1 := u10.2) (z_X9_no hok  c11) cw_X9_no ml_X9_124 (show g_lay[41]? = some _ from rfl) rfl rfl (by decide) (Nat.le_of_ble_eq_true rfl) rfl dX9_alongside_34 ?_
    exact go_iret (pc := 37) (Option.some.inj h).symm rfl dX9_alongside_37 rfl
def x_X9_alongside  (p1 : Int32) (M : g_M) : Option (Int32 × g_M) := (((x_X9_isIn p1 (0 : Int32) (2 : Int32) M).bind fun u13 => if u13.1 = 0 then (x_X9_alongside_L27   p1 (-2 : Int32) u13.2) else (((x_X9_isRowOfHours u13.2).bind fun u15 => if u15.1 = 0 then (x_X9_alongside_L27   p1 (-3 : Int32) u15.2) else (x_X9_alongside_L27   p1 (0 : Int32) u15.2)))))
set_option maxHeartbeats 4000000 in
set_option maxRecDepth 100000 in
theorem z_X9_alongside {X : g_X} (hok : g_ok X)  {p1 : Int32} {M : g_M} {r : Int32 × g_M} (h : x_X9_alongside p1 M = some r) : g_Con X yX9_alongside cX9_alongside 6 (some .int) 3 70 [.inr 41, .inl p1] M r := by
  rw [x_X9_alongside] at h
  refine g_con hok (plainFor_of_name (by decide +kernel)) (Nat.le_of_ble_eq_true rfl) (go_to (lv2 := [some (.inr 41), some (.inl p1), none, none, none, none]) (own := RX9) ?_ (And.intro rfl (And.intro rfl trivial)))
  refine go_iload_n (pc := 0) dX9_alongside_0 rfl ?_
  refine go_iconst (pc := 1) (v := (0 : Int32)) dX9_alongside_1 (by decide) ?_
  refine go_iconst (pc := 2) (v := (2 : Int32)) dX9_alongside_2 (by decide) ?_
  obtain ⟨u13, c14, h⟩ := g_bd h
  refine go_callS (pc := 3) (as := [.inl p1, .inl (0 : Int32), .inl (2 : Int32)]) (st := []) (r := u13.1) (M1 := u13.2) (z_X9_isIn hok  c14) cw_X9_isIn ml_X9_135 (by decide) (Nat.le_of_ble_eq_true rfl) rfl dX9_alongside_3 ?_
  refine go_if_ne (pc := 6) (tgt := 14) dX9_alongside_6 (by decide) (fun e18 => ?_) (fun e18 => ?_)
  · replace h := (if_neg e18).symm.trans h
    refine go_aload_n (pc := 14) dX9_alongside_14 rfl ?_
    obtain ⟨u15, c16, h⟩ := g_bd h
    refine go_callV (pc := 15) (as := []) (st := []) (r := u15.1) (M1 := u15.2) (z_X9_isRowOfHours hok  c16) cw_X9_isRowOfHours ml_X9_294 (show g_lay[41]? = some _ from rfl) rfl rfl (by decide) (Nat.le_of_ble_eq_true rfl) rfl dX9_alongside_15 ?_
    refine go_if_ne (pc := 18) (tgt := 26) dX9_alongside_18 (by decide) (fun e17 => ?_) (fun e17 => ?_)
    · replace h := (if_neg e17).symm.trans h
      refine go_iconst (pc := 26) (v := (0 : Int32)) dX9_alongside_26 (by decide) ?_
      exact go_to (z_X9_alongside_L27 hok   h) (And.intro rfl (And.intro rfl trivial))
    · replace h := (if_pos e17).symm.trans h
      refine go_bipush (pc := 21) (v := (-3 : Int32)) dX9_alongside_21 (by decide) ?_
      refine go_goto (pc := 23) (tgt := 27) dX9_alongside_23 (by decide) ?_
      exact go_to (z_X9_alongside_L27 hok   h) (And.intro rfl (And.intro rfl trivial))
  · replace h := (if_pos e18).symm.trans h
    refine go_bipush (pc := 9) (v := (-2 : Int32)) dX9_alongside_9 (by decide) ?_
    refine go_goto (pc := 11) (tgt := 27) dX9_alongside_11 (by decide) ?_
    exact go_to (z_X9_alongside_L27 hok   h) (And.intro rfl (And.intro rfl trivial))
def x_X9_mud_L34   : Nat → Int32 → Int32 → Int32 → g_M → Option (Int32 × g_M)
  | 0, _, _, _, _ => none
  | n + 1, v1, v2, v4, M => (if (12 : Int32) ≤ v4 then (some ((-9 : Int32), M)) else ((if g_inb ((v2 + v4) - (v2 + v4) / (12 : Int32) * (12 : Int32)) 12 = true then (if (M 43 ((v2 + v4) - (v2 + v4) / (12 : Int32) * (12 : Int32)).toNatClampNeg) ≤ v1 then (x_X9_mud_L34   n v1 v2 (v4 + (1 : Int32)) M) else (some (((v2 + v4) - (v2 + v4) / (12 : Int32) * (12 : Int32)), M))) else none)))
set_option maxHeartbeats 4000000 in
set_option maxRecDepth 100000 in
theorem z_X9_mud_L34 {X : g_X} (hok : g_ok X)  {r : Int32 × g_M}  : ∀ (n : Nat) (v1 : Int32) (v2 : Int32) (v4 : Int32) (M : g_M), x_X9_mud_L34   n v1 v2 v4 M = some r → g_Go X cX9_mud RX9 5 (some .int) 1 22 r 34 [some (.inr 41), some (.inl v1), some (.inl v2), none, some (.inl v4)] [] M := by
  intro n
  induction n with
  | zero =>
    intro v1 v2 v4 M h
    rw [x_X9_mud_L34] at h
    cases h
  | succ n ih =>
    intro v1 v2 v4 M h
    rw [x_X9_mud_L34] at h
    refine go_iload (pc := 34) dX9_mud_34 rfl ?_
    refine go_bipush (pc := 36) (v := (12 : Int32)) dX9_mud_36 (by decide) ?_
    refine go_icmp_ge (pc := 38) (tgt := 71) dX9_mud_38 (by decide) (fun e3 => ?_) (fun e3 => ?_)
    · replace h := (if_pos e3).symm.trans h
      refine go_bipush (pc := 71) (v := (-9 : Int32)) dX9_mud_71 (by decide) ?_
      exact go_iret (pc := 73) (Option.some.inj h).symm rfl dX9_mud_73 rfl
    · replace h := (if_neg e3).symm.trans h
      refine go_aload_n (pc := 41) dX9_mud_41 rfl ?_
      refine gf_9_13 (pc := 42) dX9_mud_42 ?_
      refine go_iload_n (pc := 45) dX9_mud_45 rfl ?_
      refine go_iload (pc := 46) dX9_mud_46 rfl ?_
      refine go_iadd (pc := 48) dX9_mud_48 ?_
      refine go_bipush (pc := 49) (v := (12 : Int32)) dX9_mud_49 (by decide) ?_
      refine go_irem (pc := 51) dX9_mud_51 (by decide) ?_
      obtain ⟨i1, h⟩ := g_gd h
      refine go_iald (pc := 52) (n := 12) rfl (g_inb_ok i1) dX9_mud_52 ?_
      refine go_iload_n (pc := 53) dX9_mud_53 rfl ?_
      refine go_icmp_le (pc := 54) (tgt := 65) dX9_mud_54 (by decide) (fun e2 => ?_) (fun e2 => ?_)
      · replace h := (if_pos e2).symm.trans h
        refine go_iinc (pc := 65) (v := (1 : Int32)) (lv' := [some (.inr 41), some (.inl v1), some (.inl v2), none, some (.inl (v4 + (1 : Int32)))]) dX9_mud_65 rfl (by decide) (by decide) rfl ?_
        refine go_goto (pc := 68) (tgt := 34) dX9_mud_68 (by decide) ?_
        exact go_to (ih _ _ _ _ h) (And.intro rfl (And.intro rfl (And.intro rfl (And.intro rfl trivial))))
      · replace h := (if_neg e2).symm.trans h
        refine go_iload_n (pc := 57) dX9_mud_57 rfl ?_
        refine go_iload (pc := 58) dX9_mud_58 rfl ?_
        refine go_iadd (pc := 60) dX9_mud_60 ?_
        refine go_bipush (pc := 61) (v := (12 : Int32)) dX9_mud_61 (by decide) ?_
        refine go_irem (pc := 63) dX9_mud_63 (by decide) ?_
        exact go_iret (pc := 64) (Option.some.inj h).symm rfl dX9_mud_64 rfl
def x_X9_mud_L21   (v1 : Int32) (v2 : Int32) (v3 : Int32) (M : g_M) : Option (Int32 × g_M) := (if v3 = 0 then (x_X9_mud_L34   g_F v1 v2 (0 : Int32) M) else (((x_X9_no v3 M).bind fun u4 => some (u4.1, u4.2))))
set_option maxHeartbeats 4000000 in
set_option maxRecDepth 100000 in
theorem z_X9_mud_L21 {X : g_X} (hok : g_ok X)  {r : Int32 × g_M}  {v1 : Int32} {v2 : Int32} {v3 : Int32} {M : g_M} (h : x_X9_mud_L21   v1 v2 v3 M = some r) : g_Go X cX9_mud RX9 5 (some .int) 1 22 r 21 [some (.inr 41), some (.inl v1), some (.inl v2), some (.inl v3), none] [] M := by
  rw [x_X9_mud_L21] at h
  refine go_iload_n (pc := 21) dX9_mud_21 rfl ?_
  refine go_if_eq (pc := 22) (tgt := 31) dX9_mud_22 (by decide) (fun e6 => ?_) (fun e6 => ?_)
  · replace h := (if_pos e6).symm.trans h
    refine go_iconst (pc := 31) (v := (0 : Int32)) dX9_mud_31 (by decide) ?_
    refine go_istore (pc := 32) (lv' := [some (.inr 41), some (.inl v1), some (.inl v2), some (.inl v3), some (.inl (0 : Int32))]) dX9_mud_32 (by decide) rfl ?_
    exact go_to (z_X9_mud_L34 hok   g_F _ _ _ _ h) (And.intro rfl (And.intro rfl (And.intro rfl (And.intro rfl trivial))))
  · replace h := (if_neg e6).symm.trans h
    refine go_aload_n (pc := 25) dX9_mud_25 rfl ?_
    refine go_iload_n (pc := 26) dX9_mud_26 rfl ?_
    obtain ⟨u4, c5, h⟩ := g_bd h
    refine go_callV (pc := 27) (as := [.inl v3]) (st := []) (r := u4.1) (M1 := u4.2) (z_X9_no hok  c5) cw_X9_no ml_X9_124 (show g_lay[41]? = some _ from rfl) rfl rfl (by decide) (Nat.le_of_ble_eq_true rfl) rfl dX9_mud_27 ?_
    exact go_iret (pc := 30) (Option.some.inj h).symm rfl dX9_mud_30 rfl
def x_X9_mud  (p1 p2 : Int32) (M : g_M) : Option (Int32 × g_M) := (((x_X9_bound p1 (0 : Int32) (40 : Int32) M).bind fun u7 => if u7.1 = 0 then (((x_X9_isHour p2 u7.2).bind fun u9 => if u9.1 = 0 then (x_X9_mud_L21   p1 p2 (-1 : Int32) u9.2) else (x_X9_mud_L21   p1 p2 u7.1 u9.2))) else (x_X9_mud_L21   p1 p2 u7.1 u7.2)))
set_option maxHeartbeats 4000000 in
set_option maxRecDepth 100000 in
theorem z_X9_mud {X : g_X} (hok : g_ok X)  {p1 p2 : Int32} {M : g_M} {r : Int32 × g_M} (h : x_X9_mud p1 p2 M = some r) : g_Con X yX9_mud cX9_mud 5 (some .int) 1 22 [.inr 41, .inl p1, .inl p2] M r := by
  rw [x_X9_mud] at h
  refine g_con hok (plainFor_of_name (by decide +kernel)) (Nat.le_of_ble_eq_true rfl) (go_to (lv2 := [some (.inr 41), some (.inl p1), some (.inl p2), none, none]) (own := RX9) ?_ (And.intro rfl (And.intro rfl (And.intro rfl trivial))))
  refine go_iload_n (pc := 0) dX9_mud_0 rfl ?_
  refine go_iconst (pc := 1) (v := (0 : Int32)) dX9_mud_1 (by decide) ?_
  refine go_bipush (pc := 2) (v := (40 : Int32)) dX9_mud_2 (by decide) ?_
  obtain ⟨u7, c8, h⟩ := g_bd h
  refine go_callS (pc := 4) (as := [.inl p1, .inl (0 : Int32), .inl (40 : Int32)]) (st := []) (r := u7.1) (M1 := u7.2) (z_X9_bound hok  c8) cw_X9_bound ml_X9_117 (by decide) (Nat.le_of_ble_eq_true rfl) rfl dX9_mud_4 ?_
  refine go_istore_n (pc := 7) (lv' := [some (.inr 41), some (.inl p1), some (.inl p2), some (.inl u7.1), none]) dX9_mud_7 (by decide) rfl ?_
  refine go_iload_n (pc := 8) dX9_mud_8 rfl ?_
  refine go_if_ne (pc := 9) (tgt := 21) dX9_mud_9 (by decide) (fun e12 => ?_) (fun e12 => ?_)
  · replace h := (if_neg e12).symm.trans h
    exact go_to (z_X9_mud_L21 hok   h) (And.intro rfl (And.intro rfl (And.intro rfl (And.intro rfl trivial))))
  · replace h := (if_pos e12).symm.trans h
    refine go_iload_n (pc := 12) dX9_mud_12 rfl ?_
    obtain ⟨u9, c10, h⟩ := g_bd h
    refine go_callS (pc := 13) (as := [.inl p2]) (st := []) (r := u9.1) (M1 := u9.2) (z_X9_isHour hok  c10) cw_X9_isHour ml_X9_159 (by decide) (Nat.le_of_ble_eq_true rfl) rfl dX9_mud_13 ?_
    refine go_if_ne (pc := 16) (tgt := 21) dX9_mud_16 (by decide) (fun e11 => ?_) (fun e11 => ?_)
    · replace h := (if_neg e11).symm.trans h
      exact go_to (z_X9_mud_L21 hok   h) (And.intro rfl (And.intro rfl (And.intro rfl (And.intro rfl trivial))))
    · replace h := (if_pos e11).symm.trans h
      refine go_iconst (pc := 19) (v := (-1 : Int32)) dX9_mud_19 (by decide) ?_
      refine go_istore_n (pc := 20) (lv' := [some (.inr 41), some (.inl p1), some (.inl p2), some (.inl (-1 : Int32)), none]) dX9_mud_20 (by decide) rfl ?_
      exact go_to (z_X9_mud_L21 hok   h) (And.intro rfl (And.intro rfl (And.intro rfl (And.intro rfl trivial))))
def x_X9_carry_L54   : Nat → Int32 → Int32 → Int32 → g_M → Option (Int32 × g_M)
  | 0, _, _, _, _ => none
  | n + 1, v3, v5, v6, M => (if v6 = v3 then ((if g_inb v3 12 = true then (if (M 43 v3.toNatClampNeg) ≤ v5 then (some ((-9 : Int32), M)) else (some (v5, M))) else none)) else ((if g_inb v6 12 = true then (if (M 43 v6.toNatClampNeg) ≤ v5 then (x_X9_carry_L54   n v3 v5 ((v6 + (1 : Int32)) - (v6 + (1 : Int32)) / (12 : Int32) * (12 : Int32)) M) else ((if g_inb v6 12 = true then (x_X9_carry_L54   n v3 (M 43 v6.toNatClampNeg) ((v6 + (1 : Int32)) - (v6 + (1 : Int32)) / (12 : Int32) * (12 : Int32)) M) else none))) else none)))
set_option maxHeartbeats 4000000 in
set_option maxRecDepth 100000 in
theorem z_X9_carry_L54 {X : g_X} (hok : g_ok X)  {r : Int32 × g_M}  : ∀ (n : Nat) (v3 : Int32) (v5 : Int32) (v6 : Int32) (M : g_M), x_X9_carry_L54   n v3 v5 v6 M = some r → g_Go X cX9_carry RX9 7 (some .int) 1 22 r 54 [some (.inr 41), none, none, some (.inl v3), none, some (.inl v5), some (.inl v6)] [] M := by
  intro n
  induction n with
  | zero =>
    intro v3 v5 v6 M h
    rw [x_X9_carry_L54] at h
    cases h
  | succ n ih =>
    intro v3 v5 v6 M h
    rw [x_X9_carry_L54] at h
    refine go_iload (pc := 54) dX9_carry_54 rfl ?_
    refine go_iload_n (pc := 56) dX9_carry_56 rfl ?_
    refine go_icmp_eq (pc := 57) (tgt := 98) dX9_carry_57 (by decide) (fun e6 => ?_) (fun e6 => ?_)
    · replace h := (if_pos e6).symm.trans h
      refine go_aload_n (pc := 98) dX9_carry_98 rfl ?_
      refine gf_9_13 (pc := 99) dX9_carry_99 ?_
      refine go_iload_n (pc := 102) dX9_carry_102 rfl ?_
      obtain ⟨i1, h⟩ := g_gd h
      refine go_iald (pc := 103) (n := 12) rfl (g_inb_ok i1) dX9_carry_103 ?_
      refine go_iload (pc := 104) dX9_carry_104 rfl ?_
      refine go_icmp_le (pc := 106) (tgt := 114) dX9_carry_106 (by decide) (fun e2 => ?_) (fun e2 => ?_)
      · replace h := (if_pos e2).symm.trans h
        refine go_bipush (pc := 114) (v := (-9 : Int32)) dX9_carry_114 (by decide) ?_
        exact go_iret (pc := 116) (Option.some.inj h).symm rfl dX9_carry_116 rfl
      · replace h := (if_neg e2).symm.trans h
        refine go_iload (pc := 109) dX9_carry_109 rfl ?_
        refine go_goto (pc := 111) (tgt := 116) dX9_carry_111 (by decide) ?_
        exact go_iret (pc := 116) (Option.some.inj h).symm rfl dX9_carry_116 rfl
    · replace h := (if_neg e6).symm.trans h
      refine go_aload_n (pc := 60) dX9_carry_60 rfl ?_
      refine gf_9_13 (pc := 61) dX9_carry_61 ?_
      refine go_iload (pc := 64) dX9_carry_64 rfl ?_
      obtain ⟨i3, h⟩ := g_gd h
      refine go_iald (pc := 66) (n := 12) rfl (g_inb_ok i3) dX9_carry_66 ?_
      refine go_iload (pc := 67) dX9_carry_67 rfl ?_
      refine go_icmp_le (pc := 69) (tgt := 82) dX9_carry_69 (by decide) (fun e5 => ?_) (fun e5 => ?_)
      · replace h := (if_pos e5).symm.trans h
        refine go_iload (pc := 82) dX9_carry_82 rfl ?_
        refine go_istore (pc := 84) (lv' := [some (.inr 41), none, none, some (.inl v3), none, some (.inl v5), some (.inl v6)]) dX9_carry_84 (by decide) rfl ?_
        refine go_iload (pc := 86) dX9_carry_86 rfl ?_
        refine go_iconst (pc := 88) (v := (1 : Int32)) dX9_carry_88 (by decide) ?_
        refine go_iadd (pc := 89) dX9_carry_89 ?_
        refine go_bipush (pc := 90) (v := (12 : Int32)) dX9_carry_90 (by decide) ?_
        refine go_irem (pc := 92) dX9_carry_92 (by decide) ?_
        refine go_istore (pc := 93) (lv' := [some (.inr 41), none, none, some (.inl v3), none, some (.inl v5), some (.inl ((v6 + (1 : Int32)) - (v6 + (1 : Int32)) / (12 : Int32) * (12 : Int32)))]) dX9_carry_93 (by decide) rfl ?_
        refine go_goto (pc := 95) (tgt := 54) dX9_carry_95 (by decide) ?_
        exact go_to (ih _ _ _ _ h) (And.intro rfl (And.intro rfl (And.intro rfl (And.intro rfl trivial))))
      · replace h := (if_neg e5).symm.trans h
        refine go_aload_n (pc := 72) dX9_carry_72 rfl ?_
        refine gf_9_13 (pc := 73) dX9_carry_73 ?_
        refine go_iload (pc := 76) dX9_carry_76 rfl ?_
        obtain ⟨i4, h⟩ := g_gd h
        refine go_iald (pc := 78) (n := 12) rfl (g_inb_ok i4) dX9_carry_78 ?_
        refine go_goto (pc := 79) (tgt := 84) dX9_carry_79 (by decide) ?_
        refine go_istore (pc := 84) (lv' := [some (.inr 41), none, none, some (.inl v3), none, some (.inl (M 43 v6.toNatClampNeg)), some (.inl v6)]) dX9_carry_84 (by decide) rfl ?_
        refine go_iload (pc := 86) dX9_carry_86 rfl ?_
        refine go_iconst (pc := 88) (v := (1 : Int32)) dX9_carry_88 (by decide) ?_
        refine go_iadd (pc := 89) dX9_carry_89 ?_
        refine go_bipush (pc := 90) (v := (12 : Int32)) dX9_carry_90 (by decide) ?_
        refine go_irem (pc := 92) dX9_carry_92 (by decide) ?_
        refine go_istore (pc := 93) (lv' := [some (.inr 41), none, none, some (.inl v3), none, some (.inl (M 43 v6.toNatClampNeg)), some (.inl ((v6 + (1 : Int32)) - (v6 + (1 : Int32)) / (12 : Int32) * (12 : Int32)))]) dX9_carry_93 (by decide) rfl ?_
        refine go_goto (pc := 95) (tgt := 54) dX9_carry_95 (by decide) ?_
        exact go_to (ih _ _ _ _ h) (And.intro rfl (And.intro rfl (And.intro rfl (And.intro rfl trivial))))
def x_X9_carry_L36   (v1 : Int32) (v2 : Int32) (v3 : Int32) (v4 : Int32) (M : g_M) : Option (Int32 × g_M) := (if v4 = 0 then (x_X9_carry_L54   g_F v3 v1 v2 M) else (((x_X9_no v4 M).bind fun u7 => some (u7.1, u7.2))))
set_option maxHeartbeats 4000000 in
set_option maxRecDepth 100000 in
theorem z_X9_carry_L36 {X : g_X} (hok : g_ok X)  {r : Int32 × g_M}  {v1 : Int32} {v2 : Int32} {v3 : Int32} {v4 : Int32} {M : g_M} (h : x_X9_carry_L36   v1 v2 v3 v4 M = some r) : g_Go X cX9_carry RX9 7 (some .int) 1 22 r 36 [some (.inr 41), some (.inl v1), some (.inl v2), some (.inl v3), some (.inl v4), none, none] [] M := by
  rw [x_X9_carry_L36] at h
  refine go_iload (pc := 36) dX9_carry_36 rfl ?_
  refine go_if_eq (pc := 38) (tgt := 48) dX9_carry_38 (by decide) (fun e9 => ?_) (fun e9 => ?_)
  · replace h := (if_pos e9).symm.trans h
    refine go_iload_n (pc := 48) dX9_carry_48 rfl ?_
    refine go_istore (pc := 49) (lv' := [some (.inr 41), some (.inl v1), some (.inl v2), some (.inl v3), some (.inl v4), some (.inl v1), none]) dX9_carry_49 (by decide) rfl ?_
    refine go_iload_n (pc := 51) dX9_carry_51 rfl ?_
    refine go_istore (pc := 52) (lv' := [some (.inr 41), some (.inl v1), some (.inl v2), some (.inl v3), some (.inl v4), some (.inl v1), some (.inl v2)]) dX9_carry_52 (by decide) rfl ?_
    exact go_to (z_X9_carry_L54 hok   g_F _ _ _ _ h) (And.intro rfl (And.intro rfl (And.intro rfl (And.intro rfl trivial))))
  · replace h := (if_neg e9).symm.trans h
    refine go_aload_n (pc := 41) dX9_carry_41 rfl ?_
    refine go_iload (pc := 42) dX9_carry_42 rfl ?_
    obtain ⟨u7, c8, h⟩ := g_bd h
    refine go_callV (pc := 44) (as := [.inl v4]) (st := []) (r := u7.1) (M1 := u7.2) (z_X9_no hok  c8) cw_X9_no ml_X9_124 (show g_lay[41]? = some _ from rfl) rfl rfl (by decide) (Nat.le_of_ble_eq_true rfl) rfl dX9_carry_44 ?_
    exact go_iret (pc := 47) (Option.some.inj h).symm rfl dX9_carry_47 rfl
def x_X9_carry  (p1 p2 p3 : Int32) (M : g_M) : Option (Int32 × g_M) := (((x_X9_bound p1 (0 : Int32) (40 : Int32) M).bind fun u10 => if u10.1 = 0 then (((x_X9_isHour p2 u10.2).bind fun u12 => if u12.1 = 0 then (x_X9_carry_L36   p1 p2 p3 (-1 : Int32) u12.2) else (((x_X9_isHour p3 u12.2).bind fun u14 => if u14.1 = 0 then (x_X9_carry_L36   p1 p2 p3 (-1 : Int32) u14.2) else (if p2 = p3 then (x_X9_carry_L36   p1 p2 p3 (-1 : Int32) u14.2) else (x_X9_carry_L36   p1 p2 p3 u10.1 u14.2)))))) else (x_X9_carry_L36   p1 p2 p3 u10.1 u10.2)))
set_option maxHeartbeats 4000000 in
set_option maxRecDepth 100000 in
theorem z_X9_carry {X : g_X} (hok : g_ok X)  {p1 p2 p3 : Int32} {M : g_M} {r : Int32 × g_M} (h : x_X9_carry p1 p2 p3 M = some r) : g_Con X yX9_carry cX9_carry 7 (some .int) 1 22 [.inr 41, .inl p1, .inl p2, .inl p3] M r := by
  rw [x_X9_carry] at h
  refine g_con hok (plainFor_of_name (by decide +kernel)) (Nat.le_of_ble_eq_true rfl) (go_to (lv2 := [some (.inr 41), some (.inl p1), some (.inl p2), some (.inl p3), none, none, none]) (own := RX9) ?_ (And.intro rfl (And.intro rfl (And.intro rfl (And.intro rfl trivial)))))
  refine go_iload_n (pc := 0) dX9_carry_0 rfl ?_
  refine go_iconst (pc := 1) (v := (0 : Int32)) dX9_carry_1 (by decide) ?_
  refine go_bipush (pc := 2) (v := (40 : Int32)) dX9_carry_2 (by decide) ?_
  obtain ⟨u10, c11, h⟩ := g_bd h
  refine go_callS (pc := 4) (as := [.inl p1, .inl (0 : Int32), .inl (40 : Int32)]) (st := []) (r := u10.1) (M1 := u10.2) (z_X9_bound hok  c11) cw_X9_bound ml_X9_117 (by decide) (Nat.le_of_ble_eq_true rfl) rfl dX9_carry_4 ?_
  refine go_istore (pc := 7) (lv' := [some (.inr 41), some (.inl p1), some (.inl p2), some (.inl p3), some (.inl u10.1), none, none]) dX9_carry_7 (by decide) rfl ?_
  refine go_iload (pc := 9) dX9_carry_9 rfl ?_
  refine go_if_ne (pc := 11) (tgt := 36) dX9_carry_11 (by decide) (fun e19 => ?_) (fun e19 => ?_)
  · replace h := (if_neg e19).symm.trans h
    exact go_to (z_X9_carry_L36 hok   h) (And.intro rfl (And.intro rfl (And.intro rfl (And.intro rfl (And.intro rfl trivial)))))
  · replace h := (if_pos e19).symm.trans h
    refine go_iload_n (pc := 14) dX9_carry_14 rfl ?_
    obtain ⟨u12, c13, h⟩ := g_bd h
    refine go_callS (pc := 15) (as := [.inl p2]) (st := []) (r := u12.1) (M1 := u12.2) (z_X9_isHour hok  c13) cw_X9_isHour ml_X9_159 (by decide) (Nat.le_of_ble_eq_true rfl) rfl dX9_carry_15 ?_
    refine go_if_eq (pc := 18) (tgt := 33) dX9_carry_18 (by decide) (fun e18 => ?_) (fun e18 => ?_)
    · replace h := (if_pos e18).symm.trans h
      refine go_iconst (pc := 33) (v := (-1 : Int32)) dX9_carry_33 (by decide) ?_
      refine go_istore (pc := 34) (lv' := [some (.inr 41), some (.inl p1), some (.inl p2), some (.inl p3), some (.inl (-1 : Int32)), none, none]) dX9_carry_34 (by decide) rfl ?_
      exact go_to (z_X9_carry_L36 hok   h) (And.intro rfl (And.intro rfl (And.intro rfl (And.intro rfl (And.intro rfl trivial)))))
    · replace h := (if_neg e18).symm.trans h
      refine go_iload_n (pc := 21) dX9_carry_21 rfl ?_
      obtain ⟨u14, c15, h⟩ := g_bd h
      refine go_callS (pc := 22) (as := [.inl p3]) (st := []) (r := u14.1) (M1 := u14.2) (z_X9_isHour hok  c15) cw_X9_isHour ml_X9_159 (by decide) (Nat.le_of_ble_eq_true rfl) rfl dX9_carry_22 ?_
      refine go_if_eq (pc := 25) (tgt := 33) dX9_carry_25 (by decide) (fun e17 => ?_) (fun e17 => ?_)
      · replace h := (if_pos e17).symm.trans h
        refine go_iconst (pc := 33) (v := (-1 : Int32)) dX9_carry_33 (by decide) ?_
        refine go_istore (pc := 34) (lv' := [some (.inr 41), some (.inl p1), some (.inl p2), some (.inl p3), some (.inl (-1 : Int32)), none, none]) dX9_carry_34 (by decide) rfl ?_
        exact go_to (z_X9_carry_L36 hok   h) (And.intro rfl (And.intro rfl (And.intro rfl (And.intro rfl (And.intro rfl trivial)))))
      · replace h := (if_neg e17).symm.trans h
        refine go_iload_n (pc := 28) dX9_carry_28 rfl ?_
        refine go_iload_n (pc := 29) dX9_carry_29 rfl ?_
        refine go_icmp_ne (pc := 30) (tgt := 36) dX9_carry_30 (by decide) (fun e16 => ?_) (fun e16 => ?_)
        · replace h := (if_neg e16).symm.trans h
          exact go_to (z_X9_carry_L36 hok   h) (And.intro rfl (And.intro rfl (And.intro rfl (And.intro rfl (And.intro rfl trivial)))))
        · replace h := (if_pos e16).symm.trans h
          refine go_iconst (pc := 33) (v := (-1 : Int32)) dX9_carry_33 (by decide) ?_
          refine go_istore (pc := 34) (lv' := [some (.inr 41), some (.inl p1), some (.inl p2), some (.inl p3), some (.inl (-1 : Int32)), none, none]) dX9_carry_34 (by decide) rfl ?_
          exact go_to (z_X9_carry_L36 hok   h) (And.intro rfl (And.intro rfl (And.intro rfl (And.intro rfl (And.intro rfl trivial)))))
def x_X9_findWellAt_L19  (k2 : Int32 → g_M → Option (Int32 × g_M)) : Nat → Int32 → Int32 → Int32 → g_M → Option (Int32 × g_M)
  | 0, _, _, _, _ => none
  | n + 1, v1, v2, v3, M => (if (M 41 15) ≤ v3 then ((if g_inb v1 5 = true then (k2 (v1 + (1 : Int32)) (g_upd M 50 v1.toNatClampNeg v2)) else none)) else ((if g_inb v1 5 = true then ((if g_inb v1 5 = true then (((x_X9_wellHours v1 ((g_upd M 50 v1.toNatClampNeg v3) 52 v1.toNatClampNeg) (g_upd M 50 v1.toNatClampNeg v3)).bind fun u4 => if u4.1 = (4095 : Int32) then ((if g_inb (((6 : Int32) * v1) + v3) 30 = true then (x_X9_findWellAt_L19  k2 n v1 v2 (v3 + (1 : Int32)) (g_upd u4.2 69 (((6 : Int32) * v1) + v3).toNatClampNeg (1 : Int32))) else none)) else ((if g_inb (((6 : Int32) * v1) + v3) 30 = true then (x_X9_findWellAt_L19  k2 n v1 v2 (v3 + (1 : Int32)) (g_upd u4.2 69 (((6 : Int32) * v1) + v3).toNatClampNeg (0 : Int32))) else none)))) else none)) else none)))
set_option maxHeartbeats 4000000 in
set_option maxRecDepth 100000 in
theorem z_X9_findWellAt_L19 {X : g_X} (hok : g_ok X)  {r : Int32 × g_M} {k2 : Int32 → g_M → Option (Int32 × g_M)} (hk2 : ∀ (v1 : Int32) (M : g_M), k2 v1 M = some r → g_Go X cX9_findWellAt RX9 4 none 6 139 r 2 [some (.inr 41), some (.inl v1), none, none] [] M) : ∀ (n : Nat) (v1 : Int32) (v2 : Int32) (v3 : Int32) (M : g_M), x_X9_findWellAt_L19  k2 n v1 v2 v3 M = some r → g_Go X cX9_findWellAt RX9 4 none 6 139 r 19 [some (.inr 41), some (.inl v1), some (.inl v2), some (.inl v3)] [] M := by
  intro n
  induction n with
  | zero =>
    intro v1 v2 v3 M h
    rw [x_X9_findWellAt_L19] at h
    cases h
  | succ n ih =>
    intro v1 v2 v3 M h
    rw [x_X9_findWellAt_L19] at h
    refine go_iload_n (pc := 19) dX9_findWellAt_19 rfl ?_
    refine go_aload_n (pc := 20) dX9_findWellAt_20 rfl ?_
    refine gf_9_110 (pc := 21) dX9_findWellAt_21 ?_
    refine go_icmp_ge (pc := 24) (tgt := 73) dX9_findWellAt_24 (by decide) (fun e9 => ?_) (fun e9 => ?_)
    · replace h := (if_pos e9).symm.trans h
      refine go_aload_n (pc := 73) dX9_findWellAt_73 rfl ?_
      refine gf_9_34 (pc := 74) dX9_findWellAt_74 ?_
      refine go_iload_n (pc := 77) dX9_findWellAt_77 rfl ?_
      refine go_iload_n (pc := 78) dX9_findWellAt_78 rfl ?_
      obtain ⟨i1, h⟩ := g_gd h
      refine go_iast (pc := 79) (n := 5) rfl (g_inb_ok i1) dX9_findWellAt_79 ?_
      refine go_iinc (pc := 80) (v := (1 : Int32)) (lv' := [some (.inr 41), some (.inl (v1 + (1 : Int32))), some (.inl v2), some (.inl v3)]) dX9_findWellAt_80 rfl (by decide) (by decide) rfl ?_
      refine go_goto (pc := 83) (tgt := 2) dX9_findWellAt_83 (by decide) ?_
      exact go_to (hk2 _ _ h) (And.intro rfl (And.intro rfl trivial))
    · replace h := (if_neg e9).symm.trans h
      refine go_aload_n (pc := 27) dX9_findWellAt_27 rfl ?_
      refine gf_9_34 (pc := 28) dX9_findWellAt_28 ?_
      refine go_iload_n (pc := 31) dX9_findWellAt_31 rfl ?_
      refine go_iload_n (pc := 32) dX9_findWellAt_32 rfl ?_
      obtain ⟨i2, h⟩ := g_gd h
      refine go_iast (pc := 33) (n := 5) rfl (g_inb_ok i2) dX9_findWellAt_33 ?_
      refine go_aload_n (pc := 34) dX9_findWellAt_34 rfl ?_
      refine gf_9_91 (pc := 35) dX9_findWellAt_35 ?_
      refine go_bipush (pc := 38) (v := (6 : Int32)) dX9_findWellAt_38 (by decide) ?_
      refine go_iload_n (pc := 40) dX9_findWellAt_40 rfl ?_
      refine go_imul (pc := 41) dX9_findWellAt_41 ?_
      refine go_iload_n (pc := 42) dX9_findWellAt_42 rfl ?_
      refine go_iadd (pc := 43) dX9_findWellAt_43 ?_
      refine go_aload_n (pc := 44) dX9_findWellAt_44 rfl ?_
      refine go_iload_n (pc := 45) dX9_findWellAt_45 rfl ?_
      refine go_aload_n (pc := 46) dX9_findWellAt_46 rfl ?_
      refine gf_9_40 (pc := 47) dX9_findWellAt_47 ?_
      refine go_iload_n (pc := 50) dX9_findWellAt_50 rfl ?_
      obtain ⟨i3, h⟩ := g_gd h
      refine go_iald (pc := 51) (n := 5) rfl (g_inb_ok i3) dX9_findWellAt_51 ?_
      obtain ⟨u4, c5, h⟩ := g_bd h
      refine go_callV (pc := 52) (as := [.inl v1, .inl ((g_upd M 50 v1.toNatClampNeg v3) 52 v1.toNatClampNeg)]) (st := [.inl (((6 : Int32) * v1) + v3), .inr 69]) (r := u4.1) (M1 := u4.2) (z_X9_wellHours hok  c5) cw_X9_wellHours ml_X9_255 (show g_lay[41]? = some _ from rfl) rfl rfl (by decide) (Nat.le_of_ble_eq_true rfl) rfl dX9_findWellAt_52 ?_
      refine go_sipush (pc := 55) (v := (4095 : Int32)) dX9_findWellAt_55 (by decide) ?_
      refine go_icmp_ne (pc := 58) (tgt := 65) dX9_findWellAt_58 (by decide) (fun e8 => ?_) (fun e8 => ?_)
      · replace h := (if_neg e8).symm.trans h
        refine go_iconst (pc := 65) (v := (0 : Int32)) dX9_findWellAt_65 (by decide) ?_
        obtain ⟨i6, h⟩ := g_gd h
        refine go_iast (pc := 66) (n := 30) rfl (g_inb_ok i6) dX9_findWellAt_66 ?_
        refine go_iinc (pc := 67) (v := (1 : Int32)) (lv' := [some (.inr 41), some (.inl v1), some (.inl v2), some (.inl (v3 + (1 : Int32)))]) dX9_findWellAt_67 rfl (by decide) (by decide) rfl ?_
        refine go_goto (pc := 70) (tgt := 19) dX9_findWellAt_70 (by decide) ?_
        exact go_to (ih _ _ _ _ h) (And.intro rfl (And.intro rfl (And.intro rfl (And.intro rfl trivial))))
      · replace h := (if_pos e8).symm.trans h
        refine go_iconst (pc := 61) (v := (1 : Int32)) dX9_findWellAt_61 (by decide) ?_
        refine go_goto (pc := 62) (tgt := 66) dX9_findWellAt_62 (by decide) ?_
        obtain ⟨i7, h⟩ := g_gd h
        refine go_iast (pc := 66) (n := 30) rfl (g_inb_ok i7) dX9_findWellAt_66 ?_
        refine go_iinc (pc := 67) (v := (1 : Int32)) (lv' := [some (.inr 41), some (.inl v1), some (.inl v2), some (.inl (v3 + (1 : Int32)))]) dX9_findWellAt_67 rfl (by decide) (by decide) rfl ?_
        refine go_goto (pc := 70) (tgt := 19) dX9_findWellAt_70 (by decide) ?_
        exact go_to (ih _ _ _ _ h) (And.intro rfl (And.intro rfl (And.intro rfl (And.intro rfl trivial))))
def x_X9_findWellAt_L2   : Nat → Int32 → g_M → Option (Int32 × g_M)
  | 0, _, _ => none
  | n + 1, v1, M => (if (M 41 16) ≤ v1 then (some (0, M)) else ((if g_inb v1 5 = true then (x_X9_findWellAt_L19  (x_X9_findWellAt_L2   n) g_F v1 (M 50 v1.toNatClampNeg) (0 : Int32) M) else none)))
set_option maxHeartbeats 4000000 in
set_option maxRecDepth 100000 in
theorem z_X9_findWellAt_L2 {X : g_X} (hok : g_ok X)  {r : Int32 × g_M}  : ∀ (n : Nat) (v1 : Int32) (M : g_M), x_X9_findWellAt_L2   n v1 M = some r → g_Go X cX9_findWellAt RX9 4 none 6 139 r 2 [some (.inr 41), some (.inl v1), none, none] [] M := by
  intro n
  induction n with
  | zero =>
    intro v1 M h
    rw [x_X9_findWellAt_L2] at h
    cases h
  | succ n ih =>
    intro v1 M h
    rw [x_X9_findWellAt_L2] at h
    refine go_iload_n (pc := 2) dX9_findWellAt_2 rfl ?_
    refine go_aload_n (pc := 3) dX9_findWellAt_3 rfl ?_
    refine gf_9_114 (pc := 4) dX9_findWellAt_4 ?_
    refine go_icmp_ge (pc := 7) (tgt := 86) dX9_findWellAt_7 (by decide) (fun e11 => ?_) (fun e11 => ?_)
    · replace h := (if_pos e11).symm.trans h
      exact go_vret (pc := 86) (Option.some.inj h).symm rfl dX9_findWellAt_86
    · replace h := (if_neg e11).symm.trans h
      refine go_aload_n (pc := 10) dX9_findWellAt_10 rfl ?_
      refine gf_9_34 (pc := 11) dX9_findWellAt_11 ?_
      refine go_iload_n (pc := 14) dX9_findWellAt_14 rfl ?_
      obtain ⟨i10, h⟩ := g_gd h
      refine go_iald (pc := 15) (n := 5) rfl (g_inb_ok i10) dX9_findWellAt_15 ?_
      refine go_istore_n (pc := 16) (lv' := [some (.inr 41), some (.inl v1), some (.inl (M 50 v1.toNatClampNeg)), none]) dX9_findWellAt_16 (by decide) rfl ?_
      refine go_iconst (pc := 17) (v := (0 : Int32)) dX9_findWellAt_17 (by decide) ?_
      refine go_istore_n (pc := 18) (lv' := [some (.inr 41), some (.inl v1), some (.inl (M 50 v1.toNatClampNeg)), some (.inl (0 : Int32))]) dX9_findWellAt_18 (by decide) rfl ?_
      exact go_to (z_X9_findWellAt_L19 hok  (ih) g_F _ _ _ _ h) (And.intro rfl (And.intro rfl (And.intro rfl (And.intro rfl trivial))))
def x_X9_findWellAt  (M : g_M) : Option (Int32 × g_M) := (x_X9_findWellAt_L2   g_F (0 : Int32) M)
set_option maxHeartbeats 4000000 in
set_option maxRecDepth 100000 in
theorem z_X9_findWellAt {X : g_X} (hok : g_ok X)  {M : g_M} {r : Int32 × g_M} (h : x_X9_findWellAt  M = some r) : g_Con X yX9_findWellAt cX9_findWellAt 4 none 6 139 [.inr 41] M r := by
  rw [x_X9_findWellAt] at h
  refine g_con hok (plainFor_of_name (by decide +kernel)) (Nat.le_of_ble_eq_true rfl) (go_to (lv2 := [some (.inr 41), none, none, none]) (own := RX9) ?_ (And.intro rfl trivial))
  refine go_iconst (pc := 0) (v := (0 : Int32)) dX9_findWellAt_0 (by decide) ?_
  refine go_istore_n (pc := 1) (lv' := [some (.inr 41), some (.inl (0 : Int32)), none, none]) dX9_findWellAt_1 (by decide) rfl ?_
  exact go_to (z_X9_findWellAt_L2 hok   g_F _ _ h) (And.intro rfl (And.intro rfl trivial))
def x_X9_wellBy_L53   : Nat → Int32 → Int32 → Int32 → g_M → Option (Int32 × g_M)
  | 0, _, _, _, _ => none
  | n + 1, v3, v4, v5, M => (if (M 41 16) ≤ v5 then (some (v4, M)) else ((if g_inb v5 5 = true then (if (M 67 v5.toNatClampNeg) = (M 41 15) then (x_X9_wellBy_L53   n v3 v4 (v5 + (1 : Int32)) M) else ((if g_inb v5 5 = true then (if ((v3 >>> ((M 67 v5.toNatClampNeg) &&& 31)) &&& (1 : Int32)) = (1 : Int32) then (some ((-9 : Int32), M)) else ((if g_inb v5 5 = true then ((if g_inb v5 5 = true then ((if g_inb (((6 : Int32) * v5) + (M 67 v5.toNatClampNeg)) 30 = true then (x_X9_wellBy_L53   n (v3 ||| ((1 : Int32) <<< ((M 67 v5.toNatClampNeg) &&& 31))) (v4 + (M 69 (((6 : Int32) * v5) + (M 67 v5.toNatClampNeg)).toNatClampNeg)) (v5 + (1 : Int32)) M) else none)) else none)) else none))) else none))) else none)))
set_option maxHeartbeats 4000000 in
set_option maxRecDepth 100000 in
theorem z_X9_wellBy_L53 {X : g_X} (hok : g_ok X)  {r : Int32 × g_M}  : ∀ (n : Nat) (v3 : Int32) (v4 : Int32) (v5 : Int32) (M : g_M), x_X9_wellBy_L53   n v3 v4 v5 M = some r → g_Go X cX9_wellBy RX9 6 (some .int) 0 0 r 53 [some (.inr 41), none, none, some (.inl v3), some (.inl v4), some (.inl v5)] [] M := by
  intro n
  induction n with
  | zero =>
    intro v3 v4 v5 M h
    rw [x_X9_wellBy_L53] at h
    cases h
  | succ n ih =>
    intro v3 v4 v5 M h
    rw [x_X9_wellBy_L53] at h
    refine go_iload (pc := 53) dX9_wellBy_53 rfl ?_
    refine go_aload_n (pc := 55) dX9_wellBy_55 rfl ?_
    refine gf_9_114 (pc := 56) dX9_wellBy_56 ?_
    refine go_icmp_ge (pc := 59) (tgt := 138) dX9_wellBy_59 (by decide) (fun e8 => ?_) (fun e8 => ?_)
    · replace h := (if_pos e8).symm.trans h
      refine go_iload (pc := 138) dX9_wellBy_138 rfl ?_
      exact go_iret (pc := 140) (Option.some.inj h).symm rfl dX9_wellBy_140 rfl
    · replace h := (if_neg e8).symm.trans h
      refine go_aload_n (pc := 62) dX9_wellBy_62 rfl ?_
      refine gf_9_85 (pc := 63) dX9_wellBy_63 ?_
      refine go_iload (pc := 66) dX9_wellBy_66 rfl ?_
      obtain ⟨i1, h⟩ := g_gd h
      refine go_iald (pc := 68) (n := 5) rfl (g_inb_ok i1) dX9_wellBy_68 ?_
      refine go_aload_n (pc := 69) dX9_wellBy_69 rfl ?_
      refine gf_9_110 (pc := 70) dX9_wellBy_70 ?_
      refine go_icmp_ne (pc := 73) (tgt := 79) dX9_wellBy_73 (by decide) (fun e7 => ?_) (fun e7 => ?_)
      · replace h := (if_neg e7).symm.trans h
        refine go_iload_n (pc := 79) dX9_wellBy_79 rfl ?_
        refine go_aload_n (pc := 80) dX9_wellBy_80 rfl ?_
        refine gf_9_85 (pc := 81) dX9_wellBy_81 ?_
        refine go_iload (pc := 84) dX9_wellBy_84 rfl ?_
        obtain ⟨i2, h⟩ := g_gd h
        refine go_iald (pc := 86) (n := 5) rfl (g_inb_ok i2) dX9_wellBy_86 ?_
        refine go_ishr (pc := 87) dX9_wellBy_87 ?_
        refine go_iconst (pc := 88) (v := (1 : Int32)) dX9_wellBy_88 (by decide) ?_
        refine go_iand (pc := 89) dX9_wellBy_89 ?_
        refine go_iconst (pc := 90) (v := (1 : Int32)) dX9_wellBy_90 (by decide) ?_
        refine go_icmp_ne (pc := 91) (tgt := 97) dX9_wellBy_91 (by decide) (fun e6 => ?_) (fun e6 => ?_)
        · replace h := (if_neg e6).symm.trans h
          refine go_iload_n (pc := 97) dX9_wellBy_97 rfl ?_
          refine go_iconst (pc := 98) (v := (1 : Int32)) dX9_wellBy_98 (by decide) ?_
          refine go_aload_n (pc := 99) dX9_wellBy_99 rfl ?_
          refine gf_9_85 (pc := 100) dX9_wellBy_100 ?_
          refine go_iload (pc := 103) dX9_wellBy_103 rfl ?_
          obtain ⟨i3, h⟩ := g_gd h
          refine go_iald (pc := 105) (n := 5) rfl (g_inb_ok i3) dX9_wellBy_105 ?_
          refine go_ishl (pc := 106) dX9_wellBy_106 ?_
          refine go_ior (pc := 107) dX9_wellBy_107 ?_
          refine go_istore_n (pc := 108) (lv' := [some (.inr 41), none, none, some (.inl (v3 ||| ((1 : Int32) <<< ((M 67 v5.toNatClampNeg) &&& 31)))), some (.inl v4), some (.inl v5)]) dX9_wellBy_108 (by decide) rfl ?_
          refine go_iload (pc := 109) dX9_wellBy_109 rfl ?_
          refine go_aload_n (pc := 111) dX9_wellBy_111 rfl ?_
          refine gf_9_91 (pc := 112) dX9_wellBy_112 ?_
          refine go_bipush (pc := 115) (v := (6 : Int32)) dX9_wellBy_115 (by decide) ?_
          refine go_iload (pc := 117) dX9_wellBy_117 rfl ?_
          refine go_imul (pc := 119) dX9_wellBy_119 ?_
          refine go_aload_n (pc := 120) dX9_wellBy_120 rfl ?_
          refine gf_9_85 (pc := 121) dX9_wellBy_121 ?_
          refine go_iload (pc := 124) dX9_wellBy_124 rfl ?_
          obtain ⟨i4, h⟩ := g_gd h
          refine go_iald (pc := 126) (n := 5) rfl (g_inb_ok i4) dX9_wellBy_126 ?_
          refine go_iadd (pc := 127) dX9_wellBy_127 ?_
          obtain ⟨i5, h⟩ := g_gd h
          refine go_iald (pc := 128) (n := 30) rfl (g_inb_ok i5) dX9_wellBy_128 ?_
          refine go_iadd (pc := 129) dX9_wellBy_129 ?_
          refine go_istore (pc := 130) (lv' := [some (.inr 41), none, none, some (.inl (v3 ||| ((1 : Int32) <<< ((M 67 v5.toNatClampNeg) &&& 31)))), some (.inl (v4 + (M 69 (((6 : Int32) * v5) + (M 67 v5.toNatClampNeg)).toNatClampNeg))), some (.inl v5)]) dX9_wellBy_130 (by decide) rfl ?_
          refine go_iinc (pc := 132) (v := (1 : Int32)) (lv' := [some (.inr 41), none, none, some (.inl (v3 ||| ((1 : Int32) <<< ((M 67 v5.toNatClampNeg) &&& 31)))), some (.inl (v4 + (M 69 (((6 : Int32) * v5) + (M 67 v5.toNatClampNeg)).toNatClampNeg))), some (.inl (v5 + (1 : Int32)))]) dX9_wellBy_132 rfl (by decide) (by decide) rfl ?_
          refine go_goto (pc := 135) (tgt := 53) dX9_wellBy_135 (by decide) ?_
          exact go_to (ih _ _ _ _ h) (And.intro rfl (And.intro rfl (And.intro rfl (And.intro rfl trivial))))
        · replace h := (if_pos e6).symm.trans h
          refine go_bipush (pc := 94) (v := (-9 : Int32)) dX9_wellBy_94 (by decide) ?_
          exact go_iret (pc := 96) (Option.some.inj h).symm rfl dX9_wellBy_96 rfl
      · replace h := (if_pos e7).symm.trans h
        refine go_goto (pc := 76) (tgt := 132) dX9_wellBy_76 (by decide) ?_
        refine go_iinc (pc := 132) (v := (1 : Int32)) (lv' := [some (.inr 41), none, none, some (.inl v3), some (.inl v4), some (.inl (v5 + (1 : Int32)))]) dX9_wellBy_132 rfl (by decide) (by decide) rfl ?_
        refine go_goto (pc := 135) (tgt := 53) dX9_wellBy_135 (by decide) ?_
        exact go_to (ih _ _ _ _ h) (And.intro rfl (And.intro rfl (And.intro rfl (And.intro rfl trivial))))
def x_X9_wellBy_L15   : Nat → Int32 → Int32 → Int32 → Int32 → g_M → Option (Int32 × g_M)
  | 0, _, _, _, _, _ => none
  | n + 1, v2, v3, v4, v5, M => (if v5 < 0 then (x_X9_wellBy_L53   g_F v3 v4 (0 : Int32) M) else ((if ((M 41 15) + (1 : Int32)) = 0 then none else (if g_inb v5 5 = true then ((if (((g_upd M 67 v5.toNatClampNeg (v2 - v2 / ((M 41 15) + (1 : Int32)) * ((M 41 15) + (1 : Int32)))) 41 15) + (1 : Int32)) = 0 then none else x_X9_wellBy_L15   n (v2 / (((g_upd M 67 v5.toNatClampNeg (v2 - v2 / ((M 41 15) + (1 : Int32)) * ((M 41 15) + (1 : Int32)))) 41 15) + (1 : Int32))) v3 v4 (v5 + (-1 : Int32)) (g_upd M 67 v5.toNatClampNeg (v2 - v2 / ((M 41 15) + (1 : Int32)) * ((M 41 15) + (1 : Int32)))))) else none))))
set_option maxHeartbeats 4000000 in
set_option maxRecDepth 100000 in
theorem z_X9_wellBy_L15 {X : g_X} (hok : g_ok X)  {r : Int32 × g_M}  : ∀ (n : Nat) (v2 : Int32) (v3 : Int32) (v4 : Int32) (v5 : Int32) (M : g_M), x_X9_wellBy_L15   n v2 v3 v4 v5 M = some r → g_Go X cX9_wellBy RX9 6 (some .int) 0 0 r 15 [some (.inr 41), none, some (.inl v2), some (.inl v3), some (.inl v4), some (.inl v5)] [] M := by
  intro n
  induction n with
  | zero =>
    intro v2 v3 v4 v5 M h
    rw [x_X9_wellBy_L15] at h
    cases h
  | succ n ih =>
    intro v2 v3 v4 v5 M h
    rw [x_X9_wellBy_L15] at h
    refine go_iload (pc := 15) dX9_wellBy_15 rfl ?_
    refine go_if_lt (pc := 17) (tgt := 50) dX9_wellBy_17 (by decide) (fun e12 => ?_) (fun e12 => ?_)
    · replace h := (if_pos e12).symm.trans h
      refine go_iconst (pc := 50) (v := (0 : Int32)) dX9_wellBy_50 (by decide) ?_
      refine go_istore (pc := 51) (lv' := [some (.inr 41), none, some (.inl v2), some (.inl v3), some (.inl v4), some (.inl (0 : Int32))]) dX9_wellBy_51 (by decide) rfl ?_
      exact go_to (z_X9_wellBy_L53 hok   g_F _ _ _ _ h) (And.intro rfl (And.intro rfl (And.intro rfl (And.intro rfl trivial))))
    · replace h := (if_neg e12).symm.trans h
      refine go_aload_n (pc := 20) dX9_wellBy_20 rfl ?_
      refine gf_9_85 (pc := 21) dX9_wellBy_21 ?_
      refine go_iload (pc := 24) dX9_wellBy_24 rfl ?_
      refine go_iload_n (pc := 26) dX9_wellBy_26 rfl ?_
      refine go_aload_n (pc := 27) dX9_wellBy_27 rfl ?_
      refine gf_9_110 (pc := 28) dX9_wellBy_28 ?_
      refine go_iconst (pc := 31) (v := (1 : Int32)) dX9_wellBy_31 (by decide) ?_
      refine go_iadd (pc := 32) dX9_wellBy_32 ?_
      obtain ⟨z9, h⟩ := g_nz h
      refine go_irem (pc := 33) dX9_wellBy_33 z9 ?_
      obtain ⟨i10, h⟩ := g_gd h
      refine go_iast (pc := 34) (n := 5) rfl (g_inb_ok i10) dX9_wellBy_34 ?_
      refine go_iload_n (pc := 35) dX9_wellBy_35 rfl ?_
      refine go_aload_n (pc := 36) dX9_wellBy_36 rfl ?_
      refine gf_9_110 (pc := 37) dX9_wellBy_37 ?_
      refine go_iconst (pc := 40) (v := (1 : Int32)) dX9_wellBy_40 (by decide) ?_
      refine go_iadd (pc := 41) dX9_wellBy_41 ?_
      obtain ⟨z11, h⟩ := g_nz h
      refine go_idiv (pc := 42) dX9_wellBy_42 z11 ?_
      refine go_istore_n (pc := 43) (lv' := [some (.inr 41), none, some (.inl (v2 / (((g_upd M 67 v5.toNatClampNeg (v2 - v2 / ((M 41 15) + (1 : Int32)) * ((M 41 15) + (1 : Int32)))) 41 15) + (1 : Int32)))), some (.inl v3), some (.inl v4), some (.inl v5)]) dX9_wellBy_43 (by decide) rfl ?_
      refine go_iinc (pc := 44) (v := (-1 : Int32)) (lv' := [some (.inr 41), none, some (.inl (v2 / (((g_upd M 67 v5.toNatClampNeg (v2 - v2 / ((M 41 15) + (1 : Int32)) * ((M 41 15) + (1 : Int32)))) 41 15) + (1 : Int32)))), some (.inl v3), some (.inl v4), some (.inl (v5 + (-1 : Int32)))]) dX9_wellBy_44 rfl (by decide) (by decide) rfl ?_
      refine go_goto (pc := 47) (tgt := 15) dX9_wellBy_47 (by decide) ?_
      exact go_to (ih _ _ _ _ _ h) (And.intro rfl (And.intro rfl (And.intro rfl (And.intro rfl (And.intro rfl trivial)))))
def x_X9_wellBy  (p1 : Int32) (M : g_M) : Option (Int32 × g_M) := (x_X9_wellBy_L15   g_F p1 (0 : Int32) (0 : Int32) ((M 41 16) - (1 : Int32)) M)
set_option maxHeartbeats 4000000 in
set_option maxRecDepth 100000 in
theorem z_X9_wellBy {X : g_X} (hok : g_ok X)  {p1 : Int32} {M : g_M} {r : Int32 × g_M} (h : x_X9_wellBy p1 M = some r) : g_Con X yX9_wellBy cX9_wellBy 6 (some .int) 0 0 [.inr 41, .inl p1] M r := by
  rw [x_X9_wellBy] at h
  refine g_con hok (plainFor_of_name (by decide +kernel)) (Nat.le_of_ble_eq_true rfl) (go_to (lv2 := [some (.inr 41), some (.inl p1), none, none, none, none]) (own := RX9) ?_ (And.intro rfl (And.intro rfl trivial)))
  refine go_iload_n (pc := 0) dX9_wellBy_0 rfl ?_
  refine go_istore_n (pc := 1) (lv' := [some (.inr 41), some (.inl p1), some (.inl p1), none, none, none]) dX9_wellBy_1 (by decide) rfl ?_
  refine go_iconst (pc := 2) (v := (0 : Int32)) dX9_wellBy_2 (by decide) ?_
  refine go_istore_n (pc := 3) (lv' := [some (.inr 41), some (.inl p1), some (.inl p1), some (.inl (0 : Int32)), none, none]) dX9_wellBy_3 (by decide) rfl ?_
  refine go_iconst (pc := 4) (v := (0 : Int32)) dX9_wellBy_4 (by decide) ?_
  refine go_istore (pc := 5) (lv' := [some (.inr 41), some (.inl p1), some (.inl p1), some (.inl (0 : Int32)), some (.inl (0 : Int32)), none]) dX9_wellBy_5 (by decide) rfl ?_
  refine go_aload_n (pc := 7) dX9_wellBy_7 rfl ?_
  refine gf_9_114 (pc := 8) dX9_wellBy_8 ?_
  refine go_iconst (pc := 11) (v := (1 : Int32)) dX9_wellBy_11 (by decide) ?_
  refine go_isub (pc := 12) dX9_wellBy_12 ?_
  refine go_istore (pc := 13) (lv' := [some (.inr 41), some (.inl p1), some (.inl p1), some (.inl (0 : Int32)), some (.inl (0 : Int32)), some (.inl ((M 41 16) - (1 : Int32)))]) dX9_wellBy_13 (by decide) rfl ?_
  exact go_to (z_X9_wellBy_L15 hok   g_F _ _ _ _ _ h) (And.intro rfl (And.intro rfl (And.intro rfl (And.intro rfl (And.intro rfl trivial)))))
def x_X9_berths_L155   : Nat → Int32 → Int32 → Int32 → Int32 → g_M → Option (Int32 × g_M)
  | 0, _, _, _, _, _ => none
  | n + 1, v1, v4, v5, v6, M => (if v6 < 0 then (if v1 = 0 then (some (v4, M)) else (some (v5, M))) else ((if g_inb v6 5 = true then (if (M 68 v6.toNatClampNeg) = (M 41 15) then (x_X9_berths_L155   n v1 v4 (((10 : Int32) * v5) + (9 : Int32)) (v6 + (-1 : Int32)) M) else ((if g_inb v6 5 = true then (x_X9_berths_L155   n v1 v4 (((10 : Int32) * v5) + (M 68 v6.toNatClampNeg)) (v6 + (-1 : Int32)) M) else none))) else none)))
set_option maxHeartbeats 4000000 in
set_option maxRecDepth 100000 in
theorem z_X9_berths_L155 {X : g_X} (hok : g_ok X)  {r : Int32 × g_M}  : ∀ (n : Nat) (v1 : Int32) (v4 : Int32) (v5 : Int32) (v6 : Int32) (M : g_M), x_X9_berths_L155   n v1 v4 v5 v6 M = some r → g_Go X cX9_berths RX9 8 (some .int) 7 162 r 155 [some (.inr 41), some (.inl v1), none, none, some (.inl v4), some (.inl v5), some (.inl v6), none] [] M := by
  intro n
  induction n with
  | zero =>
    intro v1 v4 v5 v6 M h
    rw [x_X9_berths_L155] at h
    cases h
  | succ n ih =>
    intro v1 v4 v5 v6 M h
    rw [x_X9_berths_L155] at h
    refine go_iload (pc := 155) dX9_berths_155 rfl ?_
    refine go_if_lt (pc := 157) (tgt := 200) dX9_berths_157 (by decide) (fun e5 => ?_) (fun e5 => ?_)
    · replace h := (if_pos e5).symm.trans h
      refine go_iload_n (pc := 200) dX9_berths_200 rfl ?_
      refine go_if_ne (pc := 201) (tgt := 209) dX9_berths_201 (by decide) (fun e1 => ?_) (fun e1 => ?_)
      · replace h := (if_neg e1).symm.trans h
        refine go_iload (pc := 209) dX9_berths_209 rfl ?_
        exact go_iret (pc := 211) (Option.some.inj h).symm rfl dX9_berths_211 rfl
      · replace h := (if_pos e1).symm.trans h
        refine go_iload (pc := 204) dX9_berths_204 rfl ?_
        refine go_goto (pc := 206) (tgt := 211) dX9_berths_206 (by decide) ?_
        exact go_iret (pc := 211) (Option.some.inj h).symm rfl dX9_berths_211 rfl
    · replace h := (if_neg e5).symm.trans h
      refine go_bipush (pc := 160) (v := (10 : Int32)) dX9_berths_160 (by decide) ?_
      refine go_iload (pc := 162) dX9_berths_162 rfl ?_
      refine go_imul (pc := 164) dX9_berths_164 ?_
      refine go_aload_n (pc := 165) dX9_berths_165 rfl ?_
      refine gf_9_88 (pc := 166) dX9_berths_166 ?_
      refine go_iload (pc := 169) dX9_berths_169 rfl ?_
      obtain ⟨i2, h⟩ := g_gd h
      refine go_iald (pc := 171) (n := 5) rfl (g_inb_ok i2) dX9_berths_171 ?_
      refine go_aload_n (pc := 172) dX9_berths_172 rfl ?_
      refine gf_9_110 (pc := 173) dX9_berths_173 ?_
      refine go_icmp_ne (pc := 176) (tgt := 184) dX9_berths_176 (by decide) (fun e4 => ?_) (fun e4 => ?_)
      · replace h := (if_neg e4).symm.trans h
        refine go_aload_n (pc := 184) dX9_berths_184 rfl ?_
        refine gf_9_88 (pc := 185) dX9_berths_185 ?_
        refine go_iload (pc := 188) dX9_berths_188 rfl ?_
        obtain ⟨i3, h⟩ := g_gd h
        refine go_iald (pc := 190) (n := 5) rfl (g_inb_ok i3) dX9_berths_190 ?_
        refine go_iadd (pc := 191) dX9_berths_191 ?_
        refine go_istore (pc := 192) (lv' := [some (.inr 41), some (.inl v1), none, none, some (.inl v4), some (.inl (((10 : Int32) * v5) + (M 68 v6.toNatClampNeg))), some (.inl v6), none]) dX9_berths_192 (by decide) rfl ?_
        refine go_iinc (pc := 194) (v := (-1 : Int32)) (lv' := [some (.inr 41), some (.inl v1), none, none, some (.inl v4), some (.inl (((10 : Int32) * v5) + (M 68 v6.toNatClampNeg))), some (.inl (v6 + (-1 : Int32))), none]) dX9_berths_194 rfl (by decide) (by decide) rfl ?_
        refine go_goto (pc := 197) (tgt := 155) dX9_berths_197 (by decide) ?_
        exact go_to (ih _ _ _ _ _ h) (And.intro rfl (And.intro rfl (And.intro rfl (And.intro rfl (And.intro rfl trivial)))))
      · replace h := (if_pos e4).symm.trans h
        refine go_bipush (pc := 179) (v := (9 : Int32)) dX9_berths_179 (by decide) ?_
        refine go_goto (pc := 181) (tgt := 191) dX9_berths_181 (by decide) ?_
        refine go_iadd (pc := 191) dX9_berths_191 ?_
        refine go_istore (pc := 192) (lv' := [some (.inr 41), some (.inl v1), none, none, some (.inl v4), some (.inl (((10 : Int32) * v5) + (9 : Int32))), some (.inl v6), none]) dX9_berths_192 (by decide) rfl ?_
        refine go_iinc (pc := 194) (v := (-1 : Int32)) (lv' := [some (.inr 41), some (.inl v1), none, none, some (.inl v4), some (.inl (((10 : Int32) * v5) + (9 : Int32))), some (.inl (v6 + (-1 : Int32))), none]) dX9_berths_194 rfl (by decide) (by decide) rfl ?_
        refine go_goto (pc := 197) (tgt := 155) dX9_berths_197 (by decide) ?_
        exact go_to (ih _ _ _ _ _ h) (And.intro rfl (And.intro rfl (And.intro rfl (And.intro rfl (And.intro rfl trivial)))))
def x_X9_berths_L109  (k78 : Int32 → Int32 → Int32 → Int32 → g_M → Option (Int32 × g_M)) : Nat → Int32 → Int32 → Int32 → Int32 → Int32 → g_M → Option (Int32 × g_M)
  | 0, _, _, _, _, _, _ => none
  | n + 1, v1, v3, v4, v5, v7, M => (if (M 41 16) ≤ v7 then (k78 v1 v3 v4 (v5 + (1 : Int32)) M) else ((if g_inb v7 5 = true then ((if g_inb v7 5 = true then (x_X9_berths_L109  k78 n v1 v3 v4 v5 (v7 + (1 : Int32)) (g_upd M 68 v7.toNatClampNeg (M 67 v7.toNatClampNeg))) else none)) else none)))
set_option maxHeartbeats 4000000 in
set_option maxRecDepth 100000 in
theorem z_X9_berths_L109 {X : g_X} (hok : g_ok X)  {r : Int32 × g_M} {k78 : Int32 → Int32 → Int32 → Int32 → g_M → Option (Int32 × g_M)} (hk78 : ∀ (v1 : Int32) (v3 : Int32) (v4 : Int32) (v5 : Int32) (M : g_M), k78 v1 v3 v4 v5 M = some r → g_Go X cX9_berths RX9 8 (some .int) 7 162 r 78 [some (.inr 41), some (.inl v1), none, some (.inl v3), some (.inl v4), some (.inl v5), none, none] [] M) : ∀ (n : Nat) (v1 : Int32) (v3 : Int32) (v4 : Int32) (v5 : Int32) (v7 : Int32) (M : g_M), x_X9_berths_L109  k78 n v1 v3 v4 v5 v7 M = some r → g_Go X cX9_berths RX9 8 (some .int) 7 162 r 109 [some (.inr 41), some (.inl v1), none, some (.inl v3), some (.inl v4), some (.inl v5), none, some (.inl v7)] [] M := by
  intro n
  induction n with
  | zero =>
    intro v1 v3 v4 v5 v7 M h
    rw [x_X9_berths_L109] at h
    cases h
  | succ n ih =>
    intro v1 v3 v4 v5 v7 M h
    rw [x_X9_berths_L109] at h
    refine go_iload (pc := 109) dX9_berths_109 rfl ?_
    refine go_aload_n (pc := 111) dX9_berths_111 rfl ?_
    refine gf_9_114 (pc := 112) dX9_berths_112 ?_
    refine go_icmp_ge (pc := 115) (tgt := 138) dX9_berths_115 (by decide) (fun e8 => ?_) (fun e8 => ?_)
    · replace h := (if_pos e8).symm.trans h
      refine go_iinc (pc := 138) (v := (1 : Int32)) (lv' := [some (.inr 41), some (.inl v1), none, some (.inl v3), some (.inl v4), some (.inl (v5 + (1 : Int32))), none, some (.inl v7)]) dX9_berths_138 rfl (by decide) (by decide) rfl ?_
      refine go_goto (pc := 141) (tgt := 78) dX9_berths_141 (by decide) ?_
      exact go_to (hk78 _ _ _ _ _ h) (And.intro rfl (And.intro rfl (And.intro rfl (And.intro rfl (And.intro rfl trivial)))))
    · replace h := (if_neg e8).symm.trans h
      refine go_aload_n (pc := 118) dX9_berths_118 rfl ?_
      refine gf_9_88 (pc := 119) dX9_berths_119 ?_
      refine go_iload (pc := 122) dX9_berths_122 rfl ?_
      refine go_aload_n (pc := 124) dX9_berths_124 rfl ?_
      refine gf_9_85 (pc := 125) dX9_berths_125 ?_
      refine go_iload (pc := 128) dX9_berths_128 rfl ?_
      obtain ⟨i6, h⟩ := g_gd h
      refine go_iald (pc := 130) (n := 5) rfl (g_inb_ok i6) dX9_berths_130 ?_
      obtain ⟨i7, h⟩ := g_gd h
      refine go_iast (pc := 131) (n := 5) rfl (g_inb_ok i7) dX9_berths_131 ?_
      refine go_iinc (pc := 132) (v := (1 : Int32)) (lv' := [some (.inr 41), some (.inl v1), none, some (.inl v3), some (.inl v4), some (.inl v5), none, some (.inl (v7 + (1 : Int32)))]) dX9_berths_132 rfl (by decide) (by decide) rfl ?_
      refine go_goto (pc := 135) (tgt := 109) dX9_berths_135 (by decide) ?_
      exact go_to (ih _ _ _ _ _ _ h) (And.intro rfl (And.intro rfl (And.intro rfl (And.intro rfl (And.intro rfl (And.intro rfl trivial))))))
def x_X9_berths_L78   : Nat → Int32 → Int32 → Int32 → Int32 → g_M → Option (Int32 × g_M)
  | 0, _, _, _, _, _ => none
  | n + 1, v1, v3, v4, v5, M => (if v3 ≤ v5 then (x_X9_berths_L155   g_F v1 v4 (0 : Int32) ((M 41 16) - (1 : Int32)) M) else (((x_X9_wellBy v5 M).bind fun u9 => if v4 < u9.1 then (x_X9_berths_L109  (x_X9_berths_L78   n) g_F v1 v3 u9.1 v5 (0 : Int32) u9.2) else (x_X9_berths_L78   n v1 v3 v4 (v5 + (1 : Int32)) u9.2))))
set_option maxHeartbeats 4000000 in
set_option maxRecDepth 100000 in
theorem z_X9_berths_L78 {X : g_X} (hok : g_ok X)  {r : Int32 × g_M}  : ∀ (n : Nat) (v1 : Int32) (v3 : Int32) (v4 : Int32) (v5 : Int32) (M : g_M), x_X9_berths_L78   n v1 v3 v4 v5 M = some r → g_Go X cX9_berths RX9 8 (some .int) 7 162 r 78 [some (.inr 41), some (.inl v1), none, some (.inl v3), some (.inl v4), some (.inl v5), none, none] [] M := by
  intro n
  induction n with
  | zero =>
    intro v1 v3 v4 v5 M h
    rw [x_X9_berths_L78] at h
    cases h
  | succ n ih =>
    intro v1 v3 v4 v5 M h
    rw [x_X9_berths_L78] at h
    refine go_iload (pc := 78) dX9_berths_78 rfl ?_
    refine go_iload_n (pc := 80) dX9_berths_80 rfl ?_
    refine go_icmp_ge (pc := 81) (tgt := 144) dX9_berths_81 (by decide) (fun e12 => ?_) (fun e12 => ?_)
    · replace h := (if_pos e12).symm.trans h
      refine go_iconst (pc := 144) (v := (0 : Int32)) dX9_berths_144 (by decide) ?_
      refine go_istore (pc := 145) (lv' := [some (.inr 41), some (.inl v1), none, some (.inl v3), some (.inl v4), some (.inl (0 : Int32)), none, none]) dX9_berths_145 (by decide) rfl ?_
      refine go_aload_n (pc := 147) dX9_berths_147 rfl ?_
      refine gf_9_114 (pc := 148) dX9_berths_148 ?_
      refine go_iconst (pc := 151) (v := (1 : Int32)) dX9_berths_151 (by decide) ?_
      refine go_isub (pc := 152) dX9_berths_152 ?_
      refine go_istore (pc := 153) (lv' := [some (.inr 41), some (.inl v1), none, some (.inl v3), some (.inl v4), some (.inl (0 : Int32)), some (.inl ((M 41 16) - (1 : Int32))), none]) dX9_berths_153 (by decide) rfl ?_
      exact go_to (z_X9_berths_L155 hok   g_F _ _ _ _ _ h) (And.intro rfl (And.intro rfl (And.intro rfl (And.intro rfl (And.intro rfl trivial)))))
    · replace h := (if_neg e12).symm.trans h
      refine go_aload_n (pc := 84) dX9_berths_84 rfl ?_
      refine go_iload (pc := 85) dX9_berths_85 rfl ?_
      obtain ⟨u9, c10, h⟩ := g_bd h
      refine go_callV (pc := 87) (as := [.inl v5]) (st := []) (r := u9.1) (M1 := u9.2) (z_X9_wellBy hok  c10) cw_X9_wellBy ml_X9_303 (show g_lay[41]? = some _ from rfl) rfl rfl (by decide) (Nat.le_of_ble_eq_true rfl) rfl dX9_berths_87 ?_
      refine go_istore (pc := 90) (lv' := [some (.inr 41), some (.inl v1), none, some (.inl v3), some (.inl v4), some (.inl v5), some (.inl u9.1), none]) dX9_berths_90 (by decide) rfl ?_
      refine go_iload (pc := 92) dX9_berths_92 rfl ?_
      refine go_iload (pc := 94) dX9_berths_94 rfl ?_
      refine go_icmp_gt (pc := 96) (tgt := 102) dX9_berths_96 (by decide) (fun e11 => ?_) (fun e11 => ?_)
      · replace h := (if_pos e11).symm.trans h
        refine go_iload (pc := 102) dX9_berths_102 rfl ?_
        refine go_istore (pc := 104) (lv' := [some (.inr 41), some (.inl v1), none, some (.inl v3), some (.inl u9.1), some (.inl v5), some (.inl u9.1), none]) dX9_berths_104 (by decide) rfl ?_
        refine go_iconst (pc := 106) (v := (0 : Int32)) dX9_berths_106 (by decide) ?_
        refine go_istore (pc := 107) (lv' := [some (.inr 41), some (.inl v1), none, some (.inl v3), some (.inl u9.1), some (.inl v5), some (.inl u9.1), some (.inl (0 : Int32))]) dX9_berths_107 (by decide) rfl ?_
        exact go_to (z_X9_berths_L109 hok  (ih) g_F _ _ _ _ _ _ h) (And.intro rfl (And.intro rfl (And.intro rfl (And.intro rfl (And.intro rfl (And.intro rfl trivial))))))
      · replace h := (if_neg e11).symm.trans h
        refine go_goto (pc := 99) (tgt := 138) dX9_berths_99 (by decide) ?_
        refine go_iinc (pc := 138) (v := (1 : Int32)) (lv' := [some (.inr 41), some (.inl v1), none, some (.inl v3), some (.inl v4), some (.inl (v5 + (1 : Int32))), some (.inl u9.1), none]) dX9_berths_138 rfl (by decide) (by decide) rfl ?_
        refine go_goto (pc := 141) (tgt := 78) dX9_berths_141 (by decide) ?_
        exact go_to (ih _ _ _ _ _ h) (And.intro rfl (And.intro rfl (And.intro rfl (And.intro rfl (And.intro rfl trivial)))))
def x_X9_berths_L43   : Nat → Int32 → Int32 → Int32 → g_M → Option (Int32 × g_M)
  | 0, _, _, _, _ => none
  | n + 1, v1, v3, v4, M => (if (M 41 16) ≤ v4 then (((x_X9_findWellAt M).bind fun u13 => x_X9_berths_L78   g_F v1 v3 (-9 : Int32) (0 : Int32) u13.2)) else (x_X9_berths_L43   n v1 (v3 * ((M 41 15) + (1 : Int32))) (v4 + (1 : Int32)) M))
set_option maxHeartbeats 4000000 in
set_option maxRecDepth 100000 in
theorem z_X9_berths_L43 {X : g_X} (hok : g_ok X)  {r : Int32 × g_M}  : ∀ (n : Nat) (v1 : Int32) (v3 : Int32) (v4 : Int32) (M : g_M), x_X9_berths_L43   n v1 v3 v4 M = some r → g_Go X cX9_berths RX9 8 (some .int) 7 162 r 43 [some (.inr 41), some (.inl v1), none, some (.inl v3), some (.inl v4), none, none, none] [] M := by
  intro n
  induction n with
  | zero =>
    intro v1 v3 v4 M h
    rw [x_X9_berths_L43] at h
    cases h
  | succ n ih =>
    intro v1 v3 v4 M h
    rw [x_X9_berths_L43] at h
    refine go_iload (pc := 43) dX9_berths_43 rfl ?_
    refine go_aload_n (pc := 45) dX9_berths_45 rfl ?_
    refine gf_9_114 (pc := 46) dX9_berths_46 ?_
    refine go_icmp_ge (pc := 49) (tgt := 67) dX9_berths_49 (by decide) (fun e15 => ?_) (fun e15 => ?_)
    · replace h := (if_pos e15).symm.trans h
      refine go_aload_n (pc := 67) dX9_berths_67 rfl ?_
      obtain ⟨u13, c14, h⟩ := g_bd h
      refine go_callV (pc := 68) (as := []) (st := []) (r := u13.1) (M1 := u13.2) (z_X9_findWellAt hok  c14) cw_X9_findWellAt ml_X9_300 (show g_lay[41]? = some _ from rfl) rfl rfl (by decide) (Nat.le_of_ble_eq_true rfl) rfl dX9_berths_68 ?_
      refine go_bipush (pc := 71) (v := (-9 : Int32)) dX9_berths_71 (by decide) ?_
      refine go_istore (pc := 73) (lv' := [some (.inr 41), some (.inl v1), none, some (.inl v3), some (.inl (-9 : Int32)), none, none, none]) dX9_berths_73 (by decide) rfl ?_
      refine go_iconst (pc := 75) (v := (0 : Int32)) dX9_berths_75 (by decide) ?_
      refine go_istore (pc := 76) (lv' := [some (.inr 41), some (.inl v1), none, some (.inl v3), some (.inl (-9 : Int32)), some (.inl (0 : Int32)), none, none]) dX9_berths_76 (by decide) rfl ?_
      exact go_to (z_X9_berths_L78 hok   g_F _ _ _ _ _ h) (And.intro rfl (And.intro rfl (And.intro rfl (And.intro rfl (And.intro rfl trivial)))))
    · replace h := (if_neg e15).symm.trans h
      refine go_iload_n (pc := 52) dX9_berths_52 rfl ?_
      refine go_aload_n (pc := 53) dX9_berths_53 rfl ?_
      refine gf_9_110 (pc := 54) dX9_berths_54 ?_
      refine go_iconst (pc := 57) (v := (1 : Int32)) dX9_berths_57 (by decide) ?_
      refine go_iadd (pc := 58) dX9_berths_58 ?_
      refine go_imul (pc := 59) dX9_berths_59 ?_
      refine go_istore_n (pc := 60) (lv' := [some (.inr 41), some (.inl v1), none, some (.inl (v3 * ((M 41 15) + (1 : Int32)))), some (.inl v4), none, none, none]) dX9_berths_60 (by decide) rfl ?_
      refine go_iinc (pc := 61) (v := (1 : Int32)) (lv' := [some (.inr 41), some (.inl v1), none, some (.inl (v3 * ((M 41 15) + (1 : Int32)))), some (.inl (v4 + (1 : Int32))), none, none, none]) dX9_berths_61 rfl (by decide) (by decide) rfl ?_
      refine go_goto (pc := 64) (tgt := 43) dX9_berths_64 (by decide) ?_
      exact go_to (ih _ _ _ _ h) (And.intro rfl (And.intro rfl (And.intro rfl (And.intro rfl trivial))))
def x_X9_berths_L27   (v1 : Int32) (s0 : Int32) (M : g_M) : Option (Int32 × g_M) := (if s0 = 0 then (x_X9_berths_L43   g_F v1 (1 : Int32) (0 : Int32) M) else (((x_X9_no s0 M).bind fun u16 => some (u16.1, u16.2))))
set_option maxHeartbeats 4000000 in
set_option maxRecDepth 100000 in
theorem z_X9_berths_L27 {X : g_X} (hok : g_ok X)  {r : Int32 × g_M}  {v1 : Int32} {s0 : Int32} {M : g_M} (h : x_X9_berths_L27   v1 s0 M = some r) : g_Go X cX9_berths RX9 8 (some .int) 7 162 r 27 [some (.inr 41), some (.inl v1), none, none, none, none, none, none] [.inl s0] M := by
  rw [x_X9_berths_L27] at h
  refine go_istore_n (pc := 27) (lv' := [some (.inr 41), some (.inl v1), some (.inl s0), none, none, none, none, none]) dX9_berths_27 (by decide) rfl ?_
  refine go_iload_n (pc := 28) dX9_berths_28 rfl ?_
  refine go_if_eq (pc := 29) (tgt := 38) dX9_berths_29 (by decide) (fun e18 => ?_) (fun e18 => ?_)
  · replace h := (if_pos e18).symm.trans h
    refine go_iconst (pc := 38) (v := (1 : Int32)) dX9_berths_38 (by decide) ?_
    refine go_istore_n (pc := 39) (lv' := [some (.inr 41), some (.inl v1), some (.inl s0), some (.inl (1 : Int32)), none, none, none, none]) dX9_berths_39 (by decide) rfl ?_
    refine go_iconst (pc := 40) (v := (0 : Int32)) dX9_berths_40 (by decide) ?_
    refine go_istore (pc := 41) (lv' := [some (.inr 41), some (.inl v1), some (.inl s0), some (.inl (1 : Int32)), some (.inl (0 : Int32)), none, none, none]) dX9_berths_41 (by decide) rfl ?_
    exact go_to (z_X9_berths_L43 hok   g_F _ _ _ _ h) (And.intro rfl (And.intro rfl (And.intro rfl (And.intro rfl trivial))))
  · replace h := (if_neg e18).symm.trans h
    refine go_aload_n (pc := 32) dX9_berths_32 rfl ?_
    refine go_iload_n (pc := 33) dX9_berths_33 rfl ?_
    obtain ⟨u16, c17, h⟩ := g_bd h
    refine go_callV (pc := 34) (as := [.inl s0]) (st := []) (r := u16.1) (M1 := u16.2) (z_X9_no hok  c17) cw_X9_no ml_X9_124 (show g_lay[41]? = some _ from rfl) rfl rfl (by decide) (Nat.le_of_ble_eq_true rfl) rfl dX9_berths_34 ?_
    exact go_iret (pc := 37) (Option.some.inj h).symm rfl dX9_berths_37 rfl
def x_X9_berths  (p1 : Int32) (M : g_M) : Option (Int32 × g_M) := (((x_X9_isIn p1 (0 : Int32) (1 : Int32) M).bind fun u19 => if u19.1 = 0 then (x_X9_berths_L27   p1 (-2 : Int32) u19.2) else (if (u19.2 41 16) = 0 then (x_X9_berths_L27   p1 (-3 : Int32) u19.2) else (x_X9_berths_L27   p1 (0 : Int32) u19.2))))
set_option maxHeartbeats 4000000 in
set_option maxRecDepth 100000 in
theorem z_X9_berths {X : g_X} (hok : g_ok X)  {p1 : Int32} {M : g_M} {r : Int32 × g_M} (h : x_X9_berths p1 M = some r) : g_Con X yX9_berths cX9_berths 8 (some .int) 7 162 [.inr 41, .inl p1] M r := by
  rw [x_X9_berths] at h
  refine g_con hok (plainFor_of_name (by decide +kernel)) (Nat.le_of_ble_eq_true rfl) (go_to (lv2 := [some (.inr 41), some (.inl p1), none, none, none, none, none, none]) (own := RX9) ?_ (And.intro rfl (And.intro rfl trivial)))
  refine go_iload_n (pc := 0) dX9_berths_0 rfl ?_
  refine go_iconst (pc := 1) (v := (0 : Int32)) dX9_berths_1 (by decide) ?_
  refine go_iconst (pc := 2) (v := (1 : Int32)) dX9_berths_2 (by decide) ?_
  obtain ⟨u19, c20, h⟩ := g_bd h
  refine go_callS (pc := 3) (as := [.inl p1, .inl (0 : Int32), .inl (1 : Int32)]) (st := []) (r := u19.1) (M1 := u19.2) (z_X9_isIn hok  c20) cw_X9_isIn ml_X9_135 (by decide) (Nat.le_of_ble_eq_true rfl) rfl dX9_berths_3 ?_
  refine go_if_ne (pc := 6) (tgt := 14) dX9_berths_6 (by decide) (fun e22 => ?_) (fun e22 => ?_)
  · replace h := (if_neg e22).symm.trans h
    refine go_aload_n (pc := 14) dX9_berths_14 rfl ?_
    refine gf_9_114 (pc := 15) dX9_berths_15 ?_
    refine go_if_ne (pc := 18) (tgt := 26) dX9_berths_18 (by decide) (fun e21 => ?_) (fun e21 => ?_)
    · replace h := (if_neg e21).symm.trans h
      refine go_iconst (pc := 26) (v := (0 : Int32)) dX9_berths_26 (by decide) ?_
      exact go_to (z_X9_berths_L27 hok   h) (And.intro rfl (And.intro rfl trivial))
    · replace h := (if_pos e21).symm.trans h
      refine go_bipush (pc := 21) (v := (-3 : Int32)) dX9_berths_21 (by decide) ?_
      refine go_goto (pc := 23) (tgt := 27) dX9_berths_23 (by decide) ?_
      exact go_to (z_X9_berths_L27 hok   h) (And.intro rfl (And.intro rfl trivial))
  · replace h := (if_pos e22).symm.trans h
    refine go_bipush (pc := 9) (v := (-2 : Int32)) dX9_berths_9 (by decide) ?_
    refine go_goto (pc := 11) (tgt := 27) dX9_berths_11 (by decide) ?_
    exact go_to (z_X9_berths_L27 hok   h) (And.intro rfl (And.intro rfl trivial))
def x_X9_leastOr  (p1 : Int32) (M : g_M) : Option (Int32 × g_M) := (((x_X9_leastLength p1 M).bind fun u1 => if 0 ≤ u1.1 then (some (u1.1, u1.2)) else (some ((99 : Int32), u1.2))))
set_option maxHeartbeats 4000000 in
set_option maxRecDepth 100000 in
theorem z_X9_leastOr {X : g_X} (hok : g_ok X)  {p1 : Int32} {M : g_M} {r : Int32 × g_M} (h : x_X9_leastOr p1 M = some r) : g_Con X yX9_leastOr cX9_leastOr 3 (some .int) 5 115 [.inr 41, .inl p1] M r := by
  rw [x_X9_leastOr] at h
  refine g_con hok (plainFor_of_name (by decide +kernel)) (Nat.le_of_ble_eq_true rfl) (go_to (lv2 := [some (.inr 41), some (.inl p1), none]) (own := RX9) ?_ (And.intro rfl (And.intro rfl trivial)))
  refine go_aload_n (pc := 0) dX9_leastOr_0 rfl ?_
  refine go_iload_n (pc := 1) dX9_leastOr_1 rfl ?_
  obtain ⟨u1, c2, h⟩ := g_bd h
  refine go_callV (pc := 2) (as := [.inl p1]) (st := []) (r := u1.1) (M1 := u1.2) (z_X9_leastLength hok  c2) cw_X9_leastLength ml_X9_258 (show g_lay[41]? = some _ from rfl) rfl rfl (by decide) (Nat.le_of_ble_eq_true rfl) rfl dX9_leastOr_2 ?_
  refine go_istore_n (pc := 5) (lv' := [some (.inr 41), some (.inl p1), some (.inl u1.1)]) dX9_leastOr_5 (by decide) rfl ?_
  refine go_iload_n (pc := 6) dX9_leastOr_6 rfl ?_
  refine go_if_ge (pc := 7) (tgt := 15) dX9_leastOr_7 (by decide) (fun e3 => ?_) (fun e3 => ?_)
  · replace h := (if_pos e3).symm.trans h
    refine go_iload_n (pc := 15) dX9_leastOr_15 rfl ?_
    exact go_iret (pc := 16) (Option.some.inj h).symm rfl dX9_leastOr_16 rfl
  · replace h := (if_neg e3).symm.trans h
    refine go_bipush (pc := 10) (v := (99 : Int32)) dX9_leastOr_10 (by decide) ?_
    refine go_goto (pc := 12) (tgt := 16) dX9_leastOr_12 (by decide) ?_
    exact go_iret (pc := 16) (Option.some.inj h).symm rfl dX9_leastOr_16 rfl
def x_X9_saves  (p1 p2 : Int32) (M : g_M) : Option (Int32 × g_M) := (((x_X9_isBoat p1 M).bind fun u1 => if u1.1 = 0 then (((x_X9_lower (-1 : Int32) u1.2).bind fun u16 => some (u16.1, u16.2))) else (((x_X9_isIn p2 (0 : Int32) (5 : Int32) u1.2).bind fun u3 => if u3.1 = 0 then (((x_X9_lower (-2 : Int32) u3.2).bind fun u13 => some (u13.1, u13.2))) else ((if g_inb p1 5 = true then ((if g_inb p1 5 = true then (((x_X9_leastOr p1 (g_upd u3.2 48 p1.toNatClampNeg (0 : Int32))).bind fun u7 => (if g_inb p1 5 = true then (((x_X9_leastOr p1 (g_upd u7.2 48 p1.toNatClampNeg p2)).bind fun u10 => (if g_inb p1 5 = true then (some ((u7.1 - u10.1), (g_upd u10.2 48 p1.toNatClampNeg (u3.2 48 p1.toNatClampNeg)))) else none))) else none))) else none)) else none))))))
set_option maxHeartbeats 4000000 in
set_option maxRecDepth 100000 in
theorem z_X9_saves {X : g_X} (hok : g_ok X)  {p1 p2 : Int32} {M : g_M} {r : Int32 × g_M} (h : x_X9_saves p1 p2 M = some r) : g_Con X yX9_saves cX9_saves 5 (some .int) 6 137 [.inr 41, .inl p1, .inl p2] M r := by
  rw [x_X9_saves] at h
  refine g_con hok (plainFor_of_name (by decide +kernel)) (Nat.le_of_ble_eq_true rfl) (go_to (lv2 := [some (.inr 41), some (.inl p1), some (.inl p2), none, none]) (own := RX9) ?_ (And.intro rfl (And.intro rfl (And.intro rfl trivial))))
  refine go_aload_n (pc := 0) dX9_saves_0 rfl ?_
  refine go_iload_n (pc := 1) dX9_saves_1 rfl ?_
  obtain ⟨u1, c2, h⟩ := g_bd h
  refine go_callV (pc := 2) (as := [.inl p1]) (st := []) (r := u1.1) (M1 := u1.2) (z_X9_isBoat hok  c2) cw_X9_isBoat ml_X9_168 (show g_lay[41]? = some _ from rfl) rfl rfl (by decide) (Nat.le_of_ble_eq_true rfl) rfl dX9_saves_2 ?_
  refine go_if_ne (pc := 5) (tgt := 14) dX9_saves_5 (by decide) (fun e18 => ?_) (fun e18 => ?_)
  · replace h := (if_neg e18).symm.trans h
    refine go_iload_n (pc := 14) dX9_saves_14 rfl ?_
    refine go_iconst (pc := 15) (v := (0 : Int32)) dX9_saves_15 (by decide) ?_
    refine go_iconst (pc := 16) (v := (5 : Int32)) dX9_saves_16 (by decide) ?_
    obtain ⟨u3, c4, h⟩ := g_bd h
    refine go_callS (pc := 17) (as := [.inl p2, .inl (0 : Int32), .inl (5 : Int32)]) (st := []) (r := u3.1) (M1 := u3.2) (z_X9_isIn hok  c4) cw_X9_isIn ml_X9_135 (by decide) (Nat.le_of_ble_eq_true rfl) rfl dX9_saves_17 ?_
    refine go_if_ne (pc := 20) (tgt := 30) dX9_saves_20 (by decide) (fun e15 => ?_) (fun e15 => ?_)
    · replace h := (if_neg e15).symm.trans h
      refine go_aload_n (pc := 30) dX9_saves_30 rfl ?_
      refine gf_9_28 (pc := 31) dX9_saves_31 ?_
      refine go_iload_n (pc := 34) dX9_saves_34 rfl ?_
      obtain ⟨i5, h⟩ := g_gd h
      refine go_iald (pc := 35) (n := 5) rfl (g_inb_ok i5) dX9_saves_35 ?_
      refine go_istore_n (pc := 36) (lv' := [some (.inr 41), some (.inl p1), some (.inl p2), some (.inl (u3.2 48 p1.toNatClampNeg)), none]) dX9_saves_36 (by decide) rfl ?_
      refine go_aload_n (pc := 37) dX9_saves_37 rfl ?_
      refine gf_9_28 (pc := 38) dX9_saves_38 ?_
      refine go_iload_n (pc := 41) dX9_saves_41 rfl ?_
      refine go_iconst (pc := 42) (v := (0 : Int32)) dX9_saves_42 (by decide) ?_
      obtain ⟨i6, h⟩ := g_gd h
      refine go_iast (pc := 43) (n := 5) rfl (g_inb_ok i6) dX9_saves_43 ?_
      refine go_aload_n (pc := 44) dX9_saves_44 rfl ?_
      refine go_iload_n (pc := 45) dX9_saves_45 rfl ?_
      obtain ⟨u7, c8, h⟩ := g_bd h
      refine go_callV (pc := 46) (as := [.inl p1]) (st := []) (r := u7.1) (M1 := u7.2) (z_X9_leastOr hok  c8) cw_X9_leastOr ml_X9_306 (show g_lay[41]? = some _ from rfl) rfl rfl (by decide) (Nat.le_of_ble_eq_true rfl) rfl dX9_saves_46 ?_
      refine go_istore (pc := 49) (lv' := [some (.inr 41), some (.inl p1), some (.inl p2), some (.inl (u3.2 48 p1.toNatClampNeg)), some (.inl u7.1)]) dX9_saves_49 (by decide) rfl ?_
      refine go_aload_n (pc := 51) dX9_saves_51 rfl ?_
      refine gf_9_28 (pc := 52) dX9_saves_52 ?_
      refine go_iload_n (pc := 55) dX9_saves_55 rfl ?_
      refine go_iload_n (pc := 56) dX9_saves_56 rfl ?_
      obtain ⟨i9, h⟩ := g_gd h
      refine go_iast (pc := 57) (n := 5) rfl (g_inb_ok i9) dX9_saves_57 ?_
      refine go_iload (pc := 58) dX9_saves_58 rfl ?_
      refine go_aload_n (pc := 60) dX9_saves_60 rfl ?_
      refine go_iload_n (pc := 61) dX9_saves_61 rfl ?_
      obtain ⟨u10, c11, h⟩ := g_bd h
      refine go_callV (pc := 62) (as := [.inl p1]) (st := [.inl u7.1]) (r := u10.1) (M1 := u10.2) (z_X9_leastOr hok  c11) cw_X9_leastOr ml_X9_306 (show g_lay[41]? = some _ from rfl) rfl rfl (by decide) (Nat.le_of_ble_eq_true rfl) rfl dX9_saves_62 ?_
      refine go_isub (pc := 65) dX9_saves_65 ?_
      refine go_istore (pc := 66) (lv' := [some (.inr 41), some (.inl p1), some (.inl p2), some (.inl (u3.2 48 p1.toNatClampNeg)), some (.inl (u7.1 - u10.1))]) dX9_saves_66 (by decide) rfl ?_
      refine go_aload_n (pc := 68) dX9_saves_68 rfl ?_
      refine gf_9_28 (pc := 69) dX9_saves_69 ?_
      refine go_iload_n (pc := 72) dX9_saves_72 rfl ?_
      refine go_iload_n (pc := 73) dX9_saves_73 rfl ?_
      obtain ⟨i12, h⟩ := g_gd h
      refine go_iast (pc := 74) (n := 5) rfl (g_inb_ok i12) dX9_saves_74 ?_
      refine go_iload (pc := 75) dX9_saves_75 rfl ?_
      exact go_iret (pc := 77) (Option.some.inj h).symm rfl dX9_saves_77 rfl
    · replace h := (if_pos e15).symm.trans h
      refine go_aload_n (pc := 23) dX9_saves_23 rfl ?_
      refine go_bipush (pc := 24) (v := (-2 : Int32)) dX9_saves_24 (by decide) ?_
      obtain ⟨u13, c14, h⟩ := g_bd h
      refine go_callV (pc := 26) (as := [.inl (-2 : Int32)]) (st := []) (r := u13.1) (M1 := u13.2) (z_X9_lower hok  c14) cw_X9_lower ml_X9_236 (show g_lay[41]? = some _ from rfl) rfl rfl (by decide) (Nat.le_of_ble_eq_true rfl) rfl dX9_saves_26 ?_
      exact go_iret (pc := 29) (Option.some.inj h).symm rfl dX9_saves_29 rfl
  · replace h := (if_pos e18).symm.trans h
    refine go_aload_n (pc := 8) dX9_saves_8 rfl ?_
    refine go_iconst (pc := 9) (v := (-1 : Int32)) dX9_saves_9 (by decide) ?_
    obtain ⟨u16, c17, h⟩ := g_bd h
    refine go_callV (pc := 10) (as := [.inl (-1 : Int32)]) (st := []) (r := u16.1) (M1 := u16.2) (z_X9_lower hok  c17) cw_X9_lower ml_X9_236 (show g_lay[41]? = some _ from rfl) rfl rfl (by decide) (Nat.le_of_ble_eq_true rfl) rfl dX9_saves_10 ?_
    exact go_iret (pc := 13) (Option.some.inj h).symm rfl dX9_saves_13 rfl
def x_X9_marks_L62   : Nat → Int32 → Int32 → Int32 → Int32 → Int32 → Int32 → g_M → Option (Int32 × g_M)
  | 0, _, _, _, _, _, _, _ => none
  | n + 1, v1, v2, v3, v5, v6, v7, M => (if (99 : Int32) < v7 then (if v3 = 0 then (some (v5, M)) else (some (v6, M))) else (((x_X9_hangHours v1 v7 M).bind fun u2 => if u2.1 = v2 then (if v5 = 0 then (x_X9_marks_L62   n v1 v2 v3 (v5 + (1 : Int32)) v7 (v7 + (1 : Int32)) u2.2) else (x_X9_marks_L62   n v1 v2 v3 (v5 + (1 : Int32)) v6 (v7 + (1 : Int32)) u2.2)) else (x_X9_marks_L62   n v1 v2 v3 v5 v6 (v7 + (1 : Int32)) u2.2))))
set_option maxHeartbeats 4000000 in
set_option maxRecDepth 100000 in
theorem z_X9_marks_L62 {X : g_X} (hok : g_ok X)  {r : Int32 × g_M}  : ∀ (n : Nat) (v1 : Int32) (v2 : Int32) (v3 : Int32) (v5 : Int32) (v6 : Int32) (v7 : Int32) (M : g_M), x_X9_marks_L62   n v1 v2 v3 v5 v6 v7 M = some r → g_Go X cX9_marks RX9 8 (some .int) 4 93 r 62 [some (.inr 41), some (.inl v1), some (.inl v2), some (.inl v3), none, some (.inl v5), some (.inl v6), some (.inl v7)] [] M := by
  intro n
  induction n with
  | zero =>
    intro v1 v2 v3 v5 v6 v7 M h
    rw [x_X9_marks_L62] at h
    cases h
  | succ n ih =>
    intro v1 v2 v3 v5 v6 v7 M h
    rw [x_X9_marks_L62] at h
    refine go_iload (pc := 62) dX9_marks_62 rfl ?_
    refine go_bipush (pc := 64) (v := (99 : Int32)) dX9_marks_64 (by decide) ?_
    refine go_icmp_gt (pc := 66) (tgt := 106) dX9_marks_66 (by decide) (fun e6 => ?_) (fun e6 => ?_)
    · replace h := (if_pos e6).symm.trans h
      refine go_iload_n (pc := 106) dX9_marks_106 rfl ?_
      refine go_if_ne (pc := 107) (tgt := 115) dX9_marks_107 (by decide) (fun e1 => ?_) (fun e1 => ?_)
      · replace h := (if_neg e1).symm.trans h
        refine go_iload (pc := 115) dX9_marks_115 rfl ?_
        exact go_iret (pc := 117) (Option.some.inj h).symm rfl dX9_marks_117 rfl
      · replace h := (if_pos e1).symm.trans h
        refine go_iload (pc := 110) dX9_marks_110 rfl ?_
        refine go_goto (pc := 112) (tgt := 117) dX9_marks_112 (by decide) ?_
        exact go_iret (pc := 117) (Option.some.inj h).symm rfl dX9_marks_117 rfl
    · replace h := (if_neg e6).symm.trans h
      refine go_aload_n (pc := 69) dX9_marks_69 rfl ?_
      refine go_iload_n (pc := 70) dX9_marks_70 rfl ?_
      refine go_iload (pc := 71) dX9_marks_71 rfl ?_
      obtain ⟨u2, c3, h⟩ := g_bd h
      refine go_callV (pc := 73) (as := [.inl v1, .inl v7]) (st := []) (r := u2.1) (M1 := u2.2) (z_X9_hangHours hok  c3) cw_X9_hangHours ml_X9_246 (show g_lay[41]? = some _ from rfl) rfl rfl (by decide) (Nat.le_of_ble_eq_true rfl) rfl dX9_marks_73 ?_
      refine go_iload_n (pc := 76) dX9_marks_76 rfl ?_
      refine go_icmp_eq (pc := 77) (tgt := 83) dX9_marks_77 (by decide) (fun e5 => ?_) (fun e5 => ?_)
      · replace h := (if_pos e5).symm.trans h
        refine go_iload (pc := 83) dX9_marks_83 rfl ?_
        refine go_if_ne (pc := 85) (tgt := 93) dX9_marks_85 (by decide) (fun e4 => ?_) (fun e4 => ?_)
        · replace h := (if_neg e4).symm.trans h
          refine go_iload (pc := 93) dX9_marks_93 rfl ?_
          refine go_istore (pc := 95) (lv' := [some (.inr 41), some (.inl v1), some (.inl v2), some (.inl v3), none, some (.inl v5), some (.inl v6), some (.inl v7)]) dX9_marks_95 (by decide) rfl ?_
          refine go_iinc (pc := 97) (v := (1 : Int32)) (lv' := [some (.inr 41), some (.inl v1), some (.inl v2), some (.inl v3), none, some (.inl (v5 + (1 : Int32))), some (.inl v6), some (.inl v7)]) dX9_marks_97 rfl (by decide) (by decide) rfl ?_
          refine go_iinc (pc := 100) (v := (1 : Int32)) (lv' := [some (.inr 41), some (.inl v1), some (.inl v2), some (.inl v3), none, some (.inl (v5 + (1 : Int32))), some (.inl v6), some (.inl (v7 + (1 : Int32)))]) dX9_marks_100 rfl (by decide) (by decide) rfl ?_
          refine go_goto (pc := 103) (tgt := 62) dX9_marks_103 (by decide) ?_
          exact go_to (ih _ _ _ _ _ _ _ h) (And.intro rfl (And.intro rfl (And.intro rfl (And.intro rfl (And.intro rfl (And.intro rfl (And.intro rfl trivial)))))))
        · replace h := (if_pos e4).symm.trans h
          refine go_iload (pc := 88) dX9_marks_88 rfl ?_
          refine go_goto (pc := 90) (tgt := 95) dX9_marks_90 (by decide) ?_
          refine go_istore (pc := 95) (lv' := [some (.inr 41), some (.inl v1), some (.inl v2), some (.inl v3), none, some (.inl v5), some (.inl v7), some (.inl v7)]) dX9_marks_95 (by decide) rfl ?_
          refine go_iinc (pc := 97) (v := (1 : Int32)) (lv' := [some (.inr 41), some (.inl v1), some (.inl v2), some (.inl v3), none, some (.inl (v5 + (1 : Int32))), some (.inl v7), some (.inl v7)]) dX9_marks_97 rfl (by decide) (by decide) rfl ?_
          refine go_iinc (pc := 100) (v := (1 : Int32)) (lv' := [some (.inr 41), some (.inl v1), some (.inl v2), some (.inl v3), none, some (.inl (v5 + (1 : Int32))), some (.inl v7), some (.inl (v7 + (1 : Int32)))]) dX9_marks_100 rfl (by decide) (by decide) rfl ?_
          refine go_goto (pc := 103) (tgt := 62) dX9_marks_103 (by decide) ?_
          exact go_to (ih _ _ _ _ _ _ _ h) (And.intro rfl (And.intro rfl (And.intro rfl (And.intro rfl (And.intro rfl (And.intro rfl (And.intro rfl trivial)))))))
      · replace h := (if_neg e5).symm.trans h
        refine go_goto (pc := 80) (tgt := 100) dX9_marks_80 (by decide) ?_
        refine go_iinc (pc := 100) (v := (1 : Int32)) (lv' := [some (.inr 41), some (.inl v1), some (.inl v2), some (.inl v3), none, some (.inl v5), some (.inl v6), some (.inl (v7 + (1 : Int32)))]) dX9_marks_100 rfl (by decide) (by decide) rfl ?_
        refine go_goto (pc := 103) (tgt := 62) dX9_marks_103 (by decide) ?_
        exact go_to (ih _ _ _ _ _ _ _ h) (And.intro rfl (And.intro rfl (And.intro rfl (And.intro rfl (And.intro rfl (And.intro rfl (And.intro rfl trivial)))))))
def x_X9_marks_L40   (v1 : Int32) (v2 : Int32) (v3 : Int32) (v4 : Int32) (M : g_M) : Option (Int32 × g_M) := (if v4 = 0 then (x_X9_marks_L62   g_F v1 v2 v3 (0 : Int32) (-9 : Int32) (0 : Int32) M) else (((x_X9_no v4 M).bind fun u7 => some (u7.1, u7.2))))
set_option maxHeartbeats 4000000 in
set_option maxRecDepth 100000 in
theorem z_X9_marks_L40 {X : g_X} (hok : g_ok X)  {r : Int32 × g_M}  {v1 : Int32} {v2 : Int32} {v3 : Int32} {v4 : Int32} {M : g_M} (h : x_X9_marks_L40   v1 v2 v3 v4 M = some r) : g_Go X cX9_marks RX9 8 (some .int) 4 93 r 40 [some (.inr 41), some (.inl v1), some (.inl v2), some (.inl v3), some (.inl v4), none, none, none] [] M := by
  rw [x_X9_marks_L40] at h
  refine go_iload (pc := 40) dX9_marks_40 rfl ?_
  refine go_if_eq (pc := 42) (tgt := 52) dX9_marks_42 (by decide) (fun e9 => ?_) (fun e9 => ?_)
  · replace h := (if_pos e9).symm.trans h
    refine go_iconst (pc := 52) (v := (0 : Int32)) dX9_marks_52 (by decide) ?_
    refine go_istore (pc := 53) (lv' := [some (.inr 41), some (.inl v1), some (.inl v2), some (.inl v3), some (.inl v4), some (.inl (0 : Int32)), none, none]) dX9_marks_53 (by decide) rfl ?_
    refine go_bipush (pc := 55) (v := (-9 : Int32)) dX9_marks_55 (by decide) ?_
    refine go_istore (pc := 57) (lv' := [some (.inr 41), some (.inl v1), some (.inl v2), some (.inl v3), some (.inl v4), some (.inl (0 : Int32)), some (.inl (-9 : Int32)), none]) dX9_marks_57 (by decide) rfl ?_
    refine go_iconst (pc := 59) (v := (0 : Int32)) dX9_marks_59 (by decide) ?_
    refine go_istore (pc := 60) (lv' := [some (.inr 41), some (.inl v1), some (.inl v2), some (.inl v3), some (.inl v4), some (.inl (0 : Int32)), some (.inl (-9 : Int32)), some (.inl (0 : Int32))]) dX9_marks_60 (by decide) rfl ?_
    exact go_to (z_X9_marks_L62 hok   g_F _ _ _ _ _ _ _ h) (And.intro rfl (And.intro rfl (And.intro rfl (And.intro rfl (And.intro rfl (And.intro rfl (And.intro rfl trivial)))))))
  · replace h := (if_neg e9).symm.trans h
    refine go_aload_n (pc := 45) dX9_marks_45 rfl ?_
    refine go_iload (pc := 46) dX9_marks_46 rfl ?_
    obtain ⟨u7, c8, h⟩ := g_bd h
    refine go_callV (pc := 48) (as := [.inl v4]) (st := []) (r := u7.1) (M1 := u7.2) (z_X9_no hok  c8) cw_X9_no ml_X9_124 (show g_lay[41]? = some _ from rfl) rfl rfl (by decide) (Nat.le_of_ble_eq_true rfl) rfl dX9_marks_48 ?_
    exact go_iret (pc := 51) (Option.some.inj h).symm rfl dX9_marks_51 rfl
def x_X9_marks_L20   (v1 : Int32) (v2 : Int32) (v3 : Int32) (s0 : Int32) (M : g_M) : Option (Int32 × g_M) := (if s0 = 0 then (((x_X9_isIn v3 (0 : Int32) (1 : Int32) M).bind fun u10 => if u10.1 = 0 then (x_X9_marks_L40   v1 v2 v3 (-2 : Int32) u10.2) else (x_X9_marks_L40   v1 v2 v3 s0 u10.2))) else (x_X9_marks_L40   v1 v2 v3 s0 M))
set_option maxHeartbeats 4000000 in
set_option maxRecDepth 100000 in
theorem z_X9_marks_L20 {X : g_X} (hok : g_ok X)  {r : Int32 × g_M}  {v1 : Int32} {v2 : Int32} {v3 : Int32} {s0 : Int32} {M : g_M} (h : x_X9_marks_L20   v1 v2 v3 s0 M = some r) : g_Go X cX9_marks RX9 8 (some .int) 4 93 r 20 [some (.inr 41), some (.inl v1), some (.inl v2), some (.inl v3), none, none, none, none] [.inl s0] M := by
  rw [x_X9_marks_L20] at h
  refine go_istore (pc := 20) (lv' := [some (.inr 41), some (.inl v1), some (.inl v2), some (.inl v3), some (.inl s0), none, none, none]) dX9_marks_20 (by decide) rfl ?_
  refine go_iload (pc := 22) dX9_marks_22 rfl ?_
  refine go_if_ne (pc := 24) (tgt := 40) dX9_marks_24 (by decide) (fun e13 => ?_) (fun e13 => ?_)
  · replace h := (if_neg e13).symm.trans h
    exact go_to (z_X9_marks_L40 hok   h) (And.intro rfl (And.intro rfl (And.intro rfl (And.intro rfl (And.intro rfl trivial)))))
  · replace h := (if_pos e13).symm.trans h
    refine go_iload_n (pc := 27) dX9_marks_27 rfl ?_
    refine go_iconst (pc := 28) (v := (0 : Int32)) dX9_marks_28 (by decide) ?_
    refine go_iconst (pc := 29) (v := (1 : Int32)) dX9_marks_29 (by decide) ?_
    obtain ⟨u10, c11, h⟩ := g_bd h
    refine go_callS (pc := 30) (as := [.inl v3, .inl (0 : Int32), .inl (1 : Int32)]) (st := []) (r := u10.1) (M1 := u10.2) (z_X9_isIn hok  c11) cw_X9_isIn ml_X9_135 (by decide) (Nat.le_of_ble_eq_true rfl) rfl dX9_marks_30 ?_
    refine go_if_ne (pc := 33) (tgt := 40) dX9_marks_33 (by decide) (fun e12 => ?_) (fun e12 => ?_)
    · replace h := (if_neg e12).symm.trans h
      exact go_to (z_X9_marks_L40 hok   h) (And.intro rfl (And.intro rfl (And.intro rfl (And.intro rfl (And.intro rfl trivial)))))
    · replace h := (if_pos e12).symm.trans h
      refine go_bipush (pc := 36) (v := (-2 : Int32)) dX9_marks_36 (by decide) ?_
      refine go_istore (pc := 38) (lv' := [some (.inr 41), some (.inl v1), some (.inl v2), some (.inl v3), some (.inl (-2 : Int32)), none, none, none]) dX9_marks_38 (by decide) rfl ?_
      exact go_to (z_X9_marks_L40 hok   h) (And.intro rfl (And.intro rfl (And.intro rfl (And.intro rfl (And.intro rfl trivial)))))
def x_X9_marks  (p1 p2 p3 : Int32) (M : g_M) : Option (Int32 × g_M) := (((x_X9_isBoat p1 M).bind fun u14 => if u14.1 = 0 then (x_X9_marks_L20   p1 p2 p3 (-1 : Int32) u14.2) else (((x_X9_bound p2 (0 : Int32) (4095 : Int32) u14.2).bind fun u16 => x_X9_marks_L20   p1 p2 p3 u16.1 u16.2))))
set_option maxHeartbeats 4000000 in
set_option maxRecDepth 100000 in
theorem z_X9_marks {X : g_X} (hok : g_ok X)  {p1 p2 p3 : Int32} {M : g_M} {r : Int32 × g_M} (h : x_X9_marks p1 p2 p3 M = some r) : g_Con X yX9_marks cX9_marks 8 (some .int) 4 93 [.inr 41, .inl p1, .inl p2, .inl p3] M r := by
  rw [x_X9_marks] at h
  refine g_con hok (plainFor_of_name (by decide +kernel)) (Nat.le_of_ble_eq_true rfl) (go_to (lv2 := [some (.inr 41), some (.inl p1), some (.inl p2), some (.inl p3), none, none, none, none]) (own := RX9) ?_ (And.intro rfl (And.intro rfl (And.intro rfl (And.intro rfl trivial)))))
  refine go_aload_n (pc := 0) dX9_marks_0 rfl ?_
  refine go_iload_n (pc := 1) dX9_marks_1 rfl ?_
  obtain ⟨u14, c15, h⟩ := g_bd h
  refine go_callV (pc := 2) (as := [.inl p1]) (st := []) (r := u14.1) (M1 := u14.2) (z_X9_isBoat hok  c15) cw_X9_isBoat ml_X9_168 (show g_lay[41]? = some _ from rfl) rfl rfl (by decide) (Nat.le_of_ble_eq_true rfl) rfl dX9_marks_2 ?_
  refine go_if_ne (pc := 5) (tgt := 12) dX9_marks_5 (by decide) (fun e18 => ?_) (fun e18 => ?_)
  · replace h := (if_neg e18).symm.trans h
    refine go_iload_n (pc := 12) dX9_marks_12 rfl ?_
    refine go_iconst (pc := 13) (v := (0 : Int32)) dX9_marks_13 (by decide) ?_
    refine go_sipush (pc := 14) (v := (4095 : Int32)) dX9_marks_14 (by decide) ?_
    obtain ⟨u16, c17, h⟩ := g_bd h
    refine go_callS (pc := 17) (as := [.inl p2, .inl (0 : Int32), .inl (4095 : Int32)]) (st := []) (r := u16.1) (M1 := u16.2) (z_X9_bound hok  c17) cw_X9_bound ml_X9_117 (by decide) (Nat.le_of_ble_eq_true rfl) rfl dX9_marks_17 ?_
    exact go_to (z_X9_marks_L20 hok   h) (And.intro rfl (And.intro rfl (And.intro rfl (And.intro rfl trivial))))
  · replace h := (if_pos e18).symm.trans h
    refine go_iconst (pc := 8) (v := (-1 : Int32)) dX9_marks_8 (by decide) ?_
    refine go_goto (pc := 9) (tgt := 20) dX9_marks_9 (by decide) ?_
    exact go_to (z_X9_marks_L20 hok   h) (And.intro rfl (And.intro rfl (And.intro rfl (And.intro rfl trivial))))
def x_X9_whose_L24   : Nat → Int32 → Int32 → Int32 → g_M → Option (Int32 × g_M)
  | 0, _, _, _, _ => none
  | n + 1, v1, v3, v4, M => (if (M 41 16) ≤ v4 then (some (v3, M)) else ((if g_inb v4 5 = true then (((x_X9_hangHours v4 (M 52 v4.toNatClampNeg) M).bind fun u2 => if u2.1 = v1 then (x_X9_whose_L24   n v1 (v3 ||| ((1 : Int32) <<< (v4 &&& 31))) (v4 + (1 : Int32)) u2.2) else (x_X9_whose_L24   n v1 (v3 ||| (0 : Int32)) (v4 + (1 : Int32)) u2.2))) else none)))
set_option maxHeartbeats 4000000 in
set_option maxRecDepth 100000 in
theorem z_X9_whose_L24 {X : g_X} (hok : g_ok X)  {r : Int32 × g_M}  : ∀ (n : Nat) (v1 : Int32) (v3 : Int32) (v4 : Int32) (M : g_M), x_X9_whose_L24   n v1 v3 v4 M = some r → g_Go X cX9_whose RX9 5 (some .int) 4 93 r 24 [some (.inr 41), some (.inl v1), none, some (.inl v3), some (.inl v4)] [] M := by
  intro n
  induction n with
  | zero =>
    intro v1 v3 v4 M h
    rw [x_X9_whose_L24] at h
    cases h
  | succ n ih =>
    intro v1 v3 v4 M h
    rw [x_X9_whose_L24] at h
    refine go_iload (pc := 24) dX9_whose_24 rfl ?_
    refine go_aload_n (pc := 26) dX9_whose_26 rfl ?_
    refine gf_9_114 (pc := 27) dX9_whose_27 ?_
    refine go_icmp_ge (pc := 30) (tgt := 67) dX9_whose_30 (by decide) (fun e5 => ?_) (fun e5 => ?_)
    · replace h := (if_pos e5).symm.trans h
      refine go_iload_n (pc := 67) dX9_whose_67 rfl ?_
      exact go_iret (pc := 68) (Option.some.inj h).symm rfl dX9_whose_68 rfl
    · replace h := (if_neg e5).symm.trans h
      refine go_iload_n (pc := 33) dX9_whose_33 rfl ?_
      refine go_aload_n (pc := 34) dX9_whose_34 rfl ?_
      refine go_iload (pc := 35) dX9_whose_35 rfl ?_
      refine go_aload_n (pc := 37) dX9_whose_37 rfl ?_
      refine gf_9_40 (pc := 38) dX9_whose_38 ?_
      refine go_iload (pc := 41) dX9_whose_41 rfl ?_
      obtain ⟨i1, h⟩ := g_gd h
      refine go_iald (pc := 43) (n := 5) rfl (g_inb_ok i1) dX9_whose_43 ?_
      obtain ⟨u2, c3, h⟩ := g_bd h
      refine go_callV (pc := 44) (as := [.inl v4, .inl (M 52 v4.toNatClampNeg)]) (st := [.inl v3]) (r := u2.1) (M1 := u2.2) (z_X9_hangHours hok  c3) cw_X9_hangHours ml_X9_246 (show g_lay[41]? = some _ from rfl) rfl rfl (by decide) (Nat.le_of_ble_eq_true rfl) rfl dX9_whose_44 ?_
      refine go_iload_n (pc := 47) dX9_whose_47 rfl ?_
      refine go_icmp_ne (pc := 48) (tgt := 58) dX9_whose_48 (by decide) (fun e4 => ?_) (fun e4 => ?_)
      · replace h := (if_neg e4).symm.trans h
        refine go_iconst (pc := 58) (v := (0 : Int32)) dX9_whose_58 (by decide) ?_
        refine go_ior (pc := 59) dX9_whose_59 ?_
        refine go_istore_n (pc := 60) (lv' := [some (.inr 41), some (.inl v1), none, some (.inl (v3 ||| (0 : Int32))), some (.inl v4)]) dX9_whose_60 (by decide) rfl ?_
        refine go_iinc (pc := 61) (v := (1 : Int32)) (lv' := [some (.inr 41), some (.inl v1), none, some (.inl (v3 ||| (0 : Int32))), some (.inl (v4 + (1 : Int32)))]) dX9_whose_61 rfl (by decide) (by decide) rfl ?_
        refine go_goto (pc := 64) (tgt := 24) dX9_whose_64 (by decide) ?_
        exact go_to (ih _ _ _ _ h) (And.intro rfl (And.intro rfl (And.intro rfl (And.intro rfl trivial))))
      · replace h := (if_pos e4).symm.trans h
        refine go_iconst (pc := 51) (v := (1 : Int32)) dX9_whose_51 (by decide) ?_
        refine go_iload (pc := 52) dX9_whose_52 rfl ?_
        refine go_ishl (pc := 54) dX9_whose_54 ?_
        refine go_goto (pc := 55) (tgt := 59) dX9_whose_55 (by decide) ?_
        refine go_ior (pc := 59) dX9_whose_59 ?_
        refine go_istore_n (pc := 60) (lv' := [some (.inr 41), some (.inl v1), none, some (.inl (v3 ||| ((1 : Int32) <<< (v4 &&& 31)))), some (.inl v4)]) dX9_whose_60 (by decide) rfl ?_
        refine go_iinc (pc := 61) (v := (1 : Int32)) (lv' := [some (.inr 41), some (.inl v1), none, some (.inl (v3 ||| ((1 : Int32) <<< (v4 &&& 31)))), some (.inl (v4 + (1 : Int32)))]) dX9_whose_61 rfl (by decide) (by decide) rfl ?_
        refine go_goto (pc := 64) (tgt := 24) dX9_whose_64 (by decide) ?_
        exact go_to (ih _ _ _ _ h) (And.intro rfl (And.intro rfl (And.intro rfl (And.intro rfl trivial))))
def x_X9_whose  (p1 : Int32) (M : g_M) : Option (Int32 × g_M) := (((x_X9_bound p1 (0 : Int32) (4095 : Int32) M).bind fun u6 => if u6.1 = 0 then (x_X9_whose_L24   g_F p1 (0 : Int32) (0 : Int32) u6.2) else (((x_X9_no u6.1 u6.2).bind fun u8 => some (u8.1, u8.2)))))
set_option maxHeartbeats 4000000 in
set_option maxRecDepth 100000 in
theorem z_X9_whose {X : g_X} (hok : g_ok X)  {p1 : Int32} {M : g_M} {r : Int32 × g_M} (h : x_X9_whose p1 M = some r) : g_Con X yX9_whose cX9_whose 5 (some .int) 4 93 [.inr 41, .inl p1] M r := by
  rw [x_X9_whose] at h
  refine g_con hok (plainFor_of_name (by decide +kernel)) (Nat.le_of_ble_eq_true rfl) (go_to (lv2 := [some (.inr 41), some (.inl p1), none, none, none]) (own := RX9) ?_ (And.intro rfl (And.intro rfl trivial)))
  refine go_iload_n (pc := 0) dX9_whose_0 rfl ?_
  refine go_iconst (pc := 1) (v := (0 : Int32)) dX9_whose_1 (by decide) ?_
  refine go_sipush (pc := 2) (v := (4095 : Int32)) dX9_whose_2 (by decide) ?_
  obtain ⟨u6, c7, h⟩ := g_bd h
  refine go_callS (pc := 5) (as := [.inl p1, .inl (0 : Int32), .inl (4095 : Int32)]) (st := []) (r := u6.1) (M1 := u6.2) (z_X9_bound hok  c7) cw_X9_bound ml_X9_117 (by decide) (Nat.le_of_ble_eq_true rfl) rfl dX9_whose_5 ?_
  refine go_istore_n (pc := 8) (lv' := [some (.inr 41), some (.inl p1), some (.inl u6.1), none, none]) dX9_whose_8 (by decide) rfl ?_
  refine go_iload_n (pc := 9) dX9_whose_9 rfl ?_
  refine go_if_eq (pc := 10) (tgt := 19) dX9_whose_10 (by decide) (fun e10 => ?_) (fun e10 => ?_)
  · replace h := (if_pos e10).symm.trans h
    refine go_iconst (pc := 19) (v := (0 : Int32)) dX9_whose_19 (by decide) ?_
    refine go_istore_n (pc := 20) (lv' := [some (.inr 41), some (.inl p1), some (.inl u6.1), some (.inl (0 : Int32)), none]) dX9_whose_20 (by decide) rfl ?_
    refine go_iconst (pc := 21) (v := (0 : Int32)) dX9_whose_21 (by decide) ?_
    refine go_istore (pc := 22) (lv' := [some (.inr 41), some (.inl p1), some (.inl u6.1), some (.inl (0 : Int32)), some (.inl (0 : Int32))]) dX9_whose_22 (by decide) rfl ?_
    exact go_to (z_X9_whose_L24 hok   g_F _ _ _ _ h) (And.intro rfl (And.intro rfl (And.intro rfl (And.intro rfl trivial))))
  · replace h := (if_neg e10).symm.trans h
    refine go_aload_n (pc := 13) dX9_whose_13 rfl ?_
    refine go_iload_n (pc := 14) dX9_whose_14 rfl ?_
    obtain ⟨u8, c9, h⟩ := g_bd h
    refine go_callV (pc := 15) (as := [.inl u6.1]) (st := []) (r := u8.1) (M1 := u8.2) (z_X9_no hok  c9) cw_X9_no ml_X9_124 (show g_lay[41]? = some _ from rfl) rfl rfl (by decide) (Nat.le_of_ble_eq_true rfl) rfl dX9_whose_15 ?_
    exact go_iret (pc := 18) (Option.some.inj h).symm rfl dX9_whose_18 rfl
def x_X9_spring  (p1 : Int32) (M : g_M) : Option (Int32 × g_M) := (((x_X9_bound p1 (0 : Int32) (9 : Int32) M).bind fun u1 => if u1.1 = 0 then (some ((u1.2 41 18), (g_upd u1.2 41 18 p1))) else (((x_X9_no u1.1 u1.2).bind fun u3 => some (u3.1, u3.2)))))
set_option maxHeartbeats 4000000 in
set_option maxRecDepth 100000 in
theorem z_X9_spring {X : g_X} (hok : g_ok X)  {p1 : Int32} {M : g_M} {r : Int32 × g_M} (h : x_X9_spring p1 M = some r) : g_Con X yX9_spring cX9_spring 4 (some .int) 1 22 [.inr 41, .inl p1] M r := by
  rw [x_X9_spring] at h
  refine g_con hok (plainFor_of_name (by decide +kernel)) (Nat.le_of_ble_eq_true rfl) (go_to (lv2 := [some (.inr 41), some (.inl p1), none, none]) (own := RX9) ?_ (And.intro rfl (And.intro rfl trivial)))
  refine go_iload_n (pc := 0) dX9_spring_0 rfl ?_
  refine go_iconst (pc := 1) (v := (0 : Int32)) dX9_spring_1 (by decide) ?_
  refine go_bipush (pc := 2) (v := (9 : Int32)) dX9_spring_2 (by decide) ?_
  obtain ⟨u1, c2, h⟩ := g_bd h
  refine go_callS (pc := 4) (as := [.inl p1, .inl (0 : Int32), .inl (9 : Int32)]) (st := []) (r := u1.1) (M1 := u1.2) (z_X9_bound hok  c2) cw_X9_bound ml_X9_117 (by decide) (Nat.le_of_ble_eq_true rfl) rfl dX9_spring_4 ?_
  refine go_istore_n (pc := 7) (lv' := [some (.inr 41), some (.inl p1), some (.inl u1.1), none]) dX9_spring_7 (by decide) rfl ?_
  refine go_iload_n (pc := 8) dX9_spring_8 rfl ?_
  refine go_if_eq (pc := 9) (tgt := 18) dX9_spring_9 (by decide) (fun e5 => ?_) (fun e5 => ?_)
  · replace h := (if_pos e5).symm.trans h
    refine go_aload_n (pc := 18) dX9_spring_18 rfl ?_
    refine gf_9_196 (pc := 19) dX9_spring_19 ?_
    refine go_istore_n (pc := 22) (lv' := [some (.inr 41), some (.inl p1), some (.inl u1.1), some (.inl (u1.2 41 18))]) dX9_spring_22 (by decide) rfl ?_
    refine go_aload_n (pc := 23) dX9_spring_23 rfl ?_
    refine go_iload_n (pc := 24) dX9_spring_24 rfl ?_
    refine gp_9_196 (pc := 25) dX9_spring_25 ?_
    refine go_iload_n (pc := 28) dX9_spring_28 rfl ?_
    exact go_iret (pc := 29) (Option.some.inj h).symm rfl dX9_spring_29 rfl
  · replace h := (if_neg e5).symm.trans h
    refine go_aload_n (pc := 12) dX9_spring_12 rfl ?_
    refine go_iload_n (pc := 13) dX9_spring_13 rfl ?_
    obtain ⟨u3, c4, h⟩ := g_bd h
    refine go_callV (pc := 14) (as := [.inl u1.1]) (st := []) (r := u3.1) (M1 := u3.2) (z_X9_no hok  c4) cw_X9_no ml_X9_124 (show g_lay[41]? = some _ from rfl) rfl rfl (by decide) (Nat.le_of_ble_eq_true rfl) rfl dX9_spring_14 ?_
    exact go_iret (pc := 17) (Option.some.inj h).symm rfl dX9_spring_17 rfl
def x_X9_tideOn_L72   (s0 : Int32) (M : g_M) : Option (Int32 × g_M) := (if 0 ≤ s0 then (if s0 ≤ (40 : Int32) then (some (s0, M)) else (some ((40 : Int32), M))) else (some ((0 : Int32), M)))
set_option maxHeartbeats 4000000 in
set_option maxRecDepth 100000 in
theorem z_X9_tideOn_L72 {X : g_X} (hok : g_ok X)  {r : Int32 × g_M}  {s0 : Int32} {M : g_M} (h : x_X9_tideOn_L72   s0 M = some r) : g_Go X cX9_tideOn RX9 5 (some .int) 0 0 r 72 [none, none, none, none, none] [.inl s0] M := by
  rw [x_X9_tideOn_L72] at h
  refine go_istore (pc := 72) (lv' := [none, none, none, none, some (.inl s0)]) dX9_tideOn_72 (by decide) rfl ?_
  refine go_iload (pc := 74) dX9_tideOn_74 rfl ?_
  refine go_if_ge (pc := 76) (tgt := 83) dX9_tideOn_76 (by decide) (fun e2 => ?_) (fun e2 => ?_)
  · replace h := (if_pos e2).symm.trans h
    refine go_iload (pc := 83) dX9_tideOn_83 rfl ?_
    refine go_bipush (pc := 85) (v := (40 : Int32)) dX9_tideOn_85 (by decide) ?_
    refine go_icmp_le (pc := 87) (tgt := 95) dX9_tideOn_87 (by decide) (fun e1 => ?_) (fun e1 => ?_)
    · replace h := (if_pos e1).symm.trans h
      refine go_iload (pc := 95) dX9_tideOn_95 rfl ?_
      exact go_iret (pc := 97) (Option.some.inj h).symm rfl dX9_tideOn_97 rfl
    · replace h := (if_neg e1).symm.trans h
      refine go_bipush (pc := 90) (v := (40 : Int32)) dX9_tideOn_90 (by decide) ?_
      refine go_goto (pc := 92) (tgt := 97) dX9_tideOn_92 (by decide) ?_
      exact go_iret (pc := 97) (Option.some.inj h).symm rfl dX9_tideOn_97 rfl
  · replace h := (if_neg e2).symm.trans h
    refine go_iconst (pc := 79) (v := (0 : Int32)) dX9_tideOn_79 (by decide) ?_
    refine go_goto (pc := 80) (tgt := 97) dX9_tideOn_80 (by decide) ?_
    exact go_iret (pc := 97) (Option.some.inj h).symm rfl dX9_tideOn_97 rfl
def x_X9_tideOn_L21   (v1 : Int32) (s0 : Int32) (s1 : Int32) (M : g_M) : Option (Int32 × g_M) := ((if g_inb v1 12 = true then (if (M 43 v1.toNatClampNeg) ≤ (20 : Int32) then ((if g_inb v1 12 = true then (if (20 : Int32) ≤ (M 43 v1.toNatClampNeg) then (x_X9_tideOn_L72   (20 : Int32) M) else ((if g_inb v1 12 = true then (x_X9_tideOn_L72   ((M 43 v1.toNatClampNeg) - ((s1 * s0) / (7 : Int32))) M) else none))) else none)) else ((if g_inb v1 12 = true then (x_X9_tideOn_L72   ((M 43 v1.toNatClampNeg) + ((s1 * s0) / (7 : Int32))) M) else none))) else none))
set_option maxHeartbeats 4000000 in
set_option maxRecDepth 100000 in
theorem z_X9_tideOn_L21 {X : g_X} (hok : g_ok X)  {r : Int32 × g_M}  {v1 : Int32} {s0 : Int32} {s1 : Int32} {M : g_M} (h : x_X9_tideOn_L21   v1 s0 s1 M = some r) : g_Go X cX9_tideOn RX9 5 (some .int) 0 0 r 21 [some (.inr 41), some (.inl v1), none, none, none] [.inl s0, .inl s1] M := by
  rw [x_X9_tideOn_L21] at h
  refine go_imul (pc := 21) dX9_tideOn_21 ?_
  refine go_bipush (pc := 22) (v := (7 : Int32)) dX9_tideOn_22 (by decide) ?_
  refine go_idiv (pc := 24) dX9_tideOn_24 (by decide) ?_
  refine go_istore_n (pc := 25) (lv' := [some (.inr 41), some (.inl v1), none, some (.inl ((s1 * s0) / (7 : Int32))), none]) dX9_tideOn_25 (by decide) rfl ?_
  refine go_aload_n (pc := 26) dX9_tideOn_26 rfl ?_
  refine gf_9_13 (pc := 27) dX9_tideOn_27 ?_
  refine go_iload_n (pc := 30) dX9_tideOn_30 rfl ?_
  obtain ⟨i3, h⟩ := g_gd h
  refine go_iald (pc := 31) (n := 12) rfl (g_inb_ok i3) dX9_tideOn_31 ?_
  refine go_bipush (pc := 32) (v := (20 : Int32)) dX9_tideOn_32 (by decide) ?_
  refine go_icmp_le (pc := 34) (tgt := 48) dX9_tideOn_34 (by decide) (fun e8 => ?_) (fun e8 => ?_)
  · replace h := (if_pos e8).symm.trans h
    refine go_aload_n (pc := 48) dX9_tideOn_48 rfl ?_
    refine gf_9_13 (pc := 49) dX9_tideOn_49 ?_
    refine go_iload_n (pc := 52) dX9_tideOn_52 rfl ?_
    obtain ⟨i4, h⟩ := g_gd h
    refine go_iald (pc := 53) (n := 12) rfl (g_inb_ok i4) dX9_tideOn_53 ?_
    refine go_bipush (pc := 54) (v := (20 : Int32)) dX9_tideOn_54 (by decide) ?_
    refine go_icmp_ge (pc := 56) (tgt := 70) dX9_tideOn_56 (by decide) (fun e6 => ?_) (fun e6 => ?_)
    · replace h := (if_pos e6).symm.trans h
      refine go_bipush (pc := 70) (v := (20 : Int32)) dX9_tideOn_70 (by decide) ?_
      exact go_to (z_X9_tideOn_L72 hok   h) trivial
    · replace h := (if_neg e6).symm.trans h
      refine go_aload_n (pc := 59) dX9_tideOn_59 rfl ?_
      refine gf_9_13 (pc := 60) dX9_tideOn_60 ?_
      refine go_iload_n (pc := 63) dX9_tideOn_63 rfl ?_
      obtain ⟨i5, h⟩ := g_gd h
      refine go_iald (pc := 64) (n := 12) rfl (g_inb_ok i5) dX9_tideOn_64 ?_
      refine go_iload_n (pc := 65) dX9_tideOn_65 rfl ?_
      refine go_isub (pc := 66) dX9_tideOn_66 ?_
      refine go_goto (pc := 67) (tgt := 72) dX9_tideOn_67 (by decide) ?_
      exact go_to (z_X9_tideOn_L72 hok   h) trivial
  · replace h := (if_neg e8).symm.trans h
    refine go_aload_n (pc := 37) dX9_tideOn_37 rfl ?_
    refine gf_9_13 (pc := 38) dX9_tideOn_38 ?_
    refine go_iload_n (pc := 41) dX9_tideOn_41 rfl ?_
    obtain ⟨i7, h⟩ := g_gd h
    refine go_iald (pc := 42) (n := 12) rfl (g_inb_ok i7) dX9_tideOn_42 ?_
    refine go_iload_n (pc := 43) dX9_tideOn_43 rfl ?_
    refine go_iadd (pc := 44) dX9_tideOn_44 ?_
    refine go_goto (pc := 45) (tgt := 72) dX9_tideOn_45 (by decide) ?_
    exact go_to (z_X9_tideOn_L72 hok   h) trivial
def x_X9_tideOn  (p1 p2 : Int32) (M : g_M) : Option (Int32 × g_M) := (if (7 : Int32) ≤ p2 then (x_X9_tideOn_L21   p1 (p2 - (7 : Int32)) (M 41 18) M) else (x_X9_tideOn_L21   p1 ((7 : Int32) - p2) (M 41 18) M))
set_option maxHeartbeats 4000000 in
set_option maxRecDepth 100000 in
theorem z_X9_tideOn {X : g_X} (hok : g_ok X)  {p1 p2 : Int32} {M : g_M} {r : Int32 × g_M} (h : x_X9_tideOn p1 p2 M = some r) : g_Con X yX9_tideOn cX9_tideOn 5 (some .int) 0 0 [.inr 41, .inl p1, .inl p2] M r := by
  rw [x_X9_tideOn] at h
  refine g_con hok (plainFor_of_name (by decide +kernel)) (Nat.le_of_ble_eq_true rfl) (go_to (lv2 := [some (.inr 41), some (.inl p1), some (.inl p2), none, none]) (own := RX9) ?_ (And.intro rfl (And.intro rfl (And.intro rfl trivial))))
  refine go_aload_n (pc := 0) dX9_tideOn_0 rfl ?_
  refine gf_9_196 (pc := 1) dX9_tideOn_1 ?_
  refine go_iload_n (pc := 4) dX9_tideOn_4 rfl ?_
  refine go_bipush (pc := 5) (v := (7 : Int32)) dX9_tideOn_5 (by decide) ?_
  refine go_icmp_ge (pc := 7) (tgt := 17) dX9_tideOn_7 (by decide) (fun e9 => ?_) (fun e9 => ?_)
  · replace h := (if_pos e9).symm.trans h
    refine go_iload_n (pc := 17) dX9_tideOn_17 rfl ?_
    refine go_bipush (pc := 18) (v := (7 : Int32)) dX9_tideOn_18 (by decide) ?_
    refine go_isub (pc := 20) dX9_tideOn_20 ?_
    exact go_to (z_X9_tideOn_L21 hok   h) (And.intro rfl (And.intro rfl trivial))
  · replace h := (if_neg e9).symm.trans h
    refine go_bipush (pc := 10) (v := (7 : Int32)) dX9_tideOn_10 (by decide) ?_
    refine go_iload_n (pc := 12) dX9_tideOn_12 rfl ?_
    refine go_isub (pc := 13) dX9_tideOn_13 ?_
    refine go_goto (pc := 14) (tgt := 21) dX9_tideOn_14 (by decide) ?_
    exact go_to (z_X9_tideOn_L21 hok   h) (And.intro rfl (And.intro rfl trivial))
def x_X9_swells_L18   (v1 : Int32) (v2 : Int32) (s0 : Int32) (M : g_M) : Option (Int32 × g_M) := (if s0 = 0 then (((x_X9_tideOn v1 v2 M).bind fun u1 => some (u1.1, u1.2))) else (((x_X9_no s0 M).bind fun u3 => some (u3.1, u3.2))))
set_option maxHeartbeats 4000000 in
set_option maxRecDepth 100000 in
theorem z_X9_swells_L18 {X : g_X} (hok : g_ok X)  {r : Int32 × g_M}  {v1 : Int32} {v2 : Int32} {s0 : Int32} {M : g_M} (h : x_X9_swells_L18   v1 v2 s0 M = some r) : g_Go X cX9_swells RX9 4 (some .int) 1 24 r 18 [some (.inr 41), some (.inl v1), some (.inl v2), none] [.inl s0] M := by
  rw [x_X9_swells_L18] at h
  refine go_istore_n (pc := 18) (lv' := [some (.inr 41), some (.inl v1), some (.inl v2), some (.inl s0)]) dX9_swells_18 (by decide) rfl ?_
  refine go_iload_n (pc := 19) dX9_swells_19 rfl ?_
  refine go_if_eq (pc := 20) (tgt := 31) dX9_swells_20 (by decide) (fun e5 => ?_) (fun e5 => ?_)
  · replace h := (if_pos e5).symm.trans h
    refine go_aload_n (pc := 31) dX9_swells_31 rfl ?_
    refine go_iload_n (pc := 32) dX9_swells_32 rfl ?_
    refine go_iload_n (pc := 33) dX9_swells_33 rfl ?_
    obtain ⟨u1, c2, h⟩ := g_bd h
    refine go_callV (pc := 34) (as := [.inl v1, .inl v2]) (st := []) (r := u1.1) (M1 := u1.2) (z_X9_tideOn hok  c2) cw_X9_tideOn ml_X9_309 (show g_lay[41]? = some _ from rfl) rfl rfl (by decide) (Nat.le_of_ble_eq_true rfl) rfl dX9_swells_34 ?_
    exact go_iret (pc := 37) (Option.some.inj h).symm rfl dX9_swells_37 rfl
  · replace h := (if_neg e5).symm.trans h
    refine go_aload_n (pc := 23) dX9_swells_23 rfl ?_
    refine go_iload_n (pc := 24) dX9_swells_24 rfl ?_
    obtain ⟨u3, c4, h⟩ := g_bd h
    refine go_callV (pc := 25) (as := [.inl s0]) (st := []) (r := u3.1) (M1 := u3.2) (z_X9_no hok  c4) cw_X9_no ml_X9_124 (show g_lay[41]? = some _ from rfl) rfl rfl (by decide) (Nat.le_of_ble_eq_true rfl) rfl dX9_swells_25 ?_
    refine go_goto (pc := 28) (tgt := 37) dX9_swells_28 (by decide) ?_
    exact go_iret (pc := 37) (Option.some.inj h).symm rfl dX9_swells_37 rfl
def x_X9_swells  (p1 p2 : Int32) (M : g_M) : Option (Int32 × g_M) := (((x_X9_isHour p1 M).bind fun u6 => if u6.1 = 0 then (x_X9_swells_L18   p1 p2 (-1 : Int32) u6.2) else (((x_X9_bound p2 (0 : Int32) (13 : Int32) u6.2).bind fun u8 => x_X9_swells_L18   p1 p2 u8.1 u8.2))))
set_option maxHeartbeats 4000000 in
set_option maxRecDepth 100000 in
theorem z_X9_swells {X : g_X} (hok : g_ok X)  {p1 p2 : Int32} {M : g_M} {r : Int32 × g_M} (h : x_X9_swells p1 p2 M = some r) : g_Con X yX9_swells cX9_swells 4 (some .int) 1 24 [.inr 41, .inl p1, .inl p2] M r := by
  rw [x_X9_swells] at h
  refine g_con hok (plainFor_of_name (by decide +kernel)) (Nat.le_of_ble_eq_true rfl) (go_to (lv2 := [some (.inr 41), some (.inl p1), some (.inl p2), none]) (own := RX9) ?_ (And.intro rfl (And.intro rfl (And.intro rfl trivial))))
  refine go_iload_n (pc := 0) dX9_swells_0 rfl ?_
  obtain ⟨u6, c7, h⟩ := g_bd h
  refine go_callS (pc := 1) (as := [.inl p1]) (st := []) (r := u6.1) (M1 := u6.2) (z_X9_isHour hok  c7) cw_X9_isHour ml_X9_159 (by decide) (Nat.le_of_ble_eq_true rfl) rfl dX9_swells_1 ?_
  refine go_if_ne (pc := 4) (tgt := 11) dX9_swells_4 (by decide) (fun e10 => ?_) (fun e10 => ?_)
  · replace h := (if_neg e10).symm.trans h
    refine go_iload_n (pc := 11) dX9_swells_11 rfl ?_
    refine go_iconst (pc := 12) (v := (0 : Int32)) dX9_swells_12 (by decide) ?_
    refine go_bipush (pc := 13) (v := (13 : Int32)) dX9_swells_13 (by decide) ?_
    obtain ⟨u8, c9, h⟩ := g_bd h
    refine go_callS (pc := 15) (as := [.inl p2, .inl (0 : Int32), .inl (13 : Int32)]) (st := []) (r := u8.1) (M1 := u8.2) (z_X9_bound hok  c9) cw_X9_bound ml_X9_117 (by decide) (Nat.le_of_ble_eq_true rfl) rfl dX9_swells_15 ?_
    exact go_to (z_X9_swells_L18 hok   h) (And.intro rfl (And.intro rfl (And.intro rfl trivial)))
  · replace h := (if_pos e10).symm.trans h
    refine go_iconst (pc := 7) (v := (-1 : Int32)) dX9_swells_7 (by decide) ?_
    refine go_goto (pc := 8) (tgt := 18) dX9_swells_8 (by decide) ?_
    exact go_to (z_X9_swells_L18 hok   h) (And.intro rfl (And.intro rfl (And.intro rfl trivial)))
def x_X9_laysDay_L2   : Nat → Int32 → Int32 → g_M → Option (Int32 × g_M)
  | 0, _, _, _ => none
  | n + 1, v1, v2, M => (if (12 : Int32) ≤ v2 then (some (0, M)) else (((x_X9_tideOn v2 v1 M).bind fun u1 => (if g_inb v2 12 = true then (x_X9_laysDay_L2   n v1 (v2 + (1 : Int32)) (g_upd u1.2 43 v2.toNatClampNeg u1.1)) else none))))
set_option maxHeartbeats 4000000 in
set_option maxRecDepth 100000 in
theorem z_X9_laysDay_L2 {X : g_X} (hok : g_ok X)  {r : Int32 × g_M}  : ∀ (n : Nat) (v1 : Int32) (v2 : Int32) (M : g_M), x_X9_laysDay_L2   n v1 v2 M = some r → g_Go X cX9_laysDay RX9 3 none 1 24 r 2 [some (.inr 41), some (.inl v1), some (.inl v2)] [] M := by
  intro n
  induction n with
  | zero =>
    intro v1 v2 M h
    rw [x_X9_laysDay_L2] at h
    cases h
  | succ n ih =>
    intro v1 v2 M h
    rw [x_X9_laysDay_L2] at h
    refine go_iload_n (pc := 2) dX9_laysDay_2 rfl ?_
    refine go_bipush (pc := 3) (v := (12 : Int32)) dX9_laysDay_3 (by decide) ?_
    refine go_icmp_ge (pc := 5) (tgt := 26) dX9_laysDay_5 (by decide) (fun e4 => ?_) (fun e4 => ?_)
    · replace h := (if_pos e4).symm.trans h
      exact go_vret (pc := 26) (Option.some.inj h).symm rfl dX9_laysDay_26
    · replace h := (if_neg e4).symm.trans h
      refine go_aload_n (pc := 8) dX9_laysDay_8 rfl ?_
      refine gf_9_13 (pc := 9) dX9_laysDay_9 ?_
      refine go_iload_n (pc := 12) dX9_laysDay_12 rfl ?_
      refine go_aload_n (pc := 13) dX9_laysDay_13 rfl ?_
      refine go_iload_n (pc := 14) dX9_laysDay_14 rfl ?_
      refine go_iload_n (pc := 15) dX9_laysDay_15 rfl ?_
      obtain ⟨u1, c2, h⟩ := g_bd h
      refine go_callV (pc := 16) (as := [.inl v2, .inl v1]) (st := [.inl v2, .inr 43]) (r := u1.1) (M1 := u1.2) (z_X9_tideOn hok  c2) cw_X9_tideOn ml_X9_309 (show g_lay[41]? = some _ from rfl) rfl rfl (by decide) (Nat.le_of_ble_eq_true rfl) rfl dX9_laysDay_16 ?_
      obtain ⟨i3, h⟩ := g_gd h
      refine go_iast (pc := 19) (n := 12) rfl (g_inb_ok i3) dX9_laysDay_19 ?_
      refine go_iinc (pc := 20) (v := (1 : Int32)) (lv' := [some (.inr 41), some (.inl v1), some (.inl (v2 + (1 : Int32)))]) dX9_laysDay_20 rfl (by decide) (by decide) rfl ?_
      refine go_goto (pc := 23) (tgt := 2) dX9_laysDay_23 (by decide) ?_
      exact go_to (ih _ _ _ h) (And.intro rfl (And.intro rfl (And.intro rfl trivial)))
def x_X9_laysDay  (p1 : Int32) (M : g_M) : Option (Int32 × g_M) := (x_X9_laysDay_L2   g_F p1 (0 : Int32) M)
set_option maxHeartbeats 4000000 in
set_option maxRecDepth 100000 in
theorem z_X9_laysDay {X : g_X} (hok : g_ok X)  {p1 : Int32} {M : g_M} {r : Int32 × g_M} (h : x_X9_laysDay p1 M = some r) : g_Con X yX9_laysDay cX9_laysDay 3 none 1 24 [.inr 41, .inl p1] M r := by
  rw [x_X9_laysDay] at h
  refine g_con hok (plainFor_of_name (by decide +kernel)) (Nat.le_of_ble_eq_true rfl) (go_to (lv2 := [some (.inr 41), some (.inl p1), none]) (own := RX9) ?_ (And.intro rfl (And.intro rfl trivial)))
  refine go_iconst (pc := 0) (v := (0 : Int32)) dX9_laysDay_0 (by decide) ?_
  refine go_istore_n (pc := 1) (lv' := [some (.inr 41), some (.inl p1), some (.inl (0 : Int32))]) dX9_laysDay_1 (by decide) rfl ?_
  exact go_to (z_X9_laysDay_L2 hok   g_F _ _ _ h) (And.intro rfl (And.intro rfl (And.intro rfl trivial)))
def x_X9_hangDays_L107   : Nat → Int32 → Int32 → g_M → Option (Int32 × g_M)
  | 0, _, _, _ => none
  | n + 1, v3, v4, M => (if (12 : Int32) ≤ v4 then (some (v3, M)) else ((if g_inb v4 12 = true then ((if g_inb v4 12 = true then (x_X9_hangDays_L107   n v3 (v4 + (1 : Int32)) (g_upd M 43 v4.toNatClampNeg (M 70 v4.toNatClampNeg))) else none)) else none)))
set_option maxHeartbeats 4000000 in
set_option maxRecDepth 100000 in
theorem z_X9_hangDays_L107 {X : g_X} (hok : g_ok X)  {r : Int32 × g_M}  : ∀ (n : Nat) (v3 : Int32) (v4 : Int32) (M : g_M), x_X9_hangDays_L107   n v3 v4 M = some r → g_Go X cX9_hangDays RX9 6 (some .int) 4 93 r 107 [some (.inr 41), none, none, some (.inl v3), some (.inl v4), none] [] M := by
  intro n
  induction n with
  | zero =>
    intro v3 v4 M h
    rw [x_X9_hangDays_L107] at h
    cases h
  | succ n ih =>
    intro v3 v4 M h
    rw [x_X9_hangDays_L107] at h
    refine go_iload (pc := 107) dX9_hangDays_107 rfl ?_
    refine go_bipush (pc := 109) (v := (12 : Int32)) dX9_hangDays_109 (by decide) ?_
    refine go_icmp_ge (pc := 111) (tgt := 134) dX9_hangDays_111 (by decide) (fun e3 => ?_) (fun e3 => ?_)
    · replace h := (if_pos e3).symm.trans h
      refine go_iload_n (pc := 134) dX9_hangDays_134 rfl ?_
      exact go_iret (pc := 135) (Option.some.inj h).symm rfl dX9_hangDays_135 rfl
    · replace h := (if_neg e3).symm.trans h
      refine go_aload_n (pc := 114) dX9_hangDays_114 rfl ?_
      refine gf_9_13 (pc := 115) dX9_hangDays_115 ?_
      refine go_iload (pc := 118) dX9_hangDays_118 rfl ?_
      refine go_aload_n (pc := 120) dX9_hangDays_120 rfl ?_
      refine gf_9_94 (pc := 121) dX9_hangDays_121 ?_
      refine go_iload (pc := 124) dX9_hangDays_124 rfl ?_
      obtain ⟨i1, h⟩ := g_gd h
      refine go_iald (pc := 126) (n := 12) rfl (g_inb_ok i1) dX9_hangDays_126 ?_
      obtain ⟨i2, h⟩ := g_gd h
      refine go_iast (pc := 127) (n := 12) rfl (g_inb_ok i2) dX9_hangDays_127 ?_
      refine go_iinc (pc := 128) (v := (1 : Int32)) (lv' := [some (.inr 41), none, none, some (.inl v3), some (.inl (v4 + (1 : Int32))), none]) dX9_hangDays_128 rfl (by decide) (by decide) rfl ?_
      refine go_goto (pc := 131) (tgt := 107) dX9_hangDays_131 (by decide) ?_
      exact go_to (ih _ _ _ h) (And.intro rfl (And.intro rfl (And.intro rfl trivial)))
def x_X9_hangDays_L45  (k35 : Int32 → Int32 → Int32 → Int32 → g_M → Option (Int32 × g_M)) : Nat → Int32 → Int32 → Int32 → Int32 → Int32 → g_M → Option (Int32 × g_M)
  | 0, _, _, _, _, _, _ => none
  | n + 1, v1, v2, v3, v4, v5, M => (if (12 : Int32) ≤ v5 then (((x_X9_laysDay v4 M).bind fun u4 => ((x_X9_hangHours v1 v2 u4.2).bind fun u6 => if u6.1 = 0 then (k35 v1 v2 (v3 ||| (0 : Int32)) (v4 + (1 : Int32)) u6.2) else (k35 v1 v2 (v3 ||| ((1 : Int32) <<< (v4 &&& 31))) (v4 + (1 : Int32)) u6.2)))) else ((if g_inb v5 12 = true then ((if g_inb v5 12 = true then (x_X9_hangDays_L45  k35 n v1 v2 v3 v4 (v5 + (1 : Int32)) (g_upd M 43 v5.toNatClampNeg (M 70 v5.toNatClampNeg))) else none)) else none)))
set_option maxHeartbeats 4000000 in
set_option maxRecDepth 100000 in
theorem z_X9_hangDays_L45 {X : g_X} (hok : g_ok X)  {r : Int32 × g_M} {k35 : Int32 → Int32 → Int32 → Int32 → g_M → Option (Int32 × g_M)} (hk35 : ∀ (v1 : Int32) (v2 : Int32) (v3 : Int32) (v4 : Int32) (M : g_M), k35 v1 v2 v3 v4 M = some r → g_Go X cX9_hangDays RX9 6 (some .int) 4 93 r 35 [some (.inr 41), some (.inl v1), some (.inl v2), some (.inl v3), some (.inl v4), none] [] M) : ∀ (n : Nat) (v1 : Int32) (v2 : Int32) (v3 : Int32) (v4 : Int32) (v5 : Int32) (M : g_M), x_X9_hangDays_L45  k35 n v1 v2 v3 v4 v5 M = some r → g_Go X cX9_hangDays RX9 6 (some .int) 4 93 r 45 [some (.inr 41), some (.inl v1), some (.inl v2), some (.inl v3), some (.inl v4), some (.inl v5)] [] M := by
  intro n
  induction n with
  | zero =>
    intro v1 v2 v3 v4 v5 M h
    rw [x_X9_hangDays_L45] at h
    cases h
  | succ n ih =>
    intro v1 v2 v3 v4 v5 M h
    rw [x_X9_hangDays_L45] at h
    refine go_iload (pc := 45) dX9_hangDays_45 rfl ?_
    refine go_bipush (pc := 47) (v := (12 : Int32)) dX9_hangDays_47 (by decide) ?_
    refine go_icmp_ge (pc := 49) (tgt := 72) dX9_hangDays_49 (by decide) (fun e11 => ?_) (fun e11 => ?_)
    · replace h := (if_pos e11).symm.trans h
      refine go_aload_n (pc := 72) dX9_hangDays_72 rfl ?_
      refine go_iload (pc := 73) dX9_hangDays_73 rfl ?_
      obtain ⟨u4, c5, h⟩ := g_bd h
      refine go_callV (pc := 75) (as := [.inl v4]) (st := []) (r := u4.1) (M1 := u4.2) (z_X9_laysDay hok  c5) cw_X9_laysDay ml_X9_312 (show g_lay[41]? = some _ from rfl) rfl rfl (by decide) (Nat.le_of_ble_eq_true rfl) rfl dX9_hangDays_75 ?_
      refine go_iload_n (pc := 78) dX9_hangDays_78 rfl ?_
      refine go_aload_n (pc := 79) dX9_hangDays_79 rfl ?_
      refine go_iload_n (pc := 80) dX9_hangDays_80 rfl ?_
      refine go_iload_n (pc := 81) dX9_hangDays_81 rfl ?_
      obtain ⟨u6, c7, h⟩ := g_bd h
      refine go_callV (pc := 82) (as := [.inl v1, .inl v2]) (st := [.inl v3]) (r := u6.1) (M1 := u6.2) (z_X9_hangHours hok  c7) cw_X9_hangHours ml_X9_246 (show g_lay[41]? = some _ from rfl) rfl rfl (by decide) (Nat.le_of_ble_eq_true rfl) rfl dX9_hangDays_82 ?_
      refine go_if_eq (pc := 85) (tgt := 95) dX9_hangDays_85 (by decide) (fun e8 => ?_) (fun e8 => ?_)
      · replace h := (if_pos e8).symm.trans h
        refine go_iconst (pc := 95) (v := (0 : Int32)) dX9_hangDays_95 (by decide) ?_
        refine go_ior (pc := 96) dX9_hangDays_96 ?_
        refine go_istore_n (pc := 97) (lv' := [some (.inr 41), some (.inl v1), some (.inl v2), some (.inl (v3 ||| (0 : Int32))), some (.inl v4), some (.inl v5)]) dX9_hangDays_97 (by decide) rfl ?_
        refine go_iinc (pc := 98) (v := (1 : Int32)) (lv' := [some (.inr 41), some (.inl v1), some (.inl v2), some (.inl (v3 ||| (0 : Int32))), some (.inl (v4 + (1 : Int32))), some (.inl v5)]) dX9_hangDays_98 rfl (by decide) (by decide) rfl ?_
        refine go_goto (pc := 101) (tgt := 35) dX9_hangDays_101 (by decide) ?_
        exact go_to (hk35 _ _ _ _ _ h) (And.intro rfl (And.intro rfl (And.intro rfl (And.intro rfl (And.intro rfl trivial)))))
      · replace h := (if_neg e8).symm.trans h
        refine go_iconst (pc := 88) (v := (1 : Int32)) dX9_hangDays_88 (by decide) ?_
        refine go_iload (pc := 89) dX9_hangDays_89 rfl ?_
        refine go_ishl (pc := 91) dX9_hangDays_91 ?_
        refine go_goto (pc := 92) (tgt := 96) dX9_hangDays_92 (by decide) ?_
        refine go_ior (pc := 96) dX9_hangDays_96 ?_
        refine go_istore_n (pc := 97) (lv' := [some (.inr 41), some (.inl v1), some (.inl v2), some (.inl (v3 ||| ((1 : Int32) <<< (v4 &&& 31)))), some (.inl v4), some (.inl v5)]) dX9_hangDays_97 (by decide) rfl ?_
        refine go_iinc (pc := 98) (v := (1 : Int32)) (lv' := [some (.inr 41), some (.inl v1), some (.inl v2), some (.inl (v3 ||| ((1 : Int32) <<< (v4 &&& 31)))), some (.inl (v4 + (1 : Int32))), some (.inl v5)]) dX9_hangDays_98 rfl (by decide) (by decide) rfl ?_
        refine go_goto (pc := 101) (tgt := 35) dX9_hangDays_101 (by decide) ?_
        exact go_to (hk35 _ _ _ _ _ h) (And.intro rfl (And.intro rfl (And.intro rfl (And.intro rfl (And.intro rfl trivial)))))
    · replace h := (if_neg e11).symm.trans h
      refine go_aload_n (pc := 52) dX9_hangDays_52 rfl ?_
      refine gf_9_13 (pc := 53) dX9_hangDays_53 ?_
      refine go_iload (pc := 56) dX9_hangDays_56 rfl ?_
      refine go_aload_n (pc := 58) dX9_hangDays_58 rfl ?_
      refine gf_9_94 (pc := 59) dX9_hangDays_59 ?_
      refine go_iload (pc := 62) dX9_hangDays_62 rfl ?_
      obtain ⟨i9, h⟩ := g_gd h
      refine go_iald (pc := 64) (n := 12) rfl (g_inb_ok i9) dX9_hangDays_64 ?_
      obtain ⟨i10, h⟩ := g_gd h
      refine go_iast (pc := 65) (n := 12) rfl (g_inb_ok i10) dX9_hangDays_65 ?_
      refine go_iinc (pc := 66) (v := (1 : Int32)) (lv' := [some (.inr 41), some (.inl v1), some (.inl v2), some (.inl v3), some (.inl v4), some (.inl (v5 + (1 : Int32)))]) dX9_hangDays_66 rfl (by decide) (by decide) rfl ?_
      refine go_goto (pc := 69) (tgt := 45) dX9_hangDays_69 (by decide) ?_
      exact go_to (ih _ _ _ _ _ _ h) (And.intro rfl (And.intro rfl (And.intro rfl (And.intro rfl (And.intro rfl (And.intro rfl trivial))))))
def x_X9_hangDays_L35   : Nat → Int32 → Int32 → Int32 → Int32 → g_M → Option (Int32 × g_M)
  | 0, _, _, _, _, _ => none
  | n + 1, v1, v2, v3, v4, M => (if (14 : Int32) ≤ v4 then (x_X9_hangDays_L107   g_F v3 (0 : Int32) M) else (x_X9_hangDays_L45  (x_X9_hangDays_L35   n) g_F v1 v2 v3 v4 (0 : Int32) M))
set_option maxHeartbeats 4000000 in
set_option maxRecDepth 100000 in
theorem z_X9_hangDays_L35 {X : g_X} (hok : g_ok X)  {r : Int32 × g_M}  : ∀ (n : Nat) (v1 : Int32) (v2 : Int32) (v3 : Int32) (v4 : Int32) (M : g_M), x_X9_hangDays_L35   n v1 v2 v3 v4 M = some r → g_Go X cX9_hangDays RX9 6 (some .int) 4 93 r 35 [some (.inr 41), some (.inl v1), some (.inl v2), some (.inl v3), some (.inl v4), none] [] M := by
  intro n
  induction n with
  | zero =>
    intro v1 v2 v3 v4 M h
    rw [x_X9_hangDays_L35] at h
    cases h
  | succ n ih =>
    intro v1 v2 v3 v4 M h
    rw [x_X9_hangDays_L35] at h
    refine go_iload (pc := 35) dX9_hangDays_35 rfl ?_
    refine go_bipush (pc := 37) (v := (14 : Int32)) dX9_hangDays_37 (by decide) ?_
    refine go_icmp_ge (pc := 39) (tgt := 104) dX9_hangDays_39 (by decide) (fun e12 => ?_) (fun e12 => ?_)
    · replace h := (if_pos e12).symm.trans h
      refine go_iconst (pc := 104) (v := (0 : Int32)) dX9_hangDays_104 (by decide) ?_
      refine go_istore (pc := 105) (lv' := [some (.inr 41), some (.inl v1), some (.inl v2), some (.inl v3), some (.inl (0 : Int32)), none]) dX9_hangDays_105 (by decide) rfl ?_
      exact go_to (z_X9_hangDays_L107 hok   g_F _ _ _ h) (And.intro rfl (And.intro rfl (And.intro rfl trivial)))
    · replace h := (if_neg e12).symm.trans h
      refine go_iconst (pc := 42) (v := (0 : Int32)) dX9_hangDays_42 (by decide) ?_
      refine go_istore (pc := 43) (lv' := [some (.inr 41), some (.inl v1), some (.inl v2), some (.inl v3), some (.inl v4), some (.inl (0 : Int32))]) dX9_hangDays_43 (by decide) rfl ?_
      exact go_to (z_X9_hangDays_L45 hok  (ih) g_F _ _ _ _ _ _ h) (And.intro rfl (And.intro rfl (And.intro rfl (And.intro rfl (And.intro rfl (And.intro rfl trivial))))))
def x_X9_hangDays_L5   : Nat → Int32 → Int32 → Int32 → Int32 → g_M → Option (Int32 × g_M)
  | 0, _, _, _, _, _ => none
  | n + 1, v1, v2, v3, v4, M => (if (12 : Int32) ≤ v4 then (x_X9_hangDays_L35   g_F v1 v2 v3 (0 : Int32) M) else ((if g_inb v4 12 = true then ((if g_inb v4 12 = true then (x_X9_hangDays_L5   n v1 v2 v3 (v4 + (1 : Int32)) (g_upd M 70 v4.toNatClampNeg (M 43 v4.toNatClampNeg))) else none)) else none)))
set_option maxHeartbeats 4000000 in
set_option maxRecDepth 100000 in
theorem z_X9_hangDays_L5 {X : g_X} (hok : g_ok X)  {r : Int32 × g_M}  : ∀ (n : Nat) (v1 : Int32) (v2 : Int32) (v3 : Int32) (v4 : Int32) (M : g_M), x_X9_hangDays_L5   n v1 v2 v3 v4 M = some r → g_Go X cX9_hangDays RX9 6 (some .int) 4 93 r 5 [some (.inr 41), some (.inl v1), some (.inl v2), some (.inl v3), some (.inl v4), none] [] M := by
  intro n
  induction n with
  | zero =>
    intro v1 v2 v3 v4 M h
    rw [x_X9_hangDays_L5] at h
    cases h
  | succ n ih =>
    intro v1 v2 v3 v4 M h
    rw [x_X9_hangDays_L5] at h
    refine go_iload (pc := 5) dX9_hangDays_5 rfl ?_
    refine go_bipush (pc := 7) (v := (12 : Int32)) dX9_hangDays_7 (by decide) ?_
    refine go_icmp_ge (pc := 9) (tgt := 32) dX9_hangDays_9 (by decide) (fun e15 => ?_) (fun e15 => ?_)
    · replace h := (if_pos e15).symm.trans h
      refine go_iconst (pc := 32) (v := (0 : Int32)) dX9_hangDays_32 (by decide) ?_
      refine go_istore (pc := 33) (lv' := [some (.inr 41), some (.inl v1), some (.inl v2), some (.inl v3), some (.inl (0 : Int32)), none]) dX9_hangDays_33 (by decide) rfl ?_
      exact go_to (z_X9_hangDays_L35 hok   g_F _ _ _ _ _ h) (And.intro rfl (And.intro rfl (And.intro rfl (And.intro rfl (And.intro rfl trivial)))))
    · replace h := (if_neg e15).symm.trans h
      refine go_aload_n (pc := 12) dX9_hangDays_12 rfl ?_
      refine gf_9_94 (pc := 13) dX9_hangDays_13 ?_
      refine go_iload (pc := 16) dX9_hangDays_16 rfl ?_
      refine go_aload_n (pc := 18) dX9_hangDays_18 rfl ?_
      refine gf_9_13 (pc := 19) dX9_hangDays_19 ?_
      refine go_iload (pc := 22) dX9_hangDays_22 rfl ?_
      obtain ⟨i13, h⟩ := g_gd h
      refine go_iald (pc := 24) (n := 12) rfl (g_inb_ok i13) dX9_hangDays_24 ?_
      obtain ⟨i14, h⟩ := g_gd h
      refine go_iast (pc := 25) (n := 12) rfl (g_inb_ok i14) dX9_hangDays_25 ?_
      refine go_iinc (pc := 26) (v := (1 : Int32)) (lv' := [some (.inr 41), some (.inl v1), some (.inl v2), some (.inl v3), some (.inl (v4 + (1 : Int32))), none]) dX9_hangDays_26 rfl (by decide) (by decide) rfl ?_
      refine go_goto (pc := 29) (tgt := 5) dX9_hangDays_29 (by decide) ?_
      exact go_to (ih _ _ _ _ _ h) (And.intro rfl (And.intro rfl (And.intro rfl (And.intro rfl (And.intro rfl trivial)))))
def x_X9_hangDays  (p1 p2 : Int32) (M : g_M) : Option (Int32 × g_M) := (x_X9_hangDays_L5   g_F p1 p2 (0 : Int32) (0 : Int32) M)
set_option maxHeartbeats 4000000 in
set_option maxRecDepth 100000 in
theorem z_X9_hangDays {X : g_X} (hok : g_ok X)  {p1 p2 : Int32} {M : g_M} {r : Int32 × g_M} (h : x_X9_hangDays p1 p2 M = some r) : g_Con X yX9_hangDays cX9_hangDays 6 (some .int) 4 93 [.inr 41, .inl p1, .inl p2] M r := by
  rw [x_X9_hangDays] at h
  refine g_con hok (plainFor_of_name (by decide +kernel)) (Nat.le_of_ble_eq_true rfl) (go_to (lv2 := [some (.inr 41), some (.inl p1), some (.inl p2), none, none, none]) (own := RX9) ?_ (And.intro rfl (And.intro rfl (And.intro rfl trivial))))
  refine go_iconst (pc := 0) (v := (0 : Int32)) dX9_hangDays_0 (by decide) ?_
  refine go_istore_n (pc := 1) (lv' := [some (.inr 41), some (.inl p1), some (.inl p2), some (.inl (0 : Int32)), none, none]) dX9_hangDays_1 (by decide) rfl ?_
  refine go_iconst (pc := 2) (v := (0 : Int32)) dX9_hangDays_2 (by decide) ?_
  refine go_istore (pc := 3) (lv' := [some (.inr 41), some (.inl p1), some (.inl p2), some (.inl (0 : Int32)), some (.inl (0 : Int32)), none]) dX9_hangDays_3 (by decide) rfl ?_
  exact go_to (z_X9_hangDays_L5 hok   g_F _ _ _ _ _ h) (And.intro rfl (And.intro rfl (And.intro rfl (And.intro rfl (And.intro rfl trivial)))))
def x_X9_firstOf_L2   : Nat → Int32 → Int32 → g_M → Option (Int32 × g_M)
  | 0, _, _, _ => none
  | n + 1, v0, v1, M => (if (14 : Int32) ≤ v1 then (some ((-9 : Int32), M)) else (if ((v0 >>> (v1 &&& 31)) &&& (1 : Int32)) = (1 : Int32) then (some (v1, M)) else (x_X9_firstOf_L2   n v0 (v1 + (1 : Int32)) M)))
set_option maxHeartbeats 4000000 in
set_option maxRecDepth 100000 in
theorem z_X9_firstOf_L2 {X : g_X} (hok : g_ok X)  {r : Int32 × g_M}  : ∀ (n : Nat) (v0 : Int32) (v1 : Int32) (M : g_M), x_X9_firstOf_L2   n v0 v1 M = some r → g_Go X cX9_firstOf RX9 2 (some .int) 0 0 r 2 [some (.inl v0), some (.inl v1)] [] M := by
  intro n
  induction n with
  | zero =>
    intro v0 v1 M h
    rw [x_X9_firstOf_L2] at h
    cases h
  | succ n ih =>
    intro v0 v1 M h
    rw [x_X9_firstOf_L2] at h
    refine go_iload_n (pc := 2) dX9_firstOf_2 rfl ?_
    refine go_bipush (pc := 3) (v := (14 : Int32)) dX9_firstOf_3 (by decide) ?_
    refine go_icmp_ge (pc := 5) (tgt := 25) dX9_firstOf_5 (by decide) (fun e2 => ?_) (fun e2 => ?_)
    · replace h := (if_pos e2).symm.trans h
      refine go_bipush (pc := 25) (v := (-9 : Int32)) dX9_firstOf_25 (by decide) ?_
      exact go_iret (pc := 27) (Option.some.inj h).symm rfl dX9_firstOf_27 rfl
    · replace h := (if_neg e2).symm.trans h
      refine go_iload_n (pc := 8) dX9_firstOf_8 rfl ?_
      refine go_iload_n (pc := 9) dX9_firstOf_9 rfl ?_
      refine go_ishr (pc := 10) dX9_firstOf_10 ?_
      refine go_iconst (pc := 11) (v := (1 : Int32)) dX9_firstOf_11 (by decide) ?_
      refine go_iand (pc := 12) dX9_firstOf_12 ?_
      refine go_iconst (pc := 13) (v := (1 : Int32)) dX9_firstOf_13 (by decide) ?_
      refine go_icmp_ne (pc := 14) (tgt := 19) dX9_firstOf_14 (by decide) (fun e1 => ?_) (fun e1 => ?_)
      · replace h := (if_neg e1).symm.trans h
        refine go_iinc (pc := 19) (v := (1 : Int32)) (lv' := [some (.inl v0), some (.inl (v1 + (1 : Int32)))]) dX9_firstOf_19 rfl (by decide) (by decide) rfl ?_
        refine go_goto (pc := 22) (tgt := 2) dX9_firstOf_22 (by decide) ?_
        exact go_to (ih _ _ _ h) (And.intro rfl (And.intro rfl trivial))
      · replace h := (if_pos e1).symm.trans h
        refine go_iload_n (pc := 17) dX9_firstOf_17 rfl ?_
        exact go_iret (pc := 18) (Option.some.inj h).symm rfl dX9_firstOf_18 rfl
def x_X9_firstOf  (p0 : Int32) (M : g_M) : Option (Int32 × g_M) := (x_X9_firstOf_L2   g_F p0 (0 : Int32) M)
set_option maxHeartbeats 4000000 in
set_option maxRecDepth 100000 in
theorem z_X9_firstOf {X : g_X} (hok : g_ok X)  {p0 : Int32} {M : g_M} {r : Int32 × g_M} (h : x_X9_firstOf p0 M = some r) : g_Con X yX9_firstOf cX9_firstOf 2 (some .int) 0 0 [.inl p0] M r := by
  rw [x_X9_firstOf] at h
  refine g_con hok (plainFor_of_name (by decide +kernel)) (Nat.le_of_ble_eq_true rfl) (go_to (lv2 := [some (.inl p0), none]) (own := RX9) ?_ (And.intro rfl trivial))
  refine go_iconst (pc := 0) (v := (0 : Int32)) dX9_firstOf_0 (by decide) ?_
  refine go_istore_n (pc := 1) (lv' := [some (.inl p0), some (.inl (0 : Int32))]) dX9_firstOf_1 (by decide) rfl ?_
  exact go_to (z_X9_firstOf_L2 hok   g_F _ _ _ h) (And.intro rfl (And.intro rfl trivial))
def x_X9_fortnight_L77   : Nat → Int32 → Int32 → g_M → Option (Int32 × g_M)
  | 0, _, _, _ => none
  | n + 1, v1, v4, M => (if (99 : Int32) < v4 then (some ((-9 : Int32), M)) else (((x_X9_hangDays v1 v4 M).bind fun u1 => if u1.1 = 0 then (some (v4, u1.2)) else (x_X9_fortnight_L77   n v1 (v4 + (1 : Int32)) u1.2))))
set_option maxHeartbeats 4000000 in
set_option maxRecDepth 100000 in
theorem z_X9_fortnight_L77 {X : g_X} (hok : g_ok X)  {r : Int32 × g_M}  : ∀ (n : Nat) (v1 : Int32) (v4 : Int32) (M : g_M), x_X9_fortnight_L77   n v1 v4 M = some r → g_Go X cX9_fortnight RX9 5 (some .int) 5 118 r 77 [some (.inr 41), some (.inl v1), none, none, some (.inl v4)] [] M := by
  intro n
  induction n with
  | zero =>
    intro v1 v4 M h
    rw [x_X9_fortnight_L77] at h
    cases h
  | succ n ih =>
    intro v1 v4 M h
    rw [x_X9_fortnight_L77] at h
    refine go_iload (pc := 77) dX9_fortnight_77 rfl ?_
    refine go_bipush (pc := 79) (v := (99 : Int32)) dX9_fortnight_79 (by decide) ?_
    refine go_icmp_gt (pc := 81) (tgt := 103) dX9_fortnight_81 (by decide) (fun e4 => ?_) (fun e4 => ?_)
    · replace h := (if_pos e4).symm.trans h
      refine go_bipush (pc := 103) (v := (-9 : Int32)) dX9_fortnight_103 (by decide) ?_
      exact go_iret (pc := 105) (Option.some.inj h).symm rfl dX9_fortnight_105 rfl
    · replace h := (if_neg e4).symm.trans h
      refine go_aload_n (pc := 84) dX9_fortnight_84 rfl ?_
      refine go_iload_n (pc := 85) dX9_fortnight_85 rfl ?_
      refine go_iload (pc := 86) dX9_fortnight_86 rfl ?_
      obtain ⟨u1, c2, h⟩ := g_bd h
      refine go_callV (pc := 88) (as := [.inl v1, .inl v4]) (st := []) (r := u1.1) (M1 := u1.2) (z_X9_hangDays hok  c2) cw_X9_hangDays ml_X9_315 (show g_lay[41]? = some _ from rfl) rfl rfl (by decide) (Nat.le_of_ble_eq_true rfl) rfl dX9_fortnight_88 ?_
      refine go_if_ne (pc := 91) (tgt := 97) dX9_fortnight_91 (by decide) (fun e3 => ?_) (fun e3 => ?_)
      · replace h := (if_neg e3).symm.trans h
        refine go_iinc (pc := 97) (v := (1 : Int32)) (lv' := [some (.inr 41), some (.inl v1), none, none, some (.inl (v4 + (1 : Int32)))]) dX9_fortnight_97 rfl (by decide) (by decide) rfl ?_
        refine go_goto (pc := 100) (tgt := 77) dX9_fortnight_100 (by decide) ?_
        exact go_to (ih _ _ _ h) (And.intro rfl (And.intro rfl (And.intro rfl trivial)))
      · replace h := (if_pos e3).symm.trans h
        refine go_iload (pc := 94) dX9_fortnight_94 rfl ?_
        exact go_iret (pc := 96) (Option.some.inj h).symm rfl dX9_fortnight_96 rfl
def x_X9_fortnight_L27   (v1 : Int32) (v2 : Int32) (s0 : Int32) (M : g_M) : Option (Int32 × g_M) := (if s0 = 0 then (if v2 = 0 then ((if g_inb v1 5 = true then (((x_X9_hangDays v1 (M 52 v1.toNatClampNeg) M).bind fun u12 => some (u12.1, u12.2))) else none)) else (if v2 = (1 : Int32) then ((if g_inb v1 5 = true then (((x_X9_hangDays v1 (M 52 v1.toNatClampNeg) M).bind fun u6 => ((x_X9_firstOf u6.1 u6.2).bind fun u8 => some (u8.1, u8.2)))) else none)) else (x_X9_fortnight_L77   g_F v1 (0 : Int32) M))) else (((x_X9_no s0 M).bind fun u15 => some (u15.1, u15.2))))
set_option maxHeartbeats 4000000 in
set_option maxRecDepth 100000 in
theorem z_X9_fortnight_L27 {X : g_X} (hok : g_ok X)  {r : Int32 × g_M}  {v1 : Int32} {v2 : Int32} {s0 : Int32} {M : g_M} (h : x_X9_fortnight_L27   v1 v2 s0 M = some r) : g_Go X cX9_fortnight RX9 5 (some .int) 5 118 r 27 [some (.inr 41), some (.inl v1), some (.inl v2), none, none] [.inl s0] M := by
  rw [x_X9_fortnight_L27] at h
  refine go_istore_n (pc := 27) (lv' := [some (.inr 41), some (.inl v1), some (.inl v2), some (.inl s0), none]) dX9_fortnight_27 (by decide) rfl ?_
  refine go_iload_n (pc := 28) dX9_fortnight_28 rfl ?_
  refine go_if_eq (pc := 29) (tgt := 38) dX9_fortnight_29 (by decide) (fun e17 => ?_) (fun e17 => ?_)
  · replace h := (if_pos e17).symm.trans h
    refine go_iload_n (pc := 38) dX9_fortnight_38 rfl ?_
    refine go_if_ne (pc := 39) (tgt := 54) dX9_fortnight_39 (by decide) (fun e14 => ?_) (fun e14 => ?_)
    · replace h := (if_neg e14).symm.trans h
      refine go_iload_n (pc := 54) dX9_fortnight_54 rfl ?_
      refine go_iconst (pc := 55) (v := (1 : Int32)) dX9_fortnight_55 (by decide) ?_
      refine go_icmp_ne (pc := 56) (tgt := 74) dX9_fortnight_56 (by decide) (fun e10 => ?_) (fun e10 => ?_)
      · replace h := (if_neg e10).symm.trans h
        refine go_iconst (pc := 74) (v := (0 : Int32)) dX9_fortnight_74 (by decide) ?_
        refine go_istore (pc := 75) (lv' := [some (.inr 41), some (.inl v1), some (.inl v2), some (.inl s0), some (.inl (0 : Int32))]) dX9_fortnight_75 (by decide) rfl ?_
        exact go_to (z_X9_fortnight_L77 hok   g_F _ _ _ h) (And.intro rfl (And.intro rfl (And.intro rfl trivial)))
      · replace h := (if_pos e10).symm.trans h
        refine go_aload_n (pc := 59) dX9_fortnight_59 rfl ?_
        refine go_iload_n (pc := 60) dX9_fortnight_60 rfl ?_
        refine go_aload_n (pc := 61) dX9_fortnight_61 rfl ?_
        refine gf_9_40 (pc := 62) dX9_fortnight_62 ?_
        refine go_iload_n (pc := 65) dX9_fortnight_65 rfl ?_
        obtain ⟨i5, h⟩ := g_gd h
        refine go_iald (pc := 66) (n := 5) rfl (g_inb_ok i5) dX9_fortnight_66 ?_
        obtain ⟨u6, c7, h⟩ := g_bd h
        refine go_callV (pc := 67) (as := [.inl v1, .inl (M 52 v1.toNatClampNeg)]) (st := []) (r := u6.1) (M1 := u6.2) (z_X9_hangDays hok  c7) cw_X9_hangDays ml_X9_315 (show g_lay[41]? = some _ from rfl) rfl rfl (by decide) (Nat.le_of_ble_eq_true rfl) rfl dX9_fortnight_67 ?_
        obtain ⟨u8, c9, h⟩ := g_bd h
        refine go_callS (pc := 70) (as := [.inl u6.1]) (st := []) (r := u8.1) (M1 := u8.2) (z_X9_firstOf hok  c9) cw_X9_firstOf ml_X9_318 (by decide) (Nat.le_of_ble_eq_true rfl) rfl dX9_fortnight_70 ?_
        exact go_iret (pc := 73) (Option.some.inj h).symm rfl dX9_fortnight_73 rfl
    · replace h := (if_pos e14).symm.trans h
      refine go_aload_n (pc := 42) dX9_fortnight_42 rfl ?_
      refine go_iload_n (pc := 43) dX9_fortnight_43 rfl ?_
      refine go_aload_n (pc := 44) dX9_fortnight_44 rfl ?_
      refine gf_9_40 (pc := 45) dX9_fortnight_45 ?_
      refine go_iload_n (pc := 48) dX9_fortnight_48 rfl ?_
      obtain ⟨i11, h⟩ := g_gd h
      refine go_iald (pc := 49) (n := 5) rfl (g_inb_ok i11) dX9_fortnight_49 ?_
      obtain ⟨u12, c13, h⟩ := g_bd h
      refine go_callV (pc := 50) (as := [.inl v1, .inl (M 52 v1.toNatClampNeg)]) (st := []) (r := u12.1) (M1 := u12.2) (z_X9_hangDays hok  c13) cw_X9_hangDays ml_X9_315 (show g_lay[41]? = some _ from rfl) rfl rfl (by decide) (Nat.le_of_ble_eq_true rfl) rfl dX9_fortnight_50 ?_
      exact go_iret (pc := 53) (Option.some.inj h).symm rfl dX9_fortnight_53 rfl
  · replace h := (if_neg e17).symm.trans h
    refine go_aload_n (pc := 32) dX9_fortnight_32 rfl ?_
    refine go_iload_n (pc := 33) dX9_fortnight_33 rfl ?_
    obtain ⟨u15, c16, h⟩ := g_bd h
    refine go_callV (pc := 34) (as := [.inl s0]) (st := []) (r := u15.1) (M1 := u15.2) (z_X9_no hok  c16) cw_X9_no ml_X9_124 (show g_lay[41]? = some _ from rfl) rfl rfl (by decide) (Nat.le_of_ble_eq_true rfl) rfl dX9_fortnight_34 ?_
    exact go_iret (pc := 37) (Option.some.inj h).symm rfl dX9_fortnight_37 rfl
def x_X9_fortnight  (p1 p2 : Int32) (M : g_M) : Option (Int32 × g_M) := (((x_X9_isBoat p1 M).bind fun u18 => if u18.1 = 0 then (x_X9_fortnight_L27   p1 p2 (-1 : Int32) u18.2) else (((x_X9_isIn p2 (0 : Int32) (2 : Int32) u18.2).bind fun u20 => if u20.1 = 0 then (x_X9_fortnight_L27   p1 p2 (-2 : Int32) u20.2) else (x_X9_fortnight_L27   p1 p2 (0 : Int32) u20.2)))))
set_option maxHeartbeats 4000000 in
set_option maxRecDepth 100000 in
theorem z_X9_fortnight {X : g_X} (hok : g_ok X)  {p1 p2 : Int32} {M : g_M} {r : Int32 × g_M} (h : x_X9_fortnight p1 p2 M = some r) : g_Con X yX9_fortnight cX9_fortnight 5 (some .int) 5 118 [.inr 41, .inl p1, .inl p2] M r := by
  rw [x_X9_fortnight] at h
  refine g_con hok (plainFor_of_name (by decide +kernel)) (Nat.le_of_ble_eq_true rfl) (go_to (lv2 := [some (.inr 41), some (.inl p1), some (.inl p2), none, none]) (own := RX9) ?_ (And.intro rfl (And.intro rfl (And.intro rfl trivial))))
  refine go_aload_n (pc := 0) dX9_fortnight_0 rfl ?_
  refine go_iload_n (pc := 1) dX9_fortnight_1 rfl ?_
  obtain ⟨u18, c19, h⟩ := g_bd h
  refine go_callV (pc := 2) (as := [.inl p1]) (st := []) (r := u18.1) (M1 := u18.2) (z_X9_isBoat hok  c19) cw_X9_isBoat ml_X9_168 (show g_lay[41]? = some _ from rfl) rfl rfl (by decide) (Nat.le_of_ble_eq_true rfl) rfl dX9_fortnight_2 ?_
  refine go_if_ne (pc := 5) (tgt := 12) dX9_fortnight_5 (by decide) (fun e23 => ?_) (fun e23 => ?_)
  · replace h := (if_neg e23).symm.trans h
    refine go_iload_n (pc := 12) dX9_fortnight_12 rfl ?_
    refine go_iconst (pc := 13) (v := (0 : Int32)) dX9_fortnight_13 (by decide) ?_
    refine go_iconst (pc := 14) (v := (2 : Int32)) dX9_fortnight_14 (by decide) ?_
    obtain ⟨u20, c21, h⟩ := g_bd h
    refine go_callS (pc := 15) (as := [.inl p2, .inl (0 : Int32), .inl (2 : Int32)]) (st := []) (r := u20.1) (M1 := u20.2) (z_X9_isIn hok  c21) cw_X9_isIn ml_X9_135 (by decide) (Nat.le_of_ble_eq_true rfl) rfl dX9_fortnight_15 ?_
    refine go_if_ne (pc := 18) (tgt := 26) dX9_fortnight_18 (by decide) (fun e22 => ?_) (fun e22 => ?_)
    · replace h := (if_neg e22).symm.trans h
      refine go_iconst (pc := 26) (v := (0 : Int32)) dX9_fortnight_26 (by decide) ?_
      exact go_to (z_X9_fortnight_L27 hok   h) (And.intro rfl (And.intro rfl (And.intro rfl trivial)))
    · replace h := (if_pos e22).symm.trans h
      refine go_bipush (pc := 21) (v := (-2 : Int32)) dX9_fortnight_21 (by decide) ?_
      refine go_goto (pc := 23) (tgt := 27) dX9_fortnight_23 (by decide) ?_
      exact go_to (z_X9_fortnight_L27 hok   h) (And.intro rfl (And.intro rfl (And.intro rfl trivial)))
  · replace h := (if_pos e23).symm.trans h
    refine go_iconst (pc := 8) (v := (-1 : Int32)) dX9_fortnight_8 (by decide) ?_
    refine go_goto (pc := 9) (tgt := 27) dX9_fortnight_9 (by decide) ?_
    exact go_to (z_X9_fortnight_L27 hok   h) (And.intro rfl (And.intro rfl (And.intro rfl trivial)))
def x_X9_isGood  (p1 p2 p3 : Int32) (M : g_M) : Option (Int32 × g_M) := (((x_X9_hangsWith p1 p2 p3 M).bind fun u1 => if u1.1 = 0 then (((x_X9_outWith p1 p2 p3 u1.2).bind fun u3 => (if g_inb p1 5 = true then (if (u3.2 54 p1.toNatClampNeg) < u3.1 then (some ((0 : Int32), u3.2)) else (some ((1 : Int32), u3.2))) else none))) else (some ((0 : Int32), u1.2))))
set_option maxHeartbeats 4000000 in
set_option maxRecDepth 100000 in
theorem z_X9_isGood {X : g_X} (hok : g_ok X)  {p1 p2 p3 : Int32} {M : g_M} {r : Int32 × g_M} (h : x_X9_isGood p1 p2 p3 M = some r) : g_Con X yX9_isGood cX9_isGood 4 (some .boolean) 4 93 [.inr 41, .inl p1, .inl p2, .inl p3] M r := by
  rw [x_X9_isGood] at h
  refine g_con hok (plainFor_of_name (by decide +kernel)) (Nat.le_of_ble_eq_true rfl) (go_to (lv2 := [some (.inr 41), some (.inl p1), some (.inl p2), some (.inl p3)]) (own := RX9) ?_ (And.intro rfl (And.intro rfl (And.intro rfl (And.intro rfl trivial)))))
  refine go_aload_n (pc := 0) dX9_isGood_0 rfl ?_
  refine go_iload_n (pc := 1) dX9_isGood_1 rfl ?_
  refine go_iload_n (pc := 2) dX9_isGood_2 rfl ?_
  refine go_iload_n (pc := 3) dX9_isGood_3 rfl ?_
  obtain ⟨u1, c2, h⟩ := g_bd h
  refine go_callV (pc := 4) (as := [.inl p1, .inl p2, .inl p3]) (st := []) (r := u1.1) (M1 := u1.2) (z_X9_hangsWith hok  c2) cw_X9_hangsWith ml_X9_218 (show g_lay[41]? = some _ from rfl) rfl rfl (by decide) (Nat.le_of_ble_eq_true rfl) rfl dX9_isGood_4 ?_
  refine go_if_ne (pc := 7) (tgt := 30) dX9_isGood_7 (by decide) (fun e7 => ?_) (fun e7 => ?_)
  · replace h := (if_neg e7).symm.trans h
    refine go_iconst (pc := 30) (v := (0 : Int32)) dX9_isGood_30 (by decide) ?_
    exact go_iret (pc := 31) (Option.some.inj h).symm rfl dX9_isGood_31 rfl
  · replace h := (if_pos e7).symm.trans h
    refine go_aload_n (pc := 10) dX9_isGood_10 rfl ?_
    refine go_iload_n (pc := 11) dX9_isGood_11 rfl ?_
    refine go_iload_n (pc := 12) dX9_isGood_12 rfl ?_
    refine go_iload_n (pc := 13) dX9_isGood_13 rfl ?_
    obtain ⟨u3, c4, h⟩ := g_bd h
    refine go_callV (pc := 14) (as := [.inl p1, .inl p2, .inl p3]) (st := []) (r := u3.1) (M1 := u3.2) (z_X9_outWith hok  c4) cw_X9_outWith ml_X9_224 (show g_lay[41]? = some _ from rfl) rfl rfl (by decide) (Nat.le_of_ble_eq_true rfl) rfl dX9_isGood_14 ?_
    refine go_aload_n (pc := 17) dX9_isGood_17 rfl ?_
    refine gf_9_46 (pc := 18) dX9_isGood_18 ?_
    refine go_iload_n (pc := 21) dX9_isGood_21 rfl ?_
    obtain ⟨i5, h⟩ := g_gd h
    refine go_iald (pc := 22) (n := 5) rfl (g_inb_ok i5) dX9_isGood_22 ?_
    refine go_icmp_gt (pc := 23) (tgt := 30) dX9_isGood_23 (by decide) (fun e6 => ?_) (fun e6 => ?_)
    · replace h := (if_pos e6).symm.trans h
      refine go_iconst (pc := 30) (v := (0 : Int32)) dX9_isGood_30 (by decide) ?_
      exact go_iret (pc := 31) (Option.some.inj h).symm rfl dX9_isGood_31 rfl
    · replace h := (if_neg e6).symm.trans h
      refine go_iconst (pc := 26) (v := (1 : Int32)) dX9_isGood_26 (by decide) ?_
      refine go_goto (pc := 27) (tgt := 31) dX9_isGood_27 (by decide) ?_
      exact go_iret (pc := 31) (Option.some.inj h).symm rfl dX9_isGood_31 rfl
def x_X9_leastGood_L16  (k3 : Int32 → Int32 → Int32 → Int32 → g_M → Option (Int32 × g_M)) : Nat → Int32 → Int32 → Int32 → Int32 → Int32 → Int32 → g_M → Option (Int32 × g_M)
  | 0, _, _, _, _, _, _, _ => none
  | n + 1, v1, v2, v3, v4, v5, v6, M => (if v3 ≤ v6 then (if v5 = 0 then (k3 v1 v2 v3 (v4 + (1 : Int32)) M) else (some (v4, M))) else (if (12 : Int32) ≤ v6 then (if v5 = 0 then (k3 v1 v2 v3 (v4 + (1 : Int32)) M) else (some (v4, M))) else (if v5 = 0 then (if v5 = 0 then (k3 v1 v2 v3 (v4 + (1 : Int32)) M) else (some (v4, M))) else (((x_X9_isGood v1 v6 v4 M).bind fun u4 => x_X9_leastGood_L16  k3 n v1 v2 v3 v4 u4.1 (v6 + (1 : Int32)) u4.2)))))
set_option maxHeartbeats 4000000 in
set_option maxRecDepth 100000 in
theorem z_X9_leastGood_L16 {X : g_X} (hok : g_ok X)  {r : Int32 × g_M} {k3 : Int32 → Int32 → Int32 → Int32 → g_M → Option (Int32 × g_M)} (hk3 : ∀ (v1 : Int32) (v2 : Int32) (v3 : Int32) (v4 : Int32) (M : g_M), k3 v1 v2 v3 v4 M = some r → g_Go X cX9_leastGood RX9 7 (some .int) 5 116 r 3 [some (.inr 41), some (.inl v1), some (.inl v2), some (.inl v3), some (.inl v4), none, none] [] M) : ∀ (n : Nat) (v1 : Int32) (v2 : Int32) (v3 : Int32) (v4 : Int32) (v5 : Int32) (v6 : Int32) (M : g_M), x_X9_leastGood_L16  k3 n v1 v2 v3 v4 v5 v6 M = some r → g_Go X cX9_leastGood RX9 7 (some .int) 5 116 r 16 [some (.inr 41), some (.inl v1), some (.inl v2), some (.inl v3), some (.inl v4), some (.inl v5), some (.inl v6)] [] M := by
  intro n
  induction n with
  | zero =>
    intro v1 v2 v3 v4 v5 v6 M h
    rw [x_X9_leastGood_L16] at h
    cases h
  | succ n ih =>
    intro v1 v2 v3 v4 v5 v6 M h
    rw [x_X9_leastGood_L16] at h
    refine go_iload (pc := 16) dX9_leastGood_16 rfl ?_
    refine go_iload_n (pc := 18) dX9_leastGood_18 rfl ?_
    refine go_icmp_ge (pc := 19) (tgt := 51) dX9_leastGood_19 (by decide) (fun e8 => ?_) (fun e8 => ?_)
    · replace h := (if_pos e8).symm.trans h
      refine go_iload (pc := 51) dX9_leastGood_51 rfl ?_
      refine go_if_eq (pc := 53) (tgt := 59) dX9_leastGood_53 (by decide) (fun e1 => ?_) (fun e1 => ?_)
      · replace h := (if_pos e1).symm.trans h
        refine go_iinc (pc := 59) (v := (1 : Int32)) (lv' := [some (.inr 41), some (.inl v1), some (.inl v2), some (.inl v3), some (.inl (v4 + (1 : Int32))), some (.inl v5), some (.inl v6)]) dX9_leastGood_59 rfl (by decide) (by decide) rfl ?_
        refine go_goto (pc := 62) (tgt := 3) dX9_leastGood_62 (by decide) ?_
        exact go_to (hk3 _ _ _ _ _ h) (And.intro rfl (And.intro rfl (And.intro rfl (And.intro rfl (And.intro rfl trivial)))))
      · replace h := (if_neg e1).symm.trans h
        refine go_iload (pc := 56) dX9_leastGood_56 rfl ?_
        exact go_iret (pc := 58) (Option.some.inj h).symm rfl dX9_leastGood_58 rfl
    · replace h := (if_neg e8).symm.trans h
      refine go_iload (pc := 22) dX9_leastGood_22 rfl ?_
      refine go_bipush (pc := 24) (v := (12 : Int32)) dX9_leastGood_24 (by decide) ?_
      refine go_icmp_ge (pc := 26) (tgt := 51) dX9_leastGood_26 (by decide) (fun e7 => ?_) (fun e7 => ?_)
      · replace h := (if_pos e7).symm.trans h
        refine go_iload (pc := 51) dX9_leastGood_51 rfl ?_
        refine go_if_eq (pc := 53) (tgt := 59) dX9_leastGood_53 (by decide) (fun e2 => ?_) (fun e2 => ?_)
        · replace h := (if_pos e2).symm.trans h
          refine go_iinc (pc := 59) (v := (1 : Int32)) (lv' := [some (.inr 41), some (.inl v1), some (.inl v2), some (.inl v3), some (.inl (v4 + (1 : Int32))), some (.inl v5), some (.inl v6)]) dX9_leastGood_59 rfl (by decide) (by decide) rfl ?_
          refine go_goto (pc := 62) (tgt := 3) dX9_leastGood_62 (by decide) ?_
          exact go_to (hk3 _ _ _ _ _ h) (And.intro rfl (And.intro rfl (And.intro rfl (And.intro rfl (And.intro rfl trivial)))))
        · replace h := (if_neg e2).symm.trans h
          refine go_iload (pc := 56) dX9_leastGood_56 rfl ?_
          exact go_iret (pc := 58) (Option.some.inj h).symm rfl dX9_leastGood_58 rfl
      · replace h := (if_neg e7).symm.trans h
        refine go_iload (pc := 29) dX9_leastGood_29 rfl ?_
        refine go_if_eq (pc := 31) (tgt := 51) dX9_leastGood_31 (by decide) (fun e6 => ?_) (fun e6 => ?_)
        · replace h := (if_pos e6).symm.trans h
          refine go_iload (pc := 51) dX9_leastGood_51 rfl ?_
          refine go_if_eq (pc := 53) (tgt := 59) dX9_leastGood_53 (by decide) (fun e3 => ?_) (fun e3 => ?_)
          · replace h := (if_pos e3).symm.trans h
            refine go_iinc (pc := 59) (v := (1 : Int32)) (lv' := [some (.inr 41), some (.inl v1), some (.inl v2), some (.inl v3), some (.inl (v4 + (1 : Int32))), some (.inl v5), some (.inl v6)]) dX9_leastGood_59 rfl (by decide) (by decide) rfl ?_
            refine go_goto (pc := 62) (tgt := 3) dX9_leastGood_62 (by decide) ?_
            exact go_to (hk3 _ _ _ _ _ h) (And.intro rfl (And.intro rfl (And.intro rfl (And.intro rfl (And.intro rfl trivial)))))
          · replace h := (if_neg e3).symm.trans h
            refine go_iload (pc := 56) dX9_leastGood_56 rfl ?_
            exact go_iret (pc := 58) (Option.some.inj h).symm rfl dX9_leastGood_58 rfl
        · replace h := (if_neg e6).symm.trans h
          refine go_aload_n (pc := 34) dX9_leastGood_34 rfl ?_
          refine go_iload_n (pc := 35) dX9_leastGood_35 rfl ?_
          refine go_iload (pc := 36) dX9_leastGood_36 rfl ?_
          refine go_iload (pc := 38) dX9_leastGood_38 rfl ?_
          obtain ⟨u4, c5, h⟩ := g_bd h
          refine go_callV (pc := 40) (as := [.inl v1, .inl v6, .inl v4]) (st := []) (r := u4.1) (M1 := u4.2) (z_X9_isGood hok  c5) cw_X9_isGood ml_X9_321 (show g_lay[41]? = some _ from rfl) rfl rfl (by decide) (Nat.le_of_ble_eq_true rfl) rfl dX9_leastGood_40 ?_
          refine go_istore (pc := 43) (lv' := [some (.inr 41), some (.inl v1), some (.inl v2), some (.inl v3), some (.inl v4), some (.inl u4.1), some (.inl v6)]) dX9_leastGood_43 (by decide) rfl ?_
          refine go_iinc (pc := 45) (v := (1 : Int32)) (lv' := [some (.inr 41), some (.inl v1), some (.inl v2), some (.inl v3), some (.inl v4), some (.inl u4.1), some (.inl (v6 + (1 : Int32)))]) dX9_leastGood_45 rfl (by decide) (by decide) rfl ?_
          refine go_goto (pc := 48) (tgt := 16) dX9_leastGood_48 (by decide) ?_
          exact go_to (ih _ _ _ _ _ _ _ h) (And.intro rfl (And.intro rfl (And.intro rfl (And.intro rfl (And.intro rfl (And.intro rfl (And.intro rfl trivial)))))))
def x_X9_leastGood_L3   : Nat → Int32 → Int32 → Int32 → Int32 → g_M → Option (Int32 × g_M)
  | 0, _, _, _, _, _ => none
  | n + 1, v1, v2, v3, v4, M => (if (99 : Int32) < v4 then (some ((-9 : Int32), M)) else (x_X9_leastGood_L16  (x_X9_leastGood_L3   n) g_F v1 v2 v3 v4 (1 : Int32) v2 M))
set_option maxHeartbeats 4000000 in
set_option maxRecDepth 100000 in
theorem z_X9_leastGood_L3 {X : g_X} (hok : g_ok X)  {r : Int32 × g_M}  : ∀ (n : Nat) (v1 : Int32) (v2 : Int32) (v3 : Int32) (v4 : Int32) (M : g_M), x_X9_leastGood_L3   n v1 v2 v3 v4 M = some r → g_Go X cX9_leastGood RX9 7 (some .int) 5 116 r 3 [some (.inr 41), some (.inl v1), some (.inl v2), some (.inl v3), some (.inl v4), none, none] [] M := by
  intro n
  induction n with
  | zero =>
    intro v1 v2 v3 v4 M h
    rw [x_X9_leastGood_L3] at h
    cases h
  | succ n ih =>
    intro v1 v2 v3 v4 M h
    rw [x_X9_leastGood_L3] at h
    refine go_iload (pc := 3) dX9_leastGood_3 rfl ?_
    refine go_bipush (pc := 5) (v := (99 : Int32)) dX9_leastGood_5 (by decide) ?_
    refine go_icmp_gt (pc := 7) (tgt := 65) dX9_leastGood_7 (by decide) (fun e9 => ?_) (fun e9 => ?_)
    · replace h := (if_pos e9).symm.trans h
      refine go_bipush (pc := 65) (v := (-9 : Int32)) dX9_leastGood_65 (by decide) ?_
      exact go_iret (pc := 67) (Option.some.inj h).symm rfl dX9_leastGood_67 rfl
    · replace h := (if_neg e9).symm.trans h
      refine go_iconst (pc := 10) (v := (1 : Int32)) dX9_leastGood_10 (by decide) ?_
      refine go_istore (pc := 11) (lv' := [some (.inr 41), some (.inl v1), some (.inl v2), some (.inl v3), some (.inl v4), some (.inl (1 : Int32)), none]) dX9_leastGood_11 (by decide) rfl ?_
      refine go_iload_n (pc := 13) dX9_leastGood_13 rfl ?_
      refine go_istore (pc := 14) (lv' := [some (.inr 41), some (.inl v1), some (.inl v2), some (.inl v3), some (.inl v4), some (.inl (1 : Int32)), some (.inl v2)]) dX9_leastGood_14 (by decide) rfl ?_
      exact go_to (z_X9_leastGood_L16 hok  (ih) g_F _ _ _ _ _ _ _ h) (And.intro rfl (And.intro rfl (And.intro rfl (And.intro rfl (And.intro rfl (And.intro rfl (And.intro rfl trivial)))))))
def x_X9_leastGood  (p1 p2 p3 : Int32) (M : g_M) : Option (Int32 × g_M) := (x_X9_leastGood_L3   g_F p1 p2 p3 (0 : Int32) M)
set_option maxHeartbeats 4000000 in
set_option maxRecDepth 100000 in
theorem z_X9_leastGood {X : g_X} (hok : g_ok X)  {p1 p2 p3 : Int32} {M : g_M} {r : Int32 × g_M} (h : x_X9_leastGood p1 p2 p3 M = some r) : g_Con X yX9_leastGood cX9_leastGood 7 (some .int) 5 116 [.inr 41, .inl p1, .inl p2, .inl p3] M r := by
  rw [x_X9_leastGood] at h
  refine g_con hok (plainFor_of_name (by decide +kernel)) (Nat.le_of_ble_eq_true rfl) (go_to (lv2 := [some (.inr 41), some (.inl p1), some (.inl p2), some (.inl p3), none, none, none]) (own := RX9) ?_ (And.intro rfl (And.intro rfl (And.intro rfl (And.intro rfl trivial)))))
  refine go_iconst (pc := 0) (v := (0 : Int32)) dX9_leastGood_0 (by decide) ?_
  refine go_istore (pc := 1) (lv' := [some (.inr 41), some (.inl p1), some (.inl p2), some (.inl p3), some (.inl (0 : Int32)), none, none]) dX9_leastGood_1 (by decide) rfl ?_
  exact go_to (z_X9_leastGood_L3 hok   g_F _ _ _ _ _ h) (And.intro rfl (And.intro rfl (And.intro rfl (And.intro rfl (And.intro rfl trivial)))))
def x_X9_watchBy_L51  (k14 : Int32 → Int32 → Int32 → Int32 → Int32 → g_M → Option (Int32 × g_M)) (v1 : Int32) (v2 : Int32) (v5 : Int32) (v6 : Int32) (s0 : Int32) (s1 : Int32) (M : g_M) : Option (Int32 × g_M) := (k14 v1 v2 v6 (s1 + s0) (v5 + v2) M)
set_option maxHeartbeats 4000000 in
set_option maxRecDepth 100000 in
theorem z_X9_watchBy_L51 {X : g_X} (hok : g_ok X)  {r : Int32 × g_M} {k14 : Int32 → Int32 → Int32 → Int32 → Int32 → g_M → Option (Int32 × g_M)} (hk14 : ∀ (v1 : Int32) (v2 : Int32) (v3 : Int32) (v4 : Int32) (v5 : Int32) (M : g_M), k14 v1 v2 v3 v4 v5 M = some r → g_Go X cX9_watchBy RX9 7 (some .int) 6 142 r 14 [some (.inr 41), some (.inl v1), some (.inl v2), some (.inl v3), some (.inl v4), some (.inl v5), none] [] M) {v1 : Int32} {v2 : Int32} {v5 : Int32} {v6 : Int32} {s0 : Int32} {s1 : Int32} {M : g_M} (h : x_X9_watchBy_L51  k14 v1 v2 v5 v6 s0 s1 M = some r) : g_Go X cX9_watchBy RX9 7 (some .int) 6 142 r 51 [some (.inr 41), some (.inl v1), some (.inl v2), none, none, some (.inl v5), some (.inl v6)] [.inl s0, .inl s1] M := by
  rw [x_X9_watchBy_L51] at h
  refine go_iadd (pc := 51) dX9_watchBy_51 ?_
  refine go_istore (pc := 52) (lv' := [some (.inr 41), some (.inl v1), some (.inl v2), none, some (.inl (s1 + s0)), some (.inl v5), some (.inl v6)]) dX9_watchBy_52 (by decide) rfl ?_
  refine go_iload (pc := 54) dX9_watchBy_54 rfl ?_
  refine go_istore_n (pc := 56) (lv' := [some (.inr 41), some (.inl v1), some (.inl v2), some (.inl v6), some (.inl (s1 + s0)), some (.inl v5), some (.inl v6)]) dX9_watchBy_56 (by decide) rfl ?_
  refine go_iload (pc := 57) dX9_watchBy_57 rfl ?_
  refine go_iload_n (pc := 59) dX9_watchBy_59 rfl ?_
  refine go_iadd (pc := 60) dX9_watchBy_60 ?_
  refine go_istore (pc := 61) (lv' := [some (.inr 41), some (.inl v1), some (.inl v2), some (.inl v6), some (.inl (s1 + s0)), some (.inl (v5 + v2)), some (.inl v6)]) dX9_watchBy_61 (by decide) rfl ?_
  refine go_goto (pc := 63) (tgt := 14) dX9_watchBy_63 (by decide) ?_
  exact go_to (hk14 _ _ _ _ _ _ h) (And.intro rfl (And.intro rfl (And.intro rfl (And.intro rfl (And.intro rfl (And.intro rfl trivial))))))
def x_X9_watchBy_L14   : Nat → Int32 → Int32 → Int32 → Int32 → Int32 → g_M → Option (Int32 × g_M)
  | 0, _, _, _, _, _, _ => none
  | n + 1, v1, v2, v3, v4, v5, M => (if (12 : Int32) ≤ v5 then (if 0 ≤ v3 then (some (v4, M)) else (some ((-9 : Int32), M))) else (if v3 < 0 then (if 0 ≤ v3 then (some (v4, M)) else (some ((-9 : Int32), M))) else (((x_X9_leastGood v1 v5 (v5 + v2) M).bind fun u3 => if u3.1 = v3 then (x_X9_watchBy_L51  (x_X9_watchBy_L14   n) v1 v2 v5 u3.1 (0 : Int32) v4 u3.2) else (x_X9_watchBy_L51  (x_X9_watchBy_L14   n) v1 v2 v5 u3.1 (1 : Int32) v4 u3.2)))))
set_option maxHeartbeats 4000000 in
set_option maxRecDepth 100000 in
theorem z_X9_watchBy_L14 {X : g_X} (hok : g_ok X)  {r : Int32 × g_M}  : ∀ (n : Nat) (v1 : Int32) (v2 : Int32) (v3 : Int32) (v4 : Int32) (v5 : Int32) (M : g_M), x_X9_watchBy_L14   n v1 v2 v3 v4 v5 M = some r → g_Go X cX9_watchBy RX9 7 (some .int) 6 142 r 14 [some (.inr 41), some (.inl v1), some (.inl v2), some (.inl v3), some (.inl v4), some (.inl v5), none] [] M := by
  intro n
  induction n with
  | zero =>
    intro v1 v2 v3 v4 v5 M h
    rw [x_X9_watchBy_L14] at h
    cases h
  | succ n ih =>
    intro v1 v2 v3 v4 v5 M h
    rw [x_X9_watchBy_L14] at h
    refine go_iload (pc := 14) dX9_watchBy_14 rfl ?_
    refine go_bipush (pc := 16) (v := (12 : Int32)) dX9_watchBy_16 (by decide) ?_
    refine go_icmp_ge (pc := 18) (tgt := 66) dX9_watchBy_18 (by decide) (fun e7 => ?_) (fun e7 => ?_)
    · replace h := (if_pos e7).symm.trans h
      refine go_iload_n (pc := 66) dX9_watchBy_66 rfl ?_
      refine go_if_ge (pc := 67) (tgt := 75) dX9_watchBy_67 (by decide) (fun e1 => ?_) (fun e1 => ?_)
      · replace h := (if_pos e1).symm.trans h
        refine go_iload (pc := 75) dX9_watchBy_75 rfl ?_
        exact go_iret (pc := 77) (Option.some.inj h).symm rfl dX9_watchBy_77 rfl
      · replace h := (if_neg e1).symm.trans h
        refine go_bipush (pc := 70) (v := (-9 : Int32)) dX9_watchBy_70 (by decide) ?_
        refine go_goto (pc := 72) (tgt := 77) dX9_watchBy_72 (by decide) ?_
        exact go_iret (pc := 77) (Option.some.inj h).symm rfl dX9_watchBy_77 rfl
    · replace h := (if_neg e7).symm.trans h
      refine go_iload_n (pc := 21) dX9_watchBy_21 rfl ?_
      refine go_if_lt (pc := 22) (tgt := 66) dX9_watchBy_22 (by decide) (fun e6 => ?_) (fun e6 => ?_)
      · replace h := (if_pos e6).symm.trans h
        refine go_iload_n (pc := 66) dX9_watchBy_66 rfl ?_
        refine go_if_ge (pc := 67) (tgt := 75) dX9_watchBy_67 (by decide) (fun e2 => ?_) (fun e2 => ?_)
        · replace h := (if_pos e2).symm.trans h
          refine go_iload (pc := 75) dX9_watchBy_75 rfl ?_
          exact go_iret (pc := 77) (Option.some.inj h).symm rfl dX9_watchBy_77 rfl
        · replace h := (if_neg e2).symm.trans h
          refine go_bipush (pc := 70) (v := (-9 : Int32)) dX9_watchBy_70 (by decide) ?_
          refine go_goto (pc := 72) (tgt := 77) dX9_watchBy_72 (by decide) ?_
          exact go_iret (pc := 77) (Option.some.inj h).symm rfl dX9_watchBy_77 rfl
      · replace h := (if_neg e6).symm.trans h
        refine go_aload_n (pc := 25) dX9_watchBy_25 rfl ?_
        refine go_iload_n (pc := 26) dX9_watchBy_26 rfl ?_
        refine go_iload (pc := 27) dX9_watchBy_27 rfl ?_
        refine go_iload (pc := 29) dX9_watchBy_29 rfl ?_
        refine go_iload_n (pc := 31) dX9_watchBy_31 rfl ?_
        refine go_iadd (pc := 32) dX9_watchBy_32 ?_
        obtain ⟨u3, c4, h⟩ := g_bd h
        refine go_callV (pc := 33) (as := [.inl v1, .inl v5, .inl (v5 + v2)]) (st := []) (r := u3.1) (M1 := u3.2) (z_X9_leastGood hok  c4) cw_X9_leastGood ml_X9_324 (show g_lay[41]? = some _ from rfl) rfl rfl (by decide) (Nat.le_of_ble_eq_true rfl) rfl dX9_watchBy_33 ?_
        refine go_istore (pc := 36) (lv' := [some (.inr 41), some (.inl v1), some (.inl v2), some (.inl v3), some (.inl v4), some (.inl v5), some (.inl u3.1)]) dX9_watchBy_36 (by decide) rfl ?_
        refine go_iload (pc := 38) dX9_watchBy_38 rfl ?_
        refine go_iload (pc := 40) dX9_watchBy_40 rfl ?_
        refine go_iload_n (pc := 42) dX9_watchBy_42 rfl ?_
        refine go_icmp_eq (pc := 43) (tgt := 50) dX9_watchBy_43 (by decide) (fun e5 => ?_) (fun e5 => ?_)
        · replace h := (if_pos e5).symm.trans h
          refine go_iconst (pc := 50) (v := (0 : Int32)) dX9_watchBy_50 (by decide) ?_
          exact go_to (z_X9_watchBy_L51 hok  (ih) h) (And.intro rfl (And.intro rfl (And.intro rfl (And.intro rfl (And.intro rfl trivial)))))
        · replace h := (if_neg e5).symm.trans h
          refine go_iconst (pc := 46) (v := (1 : Int32)) dX9_watchBy_46 (by decide) ?_
          refine go_goto (pc := 47) (tgt := 51) dX9_watchBy_47 (by decide) ?_
          exact go_to (z_X9_watchBy_L51 hok  (ih) h) (And.intro rfl (And.intro rfl (And.intro rfl (And.intro rfl (And.intro rfl trivial)))))
def x_X9_watchBy  (p1 p2 : Int32) (M : g_M) : Option (Int32 × g_M) := (((x_X9_leastGood p1 (0 : Int32) p2 M).bind fun u8 => x_X9_watchBy_L14   g_F p1 p2 u8.1 (0 : Int32) p2 u8.2))
set_option maxHeartbeats 4000000 in
set_option maxRecDepth 100000 in
theorem z_X9_watchBy {X : g_X} (hok : g_ok X)  {p1 p2 : Int32} {M : g_M} {r : Int32 × g_M} (h : x_X9_watchBy p1 p2 M = some r) : g_Con X yX9_watchBy cX9_watchBy 7 (some .int) 6 142 [.inr 41, .inl p1, .inl p2] M r := by
  rw [x_X9_watchBy] at h
  refine g_con hok (plainFor_of_name (by decide +kernel)) (Nat.le_of_ble_eq_true rfl) (go_to (lv2 := [some (.inr 41), some (.inl p1), some (.inl p2), none, none, none, none]) (own := RX9) ?_ (And.intro rfl (And.intro rfl (And.intro rfl trivial))))
  refine go_aload_n (pc := 0) dX9_watchBy_0 rfl ?_
  refine go_iload_n (pc := 1) dX9_watchBy_1 rfl ?_
  refine go_iconst (pc := 2) (v := (0 : Int32)) dX9_watchBy_2 (by decide) ?_
  refine go_iload_n (pc := 3) dX9_watchBy_3 rfl ?_
  obtain ⟨u8, c9, h⟩ := g_bd h
  refine go_callV (pc := 4) (as := [.inl p1, .inl (0 : Int32), .inl p2]) (st := []) (r := u8.1) (M1 := u8.2) (z_X9_leastGood hok  c9) cw_X9_leastGood ml_X9_324 (show g_lay[41]? = some _ from rfl) rfl rfl (by decide) (Nat.le_of_ble_eq_true rfl) rfl dX9_watchBy_4 ?_
  refine go_istore_n (pc := 7) (lv' := [some (.inr 41), some (.inl p1), some (.inl p2), some (.inl u8.1), none, none, none]) dX9_watchBy_7 (by decide) rfl ?_
  refine go_iconst (pc := 8) (v := (0 : Int32)) dX9_watchBy_8 (by decide) ?_
  refine go_istore (pc := 9) (lv' := [some (.inr 41), some (.inl p1), some (.inl p2), some (.inl u8.1), some (.inl (0 : Int32)), none, none]) dX9_watchBy_9 (by decide) rfl ?_
  refine go_iload_n (pc := 11) dX9_watchBy_11 rfl ?_
  refine go_istore (pc := 12) (lv' := [some (.inr 41), some (.inl p1), some (.inl p2), some (.inl u8.1), some (.inl (0 : Int32)), some (.inl p2), none]) dX9_watchBy_12 (by decide) rfl ?_
  exact go_to (z_X9_watchBy_L14 hok   g_F _ _ _ _ _ _ h) (And.intro rfl (And.intro rfl (And.intro rfl (And.intro rfl (And.intro rfl (And.intro rfl trivial))))))
def x_X9_watch_L19   (v1 : Int32) (v2 : Int32) (s0 : Int32) (M : g_M) : Option (Int32 × g_M) := (if s0 = 0 then (((x_X9_watchBy v1 v2 M).bind fun u1 => some (u1.1, u1.2))) else (((x_X9_no s0 M).bind fun u3 => some (u3.1, u3.2))))
set_option maxHeartbeats 4000000 in
set_option maxRecDepth 100000 in
theorem z_X9_watch_L19 {X : g_X} (hok : g_ok X)  {r : Int32 × g_M}  {v1 : Int32} {v2 : Int32} {s0 : Int32} {M : g_M} (h : x_X9_watch_L19   v1 v2 s0 M = some r) : g_Go X cX9_watch RX9 4 (some .int) 7 168 r 19 [some (.inr 41), some (.inl v1), some (.inl v2), none] [.inl s0] M := by
  rw [x_X9_watch_L19] at h
  refine go_istore_n (pc := 19) (lv' := [some (.inr 41), some (.inl v1), some (.inl v2), some (.inl s0)]) dX9_watch_19 (by decide) rfl ?_
  refine go_iload_n (pc := 20) dX9_watch_20 rfl ?_
  refine go_if_eq (pc := 21) (tgt := 32) dX9_watch_21 (by decide) (fun e5 => ?_) (fun e5 => ?_)
  · replace h := (if_pos e5).symm.trans h
    refine go_aload_n (pc := 32) dX9_watch_32 rfl ?_
    refine go_iload_n (pc := 33) dX9_watch_33 rfl ?_
    refine go_iload_n (pc := 34) dX9_watch_34 rfl ?_
    obtain ⟨u1, c2, h⟩ := g_bd h
    refine go_callV (pc := 35) (as := [.inl v1, .inl v2]) (st := []) (r := u1.1) (M1 := u1.2) (z_X9_watchBy hok  c2) cw_X9_watchBy ml_X9_327 (show g_lay[41]? = some _ from rfl) rfl rfl (by decide) (Nat.le_of_ble_eq_true rfl) rfl dX9_watch_35 ?_
    exact go_iret (pc := 38) (Option.some.inj h).symm rfl dX9_watch_38 rfl
  · replace h := (if_neg e5).symm.trans h
    refine go_aload_n (pc := 24) dX9_watch_24 rfl ?_
    refine go_iload_n (pc := 25) dX9_watch_25 rfl ?_
    obtain ⟨u3, c4, h⟩ := g_bd h
    refine go_callV (pc := 26) (as := [.inl s0]) (st := []) (r := u3.1) (M1 := u3.2) (z_X9_no hok  c4) cw_X9_no ml_X9_124 (show g_lay[41]? = some _ from rfl) rfl rfl (by decide) (Nat.le_of_ble_eq_true rfl) rfl dX9_watch_26 ?_
    refine go_goto (pc := 29) (tgt := 38) dX9_watch_29 (by decide) ?_
    exact go_iret (pc := 38) (Option.some.inj h).symm rfl dX9_watch_38 rfl
def x_X9_watch  (p1 p2 : Int32) (M : g_M) : Option (Int32 × g_M) := (((x_X9_isBoat p1 M).bind fun u6 => if u6.1 = 0 then (x_X9_watch_L19   p1 p2 (-1 : Int32) u6.2) else (((x_X9_bound p2 (1 : Int32) (6 : Int32) u6.2).bind fun u8 => x_X9_watch_L19   p1 p2 u8.1 u8.2))))
set_option maxHeartbeats 4000000 in
set_option maxRecDepth 100000 in
theorem z_X9_watch {X : g_X} (hok : g_ok X)  {p1 p2 : Int32} {M : g_M} {r : Int32 × g_M} (h : x_X9_watch p1 p2 M = some r) : g_Con X yX9_watch cX9_watch 4 (some .int) 7 168 [.inr 41, .inl p1, .inl p2] M r := by
  rw [x_X9_watch] at h
  refine g_con hok (plainFor_of_name (by decide +kernel)) (Nat.le_of_ble_eq_true rfl) (go_to (lv2 := [some (.inr 41), some (.inl p1), some (.inl p2), none]) (own := RX9) ?_ (And.intro rfl (And.intro rfl (And.intro rfl trivial))))
  refine go_aload_n (pc := 0) dX9_watch_0 rfl ?_
  refine go_iload_n (pc := 1) dX9_watch_1 rfl ?_
  obtain ⟨u6, c7, h⟩ := g_bd h
  refine go_callV (pc := 2) (as := [.inl p1]) (st := []) (r := u6.1) (M1 := u6.2) (z_X9_isBoat hok  c7) cw_X9_isBoat ml_X9_168 (show g_lay[41]? = some _ from rfl) rfl rfl (by decide) (Nat.le_of_ble_eq_true rfl) rfl dX9_watch_2 ?_
  refine go_if_ne (pc := 5) (tgt := 12) dX9_watch_5 (by decide) (fun e10 => ?_) (fun e10 => ?_)
  · replace h := (if_neg e10).symm.trans h
    refine go_iload_n (pc := 12) dX9_watch_12 rfl ?_
    refine go_iconst (pc := 13) (v := (1 : Int32)) dX9_watch_13 (by decide) ?_
    refine go_bipush (pc := 14) (v := (6 : Int32)) dX9_watch_14 (by decide) ?_
    obtain ⟨u8, c9, h⟩ := g_bd h
    refine go_callS (pc := 16) (as := [.inl p2, .inl (1 : Int32), .inl (6 : Int32)]) (st := []) (r := u8.1) (M1 := u8.2) (z_X9_bound hok  c9) cw_X9_bound ml_X9_117 (by decide) (Nat.le_of_ble_eq_true rfl) rfl dX9_watch_16 ?_
    exact go_to (z_X9_watch_L19 hok   h) (And.intro rfl (And.intro rfl (And.intro rfl trivial)))
  · replace h := (if_pos e10).symm.trans h
    refine go_iconst (pc := 8) (v := (-1 : Int32)) dX9_watch_8 (by decide) ?_
    refine go_goto (pc := 9) (tgt := 19) dX9_watch_9 (by decide) ?_
    exact go_to (z_X9_watch_L19 hok   h) (And.intro rfl (And.intro rfl (And.intro rfl trivial)))
def x_X9_seldom_L17   : Nat → Int32 → Int32 → g_M → Option (Int32 × g_M)
  | 0, _, _, _ => none
  | n + 1, v1, v2, M => (if v2 ≤ 0 then (some ((-9 : Int32), M)) else (((x_X9_watchBy v1 v2 M).bind fun u1 => if u1.1 < 0 then (x_X9_seldom_L17   n v1 (v2 + (-1 : Int32)) u1.2) else (some (v2, u1.2)))))
set_option maxHeartbeats 4000000 in
set_option maxRecDepth 100000 in
theorem z_X9_seldom_L17 {X : g_X} (hok : g_ok X)  {r : Int32 × g_M}  : ∀ (n : Nat) (v1 : Int32) (v2 : Int32) (M : g_M), x_X9_seldom_L17   n v1 v2 M = some r → g_Go X cX9_seldom RX9 3 (some .int) 7 168 r 17 [some (.inr 41), some (.inl v1), some (.inl v2)] [] M := by
  intro n
  induction n with
  | zero =>
    intro v1 v2 M h
    rw [x_X9_seldom_L17] at h
    cases h
  | succ n ih =>
    intro v1 v2 M h
    rw [x_X9_seldom_L17] at h
    refine go_iload_n (pc := 17) dX9_seldom_17 rfl ?_
    refine go_if_le (pc := 18) (tgt := 38) dX9_seldom_18 (by decide) (fun e4 => ?_) (fun e4 => ?_)
    · replace h := (if_pos e4).symm.trans h
      refine go_bipush (pc := 38) (v := (-9 : Int32)) dX9_seldom_38 (by decide) ?_
      exact go_iret (pc := 40) (Option.some.inj h).symm rfl dX9_seldom_40 rfl
    · replace h := (if_neg e4).symm.trans h
      refine go_aload_n (pc := 21) dX9_seldom_21 rfl ?_
      refine go_iload_n (pc := 22) dX9_seldom_22 rfl ?_
      refine go_iload_n (pc := 23) dX9_seldom_23 rfl ?_
      obtain ⟨u1, c2, h⟩ := g_bd h
      refine go_callV (pc := 24) (as := [.inl v1, .inl v2]) (st := []) (r := u1.1) (M1 := u1.2) (z_X9_watchBy hok  c2) cw_X9_watchBy ml_X9_327 (show g_lay[41]? = some _ from rfl) rfl rfl (by decide) (Nat.le_of_ble_eq_true rfl) rfl dX9_seldom_24 ?_
      refine go_if_lt (pc := 27) (tgt := 32) dX9_seldom_27 (by decide) (fun e3 => ?_) (fun e3 => ?_)
      · replace h := (if_pos e3).symm.trans h
        refine go_iinc (pc := 32) (v := (-1 : Int32)) (lv' := [some (.inr 41), some (.inl v1), some (.inl (v2 + (-1 : Int32)))]) dX9_seldom_32 rfl (by decide) (by decide) rfl ?_
        refine go_goto (pc := 35) (tgt := 17) dX9_seldom_35 (by decide) ?_
        exact go_to (ih _ _ _ h) (And.intro rfl (And.intro rfl (And.intro rfl trivial)))
      · replace h := (if_neg e3).symm.trans h
        refine go_iload_n (pc := 30) dX9_seldom_30 rfl ?_
        exact go_iret (pc := 31) (Option.some.inj h).symm rfl dX9_seldom_31 rfl
def x_X9_seldom  (p1 : Int32) (M : g_M) : Option (Int32 × g_M) := (((x_X9_isBoat p1 M).bind fun u5 => if u5.1 = 0 then (((x_X9_no (-1 : Int32) u5.2).bind fun u7 => some (u7.1, u7.2))) else (x_X9_seldom_L17   g_F p1 (6 : Int32) u5.2)))
set_option maxHeartbeats 4000000 in
set_option maxRecDepth 100000 in
theorem z_X9_seldom {X : g_X} (hok : g_ok X)  {p1 : Int32} {M : g_M} {r : Int32 × g_M} (h : x_X9_seldom p1 M = some r) : g_Con X yX9_seldom cX9_seldom 3 (some .int) 7 168 [.inr 41, .inl p1] M r := by
  rw [x_X9_seldom] at h
  refine g_con hok (plainFor_of_name (by decide +kernel)) (Nat.le_of_ble_eq_true rfl) (go_to (lv2 := [some (.inr 41), some (.inl p1), none]) (own := RX9) ?_ (And.intro rfl (And.intro rfl trivial)))
  refine go_aload_n (pc := 0) dX9_seldom_0 rfl ?_
  refine go_iload_n (pc := 1) dX9_seldom_1 rfl ?_
  obtain ⟨u5, c6, h⟩ := g_bd h
  refine go_callV (pc := 2) (as := [.inl p1]) (st := []) (r := u5.1) (M1 := u5.2) (z_X9_isBoat hok  c6) cw_X9_isBoat ml_X9_168 (show g_lay[41]? = some _ from rfl) rfl rfl (by decide) (Nat.le_of_ble_eq_true rfl) rfl dX9_seldom_2 ?_
  refine go_if_ne (pc := 5) (tgt := 14) dX9_seldom_5 (by decide) (fun e9 => ?_) (fun e9 => ?_)
  · replace h := (if_neg e9).symm.trans h
    refine go_bipush (pc := 14) (v := (6 : Int32)) dX9_seldom_14 (by decide) ?_
    refine go_istore_n (pc := 16) (lv' := [some (.inr 41), some (.inl p1), some (.inl (6 : Int32))]) dX9_seldom_16 (by decide) rfl ?_
    exact go_to (z_X9_seldom_L17 hok   g_F _ _ _ h) (And.intro rfl (And.intro rfl (And.intro rfl trivial)))
  · replace h := (if_pos e9).symm.trans h
    refine go_aload_n (pc := 8) dX9_seldom_8 rfl ?_
    refine go_iconst (pc := 9) (v := (-1 : Int32)) dX9_seldom_9 (by decide) ?_
    obtain ⟨u7, c8, h⟩ := g_bd h
    refine go_callV (pc := 10) (as := [.inl (-1 : Int32)]) (st := []) (r := u7.1) (M1 := u7.2) (z_X9_no hok  c8) cw_X9_no ml_X9_124 (show g_lay[41]? = some _ from rfl) rfl rfl (by decide) (Nat.le_of_ble_eq_true rfl) rfl dX9_seldom_10 ?_
    exact go_iret (pc := 13) (Option.some.inj h).symm rfl dX9_seldom_13 rfl
def x_X9_findGoodMost_L72  (k26 : Int32 → Int32 → g_M → Option (Int32 × g_M)) (k44 : Int32 → Int32 → Int32 → Int32 → Int32 → g_M → Option (Int32 × g_M)) (v1 : Int32) (v2 : Int32) (v3 : Int32) (v5 : Int32) (s0 : Int32) (s1 : Int32) (M : g_M) : Option (Int32 × g_M) := ((if g_inb (((12 : Int32) * v3) + v5) 144 = true then (if (s1 + s0) ≤ (M 71 (((12 : Int32) * v3) + v5).toNatClampNeg) then ((if g_inb (((12 : Int32) * v3) + v5) 144 = true then ((if g_inb (((12 : Int32) * v3) + v5) 144 = true then (k44 v1 v2 v3 (s1 + s0) (v5 + (1 : Int32)) (g_upd M 71 (((12 : Int32) * v3) + v5).toNatClampNeg (M 71 (((12 : Int32) * v3) + v5).toNatClampNeg))) else none)) else none)) else ((if g_inb (((12 : Int32) * v3) + v5) 144 = true then (k44 v1 v2 v3 (s1 + s0) (v5 + (1 : Int32)) (g_upd M 71 (((12 : Int32) * v3) + v5).toNatClampNeg (s1 + s0))) else none))) else none))
set_option maxHeartbeats 4000000 in
set_option maxRecDepth 100000 in
theorem z_X9_findGoodMost_L72 {X : g_X} (hok : g_ok X)  {r : Int32 × g_M} {k26 : Int32 → Int32 → g_M → Option (Int32 × g_M)} (hk26 : ∀ (v1 : Int32) (v2 : Int32) (M : g_M), k26 v1 v2 M = some r → g_Go X cX9_findGoodMost RX9 6 none 5 116 r 26 [some (.inr 41), some (.inl v1), some (.inl v2), none, none, none] [] M) {k44 : Int32 → Int32 → Int32 → Int32 → Int32 → g_M → Option (Int32 × g_M)} (hk44 : ∀ (v1 : Int32) (v2 : Int32) (v3 : Int32) (v4 : Int32) (v5 : Int32) (M : g_M), k44 v1 v2 v3 v4 v5 M = some r → g_Go X cX9_findGoodMost RX9 6 none 5 116 r 44 [some (.inr 41), some (.inl v1), some (.inl v2), some (.inl v3), some (.inl v4), some (.inl v5)] [] M) {v1 : Int32} {v2 : Int32} {v3 : Int32} {v5 : Int32} {s0 : Int32} {s1 : Int32} {M : g_M} (h : x_X9_findGoodMost_L72  k26 k44 v1 v2 v3 v5 s0 s1 M = some r) : g_Go X cX9_findGoodMost RX9 6 none 5 116 r 72 [some (.inr 41), some (.inl v1), some (.inl v2), some (.inl v3), none, some (.inl v5)] [.inl s0, .inl s1] M := by
  rw [x_X9_findGoodMost_L72] at h
  refine go_iadd (pc := 72) dX9_findGoodMost_72 ?_
  refine go_istore (pc := 73) (lv' := [some (.inr 41), some (.inl v1), some (.inl v2), some (.inl v3), some (.inl (s1 + s0)), some (.inl v5)]) dX9_findGoodMost_73 (by decide) rfl ?_
  refine go_aload_n (pc := 75) dX9_findGoodMost_75 rfl ?_
  refine gf_9_97 (pc := 76) dX9_findGoodMost_76 ?_
  refine go_bipush (pc := 79) (v := (12 : Int32)) dX9_findGoodMost_79 (by decide) ?_
  refine go_iload_n (pc := 81) dX9_findGoodMost_81 rfl ?_
  refine go_imul (pc := 82) dX9_findGoodMost_82 ?_
  refine go_iload (pc := 83) dX9_findGoodMost_83 rfl ?_
  refine go_iadd (pc := 85) dX9_findGoodMost_85 ?_
  refine go_iload (pc := 86) dX9_findGoodMost_86 rfl ?_
  refine go_aload_n (pc := 88) dX9_findGoodMost_88 rfl ?_
  refine gf_9_97 (pc := 89) dX9_findGoodMost_89 ?_
  refine go_bipush (pc := 92) (v := (12 : Int32)) dX9_findGoodMost_92 (by decide) ?_
  refine go_iload_n (pc := 94) dX9_findGoodMost_94 rfl ?_
  refine go_imul (pc := 95) dX9_findGoodMost_95 ?_
  refine go_iload (pc := 96) dX9_findGoodMost_96 rfl ?_
  refine go_iadd (pc := 98) dX9_findGoodMost_98 ?_
  obtain ⟨i1, h⟩ := g_gd h
  refine go_iald (pc := 99) (n := 144) rfl (g_inb_ok i1) dX9_findGoodMost_99 ?_
  refine go_icmp_le (pc := 100) (tgt := 108) dX9_findGoodMost_100 (by decide) (fun e5 => ?_) (fun e5 => ?_)
  · replace h := (if_pos e5).symm.trans h
    refine go_aload_n (pc := 108) dX9_findGoodMost_108 rfl ?_
    refine gf_9_97 (pc := 109) dX9_findGoodMost_109 ?_
    refine go_bipush (pc := 112) (v := (12 : Int32)) dX9_findGoodMost_112 (by decide) ?_
    refine go_iload_n (pc := 114) dX9_findGoodMost_114 rfl ?_
    refine go_imul (pc := 115) dX9_findGoodMost_115 ?_
    refine go_iload (pc := 116) dX9_findGoodMost_116 rfl ?_
    refine go_iadd (pc := 118) dX9_findGoodMost_118 ?_
    obtain ⟨i2, h⟩ := g_gd h
    refine go_iald (pc := 119) (n := 144) rfl (g_inb_ok i2) dX9_findGoodMost_119 ?_
    obtain ⟨i3, h⟩ := g_gd h
    refine go_iast (pc := 120) (n := 144) rfl (g_inb_ok i3) dX9_findGoodMost_120 ?_
    refine go_iinc (pc := 121) (v := (1 : Int32)) (lv' := [some (.inr 41), some (.inl v1), some (.inl v2), some (.inl v3), some (.inl (s1 + s0)), some (.inl (v5 + (1 : Int32)))]) dX9_findGoodMost_121 rfl (by decide) (by decide) rfl ?_
    refine go_goto (pc := 124) (tgt := 44) dX9_findGoodMost_124 (by decide) ?_
    exact go_to (hk44 _ _ _ _ _ _ h) (And.intro rfl (And.intro rfl (And.intro rfl (And.intro rfl (And.intro rfl (And.intro rfl trivial))))))
  · replace h := (if_neg e5).symm.trans h
    refine go_iload (pc := 103) dX9_findGoodMost_103 rfl ?_
    refine go_goto (pc := 105) (tgt := 120) dX9_findGoodMost_105 (by decide) ?_
    obtain ⟨i4, h⟩ := g_gd h
    refine go_iast (pc := 120) (n := 144) rfl (g_inb_ok i4) dX9_findGoodMost_120 ?_
    refine go_iinc (pc := 121) (v := (1 : Int32)) (lv' := [some (.inr 41), some (.inl v1), some (.inl v2), some (.inl v3), some (.inl (s1 + s0)), some (.inl (v5 + (1 : Int32)))]) dX9_findGoodMost_121 rfl (by decide) (by decide) rfl ?_
    refine go_goto (pc := 124) (tgt := 44) dX9_findGoodMost_124 (by decide) ?_
    exact go_to (hk44 _ _ _ _ _ _ h) (And.intro rfl (And.intro rfl (And.intro rfl (And.intro rfl (And.intro rfl (And.intro rfl trivial))))))
def x_X9_findGoodMost_L44  (k26 : Int32 → Int32 → g_M → Option (Int32 × g_M)) : Nat → Int32 → Int32 → Int32 → Int32 → Int32 → g_M → Option (Int32 × g_M)
  | 0, _, _, _, _, _, _ => none
  | n + 1, v1, v2, v3, v4, v5, M => (if (12 : Int32) ≤ v5 then (k26 v1 (v2 + (1 : Int32)) M) else (((x_X9_isGood v1 v5 (v2 / (12 : Int32)) M).bind fun u6 => if u6.1 = 0 then (x_X9_findGoodMost_L72  (k26) (x_X9_findGoodMost_L44  k26 n) v1 v2 v3 v5 (0 : Int32) v4 u6.2) else (x_X9_findGoodMost_L72  (k26) (x_X9_findGoodMost_L44  k26 n) v1 v2 v3 v5 (1 : Int32) v4 u6.2))))
set_option maxHeartbeats 4000000 in
set_option maxRecDepth 100000 in
theorem z_X9_findGoodMost_L44 {X : g_X} (hok : g_ok X)  {r : Int32 × g_M} {k26 : Int32 → Int32 → g_M → Option (Int32 × g_M)} (hk26 : ∀ (v1 : Int32) (v2 : Int32) (M : g_M), k26 v1 v2 M = some r → g_Go X cX9_findGoodMost RX9 6 none 5 116 r 26 [some (.inr 41), some (.inl v1), some (.inl v2), none, none, none] [] M) : ∀ (n : Nat) (v1 : Int32) (v2 : Int32) (v3 : Int32) (v4 : Int32) (v5 : Int32) (M : g_M), x_X9_findGoodMost_L44  k26 n v1 v2 v3 v4 v5 M = some r → g_Go X cX9_findGoodMost RX9 6 none 5 116 r 44 [some (.inr 41), some (.inl v1), some (.inl v2), some (.inl v3), some (.inl v4), some (.inl v5)] [] M := by
  intro n
  induction n with
  | zero =>
    intro v1 v2 v3 v4 v5 M h
    rw [x_X9_findGoodMost_L44] at h
    cases h
  | succ n ih =>
    intro v1 v2 v3 v4 v5 M h
    rw [x_X9_findGoodMost_L44] at h
    refine go_iload (pc := 44) dX9_findGoodMost_44 rfl ?_
    refine go_bipush (pc := 46) (v := (12 : Int32)) dX9_findGoodMost_46 (by decide) ?_
    refine go_icmp_ge (pc := 48) (tgt := 127) dX9_findGoodMost_48 (by decide) (fun e9 => ?_) (fun e9 => ?_)
    · replace h := (if_pos e9).symm.trans h
      refine go_iinc (pc := 127) (v := (1 : Int32)) (lv' := [some (.inr 41), some (.inl v1), some (.inl (v2 + (1 : Int32))), some (.inl v3), some (.inl v4), some (.inl v5)]) dX9_findGoodMost_127 rfl (by decide) (by decide) rfl ?_
      refine go_goto (pc := 130) (tgt := 26) dX9_findGoodMost_130 (by decide) ?_
      exact go_to (hk26 _ _ _ h) (And.intro rfl (And.intro rfl (And.intro rfl trivial)))
    · replace h := (if_neg e9).symm.trans h
      refine go_iload (pc := 51) dX9_findGoodMost_51 rfl ?_
      refine go_aload_n (pc := 53) dX9_findGoodMost_53 rfl ?_
      refine go_iload_n (pc := 54) dX9_findGoodMost_54 rfl ?_
      refine go_iload (pc := 55) dX9_findGoodMost_55 rfl ?_
      refine go_iload_n (pc := 57) dX9_findGoodMost_57 rfl ?_
      refine go_bipush (pc := 58) (v := (12 : Int32)) dX9_findGoodMost_58 (by decide) ?_
      refine go_idiv (pc := 60) dX9_findGoodMost_60 (by decide) ?_
      obtain ⟨u6, c7, h⟩ := g_bd h
      refine go_callV (pc := 61) (as := [.inl v1, .inl v5, .inl (v2 / (12 : Int32))]) (st := [.inl v4]) (r := u6.1) (M1 := u6.2) (z_X9_isGood hok  c7) cw_X9_isGood ml_X9_321 (show g_lay[41]? = some _ from rfl) rfl rfl (by decide) (Nat.le_of_ble_eq_true rfl) rfl dX9_findGoodMost_61 ?_
      refine go_if_eq (pc := 64) (tgt := 71) dX9_findGoodMost_64 (by decide) (fun e8 => ?_) (fun e8 => ?_)
      · replace h := (if_pos e8).symm.trans h
        refine go_iconst (pc := 71) (v := (0 : Int32)) dX9_findGoodMost_71 (by decide) ?_
        exact go_to (z_X9_findGoodMost_L72 hok  (hk26) (ih) h) (And.intro rfl (And.intro rfl (And.intro rfl (And.intro rfl (And.intro rfl trivial)))))
      · replace h := (if_neg e8).symm.trans h
        refine go_iconst (pc := 67) (v := (1 : Int32)) dX9_findGoodMost_67 (by decide) ?_
        refine go_goto (pc := 68) (tgt := 72) dX9_findGoodMost_68 (by decide) ?_
        exact go_to (z_X9_findGoodMost_L72 hok  (hk26) (ih) h) (And.intro rfl (And.intro rfl (And.intro rfl (And.intro rfl (And.intro rfl trivial)))))
def x_X9_findGoodMost_L26   : Nat → Int32 → Int32 → g_M → Option (Int32 × g_M)
  | 0, _, _, _ => none
  | n + 1, v1, v2, M => (if (1200 : Int32) ≤ v2 then (some (0, M)) else (x_X9_findGoodMost_L44  (x_X9_findGoodMost_L26   n) g_F v1 v2 (v2 - v2 / (12 : Int32) * (12 : Int32)) (0 : Int32) (v2 - v2 / (12 : Int32) * (12 : Int32)) M))
set_option maxHeartbeats 4000000 in
set_option maxRecDepth 100000 in
theorem z_X9_findGoodMost_L26 {X : g_X} (hok : g_ok X)  {r : Int32 × g_M}  : ∀ (n : Nat) (v1 : Int32) (v2 : Int32) (M : g_M), x_X9_findGoodMost_L26   n v1 v2 M = some r → g_Go X cX9_findGoodMost RX9 6 none 5 116 r 26 [some (.inr 41), some (.inl v1), some (.inl v2), none, none, none] [] M := by
  intro n
  induction n with
  | zero =>
    intro v1 v2 M h
    rw [x_X9_findGoodMost_L26] at h
    cases h
  | succ n ih =>
    intro v1 v2 M h
    rw [x_X9_findGoodMost_L26] at h
    refine go_iload_n (pc := 26) dX9_findGoodMost_26 rfl ?_
    refine go_sipush (pc := 27) (v := (1200 : Int32)) dX9_findGoodMost_27 (by decide) ?_
    refine go_icmp_ge (pc := 30) (tgt := 133) dX9_findGoodMost_30 (by decide) (fun e10 => ?_) (fun e10 => ?_)
    · replace h := (if_pos e10).symm.trans h
      exact go_vret (pc := 133) (Option.some.inj h).symm rfl dX9_findGoodMost_133
    · replace h := (if_neg e10).symm.trans h
      refine go_iload_n (pc := 33) dX9_findGoodMost_33 rfl ?_
      refine go_bipush (pc := 34) (v := (12 : Int32)) dX9_findGoodMost_34 (by decide) ?_
      refine go_irem (pc := 36) dX9_findGoodMost_36 (by decide) ?_
      refine go_istore_n (pc := 37) (lv' := [some (.inr 41), some (.inl v1), some (.inl v2), some (.inl (v2 - v2 / (12 : Int32) * (12 : Int32))), none, none]) dX9_findGoodMost_37 (by decide) rfl ?_
      refine go_iconst (pc := 38) (v := (0 : Int32)) dX9_findGoodMost_38 (by decide) ?_
      refine go_istore (pc := 39) (lv' := [some (.inr 41), some (.inl v1), some (.inl v2), some (.inl (v2 - v2 / (12 : Int32) * (12 : Int32))), some (.inl (0 : Int32)), none]) dX9_findGoodMost_39 (by decide) rfl ?_
      refine go_iload_n (pc := 41) dX9_findGoodMost_41 rfl ?_
      refine go_istore (pc := 42) (lv' := [some (.inr 41), some (.inl v1), some (.inl v2), some (.inl (v2 - v2 / (12 : Int32) * (12 : Int32))), some (.inl (0 : Int32)), some (.inl (v2 - v2 / (12 : Int32) * (12 : Int32)))]) dX9_findGoodMost_42 (by decide) rfl ?_
      exact go_to (z_X9_findGoodMost_L44 hok  (ih) g_F _ _ _ _ _ _ h) (And.intro rfl (And.intro rfl (And.intro rfl (And.intro rfl (And.intro rfl (And.intro rfl trivial))))))
def x_X9_findGoodMost_L2   : Nat → Int32 → Int32 → g_M → Option (Int32 × g_M)
  | 0, _, _, _ => none
  | n + 1, v1, v2, M => (if (144 : Int32) ≤ v2 then (x_X9_findGoodMost_L26   g_F v1 (0 : Int32) M) else ((if g_inb v2 144 = true then (x_X9_findGoodMost_L2   n v1 (v2 + (1 : Int32)) (g_upd M 71 v2.toNatClampNeg (0 : Int32))) else none)))
set_option maxHeartbeats 4000000 in
set_option maxRecDepth 100000 in
theorem z_X9_findGoodMost_L2 {X : g_X} (hok : g_ok X)  {r : Int32 × g_M}  : ∀ (n : Nat) (v1 : Int32) (v2 : Int32) (M : g_M), x_X9_findGoodMost_L2   n v1 v2 M = some r → g_Go X cX9_findGoodMost RX9 6 none 5 116 r 2 [some (.inr 41), some (.inl v1), some (.inl v2), none, none, none] [] M := by
  intro n
  induction n with
  | zero =>
    intro v1 v2 M h
    rw [x_X9_findGoodMost_L2] at h
    cases h
  | succ n ih =>
    intro v1 v2 M h
    rw [x_X9_findGoodMost_L2] at h
    refine go_iload_n (pc := 2) dX9_findGoodMost_2 rfl ?_
    refine go_aload_n (pc := 3) dX9_findGoodMost_3 rfl ?_
    refine gf_9_97 (pc := 4) dX9_findGoodMost_4 ?_
    refine go_alen (pc := 7) (n := 144) (v := (144 : Int32)) rfl (by decide) dX9_findGoodMost_7 ?_
    refine go_icmp_ge (pc := 8) (tgt := 24) dX9_findGoodMost_8 (by decide) (fun e12 => ?_) (fun e12 => ?_)
    · replace h := (if_pos e12).symm.trans h
      refine go_iconst (pc := 24) (v := (0 : Int32)) dX9_findGoodMost_24 (by decide) ?_
      refine go_istore_n (pc := 25) (lv' := [some (.inr 41), some (.inl v1), some (.inl (0 : Int32)), none, none, none]) dX9_findGoodMost_25 (by decide) rfl ?_
      exact go_to (z_X9_findGoodMost_L26 hok   g_F _ _ _ h) (And.intro rfl (And.intro rfl (And.intro rfl trivial)))
    · replace h := (if_neg e12).symm.trans h
      refine go_aload_n (pc := 11) dX9_findGoodMost_11 rfl ?_
      refine gf_9_97 (pc := 12) dX9_findGoodMost_12 ?_
      refine go_iload_n (pc := 15) dX9_findGoodMost_15 rfl ?_
      refine go_iconst (pc := 16) (v := (0 : Int32)) dX9_findGoodMost_16 (by decide) ?_
      obtain ⟨i11, h⟩ := g_gd h
      refine go_iast (pc := 17) (n := 144) rfl (g_inb_ok i11) dX9_findGoodMost_17 ?_
      refine go_iinc (pc := 18) (v := (1 : Int32)) (lv' := [some (.inr 41), some (.inl v1), some (.inl (v2 + (1 : Int32))), none, none, none]) dX9_findGoodMost_18 rfl (by decide) (by decide) rfl ?_
      refine go_goto (pc := 21) (tgt := 2) dX9_findGoodMost_21 (by decide) ?_
      exact go_to (ih _ _ _ h) (And.intro rfl (And.intro rfl (And.intro rfl trivial)))
def x_X9_findGoodMost  (p1 : Int32) (M : g_M) : Option (Int32 × g_M) := (x_X9_findGoodMost_L2   g_F p1 (0 : Int32) M)
set_option maxHeartbeats 4000000 in
set_option maxRecDepth 100000 in
theorem z_X9_findGoodMost {X : g_X} (hok : g_ok X)  {p1 : Int32} {M : g_M} {r : Int32 × g_M} (h : x_X9_findGoodMost p1 M = some r) : g_Con X yX9_findGoodMost cX9_findGoodMost 6 none 5 116 [.inr 41, .inl p1] M r := by
  rw [x_X9_findGoodMost] at h
  refine g_con hok (plainFor_of_name (by decide +kernel)) (Nat.le_of_ble_eq_true rfl) (go_to (lv2 := [some (.inr 41), some (.inl p1), none, none, none, none]) (own := RX9) ?_ (And.intro rfl (And.intro rfl trivial)))
  refine go_iconst (pc := 0) (v := (0 : Int32)) dX9_findGoodMost_0 (by decide) ?_
  refine go_istore_n (pc := 1) (lv' := [some (.inr 41), some (.inl p1), some (.inl (0 : Int32)), none, none, none]) dX9_findGoodMost_1 (by decide) rfl ?_
  exact go_to (z_X9_findGoodMost_L2 hok   g_F _ _ _ h) (And.intro rfl (And.intro rfl (And.intro rfl trivial)))
def x_X9_mostTill_L43  (k5 : Int32 → Int32 → Int32 → Int32 → g_M → Option (Int32 × g_M)) (v1 : Int32) (v2 : Int32) (v3 : Int32) (v4 : Int32) (s0 : Int32) (M : g_M) : Option (Int32 × g_M) := ((if g_inb ((((12 : Int32) * v4) + v1) - (1 : Int32)) 144 = true then (if (s0 + (M 71 ((((12 : Int32) * v4) + v1) - (1 : Int32)).toNatClampNeg)) ≤ v3 then (k5 v1 v2 v3 (v4 + (1 : Int32)) M) else (k5 v1 v2 (s0 + (M 71 ((((12 : Int32) * v4) + v1) - (1 : Int32)).toNatClampNeg)) (v4 + (1 : Int32)) M)) else none))
set_option maxHeartbeats 4000000 in
set_option maxRecDepth 100000 in
theorem z_X9_mostTill_L43 {X : g_X} (hok : g_ok X)  {r : Int32 × g_M} {k5 : Int32 → Int32 → Int32 → Int32 → g_M → Option (Int32 × g_M)} (hk5 : ∀ (v1 : Int32) (v2 : Int32) (v3 : Int32) (v4 : Int32) (M : g_M), k5 v1 v2 v3 v4 M = some r → g_Go X cX9_mostTill RX9 7 (some .int) 0 0 r 5 [some (.inr 41), some (.inl v1), some (.inl v2), some (.inl v3), some (.inl v4), none, none] [] M) {v1 : Int32} {v2 : Int32} {v3 : Int32} {v4 : Int32} {s0 : Int32} {M : g_M} (h : x_X9_mostTill_L43  k5 v1 v2 v3 v4 s0 M = some r) : g_Go X cX9_mostTill RX9 7 (some .int) 0 0 r 43 [some (.inr 41), some (.inl v1), some (.inl v2), some (.inl v3), some (.inl v4), none, none] [.inl s0] M := by
  rw [x_X9_mostTill_L43] at h
  refine go_istore (pc := 43) (lv' := [some (.inr 41), some (.inl v1), some (.inl v2), some (.inl v3), some (.inl v4), some (.inl s0), none]) dX9_mostTill_43 (by decide) rfl ?_
  refine go_iload (pc := 45) dX9_mostTill_45 rfl ?_
  refine go_aload_n (pc := 47) dX9_mostTill_47 rfl ?_
  refine gf_9_97 (pc := 48) dX9_mostTill_48 ?_
  refine go_bipush (pc := 51) (v := (12 : Int32)) dX9_mostTill_51 (by decide) ?_
  refine go_iload (pc := 53) dX9_mostTill_53 rfl ?_
  refine go_imul (pc := 55) dX9_mostTill_55 ?_
  refine go_iload_n (pc := 56) dX9_mostTill_56 rfl ?_
  refine go_iadd (pc := 57) dX9_mostTill_57 ?_
  refine go_iconst (pc := 58) (v := (1 : Int32)) dX9_mostTill_58 (by decide) ?_
  refine go_isub (pc := 59) dX9_mostTill_59 ?_
  obtain ⟨i1, h⟩ := g_gd h
  refine go_iald (pc := 60) (n := 144) rfl (g_inb_ok i1) dX9_mostTill_60 ?_
  refine go_iadd (pc := 61) dX9_mostTill_61 ?_
  refine go_istore (pc := 62) (lv' := [some (.inr 41), some (.inl v1), some (.inl v2), some (.inl v3), some (.inl v4), some (.inl s0), some (.inl (s0 + (M 71 ((((12 : Int32) * v4) + v1) - (1 : Int32)).toNatClampNeg)))]) dX9_mostTill_62 (by decide) rfl ?_
  refine go_iload (pc := 64) dX9_mostTill_64 rfl ?_
  refine go_iload_n (pc := 66) dX9_mostTill_66 rfl ?_
  refine go_icmp_le (pc := 67) (tgt := 75) dX9_mostTill_67 (by decide) (fun e2 => ?_) (fun e2 => ?_)
  · replace h := (if_pos e2).symm.trans h
    refine go_iload_n (pc := 75) dX9_mostTill_75 rfl ?_
    refine go_istore_n (pc := 76) (lv' := [some (.inr 41), some (.inl v1), some (.inl v2), some (.inl v3), some (.inl v4), some (.inl s0), some (.inl (s0 + (M 71 ((((12 : Int32) * v4) + v1) - (1 : Int32)).toNatClampNeg)))]) dX9_mostTill_76 (by decide) rfl ?_
    refine go_iinc (pc := 77) (v := (1 : Int32)) (lv' := [some (.inr 41), some (.inl v1), some (.inl v2), some (.inl v3), some (.inl (v4 + (1 : Int32))), some (.inl s0), some (.inl (s0 + (M 71 ((((12 : Int32) * v4) + v1) - (1 : Int32)).toNatClampNeg)))]) dX9_mostTill_77 rfl (by decide) (by decide) rfl ?_
    refine go_goto (pc := 80) (tgt := 5) dX9_mostTill_80 (by decide) ?_
    exact go_to (hk5 _ _ _ _ _ h) (And.intro rfl (And.intro rfl (And.intro rfl (And.intro rfl (And.intro rfl trivial)))))
  · replace h := (if_neg e2).symm.trans h
    refine go_iload (pc := 70) dX9_mostTill_70 rfl ?_
    refine go_goto (pc := 72) (tgt := 76) dX9_mostTill_72 (by decide) ?_
    refine go_istore_n (pc := 76) (lv' := [some (.inr 41), some (.inl v1), some (.inl v2), some (.inl (s0 + (M 71 ((((12 : Int32) * v4) + v1) - (1 : Int32)).toNatClampNeg))), some (.inl v4), some (.inl s0), some (.inl (s0 + (M 71 ((((12 : Int32) * v4) + v1) - (1 : Int32)).toNatClampNeg)))]) dX9_mostTill_76 (by decide) rfl ?_
    refine go_iinc (pc := 77) (v := (1 : Int32)) (lv' := [some (.inr 41), some (.inl v1), some (.inl v2), some (.inl (s0 + (M 71 ((((12 : Int32) * v4) + v1) - (1 : Int32)).toNatClampNeg))), some (.inl (v4 + (1 : Int32))), some (.inl s0), some (.inl (s0 + (M 71 ((((12 : Int32) * v4) + v1) - (1 : Int32)).toNatClampNeg)))]) dX9_mostTill_77 rfl (by decide) (by decide) rfl ?_
    refine go_goto (pc := 80) (tgt := 5) dX9_mostTill_80 (by decide) ?_
    exact go_to (hk5 _ _ _ _ _ h) (And.intro rfl (And.intro rfl (And.intro rfl (And.intro rfl (And.intro rfl trivial)))))
def x_X9_mostTill_L5   : Nat → Int32 → Int32 → Int32 → Int32 → g_M → Option (Int32 × g_M)
  | 0, _, _, _, _, _ => none
  | n + 1, v1, v2, v3, v4, M => (if v1 ≤ v4 then (some (v3, M)) else (if v4 = 0 then (x_X9_mostTill_L43  (x_X9_mostTill_L5   n) v1 v2 v3 v4 (0 : Int32) M) else (if v2 = 0 then (x_X9_mostTill_L43  (x_X9_mostTill_L5   n) v1 v2 v3 v4 (-99 : Int32) M) else ((if g_inb (((13 : Int32) * (v2 - (1 : Int32))) + v4) 52 = true then (x_X9_mostTill_L43  (x_X9_mostTill_L5   n) v1 v2 v3 v4 (M 72 (((13 : Int32) * (v2 - (1 : Int32))) + v4).toNatClampNeg) M) else none)))))
set_option maxHeartbeats 4000000 in
set_option maxRecDepth 100000 in
theorem z_X9_mostTill_L5 {X : g_X} (hok : g_ok X)  {r : Int32 × g_M}  : ∀ (n : Nat) (v1 : Int32) (v2 : Int32) (v3 : Int32) (v4 : Int32) (M : g_M), x_X9_mostTill_L5   n v1 v2 v3 v4 M = some r → g_Go X cX9_mostTill RX9 7 (some .int) 0 0 r 5 [some (.inr 41), some (.inl v1), some (.inl v2), some (.inl v3), some (.inl v4), none, none] [] M := by
  intro n
  induction n with
  | zero =>
    intro v1 v2 v3 v4 M h
    rw [x_X9_mostTill_L5] at h
    cases h
  | succ n ih =>
    intro v1 v2 v3 v4 M h
    rw [x_X9_mostTill_L5] at h
    refine go_iload (pc := 5) dX9_mostTill_5 rfl ?_
    refine go_iload_n (pc := 7) dX9_mostTill_7 rfl ?_
    refine go_icmp_ge (pc := 8) (tgt := 83) dX9_mostTill_8 (by decide) (fun e6 => ?_) (fun e6 => ?_)
    · replace h := (if_pos e6).symm.trans h
      refine go_iload_n (pc := 83) dX9_mostTill_83 rfl ?_
      exact go_iret (pc := 84) (Option.some.inj h).symm rfl dX9_mostTill_84 rfl
    · replace h := (if_neg e6).symm.trans h
      refine go_iload (pc := 11) dX9_mostTill_11 rfl ?_
      refine go_if_ne (pc := 13) (tgt := 20) dX9_mostTill_13 (by decide) (fun e5 => ?_) (fun e5 => ?_)
      · replace h := (if_neg e5).symm.trans h
        refine go_iload_n (pc := 20) dX9_mostTill_20 rfl ?_
        refine go_if_ne (pc := 21) (tgt := 29) dX9_mostTill_21 (by decide) (fun e4 => ?_) (fun e4 => ?_)
        · replace h := (if_neg e4).symm.trans h
          refine go_aload_n (pc := 29) dX9_mostTill_29 rfl ?_
          refine gf_9_100 (pc := 30) dX9_mostTill_30 ?_
          refine go_bipush (pc := 33) (v := (13 : Int32)) dX9_mostTill_33 (by decide) ?_
          refine go_iload_n (pc := 35) dX9_mostTill_35 rfl ?_
          refine go_iconst (pc := 36) (v := (1 : Int32)) dX9_mostTill_36 (by decide) ?_
          refine go_isub (pc := 37) dX9_mostTill_37 ?_
          refine go_imul (pc := 38) dX9_mostTill_38 ?_
          refine go_iload (pc := 39) dX9_mostTill_39 rfl ?_
          refine go_iadd (pc := 41) dX9_mostTill_41 ?_
          obtain ⟨i3, h⟩ := g_gd h
          refine go_iald (pc := 42) (n := 52) rfl (g_inb_ok i3) dX9_mostTill_42 ?_
          exact go_to (z_X9_mostTill_L43 hok  (ih) h) (And.intro rfl (And.intro rfl (And.intro rfl (And.intro rfl (And.intro rfl trivial)))))
        · replace h := (if_pos e4).symm.trans h
          refine go_bipush (pc := 24) (v := (-99 : Int32)) dX9_mostTill_24 (by decide) ?_
          refine go_goto (pc := 26) (tgt := 43) dX9_mostTill_26 (by decide) ?_
          exact go_to (z_X9_mostTill_L43 hok  (ih) h) (And.intro rfl (And.intro rfl (And.intro rfl (And.intro rfl (And.intro rfl trivial)))))
      · replace h := (if_pos e5).symm.trans h
        refine go_iconst (pc := 16) (v := (0 : Int32)) dX9_mostTill_16 (by decide) ?_
        refine go_goto (pc := 17) (tgt := 43) dX9_mostTill_17 (by decide) ?_
        exact go_to (z_X9_mostTill_L43 hok  (ih) h) (And.intro rfl (And.intro rfl (And.intro rfl (And.intro rfl (And.intro rfl trivial)))))
def x_X9_mostTill  (p1 p2 : Int32) (M : g_M) : Option (Int32 × g_M) := (x_X9_mostTill_L5   g_F p1 p2 (0 : Int32) (0 : Int32) M)
set_option maxHeartbeats 4000000 in
set_option maxRecDepth 100000 in
theorem z_X9_mostTill {X : g_X} (hok : g_ok X)  {p1 p2 : Int32} {M : g_M} {r : Int32 × g_M} (h : x_X9_mostTill p1 p2 M = some r) : g_Con X yX9_mostTill cX9_mostTill 7 (some .int) 0 0 [.inr 41, .inl p1, .inl p2] M r := by
  rw [x_X9_mostTill] at h
  refine g_con hok (plainFor_of_name (by decide +kernel)) (Nat.le_of_ble_eq_true rfl) (go_to (lv2 := [some (.inr 41), some (.inl p1), some (.inl p2), none, none, none, none]) (own := RX9) ?_ (And.intro rfl (And.intro rfl (And.intro rfl trivial))))
  refine go_iconst (pc := 0) (v := (0 : Int32)) dX9_mostTill_0 (by decide) ?_
  refine go_istore_n (pc := 1) (lv' := [some (.inr 41), some (.inl p1), some (.inl p2), some (.inl (0 : Int32)), none, none, none]) dX9_mostTill_1 (by decide) rfl ?_
  refine go_iconst (pc := 2) (v := (0 : Int32)) dX9_mostTill_2 (by decide) ?_
  refine go_istore (pc := 3) (lv' := [some (.inr 41), some (.inl p1), some (.inl p2), some (.inl (0 : Int32)), some (.inl (0 : Int32)), none, none]) dX9_mostTill_3 (by decide) rfl ?_
  exact go_to (z_X9_mostTill_L5 hok   g_F _ _ _ _ _ h) (And.intro rfl (And.intro rfl (And.intro rfl (And.intro rfl (And.intro rfl trivial)))))
def x_X9_wake_L46  (k37 : Int32 → Int32 → g_M → Option (Int32 × g_M)) : Nat → Int32 → Int32 → Int32 → g_M → Option (Int32 × g_M)
  | 0, _, _, _, _ => none
  | n + 1, v2, v4, v5, M => (if (12 : Int32) < v5 then (k37 v2 (v4 + (1 : Int32)) M) else (((x_X9_mostTill v5 v4 M).bind fun u1 => (if g_inb (((13 : Int32) * v4) + v5) 52 = true then (x_X9_wake_L46  k37 n v2 v4 (v5 + (1 : Int32)) (g_upd u1.2 72 (((13 : Int32) * v4) + v5).toNatClampNeg u1.1)) else none))))
set_option maxHeartbeats 4000000 in
set_option maxRecDepth 100000 in
theorem z_X9_wake_L46 {X : g_X} (hok : g_ok X)  {r : Int32 × g_M} {k37 : Int32 → Int32 → g_M → Option (Int32 × g_M)} (hk37 : ∀ (v2 : Int32) (v4 : Int32) (M : g_M), k37 v2 v4 M = some r → g_Go X cX9_wake RX9 6 (some .int) 6 141 r 37 [some (.inr 41), none, some (.inl v2), none, some (.inl v4), none] [] M) : ∀ (n : Nat) (v2 : Int32) (v4 : Int32) (v5 : Int32) (M : g_M), x_X9_wake_L46  k37 n v2 v4 v5 M = some r → g_Go X cX9_wake RX9 6 (some .int) 6 141 r 46 [some (.inr 41), none, some (.inl v2), none, some (.inl v4), some (.inl v5)] [] M := by
  intro n
  induction n with
  | zero =>
    intro v2 v4 v5 M h
    rw [x_X9_wake_L46] at h
    cases h
  | succ n ih =>
    intro v2 v4 v5 M h
    rw [x_X9_wake_L46] at h
    refine go_iload (pc := 46) dX9_wake_46 rfl ?_
    refine go_bipush (pc := 48) (v := (12 : Int32)) dX9_wake_48 (by decide) ?_
    refine go_icmp_gt (pc := 50) (tgt := 80) dX9_wake_50 (by decide) (fun e4 => ?_) (fun e4 => ?_)
    · replace h := (if_pos e4).symm.trans h
      refine go_iinc (pc := 80) (v := (1 : Int32)) (lv' := [some (.inr 41), none, some (.inl v2), none, some (.inl (v4 + (1 : Int32))), some (.inl v5)]) dX9_wake_80 rfl (by decide) (by decide) rfl ?_
      refine go_goto (pc := 83) (tgt := 37) dX9_wake_83 (by decide) ?_
      exact go_to (hk37 _ _ _ h) (And.intro rfl (And.intro rfl (And.intro rfl trivial)))
    · replace h := (if_neg e4).symm.trans h
      refine go_aload_n (pc := 53) dX9_wake_53 rfl ?_
      refine gf_9_100 (pc := 54) dX9_wake_54 ?_
      refine go_bipush (pc := 57) (v := (13 : Int32)) dX9_wake_57 (by decide) ?_
      refine go_iload (pc := 59) dX9_wake_59 rfl ?_
      refine go_imul (pc := 61) dX9_wake_61 ?_
      refine go_iload (pc := 62) dX9_wake_62 rfl ?_
      refine go_iadd (pc := 64) dX9_wake_64 ?_
      refine go_aload_n (pc := 65) dX9_wake_65 rfl ?_
      refine go_iload (pc := 66) dX9_wake_66 rfl ?_
      refine go_iload (pc := 68) dX9_wake_68 rfl ?_
      obtain ⟨u1, c2, h⟩ := g_bd h
      refine go_callV (pc := 70) (as := [.inl v5, .inl v4]) (st := [.inl (((13 : Int32) * v4) + v5), .inr 72]) (r := u1.1) (M1 := u1.2) (z_X9_mostTill hok  c2) cw_X9_mostTill ml_X9_333 (show g_lay[41]? = some _ from rfl) rfl rfl (by decide) (Nat.le_of_ble_eq_true rfl) rfl dX9_wake_70 ?_
      obtain ⟨i3, h⟩ := g_gd h
      refine go_iast (pc := 73) (n := 52) rfl (g_inb_ok i3) dX9_wake_73 ?_
      refine go_iinc (pc := 74) (v := (1 : Int32)) (lv' := [some (.inr 41), none, some (.inl v2), none, some (.inl v4), some (.inl (v5 + (1 : Int32)))]) dX9_wake_74 rfl (by decide) (by decide) rfl ?_
      refine go_goto (pc := 77) (tgt := 46) dX9_wake_77 (by decide) ?_
      exact go_to (ih _ _ _ _ h) (And.intro rfl (And.intro rfl (And.intro rfl (And.intro rfl trivial))))
def x_X9_wake_L37   : Nat → Int32 → Int32 → g_M → Option (Int32 × g_M)
  | 0, _, _, _ => none
  | n + 1, v2, v4, M => (if v2 < v4 then ((if g_inb (((13 : Int32) * v2) + (12 : Int32)) 52 = true then (some ((M 72 (((13 : Int32) * v2) + (12 : Int32)).toNatClampNeg), M)) else none)) else (x_X9_wake_L46  (x_X9_wake_L37   n) g_F v2 v4 (0 : Int32) M))
set_option maxHeartbeats 4000000 in
set_option maxRecDepth 100000 in
theorem z_X9_wake_L37 {X : g_X} (hok : g_ok X)  {r : Int32 × g_M}  : ∀ (n : Nat) (v2 : Int32) (v4 : Int32) (M : g_M), x_X9_wake_L37   n v2 v4 M = some r → g_Go X cX9_wake RX9 6 (some .int) 6 141 r 37 [some (.inr 41), none, some (.inl v2), none, some (.inl v4), none] [] M := by
  intro n
  induction n with
  | zero =>
    intro v2 v4 M h
    rw [x_X9_wake_L37] at h
    cases h
  | succ n ih =>
    intro v2 v4 M h
    rw [x_X9_wake_L37] at h
    refine go_iload (pc := 37) dX9_wake_37 rfl ?_
    refine go_iload_n (pc := 39) dX9_wake_39 rfl ?_
    refine go_icmp_gt (pc := 40) (tgt := 86) dX9_wake_40 (by decide) (fun e6 => ?_) (fun e6 => ?_)
    · replace h := (if_pos e6).symm.trans h
      refine go_aload_n (pc := 86) dX9_wake_86 rfl ?_
      refine gf_9_100 (pc := 87) dX9_wake_87 ?_
      refine go_bipush (pc := 90) (v := (13 : Int32)) dX9_wake_90 (by decide) ?_
      refine go_iload_n (pc := 92) dX9_wake_92 rfl ?_
      refine go_imul (pc := 93) dX9_wake_93 ?_
      refine go_bipush (pc := 94) (v := (12 : Int32)) dX9_wake_94 (by decide) ?_
      refine go_iadd (pc := 96) dX9_wake_96 ?_
      obtain ⟨i5, h⟩ := g_gd h
      refine go_iald (pc := 97) (n := 52) rfl (g_inb_ok i5) dX9_wake_97 ?_
      exact go_iret (pc := 98) (Option.some.inj h).symm rfl dX9_wake_98 rfl
    · replace h := (if_neg e6).symm.trans h
      refine go_iconst (pc := 43) (v := (0 : Int32)) dX9_wake_43 (by decide) ?_
      refine go_istore (pc := 44) (lv' := [some (.inr 41), none, some (.inl v2), none, some (.inl v4), some (.inl (0 : Int32))]) dX9_wake_44 (by decide) rfl ?_
      exact go_to (z_X9_wake_L46 hok  (ih) g_F _ _ _ _ h) (And.intro rfl (And.intro rfl (And.intro rfl (And.intro rfl trivial))))
def x_X9_wake_L18   (v1 : Int32) (v2 : Int32) (s0 : Int32) (M : g_M) : Option (Int32 × g_M) := (if s0 = 0 then (((x_X9_findGoodMost v1 M).bind fun u7 => x_X9_wake_L37   g_F v2 (0 : Int32) u7.2)) else (((x_X9_no s0 M).bind fun u9 => some (u9.1, u9.2))))
set_option maxHeartbeats 4000000 in
set_option maxRecDepth 100000 in
theorem z_X9_wake_L18 {X : g_X} (hok : g_ok X)  {r : Int32 × g_M}  {v1 : Int32} {v2 : Int32} {s0 : Int32} {M : g_M} (h : x_X9_wake_L18   v1 v2 s0 M = some r) : g_Go X cX9_wake RX9 6 (some .int) 6 141 r 18 [some (.inr 41), some (.inl v1), some (.inl v2), none, none, none] [.inl s0] M := by
  rw [x_X9_wake_L18] at h
  refine go_istore_n (pc := 18) (lv' := [some (.inr 41), some (.inl v1), some (.inl v2), some (.inl s0), none, none]) dX9_wake_18 (by decide) rfl ?_
  refine go_iload_n (pc := 19) dX9_wake_19 rfl ?_
  refine go_if_eq (pc := 20) (tgt := 29) dX9_wake_20 (by decide) (fun e11 => ?_) (fun e11 => ?_)
  · replace h := (if_pos e11).symm.trans h
    refine go_aload_n (pc := 29) dX9_wake_29 rfl ?_
    refine go_iload_n (pc := 30) dX9_wake_30 rfl ?_
    obtain ⟨u7, c8, h⟩ := g_bd h
    refine go_callV (pc := 31) (as := [.inl v1]) (st := []) (r := u7.1) (M1 := u7.2) (z_X9_findGoodMost hok  c8) cw_X9_findGoodMost ml_X9_330 (show g_lay[41]? = some _ from rfl) rfl rfl (by decide) (Nat.le_of_ble_eq_true rfl) rfl dX9_wake_31 ?_
    refine go_iconst (pc := 34) (v := (0 : Int32)) dX9_wake_34 (by decide) ?_
    refine go_istore (pc := 35) (lv' := [some (.inr 41), some (.inl v1), some (.inl v2), some (.inl s0), some (.inl (0 : Int32)), none]) dX9_wake_35 (by decide) rfl ?_
    exact go_to (z_X9_wake_L37 hok   g_F _ _ _ h) (And.intro rfl (And.intro rfl (And.intro rfl trivial)))
  · replace h := (if_neg e11).symm.trans h
    refine go_aload_n (pc := 23) dX9_wake_23 rfl ?_
    refine go_iload_n (pc := 24) dX9_wake_24 rfl ?_
    obtain ⟨u9, c10, h⟩ := g_bd h
    refine go_callV (pc := 25) (as := [.inl s0]) (st := []) (r := u9.1) (M1 := u9.2) (z_X9_no hok  c10) cw_X9_no ml_X9_124 (show g_lay[41]? = some _ from rfl) rfl rfl (by decide) (Nat.le_of_ble_eq_true rfl) rfl dX9_wake_25 ?_
    exact go_iret (pc := 28) (Option.some.inj h).symm rfl dX9_wake_28 rfl
def x_X9_wake  (p1 p2 : Int32) (M : g_M) : Option (Int32 × g_M) := (((x_X9_isBoat p1 M).bind fun u12 => if u12.1 = 0 then (x_X9_wake_L18   p1 p2 (-1 : Int32) u12.2) else (((x_X9_bound p2 (0 : Int32) (3 : Int32) u12.2).bind fun u14 => x_X9_wake_L18   p1 p2 u14.1 u14.2))))
set_option maxHeartbeats 4000000 in
set_option maxRecDepth 100000 in
theorem z_X9_wake {X : g_X} (hok : g_ok X)  {p1 p2 : Int32} {M : g_M} {r : Int32 × g_M} (h : x_X9_wake p1 p2 M = some r) : g_Con X yX9_wake cX9_wake 6 (some .int) 6 141 [.inr 41, .inl p1, .inl p2] M r := by
  rw [x_X9_wake] at h
  refine g_con hok (plainFor_of_name (by decide +kernel)) (Nat.le_of_ble_eq_true rfl) (go_to (lv2 := [some (.inr 41), some (.inl p1), some (.inl p2), none, none, none]) (own := RX9) ?_ (And.intro rfl (And.intro rfl (And.intro rfl trivial))))
  refine go_aload_n (pc := 0) dX9_wake_0 rfl ?_
  refine go_iload_n (pc := 1) dX9_wake_1 rfl ?_
  obtain ⟨u12, c13, h⟩ := g_bd h
  refine go_callV (pc := 2) (as := [.inl p1]) (st := []) (r := u12.1) (M1 := u12.2) (z_X9_isBoat hok  c13) cw_X9_isBoat ml_X9_168 (show g_lay[41]? = some _ from rfl) rfl rfl (by decide) (Nat.le_of_ble_eq_true rfl) rfl dX9_wake_2 ?_
  refine go_if_ne (pc := 5) (tgt := 12) dX9_wake_5 (by decide) (fun e16 => ?_) (fun e16 => ?_)
  · replace h := (if_neg e16).symm.trans h
    refine go_iload_n (pc := 12) dX9_wake_12 rfl ?_
    refine go_iconst (pc := 13) (v := (0 : Int32)) dX9_wake_13 (by decide) ?_
    refine go_iconst (pc := 14) (v := (3 : Int32)) dX9_wake_14 (by decide) ?_
    obtain ⟨u14, c15, h⟩ := g_bd h
    refine go_callS (pc := 15) (as := [.inl p2, .inl (0 : Int32), .inl (3 : Int32)]) (st := []) (r := u14.1) (M1 := u14.2) (z_X9_bound hok  c15) cw_X9_bound ml_X9_117 (by decide) (Nat.le_of_ble_eq_true rfl) rfl dX9_wake_15 ?_
    exact go_to (z_X9_wake_L18 hok   h) (And.intro rfl (And.intro rfl (And.intro rfl trivial)))
  · replace h := (if_pos e16).symm.trans h
    refine go_iconst (pc := 8) (v := (-1 : Int32)) dX9_wake_8 (by decide) ?_
    refine go_goto (pc := 9) (tgt := 18) dX9_wake_9 (by decide) ?_
    exact go_to (z_X9_wake_L18 hok   h) (And.intro rfl (And.intro rfl (And.intro rfl trivial)))
def x_X9_isRamp  (p1 : Int32) (M : g_M) : Option (Int32 × g_M) := (if p1 < 0 then (some ((0 : Int32), M)) else (if (M 41 19) ≤ p1 then (some ((0 : Int32), M)) else (some ((1 : Int32), M))))
set_option maxHeartbeats 4000000 in
set_option maxRecDepth 100000 in
theorem z_X9_isRamp {X : g_X} (hok : g_ok X)  {p1 : Int32} {M : g_M} {r : Int32 × g_M} (h : x_X9_isRamp p1 M = some r) : g_Con X yX9_isRamp cX9_isRamp 2 (some .boolean) 0 0 [.inr 41, .inl p1] M r := by
  rw [x_X9_isRamp] at h
  refine g_con hok (plainFor_of_name (by decide +kernel)) (Nat.le_of_ble_eq_true rfl) (go_to (lv2 := [some (.inr 41), some (.inl p1)]) (own := RX9) ?_ (And.intro rfl (And.intro rfl trivial)))
  refine go_iload_n (pc := 0) dX9_isRamp_0 rfl ?_
  refine go_if_lt (pc := 1) (tgt := 16) dX9_isRamp_1 (by decide) (fun e2 => ?_) (fun e2 => ?_)
  · replace h := (if_pos e2).symm.trans h
    refine go_iconst (pc := 16) (v := (0 : Int32)) dX9_isRamp_16 (by decide) ?_
    exact go_iret (pc := 17) (Option.some.inj h).symm rfl dX9_isRamp_17 rfl
  · replace h := (if_neg e2).symm.trans h
    refine go_iload_n (pc := 4) dX9_isRamp_4 rfl ?_
    refine go_aload_n (pc := 5) dX9_isRamp_5 rfl ?_
    refine gf_9_202 (pc := 6) dX9_isRamp_6 ?_
    refine go_icmp_ge (pc := 9) (tgt := 16) dX9_isRamp_9 (by decide) (fun e1 => ?_) (fun e1 => ?_)
    · replace h := (if_pos e1).symm.trans h
      refine go_iconst (pc := 16) (v := (0 : Int32)) dX9_isRamp_16 (by decide) ?_
      exact go_iret (pc := 17) (Option.some.inj h).symm rfl dX9_isRamp_17 rfl
    · replace h := (if_neg e1).symm.trans h
      refine go_iconst (pc := 12) (v := (1 : Int32)) dX9_isRamp_12 (by decide) ?_
      refine go_goto (pc := 13) (tgt := 17) dX9_isRamp_13 (by decide) ?_
      exact go_iret (pc := 17) (Option.some.inj h).symm rfl dX9_isRamp_17 rfl
def x_X9_ramp_L40   (v1 : Int32) (v2 : Int32) (s0 : Int32) (M : g_M) : Option (Int32 × g_M) := (if s0 = 0 then ((if g_inb (M 41 19) 3 = true then ((if g_inb ((g_upd M 55 (M 41 19).toNatClampNeg v1) 41 19) 3 = true then (some ((((g_upd (g_upd (g_upd M 55 (M 41 19).toNatClampNeg v1) 56 ((g_upd M 55 (M 41 19).toNatClampNeg v1) 41 19).toNatClampNeg v2) 41 19 (((g_upd (g_upd M 55 (M 41 19).toNatClampNeg v1) 56 ((g_upd M 55 (M 41 19).toNatClampNeg v1) 41 19).toNatClampNeg v2) 41 19) + (1 : Int32))) 41 19) - (1 : Int32)), (g_upd (g_upd (g_upd M 55 (M 41 19).toNatClampNeg v1) 56 ((g_upd M 55 (M 41 19).toNatClampNeg v1) 41 19).toNatClampNeg v2) 41 19 (((g_upd (g_upd M 55 (M 41 19).toNatClampNeg v1) 56 ((g_upd M 55 (M 41 19).toNatClampNeg v1) 41 19).toNatClampNeg v2) 41 19) + (1 : Int32))))) else none)) else none)) else (((x_X9_no s0 M).bind fun u3 => some (u3.1, u3.2))))
set_option maxHeartbeats 4000000 in
set_option maxRecDepth 100000 in
theorem z_X9_ramp_L40 {X : g_X} (hok : g_ok X)  {r : Int32 × g_M}  {v1 : Int32} {v2 : Int32} {s0 : Int32} {M : g_M} (h : x_X9_ramp_L40   v1 v2 s0 M = some r) : g_Go X cX9_ramp RX9 4 (some .int) 1 21 r 40 [some (.inr 41), some (.inl v1), some (.inl v2), none] [.inl s0] M := by
  rw [x_X9_ramp_L40] at h
  refine go_istore_n (pc := 40) (lv' := [some (.inr 41), some (.inl v1), some (.inl v2), some (.inl s0)]) dX9_ramp_40 (by decide) rfl ?_
  refine go_iload_n (pc := 41) dX9_ramp_41 rfl ?_
  refine go_if_eq (pc := 42) (tgt := 51) dX9_ramp_42 (by decide) (fun e5 => ?_) (fun e5 => ?_)
  · replace h := (if_pos e5).symm.trans h
    refine go_aload_n (pc := 51) dX9_ramp_51 rfl ?_
    refine gf_9_49 (pc := 52) dX9_ramp_52 ?_
    refine go_aload_n (pc := 55) dX9_ramp_55 rfl ?_
    refine gf_9_202 (pc := 56) dX9_ramp_56 ?_
    refine go_iload_n (pc := 59) dX9_ramp_59 rfl ?_
    obtain ⟨i1, h⟩ := g_gd h
    refine go_iast (pc := 60) (n := 3) rfl (g_inb_ok i1) dX9_ramp_60 ?_
    refine go_aload_n (pc := 61) dX9_ramp_61 rfl ?_
    refine gf_9_52 (pc := 62) dX9_ramp_62 ?_
    refine go_aload_n (pc := 65) dX9_ramp_65 rfl ?_
    refine gf_9_202 (pc := 66) dX9_ramp_66 ?_
    refine go_iload_n (pc := 69) dX9_ramp_69 rfl ?_
    obtain ⟨i2, h⟩ := g_gd h
    refine go_iast (pc := 70) (n := 3) rfl (g_inb_ok i2) dX9_ramp_70 ?_
    refine go_aload_n (pc := 71) dX9_ramp_71 rfl ?_
    refine go_dup (pc := 72) dX9_ramp_72 ?_
    refine gf_9_202 (pc := 73) dX9_ramp_73 ?_
    refine go_iconst (pc := 76) (v := (1 : Int32)) dX9_ramp_76 (by decide) ?_
    refine go_iadd (pc := 77) dX9_ramp_77 ?_
    refine gp_9_202 (pc := 78) dX9_ramp_78 ?_
    refine go_aload_n (pc := 81) dX9_ramp_81 rfl ?_
    refine gf_9_202 (pc := 82) dX9_ramp_82 ?_
    refine go_iconst (pc := 85) (v := (1 : Int32)) dX9_ramp_85 (by decide) ?_
    refine go_isub (pc := 86) dX9_ramp_86 ?_
    exact go_iret (pc := 87) (Option.some.inj h).symm rfl dX9_ramp_87 rfl
  · replace h := (if_neg e5).symm.trans h
    refine go_aload_n (pc := 45) dX9_ramp_45 rfl ?_
    refine go_iload_n (pc := 46) dX9_ramp_46 rfl ?_
    obtain ⟨u3, c4, h⟩ := g_bd h
    refine go_callV (pc := 47) (as := [.inl s0]) (st := []) (r := u3.1) (M1 := u3.2) (z_X9_no hok  c4) cw_X9_no ml_X9_124 (show g_lay[41]? = some _ from rfl) rfl rfl (by decide) (Nat.le_of_ble_eq_true rfl) rfl dX9_ramp_47 ?_
    exact go_iret (pc := 50) (Option.some.inj h).symm rfl dX9_ramp_50 rfl
def x_X9_ramp  (p1 p2 : Int32) (M : g_M) : Option (Int32 × g_M) := (if p1 < 0 then (x_X9_ramp_L40   p1 p2 (-4 : Int32) M) else (if (1 : Int32) ≤ p2 then (if (60 : Int32) < p1 then (x_X9_ramp_L40   p1 p2 (-6 : Int32) M) else (if (40 : Int32) < p2 then (x_X9_ramp_L40   p1 p2 (-6 : Int32) M) else (if (M 41 19) = (3 : Int32) then (x_X9_ramp_L40   p1 p2 (-6 : Int32) M) else (x_X9_ramp_L40   p1 p2 (0 : Int32) M)))) else (x_X9_ramp_L40   p1 p2 (-4 : Int32) M)))
set_option maxHeartbeats 4000000 in
set_option maxRecDepth 100000 in
theorem z_X9_ramp {X : g_X} (hok : g_ok X)  {p1 p2 : Int32} {M : g_M} {r : Int32 × g_M} (h : x_X9_ramp p1 p2 M = some r) : g_Con X yX9_ramp cX9_ramp 4 (some .int) 1 21 [.inr 41, .inl p1, .inl p2] M r := by
  rw [x_X9_ramp] at h
  refine g_con hok (plainFor_of_name (by decide +kernel)) (Nat.le_of_ble_eq_true rfl) (go_to (lv2 := [some (.inr 41), some (.inl p1), some (.inl p2), none]) (own := RX9) ?_ (And.intro rfl (And.intro rfl (And.intro rfl trivial))))
  refine go_iload_n (pc := 0) dX9_ramp_0 rfl ?_
  refine go_if_lt (pc := 1) (tgt := 9) dX9_ramp_1 (by decide) (fun e10 => ?_) (fun e10 => ?_)
  · replace h := (if_pos e10).symm.trans h
    refine go_bipush (pc := 9) (v := (-4 : Int32)) dX9_ramp_9 (by decide) ?_
    refine go_goto (pc := 11) (tgt := 40) dX9_ramp_11 (by decide) ?_
    exact go_to (z_X9_ramp_L40 hok   h) (And.intro rfl (And.intro rfl (And.intro rfl trivial)))
  · replace h := (if_neg e10).symm.trans h
    refine go_iload_n (pc := 4) dX9_ramp_4 rfl ?_
    refine go_iconst (pc := 5) (v := (1 : Int32)) dX9_ramp_5 (by decide) ?_
    refine go_icmp_ge (pc := 6) (tgt := 14) dX9_ramp_6 (by decide) (fun e9 => ?_) (fun e9 => ?_)
    · replace h := (if_pos e9).symm.trans h
      refine go_iload_n (pc := 14) dX9_ramp_14 rfl ?_
      refine go_bipush (pc := 15) (v := (60 : Int32)) dX9_ramp_15 (by decide) ?_
      refine go_icmp_gt (pc := 17) (tgt := 34) dX9_ramp_17 (by decide) (fun e8 => ?_) (fun e8 => ?_)
      · replace h := (if_pos e8).symm.trans h
        refine go_bipush (pc := 34) (v := (-6 : Int32)) dX9_ramp_34 (by decide) ?_
        refine go_goto (pc := 36) (tgt := 40) dX9_ramp_36 (by decide) ?_
        exact go_to (z_X9_ramp_L40 hok   h) (And.intro rfl (And.intro rfl (And.intro rfl trivial)))
      · replace h := (if_neg e8).symm.trans h
        refine go_iload_n (pc := 20) dX9_ramp_20 rfl ?_
        refine go_bipush (pc := 21) (v := (40 : Int32)) dX9_ramp_21 (by decide) ?_
        refine go_icmp_gt (pc := 23) (tgt := 34) dX9_ramp_23 (by decide) (fun e7 => ?_) (fun e7 => ?_)
        · replace h := (if_pos e7).symm.trans h
          refine go_bipush (pc := 34) (v := (-6 : Int32)) dX9_ramp_34 (by decide) ?_
          refine go_goto (pc := 36) (tgt := 40) dX9_ramp_36 (by decide) ?_
          exact go_to (z_X9_ramp_L40 hok   h) (And.intro rfl (And.intro rfl (And.intro rfl trivial)))
        · replace h := (if_neg e7).symm.trans h
          refine go_aload_n (pc := 26) dX9_ramp_26 rfl ?_
          refine gf_9_202 (pc := 27) dX9_ramp_27 ?_
          refine go_iconst (pc := 30) (v := (3 : Int32)) dX9_ramp_30 (by decide) ?_
          refine go_icmp_ne (pc := 31) (tgt := 39) dX9_ramp_31 (by decide) (fun e6 => ?_) (fun e6 => ?_)
          · replace h := (if_neg e6).symm.trans h
            refine go_iconst (pc := 39) (v := (0 : Int32)) dX9_ramp_39 (by decide) ?_
            exact go_to (z_X9_ramp_L40 hok   h) (And.intro rfl (And.intro rfl (And.intro rfl trivial)))
          · replace h := (if_pos e6).symm.trans h
            refine go_bipush (pc := 34) (v := (-6 : Int32)) dX9_ramp_34 (by decide) ?_
            refine go_goto (pc := 36) (tgt := 40) dX9_ramp_36 (by decide) ?_
            exact go_to (z_X9_ramp_L40 hok   h) (And.intro rfl (And.intro rfl (And.intro rfl trivial)))
    · replace h := (if_neg e9).symm.trans h
      refine go_bipush (pc := 9) (v := (-4 : Int32)) dX9_ramp_9 (by decide) ?_
      refine go_goto (pc := 11) (tgt := 40) dX9_ramp_11 (by decide) ?_
      exact go_to (z_X9_ramp_L40 hok   h) (And.intro rfl (And.intro rfl (And.intro rfl trivial)))
def x_X9_slopeBy  (p1 p2 p3 : Int32) (M : g_M) : Option (Int32 × g_M) := ((if g_inb p3 12 = true then (if 0 ≤ ((M 43 p3.toNatClampNeg) - p1) then ((if p2 = 0 then none else some ((((100 : Int32) * ((M 43 p3.toNatClampNeg) - p1)) / p2), M))) else ((if p2 = 0 then none else some ((((100 : Int32) * (-((M 43 p3.toNatClampNeg) - p1))) / p2), M)))) else none))
set_option maxHeartbeats 4000000 in
set_option maxRecDepth 100000 in
theorem z_X9_slopeBy {X : g_X} (hok : g_ok X)  {p1 p2 p3 : Int32} {M : g_M} {r : Int32 × g_M} (h : x_X9_slopeBy p1 p2 p3 M = some r) : g_Con X yX9_slopeBy cX9_slopeBy 5 (some .int) 0 0 [.inr 41, .inl p1, .inl p2, .inl p3] M r := by
  rw [x_X9_slopeBy] at h
  refine g_con hok (plainFor_of_name (by decide +kernel)) (Nat.le_of_ble_eq_true rfl) (go_to (lv2 := [some (.inr 41), some (.inl p1), some (.inl p2), some (.inl p3), none]) (own := RX9) ?_ (And.intro rfl (And.intro rfl (And.intro rfl (And.intro rfl trivial)))))
  refine go_aload_n (pc := 0) dX9_slopeBy_0 rfl ?_
  refine gf_9_13 (pc := 1) dX9_slopeBy_1 ?_
  refine go_iload_n (pc := 4) dX9_slopeBy_4 rfl ?_
  obtain ⟨i1, h⟩ := g_gd h
  refine go_iald (pc := 5) (n := 12) rfl (g_inb_ok i1) dX9_slopeBy_5 ?_
  refine go_iload_n (pc := 6) dX9_slopeBy_6 rfl ?_
  refine go_isub (pc := 7) dX9_slopeBy_7 ?_
  refine go_istore (pc := 8) (lv' := [some (.inr 41), some (.inl p1), some (.inl p2), some (.inl p3), some (.inl ((M 43 p3.toNatClampNeg) - p1))]) dX9_slopeBy_8 (by decide) rfl ?_
  refine go_bipush (pc := 10) (v := (100 : Int32)) dX9_slopeBy_10 (by decide) ?_
  refine go_iload (pc := 12) dX9_slopeBy_12 rfl ?_
  refine go_if_ge (pc := 14) (tgt := 23) dX9_slopeBy_14 (by decide) (fun e4 => ?_) (fun e4 => ?_)
  · replace h := (if_pos e4).symm.trans h
    refine go_iload (pc := 23) dX9_slopeBy_23 rfl ?_
    refine go_imul (pc := 25) dX9_slopeBy_25 ?_
    refine go_iload_n (pc := 26) dX9_slopeBy_26 rfl ?_
    obtain ⟨z2, h⟩ := g_nz h
    refine go_idiv (pc := 27) dX9_slopeBy_27 z2 ?_
    exact go_iret (pc := 28) (Option.some.inj h).symm rfl dX9_slopeBy_28 rfl
  · replace h := (if_neg e4).symm.trans h
    refine go_iload (pc := 17) dX9_slopeBy_17 rfl ?_
    refine go_ineg (pc := 19) dX9_slopeBy_19 ?_
    refine go_goto (pc := 20) (tgt := 25) dX9_slopeBy_20 (by decide) ?_
    refine go_imul (pc := 25) dX9_slopeBy_25 ?_
    refine go_iload_n (pc := 26) dX9_slopeBy_26 rfl ?_
    obtain ⟨z3, h⟩ := g_nz h
    refine go_idiv (pc := 27) dX9_slopeBy_27 z3 ?_
    exact go_iret (pc := 28) (Option.some.inj h).symm rfl dX9_slopeBy_28 rfl
def x_X9_slope  (p1 p2 : Int32) (M : g_M) : Option (Int32 × g_M) := (((x_X9_isRamp p1 M).bind fun u1 => if u1.1 = 0 then (((x_X9_no (-1 : Int32) u1.2).bind fun u3 => some (u3.1, u3.2))) else (((x_X9_isHour p2 u1.2).bind fun u5 => if u5.1 = 0 then (((x_X9_no (-1 : Int32) u5.2).bind fun u11 => some (u11.1, u11.2))) else ((if g_inb p1 3 = true then ((if g_inb p1 3 = true then (((x_X9_slopeBy (u5.2 55 p1.toNatClampNeg) (u5.2 56 p1.toNatClampNeg) p2 u5.2).bind fun u9 => some (u9.1, u9.2))) else none)) else none))))))
set_option maxHeartbeats 4000000 in
set_option maxRecDepth 100000 in
theorem z_X9_slope {X : g_X} (hok : g_ok X)  {p1 p2 : Int32} {M : g_M} {r : Int32 × g_M} (h : x_X9_slope p1 p2 M = some r) : g_Con X yX9_slope cX9_slope 3 (some .int) 1 24 [.inr 41, .inl p1, .inl p2] M r := by
  rw [x_X9_slope] at h
  refine g_con hok (plainFor_of_name (by decide +kernel)) (Nat.le_of_ble_eq_true rfl) (go_to (lv2 := [some (.inr 41), some (.inl p1), some (.inl p2)]) (own := RX9) ?_ (And.intro rfl (And.intro rfl (And.intro rfl trivial))))
  refine go_aload_n (pc := 0) dX9_slope_0 rfl ?_
  refine go_iload_n (pc := 1) dX9_slope_1 rfl ?_
  obtain ⟨u1, c2, h⟩ := g_bd h
  refine go_callV (pc := 2) (as := [.inl p1]) (st := []) (r := u1.1) (M1 := u1.2) (z_X9_isRamp hok  c2) cw_X9_isRamp ml_X9_336 (show g_lay[41]? = some _ from rfl) rfl rfl (by decide) (Nat.le_of_ble_eq_true rfl) rfl dX9_slope_2 ?_
  refine go_if_eq (pc := 5) (tgt := 15) dX9_slope_5 (by decide) (fun e14 => ?_) (fun e14 => ?_)
  · replace h := (if_pos e14).symm.trans h
    refine go_aload_n (pc := 15) dX9_slope_15 rfl ?_
    refine go_iconst (pc := 16) (v := (-1 : Int32)) dX9_slope_16 (by decide) ?_
    obtain ⟨u3, c4, h⟩ := g_bd h
    refine go_callV (pc := 17) (as := [.inl (-1 : Int32)]) (st := []) (r := u3.1) (M1 := u3.2) (z_X9_no hok  c4) cw_X9_no ml_X9_124 (show g_lay[41]? = some _ from rfl) rfl rfl (by decide) (Nat.le_of_ble_eq_true rfl) rfl dX9_slope_17 ?_
    exact go_iret (pc := 20) (Option.some.inj h).symm rfl dX9_slope_20 rfl
  · replace h := (if_neg e14).symm.trans h
    refine go_iload_n (pc := 8) dX9_slope_8 rfl ?_
    obtain ⟨u5, c6, h⟩ := g_bd h
    refine go_callS (pc := 9) (as := [.inl p2]) (st := []) (r := u5.1) (M1 := u5.2) (z_X9_isHour hok  c6) cw_X9_isHour ml_X9_159 (by decide) (Nat.le_of_ble_eq_true rfl) rfl dX9_slope_9 ?_
    refine go_if_ne (pc := 12) (tgt := 21) dX9_slope_12 (by decide) (fun e13 => ?_) (fun e13 => ?_)
    · replace h := (if_neg e13).symm.trans h
      refine go_aload_n (pc := 21) dX9_slope_21 rfl ?_
      refine go_aload_n (pc := 22) dX9_slope_22 rfl ?_
      refine gf_9_49 (pc := 23) dX9_slope_23 ?_
      refine go_iload_n (pc := 26) dX9_slope_26 rfl ?_
      obtain ⟨i7, h⟩ := g_gd h
      refine go_iald (pc := 27) (n := 3) rfl (g_inb_ok i7) dX9_slope_27 ?_
      refine go_aload_n (pc := 28) dX9_slope_28 rfl ?_
      refine gf_9_52 (pc := 29) dX9_slope_29 ?_
      refine go_iload_n (pc := 32) dX9_slope_32 rfl ?_
      obtain ⟨i8, h⟩ := g_gd h
      refine go_iald (pc := 33) (n := 3) rfl (g_inb_ok i8) dX9_slope_33 ?_
      refine go_iload_n (pc := 34) dX9_slope_34 rfl ?_
      obtain ⟨u9, c10, h⟩ := g_bd h
      refine go_callV (pc := 35) (as := [.inl (u5.2 55 p1.toNatClampNeg), .inl (u5.2 56 p1.toNatClampNeg), .inl p2]) (st := []) (r := u9.1) (M1 := u9.2) (z_X9_slopeBy hok  c10) cw_X9_slopeBy ml_X9_339 (show g_lay[41]? = some _ from rfl) rfl rfl (by decide) (Nat.le_of_ble_eq_true rfl) rfl dX9_slope_35 ?_
      exact go_iret (pc := 38) (Option.some.inj h).symm rfl dX9_slope_38 rfl
    · replace h := (if_pos e13).symm.trans h
      refine go_aload_n (pc := 15) dX9_slope_15 rfl ?_
      refine go_iconst (pc := 16) (v := (-1 : Int32)) dX9_slope_16 (by decide) ?_
      obtain ⟨u11, c12, h⟩ := g_bd h
      refine go_callV (pc := 17) (as := [.inl (-1 : Int32)]) (st := []) (r := u11.1) (M1 := u11.2) (z_X9_no hok  c12) cw_X9_no ml_X9_124 (show g_lay[41]? = some _ from rfl) rfl rfl (by decide) (Nat.le_of_ble_eq_true rfl) rfl dX9_slope_17 ?_
      exact go_iret (pc := 20) (Option.some.inj h).symm rfl dX9_slope_20 rfl
def x_X9_openHours_L6   : Nat → Int32 → Int32 → Int32 → Int32 → Int32 → g_M → Option (Int32 × g_M)
  | 0, _, _, _, _, _, _ => none
  | n + 1, v1, v2, v3, v4, v5, M => (if (12 : Int32) ≤ v5 then (some (v4, M)) else (((x_X9_slopeBy v1 v2 v5 M).bind fun u1 => if v3 < u1.1 then (x_X9_openHours_L6   n v1 v2 v3 (v4 ||| (0 : Int32)) (v5 + (1 : Int32)) u1.2) else (x_X9_openHours_L6   n v1 v2 v3 (v4 ||| ((1 : Int32) <<< (v5 &&& 31))) (v5 + (1 : Int32)) u1.2))))
set_option maxHeartbeats 4000000 in
set_option maxRecDepth 100000 in
theorem z_X9_openHours_L6 {X : g_X} (hok : g_ok X)  {r : Int32 × g_M}  : ∀ (n : Nat) (v1 : Int32) (v2 : Int32) (v3 : Int32) (v4 : Int32) (v5 : Int32) (M : g_M), x_X9_openHours_L6   n v1 v2 v3 v4 v5 M = some r → g_Go X cX9_openHours RX9 6 (some .int) 1 24 r 6 [some (.inr 41), some (.inl v1), some (.inl v2), some (.inl v3), some (.inl v4), some (.inl v5)] [] M := by
  intro n
  induction n with
  | zero =>
    intro v1 v2 v3 v4 v5 M h
    rw [x_X9_openHours_L6] at h
    cases h
  | succ n ih =>
    intro v1 v2 v3 v4 v5 M h
    rw [x_X9_openHours_L6] at h
    refine go_iload (pc := 6) dX9_openHours_6 rfl ?_
    refine go_bipush (pc := 8) (v := (12 : Int32)) dX9_openHours_8 (by decide) ?_
    refine go_icmp_ge (pc := 10) (tgt := 44) dX9_openHours_10 (by decide) (fun e4 => ?_) (fun e4 => ?_)
    · replace h := (if_pos e4).symm.trans h
      refine go_iload (pc := 44) dX9_openHours_44 rfl ?_
      exact go_iret (pc := 46) (Option.some.inj h).symm rfl dX9_openHours_46 rfl
    · replace h := (if_neg e4).symm.trans h
      refine go_iload (pc := 13) dX9_openHours_13 rfl ?_
      refine go_aload_n (pc := 15) dX9_openHours_15 rfl ?_
      refine go_iload_n (pc := 16) dX9_openHours_16 rfl ?_
      refine go_iload_n (pc := 17) dX9_openHours_17 rfl ?_
      refine go_iload (pc := 18) dX9_openHours_18 rfl ?_
      obtain ⟨u1, c2, h⟩ := g_bd h
      refine go_callV (pc := 20) (as := [.inl v1, .inl v2, .inl v5]) (st := [.inl v4]) (r := u1.1) (M1 := u1.2) (z_X9_slopeBy hok  c2) cw_X9_slopeBy ml_X9_339 (show g_lay[41]? = some _ from rfl) rfl rfl (by decide) (Nat.le_of_ble_eq_true rfl) rfl dX9_openHours_20 ?_
      refine go_iload_n (pc := 23) dX9_openHours_23 rfl ?_
      refine go_icmp_gt (pc := 24) (tgt := 34) dX9_openHours_24 (by decide) (fun e3 => ?_) (fun e3 => ?_)
      · replace h := (if_pos e3).symm.trans h
        refine go_iconst (pc := 34) (v := (0 : Int32)) dX9_openHours_34 (by decide) ?_
        refine go_ior (pc := 35) dX9_openHours_35 ?_
        refine go_istore (pc := 36) (lv' := [some (.inr 41), some (.inl v1), some (.inl v2), some (.inl v3), some (.inl (v4 ||| (0 : Int32))), some (.inl v5)]) dX9_openHours_36 (by decide) rfl ?_
        refine go_iinc (pc := 38) (v := (1 : Int32)) (lv' := [some (.inr 41), some (.inl v1), some (.inl v2), some (.inl v3), some (.inl (v4 ||| (0 : Int32))), some (.inl (v5 + (1 : Int32)))]) dX9_openHours_38 rfl (by decide) (by decide) rfl ?_
        refine go_goto (pc := 41) (tgt := 6) dX9_openHours_41 (by decide) ?_
        exact go_to (ih _ _ _ _ _ _ h) (And.intro rfl (And.intro rfl (And.intro rfl (And.intro rfl (And.intro rfl (And.intro rfl trivial))))))
      · replace h := (if_neg e3).symm.trans h
        refine go_iconst (pc := 27) (v := (1 : Int32)) dX9_openHours_27 (by decide) ?_
        refine go_iload (pc := 28) dX9_openHours_28 rfl ?_
        refine go_ishl (pc := 30) dX9_openHours_30 ?_
        refine go_goto (pc := 31) (tgt := 35) dX9_openHours_31 (by decide) ?_
        refine go_ior (pc := 35) dX9_openHours_35 ?_
        refine go_istore (pc := 36) (lv' := [some (.inr 41), some (.inl v1), some (.inl v2), some (.inl v3), some (.inl (v4 ||| ((1 : Int32) <<< (v5 &&& 31)))), some (.inl v5)]) dX9_openHours_36 (by decide) rfl ?_
        refine go_iinc (pc := 38) (v := (1 : Int32)) (lv' := [some (.inr 41), some (.inl v1), some (.inl v2), some (.inl v3), some (.inl (v4 ||| ((1 : Int32) <<< (v5 &&& 31)))), some (.inl (v5 + (1 : Int32)))]) dX9_openHours_38 rfl (by decide) (by decide) rfl ?_
        refine go_goto (pc := 41) (tgt := 6) dX9_openHours_41 (by decide) ?_
        exact go_to (ih _ _ _ _ _ _ h) (And.intro rfl (And.intro rfl (And.intro rfl (And.intro rfl (And.intro rfl (And.intro rfl trivial))))))
def x_X9_openHours  (p1 p2 p3 : Int32) (M : g_M) : Option (Int32 × g_M) := (x_X9_openHours_L6   g_F p1 p2 p3 (0 : Int32) (0 : Int32) M)
set_option maxHeartbeats 4000000 in
set_option maxRecDepth 100000 in
theorem z_X9_openHours {X : g_X} (hok : g_ok X)  {p1 p2 p3 : Int32} {M : g_M} {r : Int32 × g_M} (h : x_X9_openHours p1 p2 p3 M = some r) : g_Con X yX9_openHours cX9_openHours 6 (some .int) 1 24 [.inr 41, .inl p1, .inl p2, .inl p3] M r := by
  rw [x_X9_openHours] at h
  refine g_con hok (plainFor_of_name (by decide +kernel)) (Nat.le_of_ble_eq_true rfl) (go_to (lv2 := [some (.inr 41), some (.inl p1), some (.inl p2), some (.inl p3), none, none]) (own := RX9) ?_ (And.intro rfl (And.intro rfl (And.intro rfl (And.intro rfl trivial)))))
  refine go_iconst (pc := 0) (v := (0 : Int32)) dX9_openHours_0 (by decide) ?_
  refine go_istore (pc := 1) (lv' := [some (.inr 41), some (.inl p1), some (.inl p2), some (.inl p3), some (.inl (0 : Int32)), none]) dX9_openHours_1 (by decide) rfl ?_
  refine go_iconst (pc := 3) (v := (0 : Int32)) dX9_openHours_3 (by decide) ?_
  refine go_istore (pc := 4) (lv' := [some (.inr 41), some (.inl p1), some (.inl p2), some (.inl p3), some (.inl (0 : Int32)), some (.inl (0 : Int32))]) dX9_openHours_4 (by decide) rfl ?_
  exact go_to (z_X9_openHours_L6 hok   g_F _ _ _ _ _ _ h) (And.intro rfl (And.intro rfl (And.intro rfl (And.intro rfl (And.intro rfl (And.intro rfl trivial))))))
def x_X9_open_L20   (v1 : Int32) (v2 : Int32) (s0 : Int32) (M : g_M) : Option (Int32 × g_M) := (if s0 = 0 then ((if g_inb v1 3 = true then ((if g_inb v1 3 = true then (((x_X9_openHours (M 55 v1.toNatClampNeg) (M 56 v1.toNatClampNeg) v2 M).bind fun u3 => some (u3.1, u3.2))) else none)) else none)) else (((x_X9_no s0 M).bind fun u5 => some (u5.1, u5.2))))
set_option maxHeartbeats 4000000 in
set_option maxRecDepth 100000 in
theorem z_X9_open_L20 {X : g_X} (hok : g_ok X)  {r : Int32 × g_M}  {v1 : Int32} {v2 : Int32} {s0 : Int32} {M : g_M} (h : x_X9_open_L20   v1 v2 s0 M = some r) : g_Go X cX9_open RX9 4 (some .int) 2 49 r 20 [some (.inr 41), some (.inl v1), some (.inl v2), none] [.inl s0] M := by
  rw [x_X9_open_L20] at h
  refine go_istore_n (pc := 20) (lv' := [some (.inr 41), some (.inl v1), some (.inl v2), some (.inl s0)]) dX9_open_20 (by decide) rfl ?_
  refine go_iload_n (pc := 21) dX9_open_21 rfl ?_
  refine go_if_eq (pc := 22) (tgt := 33) dX9_open_22 (by decide) (fun e7 => ?_) (fun e7 => ?_)
  · replace h := (if_pos e7).symm.trans h
    refine go_aload_n (pc := 33) dX9_open_33 rfl ?_
    refine go_aload_n (pc := 34) dX9_open_34 rfl ?_
    refine gf_9_49 (pc := 35) dX9_open_35 ?_
    refine go_iload_n (pc := 38) dX9_open_38 rfl ?_
    obtain ⟨i1, h⟩ := g_gd h
    refine go_iald (pc := 39) (n := 3) rfl (g_inb_ok i1) dX9_open_39 ?_
    refine go_aload_n (pc := 40) dX9_open_40 rfl ?_
    refine gf_9_52 (pc := 41) dX9_open_41 ?_
    refine go_iload_n (pc := 44) dX9_open_44 rfl ?_
    obtain ⟨i2, h⟩ := g_gd h
    refine go_iald (pc := 45) (n := 3) rfl (g_inb_ok i2) dX9_open_45 ?_
    refine go_iload_n (pc := 46) dX9_open_46 rfl ?_
    obtain ⟨u3, c4, h⟩ := g_bd h
    refine go_callV (pc := 47) (as := [.inl (M 55 v1.toNatClampNeg), .inl (M 56 v1.toNatClampNeg), .inl v2]) (st := []) (r := u3.1) (M1 := u3.2) (z_X9_openHours hok  c4) cw_X9_openHours ml_X9_342 (show g_lay[41]? = some _ from rfl) rfl rfl (by decide) (Nat.le_of_ble_eq_true rfl) rfl dX9_open_47 ?_
    exact go_iret (pc := 50) (Option.some.inj h).symm rfl dX9_open_50 rfl
  · replace h := (if_neg e7).symm.trans h
    refine go_aload_n (pc := 25) dX9_open_25 rfl ?_
    refine go_iload_n (pc := 26) dX9_open_26 rfl ?_
    obtain ⟨u5, c6, h⟩ := g_bd h
    refine go_callV (pc := 27) (as := [.inl s0]) (st := []) (r := u5.1) (M1 := u5.2) (z_X9_no hok  c6) cw_X9_no ml_X9_124 (show g_lay[41]? = some _ from rfl) rfl rfl (by decide) (Nat.le_of_ble_eq_true rfl) rfl dX9_open_27 ?_
    refine go_goto (pc := 30) (tgt := 50) dX9_open_30 (by decide) ?_
    exact go_iret (pc := 50) (Option.some.inj h).symm rfl dX9_open_50 rfl
def x_X9_open  (p1 p2 : Int32) (M : g_M) : Option (Int32 × g_M) := (((x_X9_isRamp p1 M).bind fun u8 => if u8.1 = 0 then (x_X9_open_L20   p1 p2 (-1 : Int32) u8.2) else (((x_X9_bound p2 (0 : Int32) (999 : Int32) u8.2).bind fun u10 => x_X9_open_L20   p1 p2 u10.1 u10.2))))
set_option maxHeartbeats 4000000 in
set_option maxRecDepth 100000 in
theorem z_X9_open {X : g_X} (hok : g_ok X)  {p1 p2 : Int32} {M : g_M} {r : Int32 × g_M} (h : x_X9_open p1 p2 M = some r) : g_Con X yX9_open cX9_open 4 (some .int) 2 49 [.inr 41, .inl p1, .inl p2] M r := by
  rw [x_X9_open] at h
  refine g_con hok (plainFor_of_name (by decide +kernel)) (Nat.le_of_ble_eq_true rfl) (go_to (lv2 := [some (.inr 41), some (.inl p1), some (.inl p2), none]) (own := RX9) ?_ (And.intro rfl (And.intro rfl (And.intro rfl trivial))))
  refine go_aload_n (pc := 0) dX9_open_0 rfl ?_
  refine go_iload_n (pc := 1) dX9_open_1 rfl ?_
  obtain ⟨u8, c9, h⟩ := g_bd h
  refine go_callV (pc := 2) (as := [.inl p1]) (st := []) (r := u8.1) (M1 := u8.2) (z_X9_isRamp hok  c9) cw_X9_isRamp ml_X9_336 (show g_lay[41]? = some _ from rfl) rfl rfl (by decide) (Nat.le_of_ble_eq_true rfl) rfl dX9_open_2 ?_
  refine go_if_ne (pc := 5) (tgt := 12) dX9_open_5 (by decide) (fun e12 => ?_) (fun e12 => ?_)
  · replace h := (if_neg e12).symm.trans h
    refine go_iload_n (pc := 12) dX9_open_12 rfl ?_
    refine go_iconst (pc := 13) (v := (0 : Int32)) dX9_open_13 (by decide) ?_
    refine go_sipush (pc := 14) (v := (999 : Int32)) dX9_open_14 (by decide) ?_
    obtain ⟨u10, c11, h⟩ := g_bd h
    refine go_callS (pc := 17) (as := [.inl p2, .inl (0 : Int32), .inl (999 : Int32)]) (st := []) (r := u10.1) (M1 := u10.2) (z_X9_bound hok  c11) cw_X9_bound ml_X9_117 (by decide) (Nat.le_of_ble_eq_true rfl) rfl dX9_open_17 ?_
    exact go_to (z_X9_open_L20 hok   h) (And.intro rfl (And.intro rfl (And.intro rfl trivial)))
  · replace h := (if_pos e12).symm.trans h
    refine go_iconst (pc := 8) (v := (-1 : Int32)) dX9_open_8 (by decide) ?_
    refine go_goto (pc := 9) (tgt := 20) dX9_open_9 (by decide) ?_
    exact go_to (z_X9_open_L20 hok   h) (And.intro rfl (And.intro rfl (And.intro rfl trivial)))
def x_X9_bridge_L59   : Nat → Int32 → Int32 → Int32 → Int32 → g_M → Option (Int32 × g_M)
  | 0, _, _, _, _, _ => none
  | n + 1, v1, v2, v3, v5, M => (if (40 : Int32) < v5 then (some ((-9 : Int32), M)) else (((x_X9_openHours v1 v5 v2 M).bind fun u1 => ((x_X9_bits u1.1 u1.2).bind fun u3 => if u3.1 < v3 then (x_X9_bridge_L59   n v1 v2 v3 (v5 + (1 : Int32)) u3.2) else (some (v5, u3.2))))))
set_option maxHeartbeats 4000000 in
set_option maxRecDepth 100000 in
theorem z_X9_bridge_L59 {X : g_X} (hok : g_ok X)  {r : Int32 × g_M}  : ∀ (n : Nat) (v1 : Int32) (v2 : Int32) (v3 : Int32) (v5 : Int32) (M : g_M), x_X9_bridge_L59   n v1 v2 v3 v5 M = some r → g_Go X cX9_bridge RX9 6 (some .int) 2 49 r 59 [some (.inr 41), some (.inl v1), some (.inl v2), some (.inl v3), none, some (.inl v5)] [] M := by
  intro n
  induction n with
  | zero =>
    intro v1 v2 v3 v5 M h
    rw [x_X9_bridge_L59] at h
    cases h
  | succ n ih =>
    intro v1 v2 v3 v5 M h
    rw [x_X9_bridge_L59] at h
    refine go_iload (pc := 59) dX9_bridge_59 rfl ?_
    refine go_bipush (pc := 61) (v := (40 : Int32)) dX9_bridge_61 (by decide) ?_
    refine go_icmp_gt (pc := 63) (tgt := 90) dX9_bridge_63 (by decide) (fun e6 => ?_) (fun e6 => ?_)
    · replace h := (if_pos e6).symm.trans h
      refine go_bipush (pc := 90) (v := (-9 : Int32)) dX9_bridge_90 (by decide) ?_
      exact go_iret (pc := 92) (Option.some.inj h).symm rfl dX9_bridge_92 rfl
    · replace h := (if_neg e6).symm.trans h
      refine go_aload_n (pc := 66) dX9_bridge_66 rfl ?_
      refine go_iload_n (pc := 67) dX9_bridge_67 rfl ?_
      refine go_iload (pc := 68) dX9_bridge_68 rfl ?_
      refine go_iload_n (pc := 70) dX9_bridge_70 rfl ?_
      obtain ⟨u1, c2, h⟩ := g_bd h
      refine go_callV (pc := 71) (as := [.inl v1, .inl v5, .inl v2]) (st := []) (r := u1.1) (M1 := u1.2) (z_X9_openHours hok  c2) cw_X9_openHours ml_X9_342 (show g_lay[41]? = some _ from rfl) rfl rfl (by decide) (Nat.le_of_ble_eq_true rfl) rfl dX9_bridge_71 ?_
      obtain ⟨u3, c4, h⟩ := g_bd h
      refine go_callS (pc := 74) (as := [.inl u1.1]) (st := []) (r := u3.1) (M1 := u3.2) (z_X9_bits hok  c4) cw_X9_bits ml_X9_273 (by decide) (Nat.le_of_ble_eq_true rfl) rfl dX9_bridge_74 ?_
      refine go_iload_n (pc := 77) dX9_bridge_77 rfl ?_
      refine go_icmp_lt (pc := 78) (tgt := 84) dX9_bridge_78 (by decide) (fun e5 => ?_) (fun e5 => ?_)
      · replace h := (if_pos e5).symm.trans h
        refine go_iinc (pc := 84) (v := (1 : Int32)) (lv' := [some (.inr 41), some (.inl v1), some (.inl v2), some (.inl v3), none, some (.inl (v5 + (1 : Int32)))]) dX9_bridge_84 rfl (by decide) (by decide) rfl ?_
        refine go_goto (pc := 87) (tgt := 59) dX9_bridge_87 (by decide) ?_
        exact go_to (ih _ _ _ _ _ h) (And.intro rfl (And.intro rfl (And.intro rfl (And.intro rfl (And.intro rfl trivial)))))
      · replace h := (if_neg e5).symm.trans h
        refine go_iload (pc := 81) dX9_bridge_81 rfl ?_
        exact go_iret (pc := 83) (Option.some.inj h).symm rfl dX9_bridge_83 rfl
def x_X9_bridge_L42   (v1 : Int32) (v2 : Int32) (v3 : Int32) (s0 : Int32) (M : g_M) : Option (Int32 × g_M) := (if s0 = 0 then (x_X9_bridge_L59   g_F v1 v2 v3 (1 : Int32) M) else (((x_X9_no s0 M).bind fun u7 => some (u7.1, u7.2))))
set_option maxHeartbeats 4000000 in
set_option maxRecDepth 100000 in
theorem z_X9_bridge_L42 {X : g_X} (hok : g_ok X)  {r : Int32 × g_M}  {v1 : Int32} {v2 : Int32} {v3 : Int32} {s0 : Int32} {M : g_M} (h : x_X9_bridge_L42   v1 v2 v3 s0 M = some r) : g_Go X cX9_bridge RX9 6 (some .int) 2 49 r 42 [some (.inr 41), some (.inl v1), some (.inl v2), some (.inl v3), none, none] [.inl s0] M := by
  rw [x_X9_bridge_L42] at h
  refine go_istore (pc := 42) (lv' := [some (.inr 41), some (.inl v1), some (.inl v2), some (.inl v3), some (.inl s0), none]) dX9_bridge_42 (by decide) rfl ?_
  refine go_iload (pc := 44) dX9_bridge_44 rfl ?_
  refine go_if_eq (pc := 46) (tgt := 56) dX9_bridge_46 (by decide) (fun e9 => ?_) (fun e9 => ?_)
  · replace h := (if_pos e9).symm.trans h
    refine go_iconst (pc := 56) (v := (1 : Int32)) dX9_bridge_56 (by decide) ?_
    refine go_istore (pc := 57) (lv' := [some (.inr 41), some (.inl v1), some (.inl v2), some (.inl v3), some (.inl s0), some (.inl (1 : Int32))]) dX9_bridge_57 (by decide) rfl ?_
    exact go_to (z_X9_bridge_L59 hok   g_F _ _ _ _ _ h) (And.intro rfl (And.intro rfl (And.intro rfl (And.intro rfl (And.intro rfl trivial)))))
  · replace h := (if_neg e9).symm.trans h
    refine go_aload_n (pc := 49) dX9_bridge_49 rfl ?_
    refine go_iload (pc := 50) dX9_bridge_50 rfl ?_
    obtain ⟨u7, c8, h⟩ := g_bd h
    refine go_callV (pc := 52) (as := [.inl s0]) (st := []) (r := u7.1) (M1 := u7.2) (z_X9_no hok  c8) cw_X9_no ml_X9_124 (show g_lay[41]? = some _ from rfl) rfl rfl (by decide) (Nat.le_of_ble_eq_true rfl) rfl dX9_bridge_52 ?_
    exact go_iret (pc := 55) (Option.some.inj h).symm rfl dX9_bridge_55 rfl
def x_X9_bridge  (p1 p2 p3 : Int32) (M : g_M) : Option (Int32 × g_M) := (if p1 < 0 then (x_X9_bridge_L42   p1 p2 p3 (-4 : Int32) M) else (if p2 < 0 then (x_X9_bridge_L42   p1 p2 p3 (-4 : Int32) M) else (if 0 ≤ p3 then (if (60 : Int32) < p1 then (x_X9_bridge_L42   p1 p2 p3 (-6 : Int32) M) else (if (999 : Int32) < p2 then (x_X9_bridge_L42   p1 p2 p3 (-6 : Int32) M) else (if p3 ≤ (12 : Int32) then (x_X9_bridge_L42   p1 p2 p3 (0 : Int32) M) else (x_X9_bridge_L42   p1 p2 p3 (-6 : Int32) M)))) else (x_X9_bridge_L42   p1 p2 p3 (-4 : Int32) M))))
set_option maxHeartbeats 4000000 in
set_option maxRecDepth 100000 in
theorem z_X9_bridge {X : g_X} (hok : g_ok X)  {p1 p2 p3 : Int32} {M : g_M} {r : Int32 × g_M} (h : x_X9_bridge p1 p2 p3 M = some r) : g_Con X yX9_bridge cX9_bridge 6 (some .int) 2 49 [.inr 41, .inl p1, .inl p2, .inl p3] M r := by
  rw [x_X9_bridge] at h
  refine g_con hok (plainFor_of_name (by decide +kernel)) (Nat.le_of_ble_eq_true rfl) (go_to (lv2 := [some (.inr 41), some (.inl p1), some (.inl p2), some (.inl p3), none, none]) (own := RX9) ?_ (And.intro rfl (And.intro rfl (And.intro rfl (And.intro rfl trivial)))))
  refine go_iload_n (pc := 0) dX9_bridge_0 rfl ?_
  refine go_if_lt (pc := 1) (tgt := 12) dX9_bridge_1 (by decide) (fun e15 => ?_) (fun e15 => ?_)
  · replace h := (if_pos e15).symm.trans h
    refine go_bipush (pc := 12) (v := (-4 : Int32)) dX9_bridge_12 (by decide) ?_
    refine go_goto (pc := 14) (tgt := 42) dX9_bridge_14 (by decide) ?_
    exact go_to (z_X9_bridge_L42 hok   h) (And.intro rfl (And.intro rfl (And.intro rfl (And.intro rfl trivial))))
  · replace h := (if_neg e15).symm.trans h
    refine go_iload_n (pc := 4) dX9_bridge_4 rfl ?_
    refine go_if_lt (pc := 5) (tgt := 12) dX9_bridge_5 (by decide) (fun e14 => ?_) (fun e14 => ?_)
    · replace h := (if_pos e14).symm.trans h
      refine go_bipush (pc := 12) (v := (-4 : Int32)) dX9_bridge_12 (by decide) ?_
      refine go_goto (pc := 14) (tgt := 42) dX9_bridge_14 (by decide) ?_
      exact go_to (z_X9_bridge_L42 hok   h) (And.intro rfl (And.intro rfl (And.intro rfl (And.intro rfl trivial))))
    · replace h := (if_neg e14).symm.trans h
      refine go_iload_n (pc := 8) dX9_bridge_8 rfl ?_
      refine go_if_ge (pc := 9) (tgt := 17) dX9_bridge_9 (by decide) (fun e13 => ?_) (fun e13 => ?_)
      · replace h := (if_pos e13).symm.trans h
        refine go_iload_n (pc := 17) dX9_bridge_17 rfl ?_
        refine go_bipush (pc := 18) (v := (60 : Int32)) dX9_bridge_18 (by decide) ?_
        refine go_icmp_gt (pc := 20) (tgt := 36) dX9_bridge_20 (by decide) (fun e12 => ?_) (fun e12 => ?_)
        · replace h := (if_pos e12).symm.trans h
          refine go_bipush (pc := 36) (v := (-6 : Int32)) dX9_bridge_36 (by decide) ?_
          refine go_goto (pc := 38) (tgt := 42) dX9_bridge_38 (by decide) ?_
          exact go_to (z_X9_bridge_L42 hok   h) (And.intro rfl (And.intro rfl (And.intro rfl (And.intro rfl trivial))))
        · replace h := (if_neg e12).symm.trans h
          refine go_iload_n (pc := 23) dX9_bridge_23 rfl ?_
          refine go_sipush (pc := 24) (v := (999 : Int32)) dX9_bridge_24 (by decide) ?_
          refine go_icmp_gt (pc := 27) (tgt := 36) dX9_bridge_27 (by decide) (fun e11 => ?_) (fun e11 => ?_)
          · replace h := (if_pos e11).symm.trans h
            refine go_bipush (pc := 36) (v := (-6 : Int32)) dX9_bridge_36 (by decide) ?_
            refine go_goto (pc := 38) (tgt := 42) dX9_bridge_38 (by decide) ?_
            exact go_to (z_X9_bridge_L42 hok   h) (And.intro rfl (And.intro rfl (And.intro rfl (And.intro rfl trivial))))
          · replace h := (if_neg e11).symm.trans h
            refine go_iload_n (pc := 30) dX9_bridge_30 rfl ?_
            refine go_bipush (pc := 31) (v := (12 : Int32)) dX9_bridge_31 (by decide) ?_
            refine go_icmp_le (pc := 33) (tgt := 41) dX9_bridge_33 (by decide) (fun e10 => ?_) (fun e10 => ?_)
            · replace h := (if_pos e10).symm.trans h
              refine go_iconst (pc := 41) (v := (0 : Int32)) dX9_bridge_41 (by decide) ?_
              exact go_to (z_X9_bridge_L42 hok   h) (And.intro rfl (And.intro rfl (And.intro rfl (And.intro rfl trivial))))
            · replace h := (if_neg e10).symm.trans h
              refine go_bipush (pc := 36) (v := (-6 : Int32)) dX9_bridge_36 (by decide) ?_
              refine go_goto (pc := 38) (tgt := 42) dX9_bridge_38 (by decide) ?_
              exact go_to (z_X9_bridge_L42 hok   h) (And.intro rfl (And.intro rfl (And.intro rfl (And.intro rfl trivial))))
      · replace h := (if_neg e13).symm.trans h
        refine go_bipush (pc := 12) (v := (-4 : Int32)) dX9_bridge_12 (by decide) ?_
        refine go_goto (pc := 14) (tgt := 42) dX9_bridge_14 (by decide) ?_
        exact go_to (z_X9_bridge_L42 hok   h) (And.intro rfl (And.intro rfl (And.intro rfl (And.intro rfl trivial))))
def x_X9_waitsAt_L2   : Nat → Int32 → Int32 → Int32 → g_M → Option (Int32 × g_M)
  | 0, _, _, _, _ => none
  | n + 1, v1, v2, v3, M => (if (12 : Int32) ≤ v3 then (some ((-9 : Int32), M)) else ((if g_inb ((v2 + v3) - (v2 + v3) / (12 : Int32) * (12 : Int32)) 12 = true then (if (M 43 ((v2 + v3) - (v2 + v3) / (12 : Int32) * (12 : Int32)).toNatClampNeg) < v1 then (x_X9_waitsAt_L2   n v1 v2 (v3 + (1 : Int32)) M) else (some (v3, M))) else none)))
set_option maxHeartbeats 4000000 in
set_option maxRecDepth 100000 in
theorem z_X9_waitsAt_L2 {X : g_X} (hok : g_ok X)  {r : Int32 × g_M}  : ∀ (n : Nat) (v1 : Int32) (v2 : Int32) (v3 : Int32) (M : g_M), x_X9_waitsAt_L2   n v1 v2 v3 M = some r → g_Go X cX9_waitsAt RX9 4 (some .int) 0 0 r 2 [some (.inr 41), some (.inl v1), some (.inl v2), some (.inl v3)] [] M := by
  intro n
  induction n with
  | zero =>
    intro v1 v2 v3 M h
    rw [x_X9_waitsAt_L2] at h
    cases h
  | succ n ih =>
    intro v1 v2 v3 M h
    rw [x_X9_waitsAt_L2] at h
    refine go_iload_n (pc := 2) dX9_waitsAt_2 rfl ?_
    refine go_bipush (pc := 3) (v := (12 : Int32)) dX9_waitsAt_3 (by decide) ?_
    refine go_icmp_ge (pc := 5) (tgt := 31) dX9_waitsAt_5 (by decide) (fun e3 => ?_) (fun e3 => ?_)
    · replace h := (if_pos e3).symm.trans h
      refine go_bipush (pc := 31) (v := (-9 : Int32)) dX9_waitsAt_31 (by decide) ?_
      exact go_iret (pc := 33) (Option.some.inj h).symm rfl dX9_waitsAt_33 rfl
    · replace h := (if_neg e3).symm.trans h
      refine go_aload_n (pc := 8) dX9_waitsAt_8 rfl ?_
      refine gf_9_13 (pc := 9) dX9_waitsAt_9 ?_
      refine go_iload_n (pc := 12) dX9_waitsAt_12 rfl ?_
      refine go_iload_n (pc := 13) dX9_waitsAt_13 rfl ?_
      refine go_iadd (pc := 14) dX9_waitsAt_14 ?_
      refine go_bipush (pc := 15) (v := (12 : Int32)) dX9_waitsAt_15 (by decide) ?_
      refine go_irem (pc := 17) dX9_waitsAt_17 (by decide) ?_
      obtain ⟨i1, h⟩ := g_gd h
      refine go_iald (pc := 18) (n := 12) rfl (g_inb_ok i1) dX9_waitsAt_18 ?_
      refine go_iload_n (pc := 19) dX9_waitsAt_19 rfl ?_
      refine go_icmp_lt (pc := 20) (tgt := 25) dX9_waitsAt_20 (by decide) (fun e2 => ?_) (fun e2 => ?_)
      · replace h := (if_pos e2).symm.trans h
        refine go_iinc (pc := 25) (v := (1 : Int32)) (lv' := [some (.inr 41), some (.inl v1), some (.inl v2), some (.inl (v3 + (1 : Int32)))]) dX9_waitsAt_25 rfl (by decide) (by decide) rfl ?_
        refine go_goto (pc := 28) (tgt := 2) dX9_waitsAt_28 (by decide) ?_
        exact go_to (ih _ _ _ _ h) (And.intro rfl (And.intro rfl (And.intro rfl (And.intro rfl trivial))))
      · replace h := (if_neg e2).symm.trans h
        refine go_iload_n (pc := 23) dX9_waitsAt_23 rfl ?_
        exact go_iret (pc := 24) (Option.some.inj h).symm rfl dX9_waitsAt_24 rfl
def x_X9_waitsAt  (p1 p2 : Int32) (M : g_M) : Option (Int32 × g_M) := (x_X9_waitsAt_L2   g_F p1 p2 (0 : Int32) M)
set_option maxHeartbeats 4000000 in
set_option maxRecDepth 100000 in
theorem z_X9_waitsAt {X : g_X} (hok : g_ok X)  {p1 p2 : Int32} {M : g_M} {r : Int32 × g_M} (h : x_X9_waitsAt p1 p2 M = some r) : g_Con X yX9_waitsAt cX9_waitsAt 4 (some .int) 0 0 [.inr 41, .inl p1, .inl p2] M r := by
  rw [x_X9_waitsAt] at h
  refine g_con hok (plainFor_of_name (by decide +kernel)) (Nat.le_of_ble_eq_true rfl) (go_to (lv2 := [some (.inr 41), some (.inl p1), some (.inl p2), none]) (own := RX9) ?_ (And.intro rfl (And.intro rfl (And.intro rfl trivial))))
  refine go_iconst (pc := 0) (v := (0 : Int32)) dX9_waitsAt_0 (by decide) ?_
  refine go_istore_n (pc := 1) (lv' := [some (.inr 41), some (.inl p1), some (.inl p2), some (.inl (0 : Int32))]) dX9_waitsAt_1 (by decide) rfl ?_
  exact go_to (z_X9_waitsAt_L2 hok   g_F _ _ _ _ h) (And.intro rfl (And.intro rfl (And.intro rfl (And.intro rfl trivial))))
def x_X9_notGate  (p0 p1 : Int32) (M : g_M) : Option (Int32 × g_M) := (if p0 < 0 then (some ((-4 : Int32), M)) else (if 0 ≤ p1 then (if (40 : Int32) < p0 then (some ((-6 : Int32), M)) else (if p1 ≤ (9 : Int32) then (some ((0 : Int32), M)) else (some ((-6 : Int32), M)))) else (some ((-4 : Int32), M))))
set_option maxHeartbeats 4000000 in
set_option maxRecDepth 100000 in
theorem z_X9_notGate {X : g_X} (hok : g_ok X)  {p0 p1 : Int32} {M : g_M} {r : Int32 × g_M} (h : x_X9_notGate p0 p1 M = some r) : g_Con X yX9_notGate cX9_notGate 2 (some .int) 0 0 [.inl p0, .inl p1] M r := by
  rw [x_X9_notGate] at h
  refine g_con hok (plainFor_of_name (by decide +kernel)) (Nat.le_of_ble_eq_true rfl) (go_to (lv2 := [some (.inl p0), some (.inl p1)]) (own := RX9) ?_ (And.intro rfl (And.intro rfl trivial)))
  refine go_iload_n (pc := 0) dX9_notGate_0 rfl ?_
  refine go_if_lt (pc := 1) (tgt := 8) dX9_notGate_1 (by decide) (fun e4 => ?_) (fun e4 => ?_)
  · replace h := (if_pos e4).symm.trans h
    refine go_bipush (pc := 8) (v := (-4 : Int32)) dX9_notGate_8 (by decide) ?_
    refine go_goto (pc := 10) (tgt := 31) dX9_notGate_10 (by decide) ?_
    exact go_iret (pc := 31) (Option.some.inj h).symm rfl dX9_notGate_31 rfl
  · replace h := (if_neg e4).symm.trans h
    refine go_iload_n (pc := 4) dX9_notGate_4 rfl ?_
    refine go_if_ge (pc := 5) (tgt := 13) dX9_notGate_5 (by decide) (fun e3 => ?_) (fun e3 => ?_)
    · replace h := (if_pos e3).symm.trans h
      refine go_iload_n (pc := 13) dX9_notGate_13 rfl ?_
      refine go_bipush (pc := 14) (v := (40 : Int32)) dX9_notGate_14 (by decide) ?_
      refine go_icmp_gt (pc := 16) (tgt := 25) dX9_notGate_16 (by decide) (fun e2 => ?_) (fun e2 => ?_)
      · replace h := (if_pos e2).symm.trans h
        refine go_bipush (pc := 25) (v := (-6 : Int32)) dX9_notGate_25 (by decide) ?_
        refine go_goto (pc := 27) (tgt := 31) dX9_notGate_27 (by decide) ?_
        exact go_iret (pc := 31) (Option.some.inj h).symm rfl dX9_notGate_31 rfl
      · replace h := (if_neg e2).symm.trans h
        refine go_iload_n (pc := 19) dX9_notGate_19 rfl ?_
        refine go_bipush (pc := 20) (v := (9 : Int32)) dX9_notGate_20 (by decide) ?_
        refine go_icmp_le (pc := 22) (tgt := 30) dX9_notGate_22 (by decide) (fun e1 => ?_) (fun e1 => ?_)
        · replace h := (if_pos e1).symm.trans h
          refine go_iconst (pc := 30) (v := (0 : Int32)) dX9_notGate_30 (by decide) ?_
          exact go_iret (pc := 31) (Option.some.inj h).symm rfl dX9_notGate_31 rfl
        · replace h := (if_neg e1).symm.trans h
          refine go_bipush (pc := 25) (v := (-6 : Int32)) dX9_notGate_25 (by decide) ?_
          refine go_goto (pc := 27) (tgt := 31) dX9_notGate_27 (by decide) ?_
          exact go_iret (pc := 31) (Option.some.inj h).symm rfl dX9_notGate_31 rfl
    · replace h := (if_neg e3).symm.trans h
      refine go_bipush (pc := 8) (v := (-4 : Int32)) dX9_notGate_8 (by decide) ?_
      refine go_goto (pc := 10) (tgt := 31) dX9_notGate_10 (by decide) ?_
      exact go_iret (pc := 31) (Option.some.inj h).symm rfl dX9_notGate_31 rfl
def x_X9_passes__L22   (v1 : Int32) (v2 : Int32) (v3 : Int32) (v4 : Int32) (M : g_M) : Option (Int32 × g_M) := (if v4 = 0 then (((x_X9_waitsAt (v1 + v2) v3 M).bind fun u1 => if 0 ≤ u1.1 then (some (((v3 + u1.1) - (v3 + u1.1) / (12 : Int32) * (12 : Int32)), u1.2)) else (some ((-9 : Int32), u1.2)))) else (((x_X9_no v4 M).bind fun u4 => some (u4.1, u4.2))))
set_option maxHeartbeats 4000000 in
set_option maxRecDepth 100000 in
theorem z_X9_passes__L22 {X : g_X} (hok : g_ok X)  {r : Int32 × g_M}  {v1 : Int32} {v2 : Int32} {v3 : Int32} {v4 : Int32} {M : g_M} (h : x_X9_passes__L22   v1 v2 v3 v4 M = some r) : g_Go X cX9_passes_ RX9 6 (some .int) 1 23 r 22 [some (.inr 41), some (.inl v1), some (.inl v2), some (.inl v3), some (.inl v4), none] [] M := by
  rw [x_X9_passes__L22] at h
  refine go_iload (pc := 22) dX9_passes__22 rfl ?_
  refine go_if_eq (pc := 24) (tgt := 34) dX9_passes__24 (by decide) (fun e6 => ?_) (fun e6 => ?_)
  · replace h := (if_pos e6).symm.trans h
    refine go_aload_n (pc := 34) dX9_passes__34 rfl ?_
    refine go_iload_n (pc := 35) dX9_passes__35 rfl ?_
    refine go_iload_n (pc := 36) dX9_passes__36 rfl ?_
    refine go_iadd (pc := 37) dX9_passes__37 ?_
    refine go_iload_n (pc := 38) dX9_passes__38 rfl ?_
    obtain ⟨u1, c2, h⟩ := g_bd h
    refine go_callV (pc := 39) (as := [.inl (v1 + v2), .inl v3]) (st := []) (r := u1.1) (M1 := u1.2) (z_X9_waitsAt hok  c2) cw_X9_waitsAt ml_X9_348 (show g_lay[41]? = some _ from rfl) rfl rfl (by decide) (Nat.le_of_ble_eq_true rfl) rfl dX9_passes__39 ?_
    refine go_istore (pc := 42) (lv' := [some (.inr 41), some (.inl v1), some (.inl v2), some (.inl v3), some (.inl v4), some (.inl u1.1)]) dX9_passes__42 (by decide) rfl ?_
    refine go_iload (pc := 44) dX9_passes__44 rfl ?_
    refine go_if_ge (pc := 46) (tgt := 54) dX9_passes__46 (by decide) (fun e3 => ?_) (fun e3 => ?_)
    · replace h := (if_pos e3).symm.trans h
      refine go_iload_n (pc := 54) dX9_passes__54 rfl ?_
      refine go_iload (pc := 55) dX9_passes__55 rfl ?_
      refine go_iadd (pc := 57) dX9_passes__57 ?_
      refine go_bipush (pc := 58) (v := (12 : Int32)) dX9_passes__58 (by decide) ?_
      refine go_irem (pc := 60) dX9_passes__60 (by decide) ?_
      exact go_iret (pc := 61) (Option.some.inj h).symm rfl dX9_passes__61 rfl
    · replace h := (if_neg e3).symm.trans h
      refine go_bipush (pc := 49) (v := (-9 : Int32)) dX9_passes__49 (by decide) ?_
      refine go_goto (pc := 51) (tgt := 61) dX9_passes__51 (by decide) ?_
      exact go_iret (pc := 61) (Option.some.inj h).symm rfl dX9_passes__61 rfl
  · replace h := (if_neg e6).symm.trans h
    refine go_aload_n (pc := 27) dX9_passes__27 rfl ?_
    refine go_iload (pc := 28) dX9_passes__28 rfl ?_
    obtain ⟨u4, c5, h⟩ := g_bd h
    refine go_callV (pc := 30) (as := [.inl v4]) (st := []) (r := u4.1) (M1 := u4.2) (z_X9_no hok  c5) cw_X9_no ml_X9_124 (show g_lay[41]? = some _ from rfl) rfl rfl (by decide) (Nat.le_of_ble_eq_true rfl) rfl dX9_passes__30 ?_
    exact go_iret (pc := 33) (Option.some.inj h).symm rfl dX9_passes__33 rfl
def x_X9_passes_  (p1 p2 p3 : Int32) (M : g_M) : Option (Int32 × g_M) := (((x_X9_notGate p1 p2 M).bind fun u7 => if u7.1 = 0 then (((x_X9_isHour p3 u7.2).bind fun u9 => if u9.1 = 0 then (x_X9_passes__L22   p1 p2 p3 (-1 : Int32) u9.2) else (x_X9_passes__L22   p1 p2 p3 u7.1 u9.2))) else (x_X9_passes__L22   p1 p2 p3 u7.1 u7.2)))
set_option maxHeartbeats 4000000 in
set_option maxRecDepth 100000 in
theorem z_X9_passes_ {X : g_X} (hok : g_ok X)  {p1 p2 p3 : Int32} {M : g_M} {r : Int32 × g_M} (h : x_X9_passes_ p1 p2 p3 M = some r) : g_Con X yX9_passes_ cX9_passes_ 6 (some .int) 1 23 [.inr 41, .inl p1, .inl p2, .inl p3] M r := by
  rw [x_X9_passes_] at h
  refine g_con hok (plainFor_of_name (by decide +kernel)) (Nat.le_of_ble_eq_true rfl) (go_to (lv2 := [some (.inr 41), some (.inl p1), some (.inl p2), some (.inl p3), none, none]) (own := RX9) ?_ (And.intro rfl (And.intro rfl (And.intro rfl (And.intro rfl trivial)))))
  refine go_iload_n (pc := 0) dX9_passes__0 rfl ?_
  refine go_iload_n (pc := 1) dX9_passes__1 rfl ?_
  obtain ⟨u7, c8, h⟩ := g_bd h
  refine go_callS (pc := 2) (as := [.inl p1, .inl p2]) (st := []) (r := u7.1) (M1 := u7.2) (z_X9_notGate hok  c8) cw_X9_notGate ml_X9_345 (by decide) (Nat.le_of_ble_eq_true rfl) rfl dX9_passes__2 ?_
  refine go_istore (pc := 5) (lv' := [some (.inr 41), some (.inl p1), some (.inl p2), some (.inl p3), some (.inl u7.1), none]) dX9_passes__5 (by decide) rfl ?_
  refine go_iload (pc := 7) dX9_passes__7 rfl ?_
  refine go_if_ne (pc := 9) (tgt := 22) dX9_passes__9 (by decide) (fun e12 => ?_) (fun e12 => ?_)
  · replace h := (if_neg e12).symm.trans h
    exact go_to (z_X9_passes__L22 hok   h) (And.intro rfl (And.intro rfl (And.intro rfl (And.intro rfl (And.intro rfl trivial)))))
  · replace h := (if_pos e12).symm.trans h
    refine go_iload_n (pc := 12) dX9_passes__12 rfl ?_
    obtain ⟨u9, c10, h⟩ := g_bd h
    refine go_callS (pc := 13) (as := [.inl p3]) (st := []) (r := u9.1) (M1 := u9.2) (z_X9_isHour hok  c10) cw_X9_isHour ml_X9_159 (by decide) (Nat.le_of_ble_eq_true rfl) rfl dX9_passes__13 ?_
    refine go_if_ne (pc := 16) (tgt := 22) dX9_passes__16 (by decide) (fun e11 => ?_) (fun e11 => ?_)
    · replace h := (if_neg e11).symm.trans h
      exact go_to (z_X9_passes__L22 hok   h) (And.intro rfl (And.intro rfl (And.intro rfl (And.intro rfl (And.intro rfl trivial)))))
    · replace h := (if_pos e11).symm.trans h
      refine go_iconst (pc := 19) (v := (-1 : Int32)) dX9_passes__19 (by decide) ?_
      refine go_istore (pc := 20) (lv' := [some (.inr 41), some (.inl p1), some (.inl p2), some (.inl p3), some (.inl (-1 : Int32)), none]) dX9_passes__20 (by decide) rfl ?_
      exact go_to (z_X9_passes__L22 hok   h) (And.intro rfl (And.intro rfl (And.intro rfl (And.intro rfl (And.intro rfl trivial)))))
def x_X9_waited_L64   : Nat → Int32 → Int32 → Int32 → Int32 → g_M → Option (Int32 × g_M)
  | 0, _, _, _, _, _ => none
  | n + 1, v1, v2, v4, v5, M => (if (M 41 37) ≤ v5 then (some (v4, M)) else ((if g_inb v5 12 = true then (((x_X9_waitsAt (v1 + v2) (M 64 v5.toNatClampNeg) M).bind fun u2 => if 0 ≤ u2.1 then (x_X9_waited_L64   n v1 v2 (v4 + u2.1) (v5 + (1 : Int32)) u2.2) else (some ((-9 : Int32), u2.2)))) else none)))
set_option maxHeartbeats 4000000 in
set_option maxRecDepth 100000 in
theorem z_X9_waited_L64 {X : g_X} (hok : g_ok X)  {r : Int32 × g_M}  : ∀ (n : Nat) (v1 : Int32) (v2 : Int32) (v4 : Int32) (v5 : Int32) (M : g_M), x_X9_waited_L64   n v1 v2 v4 v5 M = some r → g_Go X cX9_waited RX9 7 (some .int) 1 23 r 64 [some (.inr 41), some (.inl v1), some (.inl v2), none, some (.inl v4), some (.inl v5), none] [] M := by
  intro n
  induction n with
  | zero =>
    intro v1 v2 v4 v5 M h
    rw [x_X9_waited_L64] at h
    cases h
  | succ n ih =>
    intro v1 v2 v4 v5 M h
    rw [x_X9_waited_L64] at h
    refine go_iload (pc := 64) dX9_waited_64 rfl ?_
    refine go_aload_n (pc := 66) dX9_waited_66 rfl ?_
    refine gf_9_291 (pc := 67) dX9_waited_67 ?_
    refine go_icmp_ge (pc := 70) (tgt := 110) dX9_waited_70 (by decide) (fun e5 => ?_) (fun e5 => ?_)
    · replace h := (if_pos e5).symm.trans h
      refine go_iload (pc := 110) dX9_waited_110 rfl ?_
      exact go_iret (pc := 112) (Option.some.inj h).symm rfl dX9_waited_112 rfl
    · replace h := (if_neg e5).symm.trans h
      refine go_aload_n (pc := 73) dX9_waited_73 rfl ?_
      refine go_iload_n (pc := 74) dX9_waited_74 rfl ?_
      refine go_iload_n (pc := 75) dX9_waited_75 rfl ?_
      refine go_iadd (pc := 76) dX9_waited_76 ?_
      refine go_aload_n (pc := 77) dX9_waited_77 rfl ?_
      refine gf_9_76 (pc := 78) dX9_waited_78 ?_
      refine go_iload (pc := 81) dX9_waited_81 rfl ?_
      obtain ⟨i1, h⟩ := g_gd h
      refine go_iald (pc := 83) (n := 12) rfl (g_inb_ok i1) dX9_waited_83 ?_
      obtain ⟨u2, c3, h⟩ := g_bd h
      refine go_callV (pc := 84) (as := [.inl (v1 + v2), .inl (M 64 v5.toNatClampNeg)]) (st := []) (r := u2.1) (M1 := u2.2) (z_X9_waitsAt hok  c3) cw_X9_waitsAt ml_X9_348 (show g_lay[41]? = some _ from rfl) rfl rfl (by decide) (Nat.le_of_ble_eq_true rfl) rfl dX9_waited_84 ?_
      refine go_istore (pc := 87) (lv' := [some (.inr 41), some (.inl v1), some (.inl v2), none, some (.inl v4), some (.inl v5), some (.inl u2.1)]) dX9_waited_87 (by decide) rfl ?_
      refine go_iload (pc := 89) dX9_waited_89 rfl ?_
      refine go_if_ge (pc := 91) (tgt := 97) dX9_waited_91 (by decide) (fun e4 => ?_) (fun e4 => ?_)
      · replace h := (if_pos e4).symm.trans h
        refine go_iload (pc := 97) dX9_waited_97 rfl ?_
        refine go_iload (pc := 99) dX9_waited_99 rfl ?_
        refine go_iadd (pc := 101) dX9_waited_101 ?_
        refine go_istore (pc := 102) (lv' := [some (.inr 41), some (.inl v1), some (.inl v2), none, some (.inl (v4 + u2.1)), some (.inl v5), some (.inl u2.1)]) dX9_waited_102 (by decide) rfl ?_
        refine go_iinc (pc := 104) (v := (1 : Int32)) (lv' := [some (.inr 41), some (.inl v1), some (.inl v2), none, some (.inl (v4 + u2.1)), some (.inl (v5 + (1 : Int32))), some (.inl u2.1)]) dX9_waited_104 rfl (by decide) (by decide) rfl ?_
        refine go_goto (pc := 107) (tgt := 64) dX9_waited_107 (by decide) ?_
        exact go_to (ih _ _ _ _ _ h) (And.intro rfl (And.intro rfl (And.intro rfl (And.intro rfl (And.intro rfl trivial)))))
      · replace h := (if_neg e4).symm.trans h
        refine go_bipush (pc := 94) (v := (-9 : Int32)) dX9_waited_94 (by decide) ?_
        exact go_iret (pc := 96) (Option.some.inj h).symm rfl dX9_waited_96 rfl
def x_X9_waited_L48   (v1 : Int32) (v2 : Int32) (v3 : Int32) (M : g_M) : Option (Int32 × g_M) := (if v3 = 0 then (x_X9_waited_L64   g_F v1 v2 (0 : Int32) (0 : Int32) M) else (((x_X9_no v3 M).bind fun u6 => some (u6.1, u6.2))))
set_option maxHeartbeats 4000000 in
set_option maxRecDepth 100000 in
theorem z_X9_waited_L48 {X : g_X} (hok : g_ok X)  {r : Int32 × g_M}  {v1 : Int32} {v2 : Int32} {v3 : Int32} {M : g_M} (h : x_X9_waited_L48   v1 v2 v3 M = some r) : g_Go X cX9_waited RX9 7 (some .int) 1 23 r 48 [some (.inr 41), some (.inl v1), some (.inl v2), some (.inl v3), none, none, none] [] M := by
  rw [x_X9_waited_L48] at h
  refine go_iload_n (pc := 48) dX9_waited_48 rfl ?_
  refine go_if_eq (pc := 49) (tgt := 58) dX9_waited_49 (by decide) (fun e8 => ?_) (fun e8 => ?_)
  · replace h := (if_pos e8).symm.trans h
    refine go_iconst (pc := 58) (v := (0 : Int32)) dX9_waited_58 (by decide) ?_
    refine go_istore (pc := 59) (lv' := [some (.inr 41), some (.inl v1), some (.inl v2), some (.inl v3), some (.inl (0 : Int32)), none, none]) dX9_waited_59 (by decide) rfl ?_
    refine go_iconst (pc := 61) (v := (0 : Int32)) dX9_waited_61 (by decide) ?_
    refine go_istore (pc := 62) (lv' := [some (.inr 41), some (.inl v1), some (.inl v2), some (.inl v3), some (.inl (0 : Int32)), some (.inl (0 : Int32)), none]) dX9_waited_62 (by decide) rfl ?_
    exact go_to (z_X9_waited_L64 hok   g_F _ _ _ _ _ h) (And.intro rfl (And.intro rfl (And.intro rfl (And.intro rfl (And.intro rfl trivial)))))
  · replace h := (if_neg e8).symm.trans h
    refine go_aload_n (pc := 52) dX9_waited_52 rfl ?_
    refine go_iload_n (pc := 53) dX9_waited_53 rfl ?_
    obtain ⟨u6, c7, h⟩ := g_bd h
    refine go_callV (pc := 54) (as := [.inl v3]) (st := []) (r := u6.1) (M1 := u6.2) (z_X9_no hok  c7) cw_X9_no ml_X9_124 (show g_lay[41]? = some _ from rfl) rfl rfl (by decide) (Nat.le_of_ble_eq_true rfl) rfl dX9_waited_54 ?_
    exact go_iret (pc := 57) (Option.some.inj h).symm rfl dX9_waited_57 rfl
def x_X9_waited_L9   : Nat → Int32 → Int32 → Int32 → Int32 → g_M → Option (Int32 × g_M)
  | 0, _, _, _, _, _ => none
  | n + 1, v1, v2, v3, v4, M => (if (M 41 37) ≤ v4 then (x_X9_waited_L48   v1 v2 v3 M) else (if v3 = 0 then ((if g_inb v4 12 = true then (((x_X9_isHour (M 64 v4.toNatClampNeg) M).bind fun u10 => if u10.1 = 0 then (x_X9_waited_L9   n v1 v2 (-3 : Int32) (v4 + (1 : Int32)) u10.2) else (x_X9_waited_L9   n v1 v2 (0 : Int32) (v4 + (1 : Int32)) u10.2))) else none)) else (x_X9_waited_L48   v1 v2 v3 M)))
set_option maxHeartbeats 4000000 in
set_option maxRecDepth 100000 in
theorem z_X9_waited_L9 {X : g_X} (hok : g_ok X)  {r : Int32 × g_M}  : ∀ (n : Nat) (v1 : Int32) (v2 : Int32) (v3 : Int32) (v4 : Int32) (M : g_M), x_X9_waited_L9   n v1 v2 v3 v4 M = some r → g_Go X cX9_waited RX9 7 (some .int) 1 23 r 9 [some (.inr 41), some (.inl v1), some (.inl v2), some (.inl v3), some (.inl v4), none, none] [] M := by
  intro n
  induction n with
  | zero =>
    intro v1 v2 v3 v4 M h
    rw [x_X9_waited_L9] at h
    cases h
  | succ n ih =>
    intro v1 v2 v3 v4 M h
    rw [x_X9_waited_L9] at h
    refine go_iload (pc := 9) dX9_waited_9 rfl ?_
    refine go_aload_n (pc := 11) dX9_waited_11 rfl ?_
    refine gf_9_291 (pc := 12) dX9_waited_12 ?_
    refine go_icmp_ge (pc := 15) (tgt := 48) dX9_waited_15 (by decide) (fun e14 => ?_) (fun e14 => ?_)
    · replace h := (if_pos e14).symm.trans h
      exact go_to (z_X9_waited_L48 hok   h) (And.intro rfl (And.intro rfl (And.intro rfl (And.intro rfl trivial))))
    · replace h := (if_neg e14).symm.trans h
      refine go_iload_n (pc := 18) dX9_waited_18 rfl ?_
      refine go_if_ne (pc := 19) (tgt := 48) dX9_waited_19 (by decide) (fun e13 => ?_) (fun e13 => ?_)
      · replace h := (if_neg e13).symm.trans h
        exact go_to (z_X9_waited_L48 hok   h) (And.intro rfl (And.intro rfl (And.intro rfl (And.intro rfl trivial))))
      · replace h := (if_pos e13).symm.trans h
        refine go_aload_n (pc := 22) dX9_waited_22 rfl ?_
        refine gf_9_76 (pc := 23) dX9_waited_23 ?_
        refine go_iload (pc := 26) dX9_waited_26 rfl ?_
        obtain ⟨i9, h⟩ := g_gd h
        refine go_iald (pc := 28) (n := 12) rfl (g_inb_ok i9) dX9_waited_28 ?_
        obtain ⟨u10, c11, h⟩ := g_bd h
        refine go_callS (pc := 29) (as := [.inl (M 64 v4.toNatClampNeg)]) (st := []) (r := u10.1) (M1 := u10.2) (z_X9_isHour hok  c11) cw_X9_isHour ml_X9_159 (by decide) (Nat.le_of_ble_eq_true rfl) rfl dX9_waited_29 ?_
        refine go_if_eq (pc := 32) (tgt := 39) dX9_waited_32 (by decide) (fun e12 => ?_) (fun e12 => ?_)
        · replace h := (if_pos e12).symm.trans h
          refine go_bipush (pc := 39) (v := (-3 : Int32)) dX9_waited_39 (by decide) ?_
          refine go_istore_n (pc := 41) (lv' := [some (.inr 41), some (.inl v1), some (.inl v2), some (.inl (-3 : Int32)), some (.inl v4), none, none]) dX9_waited_41 (by decide) rfl ?_
          refine go_iinc (pc := 42) (v := (1 : Int32)) (lv' := [some (.inr 41), some (.inl v1), some (.inl v2), some (.inl (-3 : Int32)), some (.inl (v4 + (1 : Int32))), none, none]) dX9_waited_42 rfl (by decide) (by decide) rfl ?_
          refine go_goto (pc := 45) (tgt := 9) dX9_waited_45 (by decide) ?_
          exact go_to (ih _ _ _ _ _ h) (And.intro rfl (And.intro rfl (And.intro rfl (And.intro rfl (And.intro rfl trivial)))))
        · replace h := (if_neg e12).symm.trans h
          refine go_iconst (pc := 35) (v := (0 : Int32)) dX9_waited_35 (by decide) ?_
          refine go_goto (pc := 36) (tgt := 41) dX9_waited_36 (by decide) ?_
          refine go_istore_n (pc := 41) (lv' := [some (.inr 41), some (.inl v1), some (.inl v2), some (.inl (0 : Int32)), some (.inl v4), none, none]) dX9_waited_41 (by decide) rfl ?_
          refine go_iinc (pc := 42) (v := (1 : Int32)) (lv' := [some (.inr 41), some (.inl v1), some (.inl v2), some (.inl (0 : Int32)), some (.inl (v4 + (1 : Int32))), none, none]) dX9_waited_42 rfl (by decide) (by decide) rfl ?_
          refine go_goto (pc := 45) (tgt := 9) dX9_waited_45 (by decide) ?_
          exact go_to (ih _ _ _ _ _ h) (And.intro rfl (And.intro rfl (And.intro rfl (And.intro rfl (And.intro rfl trivial)))))
def x_X9_waited  (p1 p2 : Int32) (M : g_M) : Option (Int32 × g_M) := (((x_X9_notGate p1 p2 M).bind fun u15 => x_X9_waited_L9   g_F p1 p2 u15.1 (0 : Int32) u15.2))
set_option maxHeartbeats 4000000 in
set_option maxRecDepth 100000 in
theorem z_X9_waited {X : g_X} (hok : g_ok X)  {p1 p2 : Int32} {M : g_M} {r : Int32 × g_M} (h : x_X9_waited p1 p2 M = some r) : g_Con X yX9_waited cX9_waited 7 (some .int) 1 23 [.inr 41, .inl p1, .inl p2] M r := by
  rw [x_X9_waited] at h
  refine g_con hok (plainFor_of_name (by decide +kernel)) (Nat.le_of_ble_eq_true rfl) (go_to (lv2 := [some (.inr 41), some (.inl p1), some (.inl p2), none, none, none, none]) (own := RX9) ?_ (And.intro rfl (And.intro rfl (And.intro rfl trivial))))
  refine go_iload_n (pc := 0) dX9_waited_0 rfl ?_
  refine go_iload_n (pc := 1) dX9_waited_1 rfl ?_
  obtain ⟨u15, c16, h⟩ := g_bd h
  refine go_callS (pc := 2) (as := [.inl p1, .inl p2]) (st := []) (r := u15.1) (M1 := u15.2) (z_X9_notGate hok  c16) cw_X9_notGate ml_X9_345 (by decide) (Nat.le_of_ble_eq_true rfl) rfl dX9_waited_2 ?_
  refine go_istore_n (pc := 5) (lv' := [some (.inr 41), some (.inl p1), some (.inl p2), some (.inl u15.1), none, none, none]) dX9_waited_5 (by decide) rfl ?_
  refine go_iconst (pc := 6) (v := (0 : Int32)) dX9_waited_6 (by decide) ?_
  refine go_istore (pc := 7) (lv' := [some (.inr 41), some (.inl p1), some (.inl p2), some (.inl u15.1), some (.inl (0 : Int32)), none, none]) dX9_waited_7 (by decide) rfl ?_
  exact go_to (z_X9_waited_L9 hok   g_F _ _ _ _ _ h) (And.intro rfl (And.intro rfl (And.intro rfl (And.intro rfl (And.intro rfl trivial)))))
def x_X9_findLeastAt_L19  (k2 : Int32 → g_M → Option (Int32 × g_M)) : Nat → Int32 → Int32 → Int32 → g_M → Option (Int32 × g_M)
  | 0, _, _, _, _ => none
  | n + 1, v1, v2, v3, M => (if (M 41 15) ≤ v3 then ((if g_inb v1 5 = true then (k2 (v1 + (1 : Int32)) (g_upd M 50 v1.toNatClampNeg v2)) else none)) else ((if g_inb v1 5 = true then (((x_X9_leastLength v1 (g_upd M 50 v1.toNatClampNeg v3)).bind fun u3 => (if g_inb (((6 : Int32) * v1) + v3) 30 = true then (x_X9_findLeastAt_L19  k2 n v1 v2 (v3 + (1 : Int32)) (g_upd u3.2 69 (((6 : Int32) * v1) + v3).toNatClampNeg u3.1)) else none))) else none)))
set_option maxHeartbeats 4000000 in
set_option maxRecDepth 100000 in
theorem z_X9_findLeastAt_L19 {X : g_X} (hok : g_ok X)  {r : Int32 × g_M} {k2 : Int32 → g_M → Option (Int32 × g_M)} (hk2 : ∀ (v1 : Int32) (M : g_M), k2 v1 M = some r → g_Go X cX9_findLeastAt RX9 4 none 5 115 r 2 [some (.inr 41), some (.inl v1), none, none] [] M) : ∀ (n : Nat) (v1 : Int32) (v2 : Int32) (v3 : Int32) (M : g_M), x_X9_findLeastAt_L19  k2 n v1 v2 v3 M = some r → g_Go X cX9_findLeastAt RX9 4 none 5 115 r 19 [some (.inr 41), some (.inl v1), some (.inl v2), some (.inl v3)] [] M := by
  intro n
  induction n with
  | zero =>
    intro v1 v2 v3 M h
    rw [x_X9_findLeastAt_L19] at h
    cases h
  | succ n ih =>
    intro v1 v2 v3 M h
    rw [x_X9_findLeastAt_L19] at h
    refine go_iload_n (pc := 19) dX9_findLeastAt_19 rfl ?_
    refine go_aload_n (pc := 20) dX9_findLeastAt_20 rfl ?_
    refine gf_9_110 (pc := 21) dX9_findLeastAt_21 ?_
    refine go_icmp_ge (pc := 24) (tgt := 56) dX9_findLeastAt_24 (by decide) (fun e6 => ?_) (fun e6 => ?_)
    · replace h := (if_pos e6).symm.trans h
      refine go_aload_n (pc := 56) dX9_findLeastAt_56 rfl ?_
      refine gf_9_34 (pc := 57) dX9_findLeastAt_57 ?_
      refine go_iload_n (pc := 60) dX9_findLeastAt_60 rfl ?_
      refine go_iload_n (pc := 61) dX9_findLeastAt_61 rfl ?_
      obtain ⟨i1, h⟩ := g_gd h
      refine go_iast (pc := 62) (n := 5) rfl (g_inb_ok i1) dX9_findLeastAt_62 ?_
      refine go_iinc (pc := 63) (v := (1 : Int32)) (lv' := [some (.inr 41), some (.inl (v1 + (1 : Int32))), some (.inl v2), some (.inl v3)]) dX9_findLeastAt_63 rfl (by decide) (by decide) rfl ?_
      refine go_goto (pc := 66) (tgt := 2) dX9_findLeastAt_66 (by decide) ?_
      exact go_to (hk2 _ _ h) (And.intro rfl (And.intro rfl trivial))
    · replace h := (if_neg e6).symm.trans h
      refine go_aload_n (pc := 27) dX9_findLeastAt_27 rfl ?_
      refine gf_9_34 (pc := 28) dX9_findLeastAt_28 ?_
      refine go_iload_n (pc := 31) dX9_findLeastAt_31 rfl ?_
      refine go_iload_n (pc := 32) dX9_findLeastAt_32 rfl ?_
      obtain ⟨i2, h⟩ := g_gd h
      refine go_iast (pc := 33) (n := 5) rfl (g_inb_ok i2) dX9_findLeastAt_33 ?_
      refine go_aload_n (pc := 34) dX9_findLeastAt_34 rfl ?_
      refine gf_9_91 (pc := 35) dX9_findLeastAt_35 ?_
      refine go_bipush (pc := 38) (v := (6 : Int32)) dX9_findLeastAt_38 (by decide) ?_
      refine go_iload_n (pc := 40) dX9_findLeastAt_40 rfl ?_
      refine go_imul (pc := 41) dX9_findLeastAt_41 ?_
      refine go_iload_n (pc := 42) dX9_findLeastAt_42 rfl ?_
      refine go_iadd (pc := 43) dX9_findLeastAt_43 ?_
      refine go_aload_n (pc := 44) dX9_findLeastAt_44 rfl ?_
      refine go_iload_n (pc := 45) dX9_findLeastAt_45 rfl ?_
      obtain ⟨u3, c4, h⟩ := g_bd h
      refine go_callV (pc := 46) (as := [.inl v1]) (st := [.inl (((6 : Int32) * v1) + v3), .inr 69]) (r := u3.1) (M1 := u3.2) (z_X9_leastLength hok  c4) cw_X9_leastLength ml_X9_258 (show g_lay[41]? = some _ from rfl) rfl rfl (by decide) (Nat.le_of_ble_eq_true rfl) rfl dX9_findLeastAt_46 ?_
      obtain ⟨i5, h⟩ := g_gd h
      refine go_iast (pc := 49) (n := 30) rfl (g_inb_ok i5) dX9_findLeastAt_49 ?_
      refine go_iinc (pc := 50) (v := (1 : Int32)) (lv' := [some (.inr 41), some (.inl v1), some (.inl v2), some (.inl (v3 + (1 : Int32)))]) dX9_findLeastAt_50 rfl (by decide) (by decide) rfl ?_
      refine go_goto (pc := 53) (tgt := 19) dX9_findLeastAt_53 (by decide) ?_
      exact go_to (ih _ _ _ _ h) (And.intro rfl (And.intro rfl (And.intro rfl (And.intro rfl trivial))))
def x_X9_findLeastAt_L2   : Nat → Int32 → g_M → Option (Int32 × g_M)
  | 0, _, _ => none
  | n + 1, v1, M => (if (M 41 16) ≤ v1 then (some (0, M)) else ((if g_inb v1 5 = true then (x_X9_findLeastAt_L19  (x_X9_findLeastAt_L2   n) g_F v1 (M 50 v1.toNatClampNeg) (0 : Int32) M) else none)))
set_option maxHeartbeats 4000000 in
set_option maxRecDepth 100000 in
theorem z_X9_findLeastAt_L2 {X : g_X} (hok : g_ok X)  {r : Int32 × g_M}  : ∀ (n : Nat) (v1 : Int32) (M : g_M), x_X9_findLeastAt_L2   n v1 M = some r → g_Go X cX9_findLeastAt RX9 4 none 5 115 r 2 [some (.inr 41), some (.inl v1), none, none] [] M := by
  intro n
  induction n with
  | zero =>
    intro v1 M h
    rw [x_X9_findLeastAt_L2] at h
    cases h
  | succ n ih =>
    intro v1 M h
    rw [x_X9_findLeastAt_L2] at h
    refine go_iload_n (pc := 2) dX9_findLeastAt_2 rfl ?_
    refine go_aload_n (pc := 3) dX9_findLeastAt_3 rfl ?_
    refine gf_9_114 (pc := 4) dX9_findLeastAt_4 ?_
    refine go_icmp_ge (pc := 7) (tgt := 69) dX9_findLeastAt_7 (by decide) (fun e8 => ?_) (fun e8 => ?_)
    · replace h := (if_pos e8).symm.trans h
      exact go_vret (pc := 69) (Option.some.inj h).symm rfl dX9_findLeastAt_69
    · replace h := (if_neg e8).symm.trans h
      refine go_aload_n (pc := 10) dX9_findLeastAt_10 rfl ?_
      refine gf_9_34 (pc := 11) dX9_findLeastAt_11 ?_
      refine go_iload_n (pc := 14) dX9_findLeastAt_14 rfl ?_
      obtain ⟨i7, h⟩ := g_gd h
      refine go_iald (pc := 15) (n := 5) rfl (g_inb_ok i7) dX9_findLeastAt_15 ?_
      refine go_istore_n (pc := 16) (lv' := [some (.inr 41), some (.inl v1), some (.inl (M 50 v1.toNatClampNeg)), none]) dX9_findLeastAt_16 (by decide) rfl ?_
      refine go_iconst (pc := 17) (v := (0 : Int32)) dX9_findLeastAt_17 (by decide) ?_
      refine go_istore_n (pc := 18) (lv' := [some (.inr 41), some (.inl v1), some (.inl (M 50 v1.toNatClampNeg)), some (.inl (0 : Int32))]) dX9_findLeastAt_18 (by decide) rfl ?_
      exact go_to (z_X9_findLeastAt_L19 hok  (ih) g_F _ _ _ _ h) (And.intro rfl (And.intro rfl (And.intro rfl (And.intro rfl trivial))))
def x_X9_findLeastAt  (M : g_M) : Option (Int32 × g_M) := (x_X9_findLeastAt_L2   g_F (0 : Int32) M)
set_option maxHeartbeats 4000000 in
set_option maxRecDepth 100000 in
theorem z_X9_findLeastAt {X : g_X} (hok : g_ok X)  {M : g_M} {r : Int32 × g_M} (h : x_X9_findLeastAt  M = some r) : g_Con X yX9_findLeastAt cX9_findLeastAt 4 none 5 115 [.inr 41] M r := by
  rw [x_X9_findLeastAt] at h
  refine g_con hok (plainFor_of_name (by decide +kernel)) (Nat.le_of_ble_eq_true rfl) (go_to (lv2 := [some (.inr 41), none, none, none]) (own := RX9) ?_ (And.intro rfl trivial))
  refine go_iconst (pc := 0) (v := (0 : Int32)) dX9_findLeastAt_0 (by decide) ?_
  refine go_istore_n (pc := 1) (lv' := [some (.inr 41), some (.inl (0 : Int32)), none, none]) dX9_findLeastAt_1 (by decide) rfl ?_
  exact go_to (z_X9_findLeastAt_L2 hok   g_F _ _ h) (And.intro rfl (And.intro rfl trivial))
def x_X9_lengthsBy_L15   : Nat → Int32 → Int32 → Int32 → Int32 → g_M → Option (Int32 × g_M)
  | 0, _, _, _, _, _ => none
  | n + 1, v2, v3, v4, v5, M => (if v5 < 0 then (some (v4, M)) else ((if (M 41 15) = 0 then none else (if g_inb v5 5 = true then ((if ((g_upd M 67 v5.toNatClampNeg (v2 - v2 / (M 41 15) * (M 41 15))) 41 15) = 0 then none else (if g_inb v5 5 = true then (if ((v3 >>> (((g_upd M 67 v5.toNatClampNeg (v2 - v2 / (M 41 15) * (M 41 15))) 67 v5.toNatClampNeg) &&& 31)) &&& (1 : Int32)) = (1 : Int32) then (some ((-9 : Int32), (g_upd M 67 v5.toNatClampNeg (v2 - v2 / (M 41 15) * (M 41 15))))) else ((if g_inb v5 5 = true then ((if g_inb (((6 : Int32) * v5) + ((g_upd M 67 v5.toNatClampNeg (v2 - v2 / (M 41 15) * (M 41 15))) 67 v5.toNatClampNeg)) 30 = true then (if 0 ≤ ((g_upd M 67 v5.toNatClampNeg (v2 - v2 / (M 41 15) * (M 41 15))) 69 (((6 : Int32) * v5) + ((g_upd M 67 v5.toNatClampNeg (v2 - v2 / (M 41 15) * (M 41 15))) 67 v5.toNatClampNeg)).toNatClampNeg) then ((if g_inb v5 5 = true then ((if g_inb v5 5 = true then ((if g_inb (((6 : Int32) * v5) + ((g_upd M 67 v5.toNatClampNeg (v2 - v2 / (M 41 15) * (M 41 15))) 67 v5.toNatClampNeg)) 30 = true then (x_X9_lengthsBy_L15   n (v2 / ((g_upd M 67 v5.toNatClampNeg (v2 - v2 / (M 41 15) * (M 41 15))) 41 15)) (v3 ||| ((1 : Int32) <<< (((g_upd M 67 v5.toNatClampNeg (v2 - v2 / (M 41 15) * (M 41 15))) 67 v5.toNatClampNeg) &&& 31))) (v4 + ((g_upd M 67 v5.toNatClampNeg (v2 - v2 / (M 41 15) * (M 41 15))) 69 (((6 : Int32) * v5) + ((g_upd M 67 v5.toNatClampNeg (v2 - v2 / (M 41 15) * (M 41 15))) 67 v5.toNatClampNeg)).toNatClampNeg)) (v5 + (-1 : Int32)) (g_upd M 67 v5.toNatClampNeg (v2 - v2 / (M 41 15) * (M 41 15)))) else none)) else none)) else none)) else (some ((-9 : Int32), (g_upd M 67 v5.toNatClampNeg (v2 - v2 / (M 41 15) * (M 41 15)))))) else none)) else none))) else none))) else none))))
set_option maxHeartbeats 4000000 in
set_option maxRecDepth 100000 in
theorem z_X9_lengthsBy_L15 {X : g_X} (hok : g_ok X)  {r : Int32 × g_M}  : ∀ (n : Nat) (v2 : Int32) (v3 : Int32) (v4 : Int32) (v5 : Int32) (M : g_M), x_X9_lengthsBy_L15   n v2 v3 v4 v5 M = some r → g_Go X cX9_lengthsBy RX9 6 (some .int) 0 0 r 15 [some (.inr 41), none, some (.inl v2), some (.inl v3), some (.inl v4), some (.inl v5)] [] M := by
  intro n
  induction n with
  | zero =>
    intro v2 v3 v4 v5 M h
    rw [x_X9_lengthsBy_L15] at h
    cases h
  | succ n ih =>
    intro v2 v3 v4 v5 M h
    rw [x_X9_lengthsBy_L15] at h
    refine go_iload (pc := 15) dX9_lengthsBy_15 rfl ?_
    refine go_if_lt (pc := 17) (tgt := 120) dX9_lengthsBy_17 (by decide) (fun e12 => ?_) (fun e12 => ?_)
    · replace h := (if_pos e12).symm.trans h
      refine go_iload (pc := 120) dX9_lengthsBy_120 rfl ?_
      exact go_iret (pc := 122) (Option.some.inj h).symm rfl dX9_lengthsBy_122 rfl
    · replace h := (if_neg e12).symm.trans h
      refine go_aload_n (pc := 20) dX9_lengthsBy_20 rfl ?_
      refine gf_9_85 (pc := 21) dX9_lengthsBy_21 ?_
      refine go_iload (pc := 24) dX9_lengthsBy_24 rfl ?_
      refine go_iload_n (pc := 26) dX9_lengthsBy_26 rfl ?_
      refine go_aload_n (pc := 27) dX9_lengthsBy_27 rfl ?_
      refine gf_9_110 (pc := 28) dX9_lengthsBy_28 ?_
      obtain ⟨z1, h⟩ := g_nz h
      refine go_irem (pc := 31) dX9_lengthsBy_31 z1 ?_
      obtain ⟨i2, h⟩ := g_gd h
      refine go_iast (pc := 32) (n := 5) rfl (g_inb_ok i2) dX9_lengthsBy_32 ?_
      refine go_iload_n (pc := 33) dX9_lengthsBy_33 rfl ?_
      refine go_aload_n (pc := 34) dX9_lengthsBy_34 rfl ?_
      refine gf_9_110 (pc := 35) dX9_lengthsBy_35 ?_
      obtain ⟨z3, h⟩ := g_nz h
      refine go_idiv (pc := 38) dX9_lengthsBy_38 z3 ?_
      refine go_istore_n (pc := 39) (lv' := [some (.inr 41), none, some (.inl (v2 / ((g_upd M 67 v5.toNatClampNeg (v2 - v2 / (M 41 15) * (M 41 15))) 41 15))), some (.inl v3), some (.inl v4), some (.inl v5)]) dX9_lengthsBy_39 (by decide) rfl ?_
      refine go_iload_n (pc := 40) dX9_lengthsBy_40 rfl ?_
      refine go_aload_n (pc := 41) dX9_lengthsBy_41 rfl ?_
      refine gf_9_85 (pc := 42) dX9_lengthsBy_42 ?_
      refine go_iload (pc := 45) dX9_lengthsBy_45 rfl ?_
      obtain ⟨i4, h⟩ := g_gd h
      refine go_iald (pc := 47) (n := 5) rfl (g_inb_ok i4) dX9_lengthsBy_47 ?_
      refine go_ishr (pc := 48) dX9_lengthsBy_48 ?_
      refine go_iconst (pc := 49) (v := (1 : Int32)) dX9_lengthsBy_49 (by decide) ?_
      refine go_iand (pc := 50) dX9_lengthsBy_50 ?_
      refine go_iconst (pc := 51) (v := (1 : Int32)) dX9_lengthsBy_51 (by decide) ?_
      refine go_icmp_eq (pc := 52) (tgt := 76) dX9_lengthsBy_52 (by decide) (fun e11 => ?_) (fun e11 => ?_)
      · replace h := (if_pos e11).symm.trans h
        refine go_bipush (pc := 76) (v := (-9 : Int32)) dX9_lengthsBy_76 (by decide) ?_
        exact go_iret (pc := 78) (Option.some.inj h).symm rfl dX9_lengthsBy_78 rfl
      · replace h := (if_neg e11).symm.trans h
        refine go_aload_n (pc := 55) dX9_lengthsBy_55 rfl ?_
        refine gf_9_91 (pc := 56) dX9_lengthsBy_56 ?_
        refine go_bipush (pc := 59) (v := (6 : Int32)) dX9_lengthsBy_59 (by decide) ?_
        refine go_iload (pc := 61) dX9_lengthsBy_61 rfl ?_
        refine go_imul (pc := 63) dX9_lengthsBy_63 ?_
        refine go_aload_n (pc := 64) dX9_lengthsBy_64 rfl ?_
        refine gf_9_85 (pc := 65) dX9_lengthsBy_65 ?_
        refine go_iload (pc := 68) dX9_lengthsBy_68 rfl ?_
        obtain ⟨i5, h⟩ := g_gd h
        refine go_iald (pc := 70) (n := 5) rfl (g_inb_ok i5) dX9_lengthsBy_70 ?_
        refine go_iadd (pc := 71) dX9_lengthsBy_71 ?_
        obtain ⟨i6, h⟩ := g_gd h
        refine go_iald (pc := 72) (n := 30) rfl (g_inb_ok i6) dX9_lengthsBy_72 ?_
        refine go_if_ge (pc := 73) (tgt := 79) dX9_lengthsBy_73 (by decide) (fun e10 => ?_) (fun e10 => ?_)
        · replace h := (if_pos e10).symm.trans h
          refine go_iload_n (pc := 79) dX9_lengthsBy_79 rfl ?_
          refine go_iconst (pc := 80) (v := (1 : Int32)) dX9_lengthsBy_80 (by decide) ?_
          refine go_aload_n (pc := 81) dX9_lengthsBy_81 rfl ?_
          refine gf_9_85 (pc := 82) dX9_lengthsBy_82 ?_
          refine go_iload (pc := 85) dX9_lengthsBy_85 rfl ?_
          obtain ⟨i7, h⟩ := g_gd h
          refine go_iald (pc := 87) (n := 5) rfl (g_inb_ok i7) dX9_lengthsBy_87 ?_
          refine go_ishl (pc := 88) dX9_lengthsBy_88 ?_
          refine go_ior (pc := 89) dX9_lengthsBy_89 ?_
          refine go_istore_n (pc := 90) (lv' := [some (.inr 41), none, some (.inl (v2 / ((g_upd M 67 v5.toNatClampNeg (v2 - v2 / (M 41 15) * (M 41 15))) 41 15))), some (.inl (v3 ||| ((1 : Int32) <<< (((g_upd M 67 v5.toNatClampNeg (v2 - v2 / (M 41 15) * (M 41 15))) 67 v5.toNatClampNeg) &&& 31)))), some (.inl v4), some (.inl v5)]) dX9_lengthsBy_90 (by decide) rfl ?_
          refine go_iload (pc := 91) dX9_lengthsBy_91 rfl ?_
          refine go_aload_n (pc := 93) dX9_lengthsBy_93 rfl ?_
          refine gf_9_91 (pc := 94) dX9_lengthsBy_94 ?_
          refine go_bipush (pc := 97) (v := (6 : Int32)) dX9_lengthsBy_97 (by decide) ?_
          refine go_iload (pc := 99) dX9_lengthsBy_99 rfl ?_
          refine go_imul (pc := 101) dX9_lengthsBy_101 ?_
          refine go_aload_n (pc := 102) dX9_lengthsBy_102 rfl ?_
          refine gf_9_85 (pc := 103) dX9_lengthsBy_103 ?_
          refine go_iload (pc := 106) dX9_lengthsBy_106 rfl ?_
          obtain ⟨i8, h⟩ := g_gd h
          refine go_iald (pc := 108) (n := 5) rfl (g_inb_ok i8) dX9_lengthsBy_108 ?_
          refine go_iadd (pc := 109) dX9_lengthsBy_109 ?_
          obtain ⟨i9, h⟩ := g_gd h
          refine go_iald (pc := 110) (n := 30) rfl (g_inb_ok i9) dX9_lengthsBy_110 ?_
          refine go_iadd (pc := 111) dX9_lengthsBy_111 ?_
          refine go_istore (pc := 112) (lv' := [some (.inr 41), none, some (.inl (v2 / ((g_upd M 67 v5.toNatClampNeg (v2 - v2 / (M 41 15) * (M 41 15))) 41 15))), some (.inl (v3 ||| ((1 : Int32) <<< (((g_upd M 67 v5.toNatClampNeg (v2 - v2 / (M 41 15) * (M 41 15))) 67 v5.toNatClampNeg) &&& 31)))), some (.inl (v4 + ((g_upd M 67 v5.toNatClampNeg (v2 - v2 / (M 41 15) * (M 41 15))) 69 (((6 : Int32) * v5) + ((g_upd M 67 v5.toNatClampNeg (v2 - v2 / (M 41 15) * (M 41 15))) 67 v5.toNatClampNeg)).toNatClampNeg))), some (.inl v5)]) dX9_lengthsBy_112 (by decide) rfl ?_
          refine go_iinc (pc := 114) (v := (-1 : Int32)) (lv' := [some (.inr 41), none, some (.inl (v2 / ((g_upd M 67 v5.toNatClampNeg (v2 - v2 / (M 41 15) * (M 41 15))) 41 15))), some (.inl (v3 ||| ((1 : Int32) <<< (((g_upd M 67 v5.toNatClampNeg (v2 - v2 / (M 41 15) * (M 41 15))) 67 v5.toNatClampNeg) &&& 31)))), some (.inl (v4 + ((g_upd M 67 v5.toNatClampNeg (v2 - v2 / (M 41 15) * (M 41 15))) 69 (((6 : Int32) * v5) + ((g_upd M 67 v5.toNatClampNeg (v2 - v2 / (M 41 15) * (M 41 15))) 67 v5.toNatClampNeg)).toNatClampNeg))), some (.inl (v5 + (-1 : Int32)))]) dX9_lengthsBy_114 rfl (by decide) (by decide) rfl ?_
          refine go_goto (pc := 117) (tgt := 15) dX9_lengthsBy_117 (by decide) ?_
          exact go_to (ih _ _ _ _ _ h) (And.intro rfl (And.intro rfl (And.intro rfl (And.intro rfl (And.intro rfl trivial)))))
        · replace h := (if_neg e10).symm.trans h
          refine go_bipush (pc := 76) (v := (-9 : Int32)) dX9_lengthsBy_76 (by decide) ?_
          exact go_iret (pc := 78) (Option.some.inj h).symm rfl dX9_lengthsBy_78 rfl
def x_X9_lengthsBy  (p1 : Int32) (M : g_M) : Option (Int32 × g_M) := (x_X9_lengthsBy_L15   g_F p1 (0 : Int32) (0 : Int32) ((M 41 16) - (1 : Int32)) M)
set_option maxHeartbeats 4000000 in
set_option maxRecDepth 100000 in
theorem z_X9_lengthsBy {X : g_X} (hok : g_ok X)  {p1 : Int32} {M : g_M} {r : Int32 × g_M} (h : x_X9_lengthsBy p1 M = some r) : g_Con X yX9_lengthsBy cX9_lengthsBy 6 (some .int) 0 0 [.inr 41, .inl p1] M r := by
  rw [x_X9_lengthsBy] at h
  refine g_con hok (plainFor_of_name (by decide +kernel)) (Nat.le_of_ble_eq_true rfl) (go_to (lv2 := [some (.inr 41), some (.inl p1), none, none, none, none]) (own := RX9) ?_ (And.intro rfl (And.intro rfl trivial)))
  refine go_iload_n (pc := 0) dX9_lengthsBy_0 rfl ?_
  refine go_istore_n (pc := 1) (lv' := [some (.inr 41), some (.inl p1), some (.inl p1), none, none, none]) dX9_lengthsBy_1 (by decide) rfl ?_
  refine go_iconst (pc := 2) (v := (0 : Int32)) dX9_lengthsBy_2 (by decide) ?_
  refine go_istore_n (pc := 3) (lv' := [some (.inr 41), some (.inl p1), some (.inl p1), some (.inl (0 : Int32)), none, none]) dX9_lengthsBy_3 (by decide) rfl ?_
  refine go_iconst (pc := 4) (v := (0 : Int32)) dX9_lengthsBy_4 (by decide) ?_
  refine go_istore (pc := 5) (lv' := [some (.inr 41), some (.inl p1), some (.inl p1), some (.inl (0 : Int32)), some (.inl (0 : Int32)), none]) dX9_lengthsBy_5 (by decide) rfl ?_
  refine go_aload_n (pc := 7) dX9_lengthsBy_7 rfl ?_
  refine gf_9_114 (pc := 8) dX9_lengthsBy_8 ?_
  refine go_iconst (pc := 11) (v := (1 : Int32)) dX9_lengthsBy_11 (by decide) ?_
  refine go_isub (pc := 12) dX9_lengthsBy_12 ?_
  refine go_istore (pc := 13) (lv' := [some (.inr 41), some (.inl p1), some (.inl p1), some (.inl (0 : Int32)), some (.inl (0 : Int32)), some (.inl ((M 41 16) - (1 : Int32)))]) dX9_lengthsBy_13 (by decide) rfl ?_
  exact go_to (z_X9_lengthsBy_L15 hok   g_F _ _ _ _ _ h) (And.intro rfl (And.intro rfl (And.intro rfl (And.intro rfl (And.intro rfl trivial)))))
def x_X9_cheapest_L129  (k80 : Int32 → Int32 → Int32 → Int32 → Int32 → g_M → Option (Int32 × g_M)) : Nat → Int32 → Int32 → Int32 → Int32 → Int32 → Int32 → g_M → Option (Int32 × g_M)
  | 0, _, _, _, _, _, _, _ => none
  | n + 1, v1, v3, v4, v5, v6, v8, M => (if v8 < 0 then (k80 v1 v3 v4 v5 (v6 + (1 : Int32)) M) else ((if g_inb v8 5 = true then (x_X9_cheapest_L129  k80 n v1 v3 v4 (((10 : Int32) * v5) + (M 67 v8.toNatClampNeg)) v6 (v8 + (-1 : Int32)) M) else none)))
set_option maxHeartbeats 4000000 in
set_option maxRecDepth 100000 in
theorem z_X9_cheapest_L129 {X : g_X} (hok : g_ok X)  {r : Int32 × g_M} {k80 : Int32 → Int32 → Int32 → Int32 → Int32 → g_M → Option (Int32 × g_M)} (hk80 : ∀ (v1 : Int32) (v3 : Int32) (v4 : Int32) (v5 : Int32) (v6 : Int32) (M : g_M), k80 v1 v3 v4 v5 v6 M = some r → g_Go X cX9_cheapest RX9 9 (some .int) 6 138 r 80 [some (.inr 41), some (.inl v1), none, some (.inl v3), some (.inl v4), some (.inl v5), some (.inl v6), none, none] [] M) : ∀ (n : Nat) (v1 : Int32) (v3 : Int32) (v4 : Int32) (v5 : Int32) (v6 : Int32) (v8 : Int32) (M : g_M), x_X9_cheapest_L129  k80 n v1 v3 v4 v5 v6 v8 M = some r → g_Go X cX9_cheapest RX9 9 (some .int) 6 138 r 129 [some (.inr 41), some (.inl v1), none, some (.inl v3), some (.inl v4), some (.inl v5), some (.inl v6), none, some (.inl v8)] [] M := by
  intro n
  induction n with
  | zero =>
    intro v1 v3 v4 v5 v6 v8 M h
    rw [x_X9_cheapest_L129] at h
    cases h
  | succ n ih =>
    intro v1 v3 v4 v5 v6 v8 M h
    rw [x_X9_cheapest_L129] at h
    refine go_iload (pc := 129) dX9_cheapest_129 rfl ?_
    refine go_if_lt (pc := 131) (tgt := 155) dX9_cheapest_131 (by decide) (fun e2 => ?_) (fun e2 => ?_)
    · replace h := (if_pos e2).symm.trans h
      refine go_iinc (pc := 155) (v := (1 : Int32)) (lv' := [some (.inr 41), some (.inl v1), none, some (.inl v3), some (.inl v4), some (.inl v5), some (.inl (v6 + (1 : Int32))), none, some (.inl v8)]) dX9_cheapest_155 rfl (by decide) (by decide) rfl ?_
      refine go_goto (pc := 158) (tgt := 80) dX9_cheapest_158 (by decide) ?_
      exact go_to (hk80 _ _ _ _ _ _ h) (And.intro rfl (And.intro rfl (And.intro rfl (And.intro rfl (And.intro rfl (And.intro rfl trivial))))))
    · replace h := (if_neg e2).symm.trans h
      refine go_bipush (pc := 134) (v := (10 : Int32)) dX9_cheapest_134 (by decide) ?_
      refine go_iload (pc := 136) dX9_cheapest_136 rfl ?_
      refine go_imul (pc := 138) dX9_cheapest_138 ?_
      refine go_aload_n (pc := 139) dX9_cheapest_139 rfl ?_
      refine gf_9_85 (pc := 140) dX9_cheapest_140 ?_
      refine go_iload (pc := 143) dX9_cheapest_143 rfl ?_
      obtain ⟨i1, h⟩ := g_gd h
      refine go_iald (pc := 145) (n := 5) rfl (g_inb_ok i1) dX9_cheapest_145 ?_
      refine go_iadd (pc := 146) dX9_cheapest_146 ?_
      refine go_istore (pc := 147) (lv' := [some (.inr 41), some (.inl v1), none, some (.inl v3), some (.inl v4), some (.inl (((10 : Int32) * v5) + (M 67 v8.toNatClampNeg))), some (.inl v6), none, some (.inl v8)]) dX9_cheapest_147 (by decide) rfl ?_
      refine go_iinc (pc := 149) (v := (-1 : Int32)) (lv' := [some (.inr 41), some (.inl v1), none, some (.inl v3), some (.inl v4), some (.inl (((10 : Int32) * v5) + (M 67 v8.toNatClampNeg))), some (.inl v6), none, some (.inl (v8 + (-1 : Int32)))]) dX9_cheapest_149 rfl (by decide) (by decide) rfl ?_
      refine go_goto (pc := 152) (tgt := 129) dX9_cheapest_152 (by decide) ?_
      exact go_to (ih _ _ _ _ _ _ _ h) (And.intro rfl (And.intro rfl (And.intro rfl (And.intro rfl (And.intro rfl (And.intro rfl (And.intro rfl trivial)))))))
def x_X9_cheapest_L114  (k80 : Int32 → Int32 → Int32 → Int32 → Int32 → g_M → Option (Int32 × g_M)) (v1 : Int32) (v3 : Int32) (v6 : Int32) (v7 : Int32) (M : g_M) : Option (Int32 × g_M) := (x_X9_cheapest_L129  (k80) g_F v1 v3 v7 (0 : Int32) v6 ((M 41 16) - (1 : Int32)) M)
set_option maxHeartbeats 4000000 in
set_option maxRecDepth 100000 in
theorem z_X9_cheapest_L114 {X : g_X} (hok : g_ok X)  {r : Int32 × g_M} {k80 : Int32 → Int32 → Int32 → Int32 → Int32 → g_M → Option (Int32 × g_M)} (hk80 : ∀ (v1 : Int32) (v3 : Int32) (v4 : Int32) (v5 : Int32) (v6 : Int32) (M : g_M), k80 v1 v3 v4 v5 v6 M = some r → g_Go X cX9_cheapest RX9 9 (some .int) 6 138 r 80 [some (.inr 41), some (.inl v1), none, some (.inl v3), some (.inl v4), some (.inl v5), some (.inl v6), none, none] [] M) {v1 : Int32} {v3 : Int32} {v6 : Int32} {v7 : Int32} {M : g_M} (h : x_X9_cheapest_L114  k80 v1 v3 v6 v7 M = some r) : g_Go X cX9_cheapest RX9 9 (some .int) 6 138 r 114 [some (.inr 41), some (.inl v1), none, some (.inl v3), none, none, some (.inl v6), some (.inl v7), none] [] M := by
  rw [x_X9_cheapest_L114] at h
  refine go_iload (pc := 114) dX9_cheapest_114 rfl ?_
  refine go_istore (pc := 116) (lv' := [some (.inr 41), some (.inl v1), none, some (.inl v3), some (.inl v7), none, some (.inl v6), some (.inl v7), none]) dX9_cheapest_116 (by decide) rfl ?_
  refine go_iconst (pc := 118) (v := (0 : Int32)) dX9_cheapest_118 (by decide) ?_
  refine go_istore (pc := 119) (lv' := [some (.inr 41), some (.inl v1), none, some (.inl v3), some (.inl v7), some (.inl (0 : Int32)), some (.inl v6), some (.inl v7), none]) dX9_cheapest_119 (by decide) rfl ?_
  refine go_aload_n (pc := 121) dX9_cheapest_121 rfl ?_
  refine gf_9_114 (pc := 122) dX9_cheapest_122 ?_
  refine go_iconst (pc := 125) (v := (1 : Int32)) dX9_cheapest_125 (by decide) ?_
  refine go_isub (pc := 126) dX9_cheapest_126 ?_
  refine go_istore (pc := 127) (lv' := [some (.inr 41), some (.inl v1), none, some (.inl v3), some (.inl v7), some (.inl (0 : Int32)), some (.inl v6), some (.inl v7), some (.inl ((M 41 16) - (1 : Int32)))]) dX9_cheapest_127 (by decide) rfl ?_
  exact go_to (z_X9_cheapest_L129 hok  (hk80) g_F _ _ _ _ _ _ _ h) (And.intro rfl (And.intro rfl (And.intro rfl (And.intro rfl (And.intro rfl (And.intro rfl (And.intro rfl trivial)))))))
def x_X9_cheapest_L80   : Nat → Int32 → Int32 → Int32 → Int32 → Int32 → g_M → Option (Int32 × g_M)
  | 0, _, _, _, _, _, _ => none
  | n + 1, v1, v3, v4, v5, v6, M => (if v3 ≤ v6 then (if v1 = 0 then (some (v4, M)) else (some (v5, M))) else (((x_X9_lengthsBy v6 M).bind fun u4 => if u4.1 < 0 then (x_X9_cheapest_L80   n v1 v3 v4 v5 (v6 + (1 : Int32)) u4.2) else (if v4 < 0 then (x_X9_cheapest_L114  (x_X9_cheapest_L80   n) v1 v3 v6 u4.1 u4.2) else (if u4.1 < v4 then (x_X9_cheapest_L114  (x_X9_cheapest_L80   n) v1 v3 v6 u4.1 u4.2) else (x_X9_cheapest_L80   n v1 v3 v4 v5 (v6 + (1 : Int32)) u4.2))))))
set_option maxHeartbeats 4000000 in
set_option maxRecDepth 100000 in
theorem z_X9_cheapest_L80 {X : g_X} (hok : g_ok X)  {r : Int32 × g_M}  : ∀ (n : Nat) (v1 : Int32) (v3 : Int32) (v4 : Int32) (v5 : Int32) (v6 : Int32) (M : g_M), x_X9_cheapest_L80   n v1 v3 v4 v5 v6 M = some r → g_Go X cX9_cheapest RX9 9 (some .int) 6 138 r 80 [some (.inr 41), some (.inl v1), none, some (.inl v3), some (.inl v4), some (.inl v5), some (.inl v6), none, none] [] M := by
  intro n
  induction n with
  | zero =>
    intro v1 v3 v4 v5 v6 M h
    rw [x_X9_cheapest_L80] at h
    cases h
  | succ n ih =>
    intro v1 v3 v4 v5 v6 M h
    rw [x_X9_cheapest_L80] at h
    refine go_iload (pc := 80) dX9_cheapest_80 rfl ?_
    refine go_iload_n (pc := 82) dX9_cheapest_82 rfl ?_
    refine go_icmp_ge (pc := 83) (tgt := 161) dX9_cheapest_83 (by decide) (fun e9 => ?_) (fun e9 => ?_)
    · replace h := (if_pos e9).symm.trans h
      refine go_iload_n (pc := 161) dX9_cheapest_161 rfl ?_
      refine go_if_ne (pc := 162) (tgt := 170) dX9_cheapest_162 (by decide) (fun e3 => ?_) (fun e3 => ?_)
      · replace h := (if_neg e3).symm.trans h
        refine go_iload (pc := 170) dX9_cheapest_170 rfl ?_
        exact go_iret (pc := 172) (Option.some.inj h).symm rfl dX9_cheapest_172 rfl
      · replace h := (if_pos e3).symm.trans h
        refine go_iload (pc := 165) dX9_cheapest_165 rfl ?_
        refine go_goto (pc := 167) (tgt := 172) dX9_cheapest_167 (by decide) ?_
        exact go_iret (pc := 172) (Option.some.inj h).symm rfl dX9_cheapest_172 rfl
    · replace h := (if_neg e9).symm.trans h
      refine go_aload_n (pc := 86) dX9_cheapest_86 rfl ?_
      refine go_iload (pc := 87) dX9_cheapest_87 rfl ?_
      obtain ⟨u4, c5, h⟩ := g_bd h
      refine go_callV (pc := 89) (as := [.inl v6]) (st := []) (r := u4.1) (M1 := u4.2) (z_X9_lengthsBy hok  c5) cw_X9_lengthsBy ml_X9_354 (show g_lay[41]? = some _ from rfl) rfl rfl (by decide) (Nat.le_of_ble_eq_true rfl) rfl dX9_cheapest_89 ?_
      refine go_istore (pc := 92) (lv' := [some (.inr 41), some (.inl v1), none, some (.inl v3), some (.inl v4), some (.inl v5), some (.inl v6), some (.inl u4.1), none]) dX9_cheapest_92 (by decide) rfl ?_
      refine go_iload (pc := 94) dX9_cheapest_94 rfl ?_
      refine go_if_lt (pc := 96) (tgt := 155) dX9_cheapest_96 (by decide) (fun e8 => ?_) (fun e8 => ?_)
      · replace h := (if_pos e8).symm.trans h
        refine go_iinc (pc := 155) (v := (1 : Int32)) (lv' := [some (.inr 41), some (.inl v1), none, some (.inl v3), some (.inl v4), some (.inl v5), some (.inl (v6 + (1 : Int32))), some (.inl u4.1), none]) dX9_cheapest_155 rfl (by decide) (by decide) rfl ?_
        refine go_goto (pc := 158) (tgt := 80) dX9_cheapest_158 (by decide) ?_
        exact go_to (ih _ _ _ _ _ _ h) (And.intro rfl (And.intro rfl (And.intro rfl (And.intro rfl (And.intro rfl (And.intro rfl trivial))))))
      · replace h := (if_neg e8).symm.trans h
        refine go_iload (pc := 99) dX9_cheapest_99 rfl ?_
        refine go_if_lt (pc := 101) (tgt := 114) dX9_cheapest_101 (by decide) (fun e7 => ?_) (fun e7 => ?_)
        · replace h := (if_pos e7).symm.trans h
          exact go_to (z_X9_cheapest_L114 hok  (ih) h) (And.intro rfl (And.intro rfl (And.intro rfl (And.intro rfl (And.intro rfl trivial)))))
        · replace h := (if_neg e7).symm.trans h
          refine go_iload (pc := 104) dX9_cheapest_104 rfl ?_
          refine go_iload (pc := 106) dX9_cheapest_106 rfl ?_
          refine go_icmp_lt (pc := 108) (tgt := 114) dX9_cheapest_108 (by decide) (fun e6 => ?_) (fun e6 => ?_)
          · replace h := (if_pos e6).symm.trans h
            exact go_to (z_X9_cheapest_L114 hok  (ih) h) (And.intro rfl (And.intro rfl (And.intro rfl (And.intro rfl (And.intro rfl trivial)))))
          · replace h := (if_neg e6).symm.trans h
            refine go_goto (pc := 111) (tgt := 155) dX9_cheapest_111 (by decide) ?_
            refine go_iinc (pc := 155) (v := (1 : Int32)) (lv' := [some (.inr 41), some (.inl v1), none, some (.inl v3), some (.inl v4), some (.inl v5), some (.inl (v6 + (1 : Int32))), some (.inl u4.1), none]) dX9_cheapest_155 rfl (by decide) (by decide) rfl ?_
            refine go_goto (pc := 158) (tgt := 80) dX9_cheapest_158 (by decide) ?_
            exact go_to (ih _ _ _ _ _ _ h) (And.intro rfl (And.intro rfl (And.intro rfl (And.intro rfl (And.intro rfl (And.intro rfl trivial))))))
def x_X9_cheapest_L47   : Nat → Int32 → Int32 → Int32 → g_M → Option (Int32 × g_M)
  | 0, _, _, _, _ => none
  | n + 1, v1, v3, v4, M => (if (M 41 16) ≤ v4 then (x_X9_cheapest_L80   g_F v1 v3 (-9 : Int32) (-9 : Int32) (0 : Int32) M) else (x_X9_cheapest_L47   n v1 (v3 * (M 41 15)) (v4 + (1 : Int32)) M))
set_option maxHeartbeats 4000000 in
set_option maxRecDepth 100000 in
theorem z_X9_cheapest_L47 {X : g_X} (hok : g_ok X)  {r : Int32 × g_M}  : ∀ (n : Nat) (v1 : Int32) (v3 : Int32) (v4 : Int32) (M : g_M), x_X9_cheapest_L47   n v1 v3 v4 M = some r → g_Go X cX9_cheapest RX9 9 (some .int) 6 138 r 47 [some (.inr 41), some (.inl v1), none, some (.inl v3), some (.inl v4), none, none, none, none] [] M := by
  intro n
  induction n with
  | zero =>
    intro v1 v3 v4 M h
    rw [x_X9_cheapest_L47] at h
    cases h
  | succ n ih =>
    intro v1 v3 v4 M h
    rw [x_X9_cheapest_L47] at h
    refine go_iload (pc := 47) dX9_cheapest_47 rfl ?_
    refine go_aload_n (pc := 49) dX9_cheapest_49 rfl ?_
    refine gf_9_114 (pc := 50) dX9_cheapest_50 ?_
    refine go_icmp_ge (pc := 53) (tgt := 69) dX9_cheapest_53 (by decide) (fun e10 => ?_) (fun e10 => ?_)
    · replace h := (if_pos e10).symm.trans h
      refine go_bipush (pc := 69) (v := (-9 : Int32)) dX9_cheapest_69 (by decide) ?_
      refine go_istore (pc := 71) (lv' := [some (.inr 41), some (.inl v1), none, some (.inl v3), some (.inl (-9 : Int32)), none, none, none, none]) dX9_cheapest_71 (by decide) rfl ?_
      refine go_bipush (pc := 73) (v := (-9 : Int32)) dX9_cheapest_73 (by decide) ?_
      refine go_istore (pc := 75) (lv' := [some (.inr 41), some (.inl v1), none, some (.inl v3), some (.inl (-9 : Int32)), some (.inl (-9 : Int32)), none, none, none]) dX9_cheapest_75 (by decide) rfl ?_
      refine go_iconst (pc := 77) (v := (0 : Int32)) dX9_cheapest_77 (by decide) ?_
      refine go_istore (pc := 78) (lv' := [some (.inr 41), some (.inl v1), none, some (.inl v3), some (.inl (-9 : Int32)), some (.inl (-9 : Int32)), some (.inl (0 : Int32)), none, none]) dX9_cheapest_78 (by decide) rfl ?_
      exact go_to (z_X9_cheapest_L80 hok   g_F _ _ _ _ _ _ h) (And.intro rfl (And.intro rfl (And.intro rfl (And.intro rfl (And.intro rfl (And.intro rfl trivial))))))
    · replace h := (if_neg e10).symm.trans h
      refine go_iload_n (pc := 56) dX9_cheapest_56 rfl ?_
      refine go_aload_n (pc := 57) dX9_cheapest_57 rfl ?_
      refine gf_9_110 (pc := 58) dX9_cheapest_58 ?_
      refine go_imul (pc := 61) dX9_cheapest_61 ?_
      refine go_istore_n (pc := 62) (lv' := [some (.inr 41), some (.inl v1), none, some (.inl (v3 * (M 41 15))), some (.inl v4), none, none, none, none]) dX9_cheapest_62 (by decide) rfl ?_
      refine go_iinc (pc := 63) (v := (1 : Int32)) (lv' := [some (.inr 41), some (.inl v1), none, some (.inl (v3 * (M 41 15))), some (.inl (v4 + (1 : Int32))), none, none, none, none]) dX9_cheapest_63 rfl (by decide) (by decide) rfl ?_
      refine go_goto (pc := 66) (tgt := 47) dX9_cheapest_66 (by decide) ?_
      exact go_to (ih _ _ _ _ h) (And.intro rfl (And.intro rfl (And.intro rfl (And.intro rfl trivial))))
def x_X9_cheapest_L27   (v1 : Int32) (s0 : Int32) (M : g_M) : Option (Int32 × g_M) := (if s0 = 0 then (((x_X9_findLeastAt M).bind fun u11 => x_X9_cheapest_L47   g_F v1 (1 : Int32) (0 : Int32) u11.2)) else (((x_X9_no s0 M).bind fun u13 => some (u13.1, u13.2))))
set_option maxHeartbeats 4000000 in
set_option maxRecDepth 100000 in
theorem z_X9_cheapest_L27 {X : g_X} (hok : g_ok X)  {r : Int32 × g_M}  {v1 : Int32} {s0 : Int32} {M : g_M} (h : x_X9_cheapest_L27   v1 s0 M = some r) : g_Go X cX9_cheapest RX9 9 (some .int) 6 138 r 27 [some (.inr 41), some (.inl v1), none, none, none, none, none, none, none] [.inl s0] M := by
  rw [x_X9_cheapest_L27] at h
  refine go_istore_n (pc := 27) (lv' := [some (.inr 41), some (.inl v1), some (.inl s0), none, none, none, none, none, none]) dX9_cheapest_27 (by decide) rfl ?_
  refine go_iload_n (pc := 28) dX9_cheapest_28 rfl ?_
  refine go_if_eq (pc := 29) (tgt := 38) dX9_cheapest_29 (by decide) (fun e15 => ?_) (fun e15 => ?_)
  · replace h := (if_pos e15).symm.trans h
    refine go_aload_n (pc := 38) dX9_cheapest_38 rfl ?_
    obtain ⟨u11, c12, h⟩ := g_bd h
    refine go_callV (pc := 39) (as := []) (st := []) (r := u11.1) (M1 := u11.2) (z_X9_findLeastAt hok  c12) cw_X9_findLeastAt ml_X9_351 (show g_lay[41]? = some _ from rfl) rfl rfl (by decide) (Nat.le_of_ble_eq_true rfl) rfl dX9_cheapest_39 ?_
    refine go_iconst (pc := 42) (v := (1 : Int32)) dX9_cheapest_42 (by decide) ?_
    refine go_istore_n (pc := 43) (lv' := [some (.inr 41), some (.inl v1), some (.inl s0), some (.inl (1 : Int32)), none, none, none, none, none]) dX9_cheapest_43 (by decide) rfl ?_
    refine go_iconst (pc := 44) (v := (0 : Int32)) dX9_cheapest_44 (by decide) ?_
    refine go_istore (pc := 45) (lv' := [some (.inr 41), some (.inl v1), some (.inl s0), some (.inl (1 : Int32)), some (.inl (0 : Int32)), none, none, none, none]) dX9_cheapest_45 (by decide) rfl ?_
    exact go_to (z_X9_cheapest_L47 hok   g_F _ _ _ _ h) (And.intro rfl (And.intro rfl (And.intro rfl (And.intro rfl trivial))))
  · replace h := (if_neg e15).symm.trans h
    refine go_aload_n (pc := 32) dX9_cheapest_32 rfl ?_
    refine go_iload_n (pc := 33) dX9_cheapest_33 rfl ?_
    obtain ⟨u13, c14, h⟩ := g_bd h
    refine go_callV (pc := 34) (as := [.inl s0]) (st := []) (r := u13.1) (M1 := u13.2) (z_X9_no hok  c14) cw_X9_no ml_X9_124 (show g_lay[41]? = some _ from rfl) rfl rfl (by decide) (Nat.le_of_ble_eq_true rfl) rfl dX9_cheapest_34 ?_
    exact go_iret (pc := 37) (Option.some.inj h).symm rfl dX9_cheapest_37 rfl
def x_X9_cheapest  (p1 : Int32) (M : g_M) : Option (Int32 × g_M) := (((x_X9_isIn p1 (0 : Int32) (1 : Int32) M).bind fun u16 => if u16.1 = 0 then (x_X9_cheapest_L27   p1 (-2 : Int32) u16.2) else (if (u16.2 41 16) = 0 then (x_X9_cheapest_L27   p1 (-3 : Int32) u16.2) else (x_X9_cheapest_L27   p1 (0 : Int32) u16.2))))
set_option maxHeartbeats 4000000 in
set_option maxRecDepth 100000 in
theorem z_X9_cheapest {X : g_X} (hok : g_ok X)  {p1 : Int32} {M : g_M} {r : Int32 × g_M} (h : x_X9_cheapest p1 M = some r) : g_Con X yX9_cheapest cX9_cheapest 9 (some .int) 6 138 [.inr 41, .inl p1] M r := by
  rw [x_X9_cheapest] at h
  refine g_con hok (plainFor_of_name (by decide +kernel)) (Nat.le_of_ble_eq_true rfl) (go_to (lv2 := [some (.inr 41), some (.inl p1), none, none, none, none, none, none, none]) (own := RX9) ?_ (And.intro rfl (And.intro rfl trivial)))
  refine go_iload_n (pc := 0) dX9_cheapest_0 rfl ?_
  refine go_iconst (pc := 1) (v := (0 : Int32)) dX9_cheapest_1 (by decide) ?_
  refine go_iconst (pc := 2) (v := (1 : Int32)) dX9_cheapest_2 (by decide) ?_
  obtain ⟨u16, c17, h⟩ := g_bd h
  refine go_callS (pc := 3) (as := [.inl p1, .inl (0 : Int32), .inl (1 : Int32)]) (st := []) (r := u16.1) (M1 := u16.2) (z_X9_isIn hok  c17) cw_X9_isIn ml_X9_135 (by decide) (Nat.le_of_ble_eq_true rfl) rfl dX9_cheapest_3 ?_
  refine go_if_ne (pc := 6) (tgt := 14) dX9_cheapest_6 (by decide) (fun e19 => ?_) (fun e19 => ?_)
  · replace h := (if_neg e19).symm.trans h
    refine go_aload_n (pc := 14) dX9_cheapest_14 rfl ?_
    refine gf_9_114 (pc := 15) dX9_cheapest_15 ?_
    refine go_if_ne (pc := 18) (tgt := 26) dX9_cheapest_18 (by decide) (fun e18 => ?_) (fun e18 => ?_)
    · replace h := (if_neg e18).symm.trans h
      refine go_iconst (pc := 26) (v := (0 : Int32)) dX9_cheapest_26 (by decide) ?_
      exact go_to (z_X9_cheapest_L27 hok   h) (And.intro rfl (And.intro rfl trivial))
    · replace h := (if_pos e18).symm.trans h
      refine go_bipush (pc := 21) (v := (-3 : Int32)) dX9_cheapest_21 (by decide) ?_
      refine go_goto (pc := 23) (tgt := 27) dX9_cheapest_23 (by decide) ?_
      exact go_to (z_X9_cheapest_L27 hok   h) (And.intro rfl (And.intro rfl trivial))
  · replace h := (if_pos e19).symm.trans h
    refine go_bipush (pc := 9) (v := (-2 : Int32)) dX9_cheapest_9 (by decide) ?_
    refine go_goto (pc := 11) (tgt := 27) dX9_cheapest_11 (by decide) ?_
    exact go_to (z_X9_cheapest_L27 hok   h) (And.intro rfl (And.intro rfl trivial))
def x_X9_crossed_L30  (k17 : Int32 → Int32 → Int32 → g_M → Option (Int32 × g_M)) : Nat → Int32 → Int32 → Int32 → Int32 → g_M → Option (Int32 × g_M)
  | 0, _, _, _, _, _ => none
  | n + 1, v1, v2, v3, v4, M => (if (M 41 16) ≤ v4 then (k17 v1 v2 (v3 + (1 : Int32)) M) else ((if g_inb v3 5 = true then ((if g_inb (M 50 v3.toNatClampNeg) 6 = true then ((if g_inb v4 5 = true then ((if g_inb (M 50 v4.toNatClampNeg) 6 = true then (((x_X9_middleBy v3 v1 M).bind fun u5 => ((x_X9_middleBy v4 v1 u5.2).bind fun u7 => if 0 ≤ (((M 45 (M 50 v3.toNatClampNeg).toNatClampNeg) - (M 45 (M 50 v4.toNatClampNeg).toNatClampNeg)) * (u5.1 - u7.1)) then (x_X9_crossed_L30  k17 n v1 (v2 + (0 : Int32)) v3 (v4 + (1 : Int32)) u7.2) else (x_X9_crossed_L30  k17 n v1 (v2 + (1 : Int32)) v3 (v4 + (1 : Int32)) u7.2)))) else none)) else none)) else none)) else none)))
set_option maxHeartbeats 4000000 in
set_option maxRecDepth 100000 in
theorem z_X9_crossed_L30 {X : g_X} (hok : g_ok X)  {r : Int32 × g_M} {k17 : Int32 → Int32 → Int32 → g_M → Option (Int32 × g_M)} (hk17 : ∀ (v1 : Int32) (v2 : Int32) (v3 : Int32) (M : g_M), k17 v1 v2 v3 M = some r → g_Go X cX9_crossed RX9 7 (some .int) 6 139 r 17 [some (.inr 41), some (.inl v1), some (.inl v2), some (.inl v3), none, none, none] [] M) : ∀ (n : Nat) (v1 : Int32) (v2 : Int32) (v3 : Int32) (v4 : Int32) (M : g_M), x_X9_crossed_L30  k17 n v1 v2 v3 v4 M = some r → g_Go X cX9_crossed RX9 7 (some .int) 6 139 r 30 [some (.inr 41), some (.inl v1), some (.inl v2), some (.inl v3), some (.inl v4), none, none] [] M := by
  intro n
  induction n with
  | zero =>
    intro v1 v2 v3 v4 M h
    rw [x_X9_crossed_L30] at h
    cases h
  | succ n ih =>
    intro v1 v2 v3 v4 M h
    rw [x_X9_crossed_L30] at h
    refine go_iload (pc := 30) dX9_crossed_30 rfl ?_
    refine go_aload_n (pc := 32) dX9_crossed_32 rfl ?_
    refine gf_9_114 (pc := 33) dX9_crossed_33 ?_
    refine go_icmp_ge (pc := 36) (tgt := 103) dX9_crossed_36 (by decide) (fun e10 => ?_) (fun e10 => ?_)
    · replace h := (if_pos e10).symm.trans h
      refine go_iinc (pc := 103) (v := (1 : Int32)) (lv' := [some (.inr 41), some (.inl v1), some (.inl v2), some (.inl (v3 + (1 : Int32))), some (.inl v4), none, none]) dX9_crossed_103 rfl (by decide) (by decide) rfl ?_
      refine go_goto (pc := 106) (tgt := 17) dX9_crossed_106 (by decide) ?_
      exact go_to (hk17 _ _ _ _ h) (And.intro rfl (And.intro rfl (And.intro rfl (And.intro rfl trivial))))
    · replace h := (if_neg e10).symm.trans h
      refine go_aload_n (pc := 39) dX9_crossed_39 rfl ?_
      refine gf_9_19 (pc := 40) dX9_crossed_40 ?_
      refine go_aload_n (pc := 43) dX9_crossed_43 rfl ?_
      refine gf_9_34 (pc := 44) dX9_crossed_44 ?_
      refine go_iload_n (pc := 47) dX9_crossed_47 rfl ?_
      obtain ⟨i1, h⟩ := g_gd h
      refine go_iald (pc := 48) (n := 5) rfl (g_inb_ok i1) dX9_crossed_48 ?_
      obtain ⟨i2, h⟩ := g_gd h
      refine go_iald (pc := 49) (n := 6) rfl (g_inb_ok i2) dX9_crossed_49 ?_
      refine go_aload_n (pc := 50) dX9_crossed_50 rfl ?_
      refine gf_9_19 (pc := 51) dX9_crossed_51 ?_
      refine go_aload_n (pc := 54) dX9_crossed_54 rfl ?_
      refine gf_9_34 (pc := 55) dX9_crossed_55 ?_
      refine go_iload (pc := 58) dX9_crossed_58 rfl ?_
      obtain ⟨i3, h⟩ := g_gd h
      refine go_iald (pc := 60) (n := 5) rfl (g_inb_ok i3) dX9_crossed_60 ?_
      obtain ⟨i4, h⟩ := g_gd h
      refine go_iald (pc := 61) (n := 6) rfl (g_inb_ok i4) dX9_crossed_61 ?_
      refine go_isub (pc := 62) dX9_crossed_62 ?_
      refine go_istore (pc := 63) (lv' := [some (.inr 41), some (.inl v1), some (.inl v2), some (.inl v3), some (.inl v4), some (.inl ((M 45 (M 50 v3.toNatClampNeg).toNatClampNeg) - (M 45 (M 50 v4.toNatClampNeg).toNatClampNeg))), none]) dX9_crossed_63 (by decide) rfl ?_
      refine go_aload_n (pc := 65) dX9_crossed_65 rfl ?_
      refine go_iload_n (pc := 66) dX9_crossed_66 rfl ?_
      refine go_iload_n (pc := 67) dX9_crossed_67 rfl ?_
      obtain ⟨u5, c6, h⟩ := g_bd h
      refine go_callV (pc := 68) (as := [.inl v3, .inl v1]) (st := []) (r := u5.1) (M1 := u5.2) (z_X9_middleBy hok  c6) cw_X9_middleBy ml_X9_243 (show g_lay[41]? = some _ from rfl) rfl rfl (by decide) (Nat.le_of_ble_eq_true rfl) rfl dX9_crossed_68 ?_
      refine go_aload_n (pc := 71) dX9_crossed_71 rfl ?_
      refine go_iload (pc := 72) dX9_crossed_72 rfl ?_
      refine go_iload_n (pc := 74) dX9_crossed_74 rfl ?_
      obtain ⟨u7, c8, h⟩ := g_bd h
      refine go_callV (pc := 75) (as := [.inl v4, .inl v1]) (st := [.inl u5.1]) (r := u7.1) (M1 := u7.2) (z_X9_middleBy hok  c8) cw_X9_middleBy ml_X9_243 (show g_lay[41]? = some _ from rfl) rfl rfl (by decide) (Nat.le_of_ble_eq_true rfl) rfl dX9_crossed_75 ?_
      refine go_isub (pc := 78) dX9_crossed_78 ?_
      refine go_istore (pc := 79) (lv' := [some (.inr 41), some (.inl v1), some (.inl v2), some (.inl v3), some (.inl v4), some (.inl ((M 45 (M 50 v3.toNatClampNeg).toNatClampNeg) - (M 45 (M 50 v4.toNatClampNeg).toNatClampNeg))), some (.inl (u5.1 - u7.1))]) dX9_crossed_79 (by decide) rfl ?_
      refine go_iload_n (pc := 81) dX9_crossed_81 rfl ?_
      refine go_iload (pc := 82) dX9_crossed_82 rfl ?_
      refine go_iload (pc := 84) dX9_crossed_84 rfl ?_
      refine go_imul (pc := 86) dX9_crossed_86 ?_
      refine go_if_ge (pc := 87) (tgt := 94) dX9_crossed_87 (by decide) (fun e9 => ?_) (fun e9 => ?_)
      · replace h := (if_pos e9).symm.trans h
        refine go_iconst (pc := 94) (v := (0 : Int32)) dX9_crossed_94 (by decide) ?_
        refine go_iadd (pc := 95) dX9_crossed_95 ?_
        refine go_istore_n (pc := 96) (lv' := [some (.inr 41), some (.inl v1), some (.inl (v2 + (0 : Int32))), some (.inl v3), some (.inl v4), some (.inl ((M 45 (M 50 v3.toNatClampNeg).toNatClampNeg) - (M 45 (M 50 v4.toNatClampNeg).toNatClampNeg))), some (.inl (u5.1 - u7.1))]) dX9_crossed_96 (by decide) rfl ?_
        refine go_iinc (pc := 97) (v := (1 : Int32)) (lv' := [some (.inr 41), some (.inl v1), some (.inl (v2 + (0 : Int32))), some (.inl v3), some (.inl (v4 + (1 : Int32))), some (.inl ((M 45 (M 50 v3.toNatClampNeg).toNatClampNeg) - (M 45 (M 50 v4.toNatClampNeg).toNatClampNeg))), some (.inl (u5.1 - u7.1))]) dX9_crossed_97 rfl (by decide) (by decide) rfl ?_
        refine go_goto (pc := 100) (tgt := 30) dX9_crossed_100 (by decide) ?_
        exact go_to (ih _ _ _ _ _ h) (And.intro rfl (And.intro rfl (And.intro rfl (And.intro rfl (And.intro rfl trivial)))))
      · replace h := (if_neg e9).symm.trans h
        refine go_iconst (pc := 90) (v := (1 : Int32)) dX9_crossed_90 (by decide) ?_
        refine go_goto (pc := 91) (tgt := 95) dX9_crossed_91 (by decide) ?_
        refine go_iadd (pc := 95) dX9_crossed_95 ?_
        refine go_istore_n (pc := 96) (lv' := [some (.inr 41), some (.inl v1), some (.inl (v2 + (1 : Int32))), some (.inl v3), some (.inl v4), some (.inl ((M 45 (M 50 v3.toNatClampNeg).toNatClampNeg) - (M 45 (M 50 v4.toNatClampNeg).toNatClampNeg))), some (.inl (u5.1 - u7.1))]) dX9_crossed_96 (by decide) rfl ?_
        refine go_iinc (pc := 97) (v := (1 : Int32)) (lv' := [some (.inr 41), some (.inl v1), some (.inl (v2 + (1 : Int32))), some (.inl v3), some (.inl (v4 + (1 : Int32))), some (.inl ((M 45 (M 50 v3.toNatClampNeg).toNatClampNeg) - (M 45 (M 50 v4.toNatClampNeg).toNatClampNeg))), some (.inl (u5.1 - u7.1))]) dX9_crossed_97 rfl (by decide) (by decide) rfl ?_
        refine go_goto (pc := 100) (tgt := 30) dX9_crossed_100 (by decide) ?_
        exact go_to (ih _ _ _ _ _ h) (And.intro rfl (And.intro rfl (And.intro rfl (And.intro rfl (And.intro rfl trivial)))))
def x_X9_crossed_L17   : Nat → Int32 → Int32 → Int32 → g_M → Option (Int32 × g_M)
  | 0, _, _, _, _ => none
  | n + 1, v1, v2, v3, M => (if (M 41 16) ≤ v3 then (some (v2, M)) else (x_X9_crossed_L30  (x_X9_crossed_L17   n) g_F v1 v2 v3 (v3 + (1 : Int32)) M))
set_option maxHeartbeats 4000000 in
set_option maxRecDepth 100000 in
theorem z_X9_crossed_L17 {X : g_X} (hok : g_ok X)  {r : Int32 × g_M}  : ∀ (n : Nat) (v1 : Int32) (v2 : Int32) (v3 : Int32) (M : g_M), x_X9_crossed_L17   n v1 v2 v3 M = some r → g_Go X cX9_crossed RX9 7 (some .int) 6 139 r 17 [some (.inr 41), some (.inl v1), some (.inl v2), some (.inl v3), none, none, none] [] M := by
  intro n
  induction n with
  | zero =>
    intro v1 v2 v3 M h
    rw [x_X9_crossed_L17] at h
    cases h
  | succ n ih =>
    intro v1 v2 v3 M h
    rw [x_X9_crossed_L17] at h
    refine go_iload_n (pc := 17) dX9_crossed_17 rfl ?_
    refine go_aload_n (pc := 18) dX9_crossed_18 rfl ?_
    refine gf_9_114 (pc := 19) dX9_crossed_19 ?_
    refine go_icmp_ge (pc := 22) (tgt := 109) dX9_crossed_22 (by decide) (fun e11 => ?_) (fun e11 => ?_)
    · replace h := (if_pos e11).symm.trans h
      refine go_iload_n (pc := 109) dX9_crossed_109 rfl ?_
      exact go_iret (pc := 110) (Option.some.inj h).symm rfl dX9_crossed_110 rfl
    · replace h := (if_neg e11).symm.trans h
      refine go_iload_n (pc := 25) dX9_crossed_25 rfl ?_
      refine go_iconst (pc := 26) (v := (1 : Int32)) dX9_crossed_26 (by decide) ?_
      refine go_iadd (pc := 27) dX9_crossed_27 ?_
      refine go_istore (pc := 28) (lv' := [some (.inr 41), some (.inl v1), some (.inl v2), some (.inl v3), some (.inl (v3 + (1 : Int32))), none, none]) dX9_crossed_28 (by decide) rfl ?_
      exact go_to (z_X9_crossed_L30 hok  (ih) g_F _ _ _ _ _ h) (And.intro rfl (And.intro rfl (And.intro rfl (And.intro rfl (And.intro rfl trivial)))))
def x_X9_crossed  (p1 : Int32) (M : g_M) : Option (Int32 × g_M) := (((x_X9_isHour p1 M).bind fun u12 => if u12.1 = 0 then (((x_X9_no (-1 : Int32) u12.2).bind fun u14 => some (u14.1, u14.2))) else (x_X9_crossed_L17   g_F p1 (0 : Int32) (0 : Int32) u12.2)))
set_option maxHeartbeats 4000000 in
set_option maxRecDepth 100000 in
theorem z_X9_crossed {X : g_X} (hok : g_ok X)  {p1 : Int32} {M : g_M} {r : Int32 × g_M} (h : x_X9_crossed p1 M = some r) : g_Con X yX9_crossed cX9_crossed 7 (some .int) 6 139 [.inr 41, .inl p1] M r := by
  rw [x_X9_crossed] at h
  refine g_con hok (plainFor_of_name (by decide +kernel)) (Nat.le_of_ble_eq_true rfl) (go_to (lv2 := [some (.inr 41), some (.inl p1), none, none, none, none, none]) (own := RX9) ?_ (And.intro rfl (And.intro rfl trivial)))
  refine go_iload_n (pc := 0) dX9_crossed_0 rfl ?_
  obtain ⟨u12, c13, h⟩ := g_bd h
  refine go_callS (pc := 1) (as := [.inl p1]) (st := []) (r := u12.1) (M1 := u12.2) (z_X9_isHour hok  c13) cw_X9_isHour ml_X9_159 (by decide) (Nat.le_of_ble_eq_true rfl) rfl dX9_crossed_1 ?_
  refine go_if_ne (pc := 4) (tgt := 13) dX9_crossed_4 (by decide) (fun e16 => ?_) (fun e16 => ?_)
  · replace h := (if_neg e16).symm.trans h
    refine go_iconst (pc := 13) (v := (0 : Int32)) dX9_crossed_13 (by decide) ?_
    refine go_istore_n (pc := 14) (lv' := [some (.inr 41), some (.inl p1), some (.inl (0 : Int32)), none, none, none, none]) dX9_crossed_14 (by decide) rfl ?_
    refine go_iconst (pc := 15) (v := (0 : Int32)) dX9_crossed_15 (by decide) ?_
    refine go_istore_n (pc := 16) (lv' := [some (.inr 41), some (.inl p1), some (.inl (0 : Int32)), some (.inl (0 : Int32)), none, none, none]) dX9_crossed_16 (by decide) rfl ?_
    exact go_to (z_X9_crossed_L17 hok   g_F _ _ _ _ h) (And.intro rfl (And.intro rfl (And.intro rfl (And.intro rfl trivial))))
  · replace h := (if_pos e16).symm.trans h
    refine go_aload_n (pc := 7) dX9_crossed_7 rfl ?_
    refine go_iconst (pc := 8) (v := (-1 : Int32)) dX9_crossed_8 (by decide) ?_
    obtain ⟨u14, c15, h⟩ := g_bd h
    refine go_callV (pc := 9) (as := [.inl (-1 : Int32)]) (st := []) (r := u14.1) (M1 := u14.2) (z_X9_no hok  c15) cw_X9_no ml_X9_124 (show g_lay[41]? = some _ from rfl) rfl rfl (by decide) (Nat.le_of_ble_eq_true rfl) rfl dX9_crossed_9 ?_
    exact go_iret (pc := 12) (Option.some.inj h).symm rfl dX9_crossed_12 rfl
def x_X9_hung_L70   : Nat → Int32 → Int32 → Int32 → Int32 → Int32 → Int32 → Int32 → g_M → Option (Int32 × g_M)
  | 0, _, _, _, _, _, _, _, _ => none
  | n + 1, v1, v2, v3, v5, v6, v7, v8, M => (if ((M 41 15) * (100 : Int32)) ≤ v8 then ((if g_inb v1 5 = true then (if v3 = 0 then (some (v6, (g_upd M 50 v1.toNatClampNeg v5))) else (some (v7, (g_upd M 50 v1.toNatClampNeg v5)))) else none)) else ((if g_inb v1 5 = true then (((x_X9_hangHours v1 (v8 - v8 / (100 : Int32) * (100 : Int32)) (g_upd M 50 v1.toNatClampNeg (v8 / (100 : Int32)))).bind fun u4 => if u4.1 = v2 then (if v6 = 0 then (x_X9_hung_L70   n v1 v2 v3 v5 (v6 + (1 : Int32)) v8 (v8 + (1 : Int32)) u4.2) else (x_X9_hung_L70   n v1 v2 v3 v5 (v6 + (1 : Int32)) v7 (v8 + (1 : Int32)) u4.2)) else (x_X9_hung_L70   n v1 v2 v3 v5 v6 v7 (v8 + (1 : Int32)) u4.2))) else none)))
set_option maxHeartbeats 4000000 in
set_option maxRecDepth 100000 in
theorem z_X9_hung_L70 {X : g_X} (hok : g_ok X)  {r : Int32 × g_M}  : ∀ (n : Nat) (v1 : Int32) (v2 : Int32) (v3 : Int32) (v5 : Int32) (v6 : Int32) (v7 : Int32) (v8 : Int32) (M : g_M), x_X9_hung_L70   n v1 v2 v3 v5 v6 v7 v8 M = some r → g_Go X cX9_hung RX9 9 (some .int) 4 93 r 70 [some (.inr 41), some (.inl v1), some (.inl v2), some (.inl v3), none, some (.inl v5), some (.inl v6), some (.inl v7), some (.inl v8)] [] M := by
  intro n
  induction n with
  | zero =>
    intro v1 v2 v3 v5 v6 v7 v8 M h
    rw [x_X9_hung_L70] at h
    cases h
  | succ n ih =>
    intro v1 v2 v3 v5 v6 v7 v8 M h
    rw [x_X9_hung_L70] at h
    refine go_iload (pc := 70) dX9_hung_70 rfl ?_
    refine go_aload_n (pc := 72) dX9_hung_72 rfl ?_
    refine gf_9_110 (pc := 73) dX9_hung_73 ?_
    refine go_bipush (pc := 76) (v := (100 : Int32)) dX9_hung_76 (by decide) ?_
    refine go_imul (pc := 78) dX9_hung_78 ?_
    refine go_icmp_ge (pc := 79) (tgt := 133) dX9_hung_79 (by decide) (fun e8 => ?_) (fun e8 => ?_)
    · replace h := (if_pos e8).symm.trans h
      refine go_aload_n (pc := 133) dX9_hung_133 rfl ?_
      refine gf_9_34 (pc := 134) dX9_hung_134 ?_
      refine go_iload_n (pc := 137) dX9_hung_137 rfl ?_
      refine go_iload (pc := 138) dX9_hung_138 rfl ?_
      obtain ⟨i1, h⟩ := g_gd h
      refine go_iast (pc := 140) (n := 5) rfl (g_inb_ok i1) dX9_hung_140 ?_
      refine go_iload_n (pc := 141) dX9_hung_141 rfl ?_
      refine go_if_ne (pc := 142) (tgt := 150) dX9_hung_142 (by decide) (fun e2 => ?_) (fun e2 => ?_)
      · replace h := (if_neg e2).symm.trans h
        refine go_iload (pc := 150) dX9_hung_150 rfl ?_
        exact go_iret (pc := 152) (Option.some.inj h).symm rfl dX9_hung_152 rfl
      · replace h := (if_pos e2).symm.trans h
        refine go_iload (pc := 145) dX9_hung_145 rfl ?_
        refine go_goto (pc := 147) (tgt := 152) dX9_hung_147 (by decide) ?_
        exact go_iret (pc := 152) (Option.some.inj h).symm rfl dX9_hung_152 rfl
    · replace h := (if_neg e8).symm.trans h
      refine go_aload_n (pc := 82) dX9_hung_82 rfl ?_
      refine gf_9_34 (pc := 83) dX9_hung_83 ?_
      refine go_iload_n (pc := 86) dX9_hung_86 rfl ?_
      refine go_iload (pc := 87) dX9_hung_87 rfl ?_
      refine go_bipush (pc := 89) (v := (100 : Int32)) dX9_hung_89 (by decide) ?_
      refine go_idiv (pc := 91) dX9_hung_91 (by decide) ?_
      obtain ⟨i3, h⟩ := g_gd h
      refine go_iast (pc := 92) (n := 5) rfl (g_inb_ok i3) dX9_hung_92 ?_
      refine go_aload_n (pc := 93) dX9_hung_93 rfl ?_
      refine go_iload_n (pc := 94) dX9_hung_94 rfl ?_
      refine go_iload (pc := 95) dX9_hung_95 rfl ?_
      refine go_bipush (pc := 97) (v := (100 : Int32)) dX9_hung_97 (by decide) ?_
      refine go_irem (pc := 99) dX9_hung_99 (by decide) ?_
      obtain ⟨u4, c5, h⟩ := g_bd h
      refine go_callV (pc := 100) (as := [.inl v1, .inl (v8 - v8 / (100 : Int32) * (100 : Int32))]) (st := []) (r := u4.1) (M1 := u4.2) (z_X9_hangHours hok  c5) cw_X9_hangHours ml_X9_246 (show g_lay[41]? = some _ from rfl) rfl rfl (by decide) (Nat.le_of_ble_eq_true rfl) rfl dX9_hung_100 ?_
      refine go_iload_n (pc := 103) dX9_hung_103 rfl ?_
      refine go_icmp_eq (pc := 104) (tgt := 110) dX9_hung_104 (by decide) (fun e7 => ?_) (fun e7 => ?_)
      · replace h := (if_pos e7).symm.trans h
        refine go_iload (pc := 110) dX9_hung_110 rfl ?_
        refine go_if_ne (pc := 112) (tgt := 120) dX9_hung_112 (by decide) (fun e6 => ?_) (fun e6 => ?_)
        · replace h := (if_neg e6).symm.trans h
          refine go_iload (pc := 120) dX9_hung_120 rfl ?_
          refine go_istore (pc := 122) (lv' := [some (.inr 41), some (.inl v1), some (.inl v2), some (.inl v3), none, some (.inl v5), some (.inl v6), some (.inl v7), some (.inl v8)]) dX9_hung_122 (by decide) rfl ?_
          refine go_iinc (pc := 124) (v := (1 : Int32)) (lv' := [some (.inr 41), some (.inl v1), some (.inl v2), some (.inl v3), none, some (.inl v5), some (.inl (v6 + (1 : Int32))), some (.inl v7), some (.inl v8)]) dX9_hung_124 rfl (by decide) (by decide) rfl ?_
          refine go_iinc (pc := 127) (v := (1 : Int32)) (lv' := [some (.inr 41), some (.inl v1), some (.inl v2), some (.inl v3), none, some (.inl v5), some (.inl (v6 + (1 : Int32))), some (.inl v7), some (.inl (v8 + (1 : Int32)))]) dX9_hung_127 rfl (by decide) (by decide) rfl ?_
          refine go_goto (pc := 130) (tgt := 70) dX9_hung_130 (by decide) ?_
          exact go_to (ih _ _ _ _ _ _ _ _ h) (And.intro rfl (And.intro rfl (And.intro rfl (And.intro rfl (And.intro rfl (And.intro rfl (And.intro rfl (And.intro rfl trivial))))))))
        · replace h := (if_pos e6).symm.trans h
          refine go_iload (pc := 115) dX9_hung_115 rfl ?_
          refine go_goto (pc := 117) (tgt := 122) dX9_hung_117 (by decide) ?_
          refine go_istore (pc := 122) (lv' := [some (.inr 41), some (.inl v1), some (.inl v2), some (.inl v3), none, some (.inl v5), some (.inl v6), some (.inl v8), some (.inl v8)]) dX9_hung_122 (by decide) rfl ?_
          refine go_iinc (pc := 124) (v := (1 : Int32)) (lv' := [some (.inr 41), some (.inl v1), some (.inl v2), some (.inl v3), none, some (.inl v5), some (.inl (v6 + (1 : Int32))), some (.inl v8), some (.inl v8)]) dX9_hung_124 rfl (by decide) (by decide) rfl ?_
          refine go_iinc (pc := 127) (v := (1 : Int32)) (lv' := [some (.inr 41), some (.inl v1), some (.inl v2), some (.inl v3), none, some (.inl v5), some (.inl (v6 + (1 : Int32))), some (.inl v8), some (.inl (v8 + (1 : Int32)))]) dX9_hung_127 rfl (by decide) (by decide) rfl ?_
          refine go_goto (pc := 130) (tgt := 70) dX9_hung_130 (by decide) ?_
          exact go_to (ih _ _ _ _ _ _ _ _ h) (And.intro rfl (And.intro rfl (And.intro rfl (And.intro rfl (And.intro rfl (And.intro rfl (And.intro rfl (And.intro rfl trivial))))))))
      · replace h := (if_neg e7).symm.trans h
        refine go_goto (pc := 107) (tgt := 127) dX9_hung_107 (by decide) ?_
        refine go_iinc (pc := 127) (v := (1 : Int32)) (lv' := [some (.inr 41), some (.inl v1), some (.inl v2), some (.inl v3), none, some (.inl v5), some (.inl v6), some (.inl v7), some (.inl (v8 + (1 : Int32)))]) dX9_hung_127 rfl (by decide) (by decide) rfl ?_
        refine go_goto (pc := 130) (tgt := 70) dX9_hung_130 (by decide) ?_
        exact go_to (ih _ _ _ _ _ _ _ _ h) (And.intro rfl (And.intro rfl (And.intro rfl (And.intro rfl (And.intro rfl (And.intro rfl (And.intro rfl (And.intro rfl trivial))))))))
def x_X9_hung_L40   (v1 : Int32) (v2 : Int32) (v3 : Int32) (v4 : Int32) (M : g_M) : Option (Int32 × g_M) := (if v4 = 0 then ((if g_inb v1 5 = true then (x_X9_hung_L70   g_F v1 v2 v3 (M 50 v1.toNatClampNeg) (0 : Int32) (-9 : Int32) (0 : Int32) M) else none)) else (((x_X9_no v4 M).bind fun u10 => some (u10.1, u10.2))))
set_option maxHeartbeats 4000000 in
set_option maxRecDepth 100000 in
theorem z_X9_hung_L40 {X : g_X} (hok : g_ok X)  {r : Int32 × g_M}  {v1 : Int32} {v2 : Int32} {v3 : Int32} {v4 : Int32} {M : g_M} (h : x_X9_hung_L40   v1 v2 v3 v4 M = some r) : g_Go X cX9_hung RX9 9 (some .int) 4 93 r 40 [some (.inr 41), some (.inl v1), some (.inl v2), some (.inl v3), some (.inl v4), none, none, none, none] [] M := by
  rw [x_X9_hung_L40] at h
  refine go_iload (pc := 40) dX9_hung_40 rfl ?_
  refine go_if_eq (pc := 42) (tgt := 52) dX9_hung_42 (by decide) (fun e12 => ?_) (fun e12 => ?_)
  · replace h := (if_pos e12).symm.trans h
    refine go_aload_n (pc := 52) dX9_hung_52 rfl ?_
    refine gf_9_34 (pc := 53) dX9_hung_53 ?_
    refine go_iload_n (pc := 56) dX9_hung_56 rfl ?_
    obtain ⟨i9, h⟩ := g_gd h
    refine go_iald (pc := 57) (n := 5) rfl (g_inb_ok i9) dX9_hung_57 ?_
    refine go_istore (pc := 58) (lv' := [some (.inr 41), some (.inl v1), some (.inl v2), some (.inl v3), some (.inl v4), some (.inl (M 50 v1.toNatClampNeg)), none, none, none]) dX9_hung_58 (by decide) rfl ?_
    refine go_iconst (pc := 60) (v := (0 : Int32)) dX9_hung_60 (by decide) ?_
    refine go_istore (pc := 61) (lv' := [some (.inr 41), some (.inl v1), some (.inl v2), some (.inl v3), some (.inl v4), some (.inl (M 50 v1.toNatClampNeg)), some (.inl (0 : Int32)), none, none]) dX9_hung_61 (by decide) rfl ?_
    refine go_bipush (pc := 63) (v := (-9 : Int32)) dX9_hung_63 (by decide) ?_
    refine go_istore (pc := 65) (lv' := [some (.inr 41), some (.inl v1), some (.inl v2), some (.inl v3), some (.inl v4), some (.inl (M 50 v1.toNatClampNeg)), some (.inl (0 : Int32)), some (.inl (-9 : Int32)), none]) dX9_hung_65 (by decide) rfl ?_
    refine go_iconst (pc := 67) (v := (0 : Int32)) dX9_hung_67 (by decide) ?_
    refine go_istore (pc := 68) (lv' := [some (.inr 41), some (.inl v1), some (.inl v2), some (.inl v3), some (.inl v4), some (.inl (M 50 v1.toNatClampNeg)), some (.inl (0 : Int32)), some (.inl (-9 : Int32)), some (.inl (0 : Int32))]) dX9_hung_68 (by decide) rfl ?_
    exact go_to (z_X9_hung_L70 hok   g_F _ _ _ _ _ _ _ _ h) (And.intro rfl (And.intro rfl (And.intro rfl (And.intro rfl (And.intro rfl (And.intro rfl (And.intro rfl (And.intro rfl trivial))))))))
  · replace h := (if_neg e12).symm.trans h
    refine go_aload_n (pc := 45) dX9_hung_45 rfl ?_
    refine go_iload (pc := 46) dX9_hung_46 rfl ?_
    obtain ⟨u10, c11, h⟩ := g_bd h
    refine go_callV (pc := 48) (as := [.inl v4]) (st := []) (r := u10.1) (M1 := u10.2) (z_X9_no hok  c11) cw_X9_no ml_X9_124 (show g_lay[41]? = some _ from rfl) rfl rfl (by decide) (Nat.le_of_ble_eq_true rfl) rfl dX9_hung_48 ?_
    exact go_iret (pc := 51) (Option.some.inj h).symm rfl dX9_hung_51 rfl
def x_X9_hung_L20   (v1 : Int32) (v2 : Int32) (v3 : Int32) (s0 : Int32) (M : g_M) : Option (Int32 × g_M) := (if s0 = 0 then (((x_X9_isIn v3 (0 : Int32) (1 : Int32) M).bind fun u13 => if u13.1 = 0 then (x_X9_hung_L40   v1 v2 v3 (-2 : Int32) u13.2) else (x_X9_hung_L40   v1 v2 v3 s0 u13.2))) else (x_X9_hung_L40   v1 v2 v3 s0 M))
set_option maxHeartbeats 4000000 in
set_option maxRecDepth 100000 in
theorem z_X9_hung_L20 {X : g_X} (hok : g_ok X)  {r : Int32 × g_M}  {v1 : Int32} {v2 : Int32} {v3 : Int32} {s0 : Int32} {M : g_M} (h : x_X9_hung_L20   v1 v2 v3 s0 M = some r) : g_Go X cX9_hung RX9 9 (some .int) 4 93 r 20 [some (.inr 41), some (.inl v1), some (.inl v2), some (.inl v3), none, none, none, none, none] [.inl s0] M := by
  rw [x_X9_hung_L20] at h
  refine go_istore (pc := 20) (lv' := [some (.inr 41), some (.inl v1), some (.inl v2), some (.inl v3), some (.inl s0), none, none, none, none]) dX9_hung_20 (by decide) rfl ?_
  refine go_iload (pc := 22) dX9_hung_22 rfl ?_
  refine go_if_ne (pc := 24) (tgt := 40) dX9_hung_24 (by decide) (fun e16 => ?_) (fun e16 => ?_)
  · replace h := (if_neg e16).symm.trans h
    exact go_to (z_X9_hung_L40 hok   h) (And.intro rfl (And.intro rfl (And.intro rfl (And.intro rfl (And.intro rfl trivial)))))
  · replace h := (if_pos e16).symm.trans h
    refine go_iload_n (pc := 27) dX9_hung_27 rfl ?_
    refine go_iconst (pc := 28) (v := (0 : Int32)) dX9_hung_28 (by decide) ?_
    refine go_iconst (pc := 29) (v := (1 : Int32)) dX9_hung_29 (by decide) ?_
    obtain ⟨u13, c14, h⟩ := g_bd h
    refine go_callS (pc := 30) (as := [.inl v3, .inl (0 : Int32), .inl (1 : Int32)]) (st := []) (r := u13.1) (M1 := u13.2) (z_X9_isIn hok  c14) cw_X9_isIn ml_X9_135 (by decide) (Nat.le_of_ble_eq_true rfl) rfl dX9_hung_30 ?_
    refine go_if_ne (pc := 33) (tgt := 40) dX9_hung_33 (by decide) (fun e15 => ?_) (fun e15 => ?_)
    · replace h := (if_neg e15).symm.trans h
      exact go_to (z_X9_hung_L40 hok   h) (And.intro rfl (And.intro rfl (And.intro rfl (And.intro rfl (And.intro rfl trivial)))))
    · replace h := (if_pos e15).symm.trans h
      refine go_bipush (pc := 36) (v := (-2 : Int32)) dX9_hung_36 (by decide) ?_
      refine go_istore (pc := 38) (lv' := [some (.inr 41), some (.inl v1), some (.inl v2), some (.inl v3), some (.inl (-2 : Int32)), none, none, none, none]) dX9_hung_38 (by decide) rfl ?_
      exact go_to (z_X9_hung_L40 hok   h) (And.intro rfl (And.intro rfl (And.intro rfl (And.intro rfl (And.intro rfl trivial)))))
def x_X9_hung  (p1 p2 p3 : Int32) (M : g_M) : Option (Int32 × g_M) := (((x_X9_isBoat p1 M).bind fun u17 => if u17.1 = 0 then (x_X9_hung_L20   p1 p2 p3 (-1 : Int32) u17.2) else (((x_X9_bound p2 (0 : Int32) (4095 : Int32) u17.2).bind fun u19 => x_X9_hung_L20   p1 p2 p3 u19.1 u19.2))))
set_option maxHeartbeats 4000000 in
set_option maxRecDepth 100000 in
theorem z_X9_hung {X : g_X} (hok : g_ok X)  {p1 p2 p3 : Int32} {M : g_M} {r : Int32 × g_M} (h : x_X9_hung p1 p2 p3 M = some r) : g_Con X yX9_hung cX9_hung 9 (some .int) 4 93 [.inr 41, .inl p1, .inl p2, .inl p3] M r := by
  rw [x_X9_hung] at h
  refine g_con hok (plainFor_of_name (by decide +kernel)) (Nat.le_of_ble_eq_true rfl) (go_to (lv2 := [some (.inr 41), some (.inl p1), some (.inl p2), some (.inl p3), none, none, none, none, none]) (own := RX9) ?_ (And.intro rfl (And.intro rfl (And.intro rfl (And.intro rfl trivial)))))
  refine go_aload_n (pc := 0) dX9_hung_0 rfl ?_
  refine go_iload_n (pc := 1) dX9_hung_1 rfl ?_
  obtain ⟨u17, c18, h⟩ := g_bd h
  refine go_callV (pc := 2) (as := [.inl p1]) (st := []) (r := u17.1) (M1 := u17.2) (z_X9_isBoat hok  c18) cw_X9_isBoat ml_X9_168 (show g_lay[41]? = some _ from rfl) rfl rfl (by decide) (Nat.le_of_ble_eq_true rfl) rfl dX9_hung_2 ?_
  refine go_if_ne (pc := 5) (tgt := 12) dX9_hung_5 (by decide) (fun e21 => ?_) (fun e21 => ?_)
  · replace h := (if_neg e21).symm.trans h
    refine go_iload_n (pc := 12) dX9_hung_12 rfl ?_
    refine go_iconst (pc := 13) (v := (0 : Int32)) dX9_hung_13 (by decide) ?_
    refine go_sipush (pc := 14) (v := (4095 : Int32)) dX9_hung_14 (by decide) ?_
    obtain ⟨u19, c20, h⟩ := g_bd h
    refine go_callS (pc := 17) (as := [.inl p2, .inl (0 : Int32), .inl (4095 : Int32)]) (st := []) (r := u19.1) (M1 := u19.2) (z_X9_bound hok  c20) cw_X9_bound ml_X9_117 (by decide) (Nat.le_of_ble_eq_true rfl) rfl dX9_hung_17 ?_
    exact go_to (z_X9_hung_L20 hok   h) (And.intro rfl (And.intro rfl (And.intro rfl (And.intro rfl trivial))))
  · replace h := (if_pos e21).symm.trans h
    refine go_iconst (pc := 8) (v := (-1 : Int32)) dX9_hung_8 (by decide) ?_
    refine go_goto (pc := 9) (tgt := 20) dX9_hung_9 (by decide) ?_
    exact go_to (z_X9_hung_L20 hok   h) (And.intro rfl (And.intro rfl (And.intro rfl (And.intro rfl trivial))))
def x_X9_worthTo_L8   : Nat → Int32 → Int32 → Int32 → g_M → Option (Int32 × g_M)
  | 0, _, _, _, _ => none
  | n + 1, v1, v3, v4, M => (if (12 : Int32) ≤ v4 then ((if g_inb v1 5 = true then (((x_X9_hangHours v1 (M 52 v1.toNatClampNeg) M).bind fun u2 => ((x_X9_bits u2.1 u2.2).bind fun u4 => some ((v3 - ((99 : Int32) * u4.1)), u4.2)))) else none)) else (((x_X9_outAt v1 v4 M).bind fun u6 => x_X9_worthTo_L8   n v1 (v3 + u6.1) (v4 + (1 : Int32)) u6.2)))
set_option maxHeartbeats 4000000 in
set_option maxRecDepth 100000 in
theorem z_X9_worthTo_L8 {X : g_X} (hok : g_ok X)  {r : Int32 × g_M}  : ∀ (n : Nat) (v1 : Int32) (v3 : Int32) (v4 : Int32) (M : g_M), x_X9_worthTo_L8   n v1 v3 v4 M = some r → g_Go X cX9_worthTo RX9 5 (some .int) 5 115 r 8 [some (.inr 41), some (.inl v1), none, some (.inl v3), some (.inl v4)] [] M := by
  intro n
  induction n with
  | zero =>
    intro v1 v3 v4 M h
    rw [x_X9_worthTo_L8] at h
    cases h
  | succ n ih =>
    intro v1 v3 v4 M h
    rw [x_X9_worthTo_L8] at h
    refine go_iload (pc := 8) dX9_worthTo_8 rfl ?_
    refine go_bipush (pc := 10) (v := (12 : Int32)) dX9_worthTo_10 (by decide) ?_
    refine go_icmp_ge (pc := 12) (tgt := 31) dX9_worthTo_12 (by decide) (fun e8 => ?_) (fun e8 => ?_)
    · replace h := (if_pos e8).symm.trans h
      refine go_iload_n (pc := 31) dX9_worthTo_31 rfl ?_
      refine go_bipush (pc := 32) (v := (99 : Int32)) dX9_worthTo_32 (by decide) ?_
      refine go_aload_n (pc := 34) dX9_worthTo_34 rfl ?_
      refine go_iload_n (pc := 35) dX9_worthTo_35 rfl ?_
      refine go_aload_n (pc := 36) dX9_worthTo_36 rfl ?_
      refine gf_9_40 (pc := 37) dX9_worthTo_37 ?_
      refine go_iload_n (pc := 40) dX9_worthTo_40 rfl ?_
      obtain ⟨i1, h⟩ := g_gd h
      refine go_iald (pc := 41) (n := 5) rfl (g_inb_ok i1) dX9_worthTo_41 ?_
      obtain ⟨u2, c3, h⟩ := g_bd h
      refine go_callV (pc := 42) (as := [.inl v1, .inl (M 52 v1.toNatClampNeg)]) (st := [.inl (99 : Int32), .inl v3]) (r := u2.1) (M1 := u2.2) (z_X9_hangHours hok  c3) cw_X9_hangHours ml_X9_246 (show g_lay[41]? = some _ from rfl) rfl rfl (by decide) (Nat.le_of_ble_eq_true rfl) rfl dX9_worthTo_42 ?_
      obtain ⟨u4, c5, h⟩ := g_bd h
      refine go_callS (pc := 45) (as := [.inl u2.1]) (st := [.inl (99 : Int32), .inl v3]) (r := u4.1) (M1 := u4.2) (z_X9_bits hok  c5) cw_X9_bits ml_X9_273 (by decide) (Nat.le_of_ble_eq_true rfl) rfl dX9_worthTo_45 ?_
      refine go_imul (pc := 48) dX9_worthTo_48 ?_
      refine go_isub (pc := 49) dX9_worthTo_49 ?_
      exact go_iret (pc := 50) (Option.some.inj h).symm rfl dX9_worthTo_50 rfl
    · replace h := (if_neg e8).symm.trans h
      refine go_iload_n (pc := 15) dX9_worthTo_15 rfl ?_
      refine go_aload_n (pc := 16) dX9_worthTo_16 rfl ?_
      refine go_iload_n (pc := 17) dX9_worthTo_17 rfl ?_
      refine go_iload (pc := 18) dX9_worthTo_18 rfl ?_
      obtain ⟨u6, c7, h⟩ := g_bd h
      refine go_callV (pc := 20) (as := [.inl v1, .inl v4]) (st := [.inl v3]) (r := u6.1) (M1 := u6.2) (z_X9_outAt hok  c7) cw_X9_outAt ml_X9_230 (show g_lay[41]? = some _ from rfl) rfl rfl (by decide) (Nat.le_of_ble_eq_true rfl) rfl dX9_worthTo_20 ?_
      refine go_iadd (pc := 23) dX9_worthTo_23 ?_
      refine go_istore_n (pc := 24) (lv' := [some (.inr 41), some (.inl v1), none, some (.inl (v3 + u6.1)), some (.inl v4)]) dX9_worthTo_24 (by decide) rfl ?_
      refine go_iinc (pc := 25) (v := (1 : Int32)) (lv' := [some (.inr 41), some (.inl v1), none, some (.inl (v3 + u6.1)), some (.inl (v4 + (1 : Int32)))]) dX9_worthTo_25 rfl (by decide) (by decide) rfl ?_
      refine go_goto (pc := 28) (tgt := 8) dX9_worthTo_28 (by decide) ?_
      exact go_to (ih _ _ _ _ h) (And.intro rfl (And.intro rfl (And.intro rfl (And.intro rfl trivial))))
def x_X9_worthTo  (p1 p2 : Int32) (M : g_M) : Option (Int32 × g_M) := (x_X9_worthTo_L8   g_F p1 ((-50 : Int32) * p2) (0 : Int32) M)
set_option maxHeartbeats 4000000 in
set_option maxRecDepth 100000 in
theorem z_X9_worthTo {X : g_X} (hok : g_ok X)  {p1 p2 : Int32} {M : g_M} {r : Int32 × g_M} (h : x_X9_worthTo p1 p2 M = some r) : g_Con X yX9_worthTo cX9_worthTo 5 (some .int) 5 115 [.inr 41, .inl p1, .inl p2] M r := by
  rw [x_X9_worthTo] at h
  refine g_con hok (plainFor_of_name (by decide +kernel)) (Nat.le_of_ble_eq_true rfl) (go_to (lv2 := [some (.inr 41), some (.inl p1), some (.inl p2), none, none]) (own := RX9) ?_ (And.intro rfl (And.intro rfl (And.intro rfl trivial))))
  refine go_bipush (pc := 0) (v := (-50 : Int32)) dX9_worthTo_0 (by decide) ?_
  refine go_iload_n (pc := 2) dX9_worthTo_2 rfl ?_
  refine go_imul (pc := 3) dX9_worthTo_3 ?_
  refine go_istore_n (pc := 4) (lv' := [some (.inr 41), some (.inl p1), some (.inl p2), some (.inl ((-50 : Int32) * p2)), none]) dX9_worthTo_4 (by decide) rfl ?_
  refine go_iconst (pc := 5) (v := (0 : Int32)) dX9_worthTo_5 (by decide) ?_
  refine go_istore (pc := 6) (lv' := [some (.inr 41), some (.inl p1), some (.inl p2), some (.inl ((-50 : Int32) * p2)), some (.inl (0 : Int32))]) dX9_worthTo_6 (by decide) rfl ?_
  exact go_to (z_X9_worthTo_L8 hok   g_F _ _ _ _ h) (And.intro rfl (And.intro rfl (And.intro rfl (And.intro rfl trivial))))
def x_X9_rests_L2   : Nat → Int32 → Int32 → g_M → Option (Int32 × g_M)
  | 0, _, _, _ => none
  | n + 1, v1, v2, M => (if (5 : Int32) ≤ v2 then (some ((1 : Int32), M)) else ((if g_inb (((5 : Int32) * v2) + (v1 - v1 / (5 : Int32) * (5 : Int32))) 25 = true then ((if g_inb v1 25 = true then (if (M 73 v1.toNatClampNeg) < (M 73 (((5 : Int32) * v2) + (v1 - v1 / (5 : Int32) * (5 : Int32))).toNatClampNeg) then (some ((0 : Int32), M)) else ((if g_inb (((v1 / (5 : Int32)) * (5 : Int32)) + v2) 25 = true then ((if g_inb v1 25 = true then (if (M 74 (((v1 / (5 : Int32)) * (5 : Int32)) + v2).toNatClampNeg) ≤ (M 74 v1.toNatClampNeg) then (x_X9_rests_L2   n v1 (v2 + (1 : Int32)) M) else (some ((0 : Int32), M))) else none)) else none))) else none)) else none)))
set_option maxHeartbeats 4000000 in
set_option maxRecDepth 100000 in
theorem z_X9_rests_L2 {X : g_X} (hok : g_ok X)  {r : Int32 × g_M}  : ∀ (n : Nat) (v1 : Int32) (v2 : Int32) (M : g_M), x_X9_rests_L2   n v1 v2 M = some r → g_Go X cX9_rests RX9 3 (some .boolean) 0 0 r 2 [some (.inr 41), some (.inl v1), some (.inl v2)] [] M := by
  intro n
  induction n with
  | zero =>
    intro v1 v2 M h
    rw [x_X9_rests_L2] at h
    cases h
  | succ n ih =>
    intro v1 v2 M h
    rw [x_X9_rests_L2] at h
    refine go_iload_n (pc := 2) dX9_rests_2 rfl ?_
    refine go_iconst (pc := 3) (v := (5 : Int32)) dX9_rests_3 (by decide) ?_
    refine go_icmp_ge (pc := 4) (tgt := 57) dX9_rests_4 (by decide) (fun e7 => ?_) (fun e7 => ?_)
    · replace h := (if_pos e7).symm.trans h
      refine go_iconst (pc := 57) (v := (1 : Int32)) dX9_rests_57 (by decide) ?_
      exact go_iret (pc := 58) (Option.some.inj h).symm rfl dX9_rests_58 rfl
    · replace h := (if_neg e7).symm.trans h
      refine go_aload_n (pc := 7) dX9_rests_7 rfl ?_
      refine gf_9_103 (pc := 8) dX9_rests_8 ?_
      refine go_iconst (pc := 11) (v := (5 : Int32)) dX9_rests_11 (by decide) ?_
      refine go_iload_n (pc := 12) dX9_rests_12 rfl ?_
      refine go_imul (pc := 13) dX9_rests_13 ?_
      refine go_iload_n (pc := 14) dX9_rests_14 rfl ?_
      refine go_iconst (pc := 15) (v := (5 : Int32)) dX9_rests_15 (by decide) ?_
      refine go_irem (pc := 16) dX9_rests_16 (by decide) ?_
      refine go_iadd (pc := 17) dX9_rests_17 ?_
      obtain ⟨i1, h⟩ := g_gd h
      refine go_iald (pc := 18) (n := 25) rfl (g_inb_ok i1) dX9_rests_18 ?_
      refine go_aload_n (pc := 19) dX9_rests_19 rfl ?_
      refine gf_9_103 (pc := 20) dX9_rests_20 ?_
      refine go_iload_n (pc := 23) dX9_rests_23 rfl ?_
      obtain ⟨i2, h⟩ := g_gd h
      refine go_iald (pc := 24) (n := 25) rfl (g_inb_ok i2) dX9_rests_24 ?_
      refine go_icmp_gt (pc := 25) (tgt := 49) dX9_rests_25 (by decide) (fun e6 => ?_) (fun e6 => ?_)
      · replace h := (if_pos e6).symm.trans h
        refine go_iconst (pc := 49) (v := (0 : Int32)) dX9_rests_49 (by decide) ?_
        exact go_iret (pc := 50) (Option.some.inj h).symm rfl dX9_rests_50 rfl
      · replace h := (if_neg e6).symm.trans h
        refine go_aload_n (pc := 28) dX9_rests_28 rfl ?_
        refine gf_9_106 (pc := 29) dX9_rests_29 ?_
        refine go_iload_n (pc := 32) dX9_rests_32 rfl ?_
        refine go_iconst (pc := 33) (v := (5 : Int32)) dX9_rests_33 (by decide) ?_
        refine go_idiv (pc := 34) dX9_rests_34 (by decide) ?_
        refine go_iconst (pc := 35) (v := (5 : Int32)) dX9_rests_35 (by decide) ?_
        refine go_imul (pc := 36) dX9_rests_36 ?_
        refine go_iload_n (pc := 37) dX9_rests_37 rfl ?_
        refine go_iadd (pc := 38) dX9_rests_38 ?_
        obtain ⟨i3, h⟩ := g_gd h
        refine go_iald (pc := 39) (n := 25) rfl (g_inb_ok i3) dX9_rests_39 ?_
        refine go_aload_n (pc := 40) dX9_rests_40 rfl ?_
        refine gf_9_106 (pc := 41) dX9_rests_41 ?_
        refine go_iload_n (pc := 44) dX9_rests_44 rfl ?_
        obtain ⟨i4, h⟩ := g_gd h
        refine go_iald (pc := 45) (n := 25) rfl (g_inb_ok i4) dX9_rests_45 ?_
        refine go_icmp_le (pc := 46) (tgt := 51) dX9_rests_46 (by decide) (fun e5 => ?_) (fun e5 => ?_)
        · replace h := (if_pos e5).symm.trans h
          refine go_iinc (pc := 51) (v := (1 : Int32)) (lv' := [some (.inr 41), some (.inl v1), some (.inl (v2 + (1 : Int32)))]) dX9_rests_51 rfl (by decide) (by decide) rfl ?_
          refine go_goto (pc := 54) (tgt := 2) dX9_rests_54 (by decide) ?_
          exact go_to (ih _ _ _ h) (And.intro rfl (And.intro rfl (And.intro rfl trivial)))
        · replace h := (if_neg e5).symm.trans h
          refine go_iconst (pc := 49) (v := (0 : Int32)) dX9_rests_49 (by decide) ?_
          exact go_iret (pc := 50) (Option.some.inj h).symm rfl dX9_rests_50 rfl
def x_X9_rests  (p1 : Int32) (M : g_M) : Option (Int32 × g_M) := (x_X9_rests_L2   g_F p1 (0 : Int32) M)
set_option maxHeartbeats 4000000 in
set_option maxRecDepth 100000 in
theorem z_X9_rests {X : g_X} (hok : g_ok X)  {p1 : Int32} {M : g_M} {r : Int32 × g_M} (h : x_X9_rests p1 M = some r) : g_Con X yX9_rests cX9_rests 3 (some .boolean) 0 0 [.inr 41, .inl p1] M r := by
  rw [x_X9_rests] at h
  refine g_con hok (plainFor_of_name (by decide +kernel)) (Nat.le_of_ble_eq_true rfl) (go_to (lv2 := [some (.inr 41), some (.inl p1), none]) (own := RX9) ?_ (And.intro rfl (And.intro rfl trivial)))
  refine go_iconst (pc := 0) (v := (0 : Int32)) dX9_rests_0 (by decide) ?_
  refine go_istore_n (pc := 1) (lv' := [some (.inr 41), some (.inl p1), some (.inl (0 : Int32))]) dX9_rests_1 (by decide) rfl ?_
  exact go_to (z_X9_rests_L2 hok   g_F _ _ _ h) (And.intro rfl (And.intro rfl (And.intro rfl trivial)))
def x_X9_choiceOf  (p0 p1 : Int32) (M : g_M) : Option (Int32 × g_M) := (if 0 ≤ ((p0 - (2 : Int32)) + p1) then (if ((p0 - (2 : Int32)) + p1) ≤ (99 : Int32) then (some (((p0 - (2 : Int32)) + p1), M)) else (some ((99 : Int32), M))) else (some ((0 : Int32), M)))
set_option maxHeartbeats 4000000 in
set_option maxRecDepth 100000 in
theorem z_X9_choiceOf {X : g_X} (hok : g_ok X)  {p0 p1 : Int32} {M : g_M} {r : Int32 × g_M} (h : x_X9_choiceOf p0 p1 M = some r) : g_Con X yX9_choiceOf cX9_choiceOf 3 (some .int) 0 0 [.inl p0, .inl p1] M r := by
  rw [x_X9_choiceOf] at h
  refine g_con hok (plainFor_of_name (by decide +kernel)) (Nat.le_of_ble_eq_true rfl) (go_to (lv2 := [some (.inl p0), some (.inl p1), none]) (own := RX9) ?_ (And.intro rfl (And.intro rfl trivial)))
  refine go_iload_n (pc := 0) dX9_choiceOf_0 rfl ?_
  refine go_iconst (pc := 1) (v := (2 : Int32)) dX9_choiceOf_1 (by decide) ?_
  refine go_isub (pc := 2) dX9_choiceOf_2 ?_
  refine go_iload_n (pc := 3) dX9_choiceOf_3 rfl ?_
  refine go_iadd (pc := 4) dX9_choiceOf_4 ?_
  refine go_istore_n (pc := 5) (lv' := [some (.inl p0), some (.inl p1), some (.inl ((p0 - (2 : Int32)) + p1))]) dX9_choiceOf_5 (by decide) rfl ?_
  refine go_iload_n (pc := 6) dX9_choiceOf_6 rfl ?_
  refine go_if_ge (pc := 7) (tgt := 14) dX9_choiceOf_7 (by decide) (fun e2 => ?_) (fun e2 => ?_)
  · replace h := (if_pos e2).symm.trans h
    refine go_iload_n (pc := 14) dX9_choiceOf_14 rfl ?_
    refine go_bipush (pc := 15) (v := (99 : Int32)) dX9_choiceOf_15 (by decide) ?_
    refine go_icmp_le (pc := 17) (tgt := 25) dX9_choiceOf_17 (by decide) (fun e1 => ?_) (fun e1 => ?_)
    · replace h := (if_pos e1).symm.trans h
      refine go_iload_n (pc := 25) dX9_choiceOf_25 rfl ?_
      exact go_iret (pc := 26) (Option.some.inj h).symm rfl dX9_choiceOf_26 rfl
    · replace h := (if_neg e1).symm.trans h
      refine go_bipush (pc := 20) (v := (99 : Int32)) dX9_choiceOf_20 (by decide) ?_
      refine go_goto (pc := 22) (tgt := 26) dX9_choiceOf_22 (by decide) ?_
      exact go_iret (pc := 26) (Option.some.inj h).symm rfl dX9_choiceOf_26 rfl
  · replace h := (if_neg e2).symm.trans h
    refine go_iconst (pc := 10) (v := (0 : Int32)) dX9_choiceOf_10 (by decide) ?_
    refine go_goto (pc := 11) (tgt := 26) dX9_choiceOf_11 (by decide) ?_
    exact go_iret (pc := 26) (Option.some.inj h).symm rfl dX9_choiceOf_26 rfl
def x_X9_skippers_L162   : Nat → Int32 → Int32 → Int32 → Int32 → g_M → Option (Int32 × g_M)
  | 0, _, _, _, _, _ => none
  | n + 1, v3, v5, v6, v7, M => (if (25 : Int32) ≤ v7 then (some ((-9 : Int32), M)) else (((x_X9_rests v7 M).bind fun u1 => if u1.1 = 0 then (x_X9_skippers_L162   n v3 v5 v6 (v7 + (1 : Int32)) u1.2) else (if v3 = 0 then (((x_X9_choiceOf v5 (v7 / (5 : Int32)) u1.2).bind fun u5 => some (u5.1, u5.2))) else (((x_X9_choiceOf v6 (v7 - v7 / (5 : Int32) * (5 : Int32)) u1.2).bind fun u3 => some (u3.1, u3.2)))))))
set_option maxHeartbeats 4000000 in
set_option maxRecDepth 100000 in
theorem z_X9_skippers_L162 {X : g_X} (hok : g_ok X)  {r : Int32 × g_M}  : ∀ (n : Nat) (v3 : Int32) (v5 : Int32) (v6 : Int32) (v7 : Int32) (M : g_M), x_X9_skippers_L162   n v3 v5 v6 v7 M = some r → g_Go X cX9_skippers RX9 9 (some .int) 7 162 r 162 [some (.inr 41), none, none, some (.inl v3), none, some (.inl v5), some (.inl v6), some (.inl v7), none] [] M := by
  intro n
  induction n with
  | zero =>
    intro v3 v5 v6 v7 M h
    rw [x_X9_skippers_L162] at h
    cases h
  | succ n ih =>
    intro v3 v5 v6 v7 M h
    rw [x_X9_skippers_L162] at h
    refine go_iload (pc := 162) dX9_skippers_162 rfl ?_
    refine go_bipush (pc := 164) (v := (25 : Int32)) dX9_skippers_164 (by decide) ?_
    refine go_icmp_ge (pc := 166) (tgt := 210) dX9_skippers_166 (by decide) (fun e9 => ?_) (fun e9 => ?_)
    · replace h := (if_pos e9).symm.trans h
      refine go_bipush (pc := 210) (v := (-9 : Int32)) dX9_skippers_210 (by decide) ?_
      exact go_iret (pc := 212) (Option.some.inj h).symm rfl dX9_skippers_212 rfl
    · replace h := (if_neg e9).symm.trans h
      refine go_aload_n (pc := 169) dX9_skippers_169 rfl ?_
      refine go_iload (pc := 170) dX9_skippers_170 rfl ?_
      obtain ⟨u1, c2, h⟩ := g_bd h
      refine go_callV (pc := 172) (as := [.inl v7]) (st := []) (r := u1.1) (M1 := u1.2) (z_X9_rests hok  c2) cw_X9_rests ml_X9_363 (show g_lay[41]? = some _ from rfl) rfl rfl (by decide) (Nat.le_of_ble_eq_true rfl) rfl dX9_skippers_172 ?_
      refine go_if_eq (pc := 175) (tgt := 204) dX9_skippers_175 (by decide) (fun e8 => ?_) (fun e8 => ?_)
      · replace h := (if_pos e8).symm.trans h
        refine go_iinc (pc := 204) (v := (1 : Int32)) (lv' := [some (.inr 41), none, none, some (.inl v3), none, some (.inl v5), some (.inl v6), some (.inl (v7 + (1 : Int32))), none]) dX9_skippers_204 rfl (by decide) (by decide) rfl ?_
        refine go_goto (pc := 207) (tgt := 162) dX9_skippers_207 (by decide) ?_
        exact go_to (ih _ _ _ _ _ h) (And.intro rfl (And.intro rfl (And.intro rfl (And.intro rfl (And.intro rfl trivial)))))
      · replace h := (if_neg e8).symm.trans h
        refine go_iload_n (pc := 178) dX9_skippers_178 rfl ?_
        refine go_if_ne (pc := 179) (tgt := 194) dX9_skippers_179 (by decide) (fun e7 => ?_) (fun e7 => ?_)
        · replace h := (if_neg e7).symm.trans h
          refine go_iload (pc := 194) dX9_skippers_194 rfl ?_
          refine go_iload (pc := 196) dX9_skippers_196 rfl ?_
          refine go_iconst (pc := 198) (v := (5 : Int32)) dX9_skippers_198 (by decide) ?_
          refine go_irem (pc := 199) dX9_skippers_199 (by decide) ?_
          obtain ⟨u3, c4, h⟩ := g_bd h
          refine go_callS (pc := 200) (as := [.inl v6, .inl (v7 - v7 / (5 : Int32) * (5 : Int32))]) (st := []) (r := u3.1) (M1 := u3.2) (z_X9_choiceOf hok  c4) cw_X9_choiceOf ml_X9_357 (by decide) (Nat.le_of_ble_eq_true rfl) rfl dX9_skippers_200 ?_
          exact go_iret (pc := 203) (Option.some.inj h).symm rfl dX9_skippers_203 rfl
        · replace h := (if_pos e7).symm.trans h
          refine go_iload (pc := 182) dX9_skippers_182 rfl ?_
          refine go_iload (pc := 184) dX9_skippers_184 rfl ?_
          refine go_iconst (pc := 186) (v := (5 : Int32)) dX9_skippers_186 (by decide) ?_
          refine go_idiv (pc := 187) dX9_skippers_187 (by decide) ?_
          obtain ⟨u5, c6, h⟩ := g_bd h
          refine go_callS (pc := 188) (as := [.inl v5, .inl (v7 / (5 : Int32))]) (st := []) (r := u5.1) (M1 := u5.2) (z_X9_choiceOf hok  c6) cw_X9_choiceOf ml_X9_357 (by decide) (Nat.le_of_ble_eq_true rfl) rfl dX9_skippers_188 ?_
          refine go_goto (pc := 191) (tgt := 203) dX9_skippers_191 (by decide) ?_
          exact go_iret (pc := 203) (Option.some.inj h).symm rfl dX9_skippers_203 rfl
def x_X9_skippers_L61   : Nat → Int32 → Int32 → Int32 → Int32 → Int32 → Int32 → g_M → Option (Int32 × g_M)
  | 0, _, _, _, _, _, _, _ => none
  | n + 1, v1, v2, v3, v5, v6, v7, M => (if (25 : Int32) ≤ v7 then ((if g_inb v1 5 = true then ((if g_inb v2 5 = true then (x_X9_skippers_L162   g_F v3 v5 v6 (0 : Int32) (g_upd (g_upd M 52 v1.toNatClampNeg v5) 52 v2.toNatClampNeg v6)) else none)) else none)) else (((x_X9_choiceOf v5 (v7 / (5 : Int32)) M).bind fun u12 => (if g_inb v1 5 = true then (((x_X9_choiceOf v6 (v7 - v7 / (5 : Int32) * (5 : Int32)) (g_upd u12.2 52 v1.toNatClampNeg u12.1)).bind fun u15 => (if g_inb v2 5 = true then (((x_X9_touchHours v1 v2 (g_upd u15.2 52 v2.toNatClampNeg u15.1)).bind fun u18 => ((x_X9_bits u18.1 u18.2).bind fun u20 => ((x_X9_worthTo v1 u20.1 u20.2).bind fun u22 => (if g_inb v7 25 = true then (((x_X9_worthTo v2 u20.1 (g_upd u22.2 73 v7.toNatClampNeg u22.1)).bind fun u25 => (if g_inb v7 25 = true then (x_X9_skippers_L61   n v1 v2 v3 v5 v6 (v7 + (1 : Int32)) (g_upd u25.2 74 v7.toNatClampNeg u25.1)) else none))) else none))))) else none))) else none))))
set_option maxHeartbeats 4000000 in
set_option maxRecDepth 100000 in
theorem z_X9_skippers_L61 {X : g_X} (hok : g_ok X)  {r : Int32 × g_M}  : ∀ (n : Nat) (v1 : Int32) (v2 : Int32) (v3 : Int32) (v5 : Int32) (v6 : Int32) (v7 : Int32) (M : g_M), x_X9_skippers_L61   n v1 v2 v3 v5 v6 v7 M = some r → g_Go X cX9_skippers RX9 9 (some .int) 7 162 r 61 [some (.inr 41), some (.inl v1), some (.inl v2), some (.inl v3), none, some (.inl v5), some (.inl v6), some (.inl v7), none] [] M := by
  intro n
  induction n with
  | zero =>
    intro v1 v2 v3 v5 v6 v7 M h
    rw [x_X9_skippers_L61] at h
    cases h
  | succ n ih =>
    intro v1 v2 v3 v5 v6 v7 M h
    rw [x_X9_skippers_L61] at h
    refine go_iload (pc := 61) dX9_skippers_61 rfl ?_
    refine go_bipush (pc := 63) (v := (25 : Int32)) dX9_skippers_63 (by decide) ?_
    refine go_icmp_ge (pc := 65) (tgt := 143) dX9_skippers_65 (by decide) (fun e28 => ?_) (fun e28 => ?_)
    · replace h := (if_pos e28).symm.trans h
      refine go_aload_n (pc := 143) dX9_skippers_143 rfl ?_
      refine gf_9_40 (pc := 144) dX9_skippers_144 ?_
      refine go_iload_n (pc := 147) dX9_skippers_147 rfl ?_
      refine go_iload (pc := 148) dX9_skippers_148 rfl ?_
      obtain ⟨i10, h⟩ := g_gd h
      refine go_iast (pc := 150) (n := 5) rfl (g_inb_ok i10) dX9_skippers_150 ?_
      refine go_aload_n (pc := 151) dX9_skippers_151 rfl ?_
      refine gf_9_40 (pc := 152) dX9_skippers_152 ?_
      refine go_iload_n (pc := 155) dX9_skippers_155 rfl ?_
      refine go_iload (pc := 156) dX9_skippers_156 rfl ?_
      obtain ⟨i11, h⟩ := g_gd h
      refine go_iast (pc := 158) (n := 5) rfl (g_inb_ok i11) dX9_skippers_158 ?_
      refine go_iconst (pc := 159) (v := (0 : Int32)) dX9_skippers_159 (by decide) ?_
      refine go_istore (pc := 160) (lv' := [some (.inr 41), some (.inl v1), some (.inl v2), some (.inl v3), none, some (.inl v5), some (.inl v6), some (.inl (0 : Int32)), none]) dX9_skippers_160 (by decide) rfl ?_
      exact go_to (z_X9_skippers_L162 hok   g_F _ _ _ _ _ h) (And.intro rfl (And.intro rfl (And.intro rfl (And.intro rfl (And.intro rfl trivial)))))
    · replace h := (if_neg e28).symm.trans h
      refine go_aload_n (pc := 68) dX9_skippers_68 rfl ?_
      refine gf_9_40 (pc := 69) dX9_skippers_69 ?_
      refine go_iload_n (pc := 72) dX9_skippers_72 rfl ?_
      refine go_iload (pc := 73) dX9_skippers_73 rfl ?_
      refine go_iload (pc := 75) dX9_skippers_75 rfl ?_
      refine go_iconst (pc := 77) (v := (5 : Int32)) dX9_skippers_77 (by decide) ?_
      refine go_idiv (pc := 78) dX9_skippers_78 (by decide) ?_
      obtain ⟨u12, c13, h⟩ := g_bd h
      refine go_callS (pc := 79) (as := [.inl v5, .inl (v7 / (5 : Int32))]) (st := [.inl v1, .inr 52]) (r := u12.1) (M1 := u12.2) (z_X9_choiceOf hok  c13) cw_X9_choiceOf ml_X9_357 (by decide) (Nat.le_of_ble_eq_true rfl) rfl dX9_skippers_79 ?_
      obtain ⟨i14, h⟩ := g_gd h
      refine go_iast (pc := 82) (n := 5) rfl (g_inb_ok i14) dX9_skippers_82 ?_
      refine go_aload_n (pc := 83) dX9_skippers_83 rfl ?_
      refine gf_9_40 (pc := 84) dX9_skippers_84 ?_
      refine go_iload_n (pc := 87) dX9_skippers_87 rfl ?_
      refine go_iload (pc := 88) dX9_skippers_88 rfl ?_
      refine go_iload (pc := 90) dX9_skippers_90 rfl ?_
      refine go_iconst (pc := 92) (v := (5 : Int32)) dX9_skippers_92 (by decide) ?_
      refine go_irem (pc := 93) dX9_skippers_93 (by decide) ?_
      obtain ⟨u15, c16, h⟩ := g_bd h
      refine go_callS (pc := 94) (as := [.inl v6, .inl (v7 - v7 / (5 : Int32) * (5 : Int32))]) (st := [.inl v2, .inr 52]) (r := u15.1) (M1 := u15.2) (z_X9_choiceOf hok  c16) cw_X9_choiceOf ml_X9_357 (by decide) (Nat.le_of_ble_eq_true rfl) rfl dX9_skippers_94 ?_
      obtain ⟨i17, h⟩ := g_gd h
      refine go_iast (pc := 97) (n := 5) rfl (g_inb_ok i17) dX9_skippers_97 ?_
      refine go_aload_n (pc := 98) dX9_skippers_98 rfl ?_
      refine go_iload_n (pc := 99) dX9_skippers_99 rfl ?_
      refine go_iload_n (pc := 100) dX9_skippers_100 rfl ?_
      obtain ⟨u18, c19, h⟩ := g_bd h
      refine go_callV (pc := 101) (as := [.inl v1, .inl v2]) (st := []) (r := u18.1) (M1 := u18.2) (z_X9_touchHours hok  c19) cw_X9_touchHours ml_X9_282 (show g_lay[41]? = some _ from rfl) rfl rfl (by decide) (Nat.le_of_ble_eq_true rfl) rfl dX9_skippers_101 ?_
      obtain ⟨u20, c21, h⟩ := g_bd h
      refine go_callS (pc := 104) (as := [.inl u18.1]) (st := []) (r := u20.1) (M1 := u20.2) (z_X9_bits hok  c21) cw_X9_bits ml_X9_273 (by decide) (Nat.le_of_ble_eq_true rfl) rfl dX9_skippers_104 ?_
      refine go_istore (pc := 107) (lv' := [some (.inr 41), some (.inl v1), some (.inl v2), some (.inl v3), none, some (.inl v5), some (.inl v6), some (.inl v7), some (.inl u20.1)]) dX9_skippers_107 (by decide) rfl ?_
      refine go_aload_n (pc := 109) dX9_skippers_109 rfl ?_
      refine gf_9_103 (pc := 110) dX9_skippers_110 ?_
      refine go_iload (pc := 113) dX9_skippers_113 rfl ?_
      refine go_aload_n (pc := 115) dX9_skippers_115 rfl ?_
      refine go_iload_n (pc := 116) dX9_skippers_116 rfl ?_
      refine go_iload (pc := 117) dX9_skippers_117 rfl ?_
      obtain ⟨u22, c23, h⟩ := g_bd h
      refine go_callV (pc := 119) (as := [.inl v1, .inl u20.1]) (st := [.inl v7, .inr 73]) (r := u22.1) (M1 := u22.2) (z_X9_worthTo hok  c23) cw_X9_worthTo ml_X9_360 (show g_lay[41]? = some _ from rfl) rfl rfl (by decide) (Nat.le_of_ble_eq_true rfl) rfl dX9_skippers_119 ?_
      obtain ⟨i24, h⟩ := g_gd h
      refine go_iast (pc := 122) (n := 25) rfl (g_inb_ok i24) dX9_skippers_122 ?_
      refine go_aload_n (pc := 123) dX9_skippers_123 rfl ?_
      refine gf_9_106 (pc := 124) dX9_skippers_124 ?_
      refine go_iload (pc := 127) dX9_skippers_127 rfl ?_
      refine go_aload_n (pc := 129) dX9_skippers_129 rfl ?_
      refine go_iload_n (pc := 130) dX9_skippers_130 rfl ?_
      refine go_iload (pc := 131) dX9_skippers_131 rfl ?_
      obtain ⟨u25, c26, h⟩ := g_bd h
      refine go_callV (pc := 133) (as := [.inl v2, .inl u20.1]) (st := [.inl v7, .inr 74]) (r := u25.1) (M1 := u25.2) (z_X9_worthTo hok  c26) cw_X9_worthTo ml_X9_360 (show g_lay[41]? = some _ from rfl) rfl rfl (by decide) (Nat.le_of_ble_eq_true rfl) rfl dX9_skippers_133 ?_
      obtain ⟨i27, h⟩ := g_gd h
      refine go_iast (pc := 136) (n := 25) rfl (g_inb_ok i27) dX9_skippers_136 ?_
      refine go_iinc (pc := 137) (v := (1 : Int32)) (lv' := [some (.inr 41), some (.inl v1), some (.inl v2), some (.inl v3), none, some (.inl v5), some (.inl v6), some (.inl (v7 + (1 : Int32))), some (.inl u20.1)]) dX9_skippers_137 rfl (by decide) (by decide) rfl ?_
      refine go_goto (pc := 140) (tgt := 61) dX9_skippers_140 (by decide) ?_
      exact go_to (ih _ _ _ _ _ _ _ h) (And.intro rfl (And.intro rfl (And.intro rfl (And.intro rfl (And.intro rfl (And.intro rfl (And.intro rfl trivial)))))))
def x_X9_skippers_L28   (v1 : Int32) (v2 : Int32) (v3 : Int32) (s0 : Int32) (M : g_M) : Option (Int32 × g_M) := (if s0 = 0 then ((if g_inb v1 5 = true then ((if g_inb v2 5 = true then (x_X9_skippers_L61   g_F v1 v2 v3 (M 52 v1.toNatClampNeg) (M 52 v2.toNatClampNeg) (0 : Int32) M) else none)) else none)) else (((x_X9_no s0 M).bind fun u31 => some (u31.1, u31.2))))
set_option maxHeartbeats 4000000 in
set_option maxRecDepth 100000 in
theorem z_X9_skippers_L28 {X : g_X} (hok : g_ok X)  {r : Int32 × g_M}  {v1 : Int32} {v2 : Int32} {v3 : Int32} {s0 : Int32} {M : g_M} (h : x_X9_skippers_L28   v1 v2 v3 s0 M = some r) : g_Go X cX9_skippers RX9 9 (some .int) 7 162 r 28 [some (.inr 41), some (.inl v1), some (.inl v2), some (.inl v3), none, none, none, none, none] [.inl s0] M := by
  rw [x_X9_skippers_L28] at h
  refine go_istore (pc := 28) (lv' := [some (.inr 41), some (.inl v1), some (.inl v2), some (.inl v3), some (.inl s0), none, none, none, none]) dX9_skippers_28 (by decide) rfl ?_
  refine go_iload (pc := 30) dX9_skippers_30 rfl ?_
  refine go_if_eq (pc := 32) (tgt := 42) dX9_skippers_32 (by decide) (fun e33 => ?_) (fun e33 => ?_)
  · replace h := (if_pos e33).symm.trans h
    refine go_aload_n (pc := 42) dX9_skippers_42 rfl ?_
    refine gf_9_40 (pc := 43) dX9_skippers_43 ?_
    refine go_iload_n (pc := 46) dX9_skippers_46 rfl ?_
    obtain ⟨i29, h⟩ := g_gd h
    refine go_iald (pc := 47) (n := 5) rfl (g_inb_ok i29) dX9_skippers_47 ?_
    refine go_istore (pc := 48) (lv' := [some (.inr 41), some (.inl v1), some (.inl v2), some (.inl v3), some (.inl s0), some (.inl (M 52 v1.toNatClampNeg)), none, none, none]) dX9_skippers_48 (by decide) rfl ?_
    refine go_aload_n (pc := 50) dX9_skippers_50 rfl ?_
    refine gf_9_40 (pc := 51) dX9_skippers_51 ?_
    refine go_iload_n (pc := 54) dX9_skippers_54 rfl ?_
    obtain ⟨i30, h⟩ := g_gd h
    refine go_iald (pc := 55) (n := 5) rfl (g_inb_ok i30) dX9_skippers_55 ?_
    refine go_istore (pc := 56) (lv' := [some (.inr 41), some (.inl v1), some (.inl v2), some (.inl v3), some (.inl s0), some (.inl (M 52 v1.toNatClampNeg)), some (.inl (M 52 v2.toNatClampNeg)), none, none]) dX9_skippers_56 (by decide) rfl ?_
    refine go_iconst (pc := 58) (v := (0 : Int32)) dX9_skippers_58 (by decide) ?_
    refine go_istore (pc := 59) (lv' := [some (.inr 41), some (.inl v1), some (.inl v2), some (.inl v3), some (.inl s0), some (.inl (M 52 v1.toNatClampNeg)), some (.inl (M 52 v2.toNatClampNeg)), some (.inl (0 : Int32)), none]) dX9_skippers_59 (by decide) rfl ?_
    exact go_to (z_X9_skippers_L61 hok   g_F _ _ _ _ _ _ _ h) (And.intro rfl (And.intro rfl (And.intro rfl (And.intro rfl (And.intro rfl (And.intro rfl (And.intro rfl trivial)))))))
  · replace h := (if_neg e33).symm.trans h
    refine go_aload_n (pc := 35) dX9_skippers_35 rfl ?_
    refine go_iload (pc := 36) dX9_skippers_36 rfl ?_
    obtain ⟨u31, c32, h⟩ := g_bd h
    refine go_callV (pc := 38) (as := [.inl s0]) (st := []) (r := u31.1) (M1 := u31.2) (z_X9_no hok  c32) cw_X9_no ml_X9_124 (show g_lay[41]? = some _ from rfl) rfl rfl (by decide) (Nat.le_of_ble_eq_true rfl) rfl dX9_skippers_38 ?_
    exact go_iret (pc := 41) (Option.some.inj h).symm rfl dX9_skippers_41 rfl
def x_X9_skippers  (p1 p2 p3 : Int32) (M : g_M) : Option (Int32 × g_M) := (((x_X9_areTwo p1 p2 M).bind fun u34 => if u34.1 = 0 then (x_X9_skippers_L28   p1 p2 p3 (-1 : Int32) u34.2) else (((x_X9_isIn p3 (0 : Int32) (1 : Int32) u34.2).bind fun u36 => if u36.1 = 0 then (x_X9_skippers_L28   p1 p2 p3 (-2 : Int32) u36.2) else (x_X9_skippers_L28   p1 p2 p3 (0 : Int32) u36.2)))))
set_option maxHeartbeats 4000000 in
set_option maxRecDepth 100000 in
theorem z_X9_skippers {X : g_X} (hok : g_ok X)  {p1 p2 p3 : Int32} {M : g_M} {r : Int32 × g_M} (h : x_X9_skippers p1 p2 p3 M = some r) : g_Con X yX9_skippers cX9_skippers 9 (some .int) 7 162 [.inr 41, .inl p1, .inl p2, .inl p3] M r := by
  rw [x_X9_skippers] at h
  refine g_con hok (plainFor_of_name (by decide +kernel)) (Nat.le_of_ble_eq_true rfl) (go_to (lv2 := [some (.inr 41), some (.inl p1), some (.inl p2), some (.inl p3), none, none, none, none, none]) (own := RX9) ?_ (And.intro rfl (And.intro rfl (And.intro rfl (And.intro rfl trivial)))))
  refine go_aload_n (pc := 0) dX9_skippers_0 rfl ?_
  refine go_iload_n (pc := 1) dX9_skippers_1 rfl ?_
  refine go_iload_n (pc := 2) dX9_skippers_2 rfl ?_
  obtain ⟨u34, c35, h⟩ := g_bd h
  refine go_callV (pc := 3) (as := [.inl p1, .inl p2]) (st := []) (r := u34.1) (M1 := u34.2) (z_X9_areTwo hok  c35) cw_X9_areTwo ml_X9_279 (show g_lay[41]? = some _ from rfl) rfl rfl (by decide) (Nat.le_of_ble_eq_true rfl) rfl dX9_skippers_3 ?_
  refine go_if_ne (pc := 6) (tgt := 13) dX9_skippers_6 (by decide) (fun e39 => ?_) (fun e39 => ?_)
  · replace h := (if_neg e39).symm.trans h
    refine go_iload_n (pc := 13) dX9_skippers_13 rfl ?_
    refine go_iconst (pc := 14) (v := (0 : Int32)) dX9_skippers_14 (by decide) ?_
    refine go_iconst (pc := 15) (v := (1 : Int32)) dX9_skippers_15 (by decide) ?_
    obtain ⟨u36, c37, h⟩ := g_bd h
    refine go_callS (pc := 16) (as := [.inl p3, .inl (0 : Int32), .inl (1 : Int32)]) (st := []) (r := u36.1) (M1 := u36.2) (z_X9_isIn hok  c37) cw_X9_isIn ml_X9_135 (by decide) (Nat.le_of_ble_eq_true rfl) rfl dX9_skippers_16 ?_
    refine go_if_ne (pc := 19) (tgt := 27) dX9_skippers_19 (by decide) (fun e38 => ?_) (fun e38 => ?_)
    · replace h := (if_neg e38).symm.trans h
      refine go_iconst (pc := 27) (v := (0 : Int32)) dX9_skippers_27 (by decide) ?_
      exact go_to (z_X9_skippers_L28 hok   h) (And.intro rfl (And.intro rfl (And.intro rfl (And.intro rfl trivial))))
    · replace h := (if_pos e38).symm.trans h
      refine go_bipush (pc := 22) (v := (-2 : Int32)) dX9_skippers_22 (by decide) ?_
      refine go_goto (pc := 24) (tgt := 28) dX9_skippers_24 (by decide) ?_
      exact go_to (z_X9_skippers_L28 hok   h) (And.intro rfl (And.intro rfl (And.intro rfl (And.intro rfl trivial))))
  · replace h := (if_pos e39).symm.trans h
    refine go_iconst (pc := 9) (v := (-1 : Int32)) dX9_skippers_9 (by decide) ?_
    refine go_goto (pc := 10) (tgt := 28) dX9_skippers_10 (by decide) ?_
    exact go_to (z_X9_skippers_L28 hok   h) (And.intro rfl (And.intro rfl (And.intro rfl (And.intro rfl trivial))))
def x_X9_row_L24   (v1 : Int32) (v2 : Int32) (M : g_M) : Option (Int32 × g_M) := (if v2 = 0 then ((if g_inb (M 41 37) 12 = true then (some (((g_upd (g_upd M 64 (M 41 37).toNatClampNeg v1) 41 37 (((g_upd M 64 (M 41 37).toNatClampNeg v1) 41 37) + (1 : Int32))) 41 37), (g_upd (g_upd M 64 (M 41 37).toNatClampNeg v1) 41 37 (((g_upd M 64 (M 41 37).toNatClampNeg v1) 41 37) + (1 : Int32))))) else none)) else (((x_X9_no v2 M).bind fun u2 => some (u2.1, u2.2))))
set_option maxHeartbeats 4000000 in
set_option maxRecDepth 100000 in
theorem z_X9_row_L24 {X : g_X} (hok : g_ok X)  {r : Int32 × g_M}  {v1 : Int32} {v2 : Int32} {M : g_M} (h : x_X9_row_L24   v1 v2 M = some r) : g_Go X cX9_row RX9 3 (some .int) 1 22 r 24 [some (.inr 41), some (.inl v1), some (.inl v2)] [] M := by
  rw [x_X9_row_L24] at h
  refine go_iload_n (pc := 24) dX9_row_24 rfl ?_
  refine go_if_eq (pc := 25) (tgt := 34) dX9_row_25 (by decide) (fun e4 => ?_) (fun e4 => ?_)
  · replace h := (if_pos e4).symm.trans h
    refine go_aload_n (pc := 34) dX9_row_34 rfl ?_
    refine gf_9_76 (pc := 35) dX9_row_35 ?_
    refine go_aload_n (pc := 38) dX9_row_38 rfl ?_
    refine gf_9_291 (pc := 39) dX9_row_39 ?_
    refine go_iload_n (pc := 42) dX9_row_42 rfl ?_
    obtain ⟨i1, h⟩ := g_gd h
    refine go_iast (pc := 43) (n := 12) rfl (g_inb_ok i1) dX9_row_43 ?_
    refine go_aload_n (pc := 44) dX9_row_44 rfl ?_
    refine go_dup (pc := 45) dX9_row_45 ?_
    refine gf_9_291 (pc := 46) dX9_row_46 ?_
    refine go_iconst (pc := 49) (v := (1 : Int32)) dX9_row_49 (by decide) ?_
    refine go_iadd (pc := 50) dX9_row_50 ?_
    refine gp_9_291 (pc := 51) dX9_row_51 ?_
    refine go_aload_n (pc := 54) dX9_row_54 rfl ?_
    refine gf_9_291 (pc := 55) dX9_row_55 ?_
    exact go_iret (pc := 58) (Option.some.inj h).symm rfl dX9_row_58 rfl
  · replace h := (if_neg e4).symm.trans h
    refine go_aload_n (pc := 28) dX9_row_28 rfl ?_
    refine go_iload_n (pc := 29) dX9_row_29 rfl ?_
    obtain ⟨u2, c3, h⟩ := g_bd h
    refine go_callV (pc := 30) (as := [.inl v2]) (st := []) (r := u2.1) (M1 := u2.2) (z_X9_no hok  c3) cw_X9_no ml_X9_124 (show g_lay[41]? = some _ from rfl) rfl rfl (by decide) (Nat.le_of_ble_eq_true rfl) rfl dX9_row_30 ?_
    exact go_iret (pc := 33) (Option.some.inj h).symm rfl dX9_row_33 rfl
def x_X9_row  (p1 : Int32) (M : g_M) : Option (Int32 × g_M) := (((x_X9_bound p1 (0 : Int32) (99 : Int32) M).bind fun u5 => if u5.1 = 0 then (if (u5.2 41 37) = (12 : Int32) then (x_X9_row_L24   p1 (-6 : Int32) u5.2) else (x_X9_row_L24   p1 u5.1 u5.2)) else (x_X9_row_L24   p1 u5.1 u5.2)))
set_option maxHeartbeats 4000000 in
set_option maxRecDepth 100000 in
theorem z_X9_row {X : g_X} (hok : g_ok X)  {p1 : Int32} {M : g_M} {r : Int32 × g_M} (h : x_X9_row p1 M = some r) : g_Con X yX9_row cX9_row 3 (some .int) 1 22 [.inr 41, .inl p1] M r := by
  rw [x_X9_row] at h
  refine g_con hok (plainFor_of_name (by decide +kernel)) (Nat.le_of_ble_eq_true rfl) (go_to (lv2 := [some (.inr 41), some (.inl p1), none]) (own := RX9) ?_ (And.intro rfl (And.intro rfl trivial)))
  refine go_iload_n (pc := 0) dX9_row_0 rfl ?_
  refine go_iconst (pc := 1) (v := (0 : Int32)) dX9_row_1 (by decide) ?_
  refine go_bipush (pc := 2) (v := (99 : Int32)) dX9_row_2 (by decide) ?_
  obtain ⟨u5, c6, h⟩ := g_bd h
  refine go_callS (pc := 4) (as := [.inl p1, .inl (0 : Int32), .inl (99 : Int32)]) (st := []) (r := u5.1) (M1 := u5.2) (z_X9_bound hok  c6) cw_X9_bound ml_X9_117 (by decide) (Nat.le_of_ble_eq_true rfl) rfl dX9_row_4 ?_
  refine go_istore_n (pc := 7) (lv' := [some (.inr 41), some (.inl p1), some (.inl u5.1)]) dX9_row_7 (by decide) rfl ?_
  refine go_iload_n (pc := 8) dX9_row_8 rfl ?_
  refine go_if_ne (pc := 9) (tgt := 24) dX9_row_9 (by decide) (fun e8 => ?_) (fun e8 => ?_)
  · replace h := (if_neg e8).symm.trans h
    exact go_to (z_X9_row_L24 hok   h) (And.intro rfl (And.intro rfl (And.intro rfl trivial)))
  · replace h := (if_pos e8).symm.trans h
    refine go_aload_n (pc := 12) dX9_row_12 rfl ?_
    refine gf_9_291 (pc := 13) dX9_row_13 ?_
    refine go_bipush (pc := 16) (v := (12 : Int32)) dX9_row_16 (by decide) ?_
    refine go_icmp_ne (pc := 18) (tgt := 24) dX9_row_18 (by decide) (fun e7 => ?_) (fun e7 => ?_)
    · replace h := (if_neg e7).symm.trans h
      exact go_to (z_X9_row_L24 hok   h) (And.intro rfl (And.intro rfl (And.intro rfl trivial)))
    · replace h := (if_pos e7).symm.trans h
      refine go_bipush (pc := 21) (v := (-6 : Int32)) dX9_row_21 (by decide) ?_
      refine go_istore_n (pc := 23) (lv' := [some (.inr 41), some (.inl p1), some (.inl (-6 : Int32))]) dX9_row_23 (by decide) rfl ?_
      exact go_to (z_X9_row_L24 hok   h) (And.intro rfl (And.intro rfl (And.intro rfl trivial)))
def x_X9_judge_L26   : Nat → Int32 → Int32 → Int32 → g_M → Option (Int32 × g_M)
  | 0, _, _, _, _ => none
  | n + 1, v1, v2, v3, M => (if v2 ≤ v3 then (some ((-9 : Int32), M)) else (((x_X9_outAt v1 (((M 41 17) + v3) - ((M 41 17) + v3) / (12 : Int32) * (12 : Int32)) M).bind fun u1 => (if g_inb v3 12 = true then (if u1.1 = (u1.2 64 v3.toNatClampNeg) then (x_X9_judge_L26   n v1 v2 (v3 + (1 : Int32)) u1.2) else (some (v3, u1.2))) else none))))
set_option maxHeartbeats 4000000 in
set_option maxRecDepth 100000 in
theorem z_X9_judge_L26 {X : g_X} (hok : g_ok X)  {r : Int32 × g_M}  : ∀ (n : Nat) (v1 : Int32) (v2 : Int32) (v3 : Int32) (M : g_M), x_X9_judge_L26   n v1 v2 v3 M = some r → g_Go X cX9_judge RX9 4 (some .int) 5 115 r 26 [some (.inr 41), some (.inl v1), some (.inl v2), some (.inl v3)] [] M := by
  intro n
  induction n with
  | zero =>
    intro v1 v2 v3 M h
    rw [x_X9_judge_L26] at h
    cases h
  | succ n ih =>
    intro v1 v2 v3 M h
    rw [x_X9_judge_L26] at h
    refine go_iload_n (pc := 26) dX9_judge_26 rfl ?_
    refine go_iload_n (pc := 27) dX9_judge_27 rfl ?_
    refine go_icmp_ge (pc := 28) (tgt := 62) dX9_judge_28 (by decide) (fun e5 => ?_) (fun e5 => ?_)
    · replace h := (if_pos e5).symm.trans h
      refine go_bipush (pc := 62) (v := (-9 : Int32)) dX9_judge_62 (by decide) ?_
      exact go_iret (pc := 64) (Option.some.inj h).symm rfl dX9_judge_64 rfl
    · replace h := (if_neg e5).symm.trans h
      refine go_aload_n (pc := 31) dX9_judge_31 rfl ?_
      refine go_iload_n (pc := 32) dX9_judge_32 rfl ?_
      refine go_aload_n (pc := 33) dX9_judge_33 rfl ?_
      refine gf_9_205 (pc := 34) dX9_judge_34 ?_
      refine go_iload_n (pc := 37) dX9_judge_37 rfl ?_
      refine go_iadd (pc := 38) dX9_judge_38 ?_
      refine go_bipush (pc := 39) (v := (12 : Int32)) dX9_judge_39 (by decide) ?_
      refine go_irem (pc := 41) dX9_judge_41 (by decide) ?_
      obtain ⟨u1, c2, h⟩ := g_bd h
      refine go_callV (pc := 42) (as := [.inl v1, .inl (((M 41 17) + v3) - ((M 41 17) + v3) / (12 : Int32) * (12 : Int32))]) (st := []) (r := u1.1) (M1 := u1.2) (z_X9_outAt hok  c2) cw_X9_outAt ml_X9_230 (show g_lay[41]? = some _ from rfl) rfl rfl (by decide) (Nat.le_of_ble_eq_true rfl) rfl dX9_judge_42 ?_
      refine go_aload_n (pc := 45) dX9_judge_45 rfl ?_
      refine gf_9_76 (pc := 46) dX9_judge_46 ?_
      refine go_iload_n (pc := 49) dX9_judge_49 rfl ?_
      obtain ⟨i3, h⟩ := g_gd h
      refine go_iald (pc := 50) (n := 12) rfl (g_inb_ok i3) dX9_judge_50 ?_
      refine go_icmp_eq (pc := 51) (tgt := 56) dX9_judge_51 (by decide) (fun e4 => ?_) (fun e4 => ?_)
      · replace h := (if_pos e4).symm.trans h
        refine go_iinc (pc := 56) (v := (1 : Int32)) (lv' := [some (.inr 41), some (.inl v1), some (.inl v2), some (.inl (v3 + (1 : Int32)))]) dX9_judge_56 rfl (by decide) (by decide) rfl ?_
        refine go_goto (pc := 59) (tgt := 26) dX9_judge_59 (by decide) ?_
        exact go_to (ih _ _ _ _ h) (And.intro rfl (And.intro rfl (And.intro rfl (And.intro rfl trivial))))
      · replace h := (if_neg e4).symm.trans h
        refine go_iload_n (pc := 54) dX9_judge_54 rfl ?_
        exact go_iret (pc := 55) (Option.some.inj h).symm rfl dX9_judge_55 rfl
def x_X9_judge  (p1 : Int32) (M : g_M) : Option (Int32 × g_M) := (((x_X9_isBoat p1 M).bind fun u6 => if u6.1 = 0 then (((x_X9_no (-1 : Int32) u6.2).bind fun u8 => some (u8.1, u8.2))) else (x_X9_judge_L26   g_F p1 (u6.2 41 37) (0 : Int32) (g_upd u6.2 41 37 (0 : Int32)))))
set_option maxHeartbeats 4000000 in
set_option maxRecDepth 100000 in
theorem z_X9_judge {X : g_X} (hok : g_ok X)  {p1 : Int32} {M : g_M} {r : Int32 × g_M} (h : x_X9_judge p1 M = some r) : g_Con X yX9_judge cX9_judge 4 (some .int) 5 115 [.inr 41, .inl p1] M r := by
  rw [x_X9_judge] at h
  refine g_con hok (plainFor_of_name (by decide +kernel)) (Nat.le_of_ble_eq_true rfl) (go_to (lv2 := [some (.inr 41), some (.inl p1), none, none]) (own := RX9) ?_ (And.intro rfl (And.intro rfl trivial)))
  refine go_aload_n (pc := 0) dX9_judge_0 rfl ?_
  refine go_iload_n (pc := 1) dX9_judge_1 rfl ?_
  obtain ⟨u6, c7, h⟩ := g_bd h
  refine go_callV (pc := 2) (as := [.inl p1]) (st := []) (r := u6.1) (M1 := u6.2) (z_X9_isBoat hok  c7) cw_X9_isBoat ml_X9_168 (show g_lay[41]? = some _ from rfl) rfl rfl (by decide) (Nat.le_of_ble_eq_true rfl) rfl dX9_judge_2 ?_
  refine go_if_ne (pc := 5) (tgt := 14) dX9_judge_5 (by decide) (fun e10 => ?_) (fun e10 => ?_)
  · replace h := (if_neg e10).symm.trans h
    refine go_aload_n (pc := 14) dX9_judge_14 rfl ?_
    refine gf_9_291 (pc := 15) dX9_judge_15 ?_
    refine go_istore_n (pc := 18) (lv' := [some (.inr 41), some (.inl p1), some (.inl (u6.2 41 37)), none]) dX9_judge_18 (by decide) rfl ?_
    refine go_aload_n (pc := 19) dX9_judge_19 rfl ?_
    refine go_iconst (pc := 20) (v := (0 : Int32)) dX9_judge_20 (by decide) ?_
    refine gp_9_291 (pc := 21) dX9_judge_21 ?_
    refine go_iconst (pc := 24) (v := (0 : Int32)) dX9_judge_24 (by decide) ?_
    refine go_istore_n (pc := 25) (lv' := [some (.inr 41), some (.inl p1), some (.inl (u6.2 41 37)), some (.inl (0 : Int32))]) dX9_judge_25 (by decide) rfl ?_
    exact go_to (z_X9_judge_L26 hok   g_F _ _ _ _ h) (And.intro rfl (And.intro rfl (And.intro rfl (And.intro rfl trivial))))
  · replace h := (if_pos e10).symm.trans h
    refine go_aload_n (pc := 8) dX9_judge_8 rfl ?_
    refine go_iconst (pc := 9) (v := (-1 : Int32)) dX9_judge_9 (by decide) ?_
    obtain ⟨u8, c9, h⟩ := g_bd h
    refine go_callV (pc := 10) (as := [.inl (-1 : Int32)]) (st := []) (r := u8.1) (M1 := u8.2) (z_X9_no hok  c9) cw_X9_no ml_X9_124 (show g_lay[41]? = some _ from rfl) rfl rfl (by decide) (Nat.le_of_ble_eq_true rfl) rfl dX9_judge_10 ?_
    exact go_iret (pc := 13) (Option.some.inj h).symm rfl dX9_judge_13 rfl
def x_X9_drop  (M : g_M) : Option (Int32 × g_M) := (some ((M 41 37), (g_upd M 41 37 (0 : Int32))))
set_option maxHeartbeats 4000000 in
set_option maxRecDepth 100000 in
theorem z_X9_drop {X : g_X} (hok : g_ok X)  {M : g_M} {r : Int32 × g_M} (h : x_X9_drop  M = some r) : g_Con X yX9_drop cX9_drop 2 (some .int) 0 0 [.inr 41] M r := by
  rw [x_X9_drop] at h
  refine g_con hok (plainFor_of_name (by decide +kernel)) (Nat.le_of_ble_eq_true rfl) (go_to (lv2 := [some (.inr 41), none]) (own := RX9) ?_ (And.intro rfl trivial))
  refine go_aload_n (pc := 0) dX9_drop_0 rfl ?_
  refine gf_9_291 (pc := 1) dX9_drop_1 ?_
  refine go_istore_n (pc := 4) (lv' := [some (.inr 41), some (.inl (M 41 37))]) dX9_drop_4 (by decide) rfl ?_
  refine go_aload_n (pc := 5) dX9_drop_5 rfl ?_
  refine go_iconst (pc := 6) (v := (0 : Int32)) dX9_drop_6 (by decide) ?_
  refine gp_9_291 (pc := 7) dX9_drop_7 ?_
  refine go_iload_n (pc := 10) dX9_drop_10 rfl ?_
  exact go_iret (pc := 11) (Option.some.inj h).symm rfl dX9_drop_11 rfl
def x_X9_seeds_L79  (k70 : Int32 → Int32 → Int32 → Int32 → Int32 → Int32 → Int32 → g_M → Option (Int32 × g_M)) : Nat → Int32 → Int32 → Int32 → Int32 → Int32 → Int32 → Int32 → Int32 → g_M → Option (Int32 × g_M)
  | 0, _, _, _, _, _, _, _, _, _ => none
  | n + 1, v1, v2, v4, v6, v7, v8, v9, v10, M => (if (12 : Int32) ≤ v10 then ((if g_inb v1 5 = true then (((x_X9_hangHours v1 (M 52 v1.toNatClampNeg) M).bind fun u2 => ((x_X9_bits u2.1 u2.2).bind fun u4 => if u2.1 = 0 then (k70 v1 v2 v4 v6 (v7 + u4.1) (v8 + (1 : Int32)) (v9 + (1 : Int32)) u4.2) else (k70 v1 v2 v4 v6 (v7 + u4.1) (v8 + (0 : Int32)) (v9 + (1 : Int32)) u4.2)))) else none)) else ((if g_inb v10 12 = true then (x_X9_seeds_L79  k70 n v1 v2 v4 ((v6 * (1103515245 : Int32)) + (12345 : Int32)) v7 v8 v9 (v10 + (1 : Int32)) (g_upd M 43 v10.toNatClampNeg (((((v6 * (1103515245 : Int32)) + (12345 : Int32)) &&& (2147483647 : Int32)) / (65536 : Int32)) - ((((v6 * (1103515245 : Int32)) + (12345 : Int32)) &&& (2147483647 : Int32)) / (65536 : Int32)) / (41 : Int32) * (41 : Int32)))) else none)))
set_option maxHeartbeats 4000000 in
set_option maxRecDepth 100000 in
theorem z_X9_seeds_L79 {X : g_X} (hok : g_ok X)  {r : Int32 × g_M} {k70 : Int32 → Int32 → Int32 → Int32 → Int32 → Int32 → Int32 → g_M → Option (Int32 × g_M)} (hk70 : ∀ (v1 : Int32) (v2 : Int32) (v4 : Int32) (v6 : Int32) (v7 : Int32) (v8 : Int32) (v9 : Int32) (M : g_M), k70 v1 v2 v4 v6 v7 v8 v9 M = some r → g_Go X cX9_seeds RX9 11 (some .int) 4 93 r 70 [some (.inr 41), some (.inl v1), some (.inl v2), none, some (.inl v4), none, some (.inl v6), some (.inl v7), some (.inl v8), some (.inl v9), none] [] M) : ∀ (n : Nat) (v1 : Int32) (v2 : Int32) (v4 : Int32) (v6 : Int32) (v7 : Int32) (v8 : Int32) (v9 : Int32) (v10 : Int32) (M : g_M), x_X9_seeds_L79  k70 n v1 v2 v4 v6 v7 v8 v9 v10 M = some r → g_Go X cX9_seeds RX9 11 (some .int) 4 93 r 79 [some (.inr 41), some (.inl v1), some (.inl v2), none, some (.inl v4), none, some (.inl v6), some (.inl v7), some (.inl v8), some (.inl v9), some (.inl v10)] [] M := by
  intro n
  induction n with
  | zero =>
    intro v1 v2 v4 v6 v7 v8 v9 v10 M h
    rw [x_X9_seeds_L79] at h
    cases h
  | succ n ih =>
    intro v1 v2 v4 v6 v7 v8 v9 v10 M h
    rw [x_X9_seeds_L79] at h
    refine go_iload (pc := 79) dX9_seeds_79 rfl ?_
    refine go_bipush (pc := 81) (v := (12 : Int32)) dX9_seeds_81 (by decide) ?_
    refine go_icmp_ge (pc := 83) (tgt := 124) dX9_seeds_83 (by decide) (fun e8 => ?_) (fun e8 => ?_)
    · replace h := (if_pos e8).symm.trans h
      refine go_aload_n (pc := 124) dX9_seeds_124 rfl ?_
      refine go_iload_n (pc := 125) dX9_seeds_125 rfl ?_
      refine go_aload_n (pc := 126) dX9_seeds_126 rfl ?_
      refine gf_9_40 (pc := 127) dX9_seeds_127 ?_
      refine go_iload_n (pc := 130) dX9_seeds_130 rfl ?_
      obtain ⟨i1, h⟩ := g_gd h
      refine go_iald (pc := 131) (n := 5) rfl (g_inb_ok i1) dX9_seeds_131 ?_
      obtain ⟨u2, c3, h⟩ := g_bd h
      refine go_callV (pc := 132) (as := [.inl v1, .inl (M 52 v1.toNatClampNeg)]) (st := []) (r := u2.1) (M1 := u2.2) (z_X9_hangHours hok  c3) cw_X9_hangHours ml_X9_246 (show g_lay[41]? = some _ from rfl) rfl rfl (by decide) (Nat.le_of_ble_eq_true rfl) rfl dX9_seeds_132 ?_
      refine go_istore (pc := 135) (lv' := [some (.inr 41), some (.inl v1), some (.inl v2), none, some (.inl v4), none, some (.inl v6), some (.inl v7), some (.inl v8), some (.inl v9), some (.inl u2.1)]) dX9_seeds_135 (by decide) rfl ?_
      refine go_iload (pc := 137) dX9_seeds_137 rfl ?_
      refine go_iload (pc := 139) dX9_seeds_139 rfl ?_
      obtain ⟨u4, c5, h⟩ := g_bd h
      refine go_callS (pc := 141) (as := [.inl u2.1]) (st := [.inl v7]) (r := u4.1) (M1 := u4.2) (z_X9_bits hok  c5) cw_X9_bits ml_X9_273 (by decide) (Nat.le_of_ble_eq_true rfl) rfl dX9_seeds_141 ?_
      refine go_iadd (pc := 144) dX9_seeds_144 ?_
      refine go_istore (pc := 145) (lv' := [some (.inr 41), some (.inl v1), some (.inl v2), none, some (.inl v4), none, some (.inl v6), some (.inl (v7 + u4.1)), some (.inl v8), some (.inl v9), some (.inl u2.1)]) dX9_seeds_145 (by decide) rfl ?_
      refine go_iload (pc := 147) dX9_seeds_147 rfl ?_
      refine go_iload (pc := 149) dX9_seeds_149 rfl ?_
      refine go_if_ne (pc := 151) (tgt := 158) dX9_seeds_151 (by decide) (fun e6 => ?_) (fun e6 => ?_)
      · replace h := (if_neg e6).symm.trans h
        refine go_iconst (pc := 158) (v := (0 : Int32)) dX9_seeds_158 (by decide) ?_
        refine go_iadd (pc := 159) dX9_seeds_159 ?_
        refine go_istore (pc := 160) (lv' := [some (.inr 41), some (.inl v1), some (.inl v2), none, some (.inl v4), none, some (.inl v6), some (.inl (v7 + u4.1)), some (.inl (v8 + (0 : Int32))), some (.inl v9), some (.inl u2.1)]) dX9_seeds_160 (by decide) rfl ?_
        refine go_iinc (pc := 162) (v := (1 : Int32)) (lv' := [some (.inr 41), some (.inl v1), some (.inl v2), none, some (.inl v4), none, some (.inl v6), some (.inl (v7 + u4.1)), some (.inl (v8 + (0 : Int32))), some (.inl (v9 + (1 : Int32))), some (.inl u2.1)]) dX9_seeds_162 rfl (by decide) (by decide) rfl ?_
        refine go_goto (pc := 165) (tgt := 70) dX9_seeds_165 (by decide) ?_
        exact go_to (hk70 _ _ _ _ _ _ _ _ h) (And.intro rfl (And.intro rfl (And.intro rfl (And.intro rfl (And.intro rfl (And.intro rfl (And.intro rfl (And.intro rfl trivial))))))))
      · replace h := (if_pos e6).symm.trans h
        refine go_iconst (pc := 154) (v := (1 : Int32)) dX9_seeds_154 (by decide) ?_
        refine go_goto (pc := 155) (tgt := 159) dX9_seeds_155 (by decide) ?_
        refine go_iadd (pc := 159) dX9_seeds_159 ?_
        refine go_istore (pc := 160) (lv' := [some (.inr 41), some (.inl v1), some (.inl v2), none, some (.inl v4), none, some (.inl v6), some (.inl (v7 + u4.1)), some (.inl (v8 + (1 : Int32))), some (.inl v9), some (.inl u2.1)]) dX9_seeds_160 (by decide) rfl ?_
        refine go_iinc (pc := 162) (v := (1 : Int32)) (lv' := [some (.inr 41), some (.inl v1), some (.inl v2), none, some (.inl v4), none, some (.inl v6), some (.inl (v7 + u4.1)), some (.inl (v8 + (1 : Int32))), some (.inl (v9 + (1 : Int32))), some (.inl u2.1)]) dX9_seeds_162 rfl (by decide) (by decide) rfl ?_
        refine go_goto (pc := 165) (tgt := 70) dX9_seeds_165 (by decide) ?_
        exact go_to (hk70 _ _ _ _ _ _ _ _ h) (And.intro rfl (And.intro rfl (And.intro rfl (And.intro rfl (And.intro rfl (And.intro rfl (And.intro rfl (And.intro rfl trivial))))))))
    · replace h := (if_neg e8).symm.trans h
      refine go_iload (pc := 86) dX9_seeds_86 rfl ?_
      refine go_ldcw (pc := 88) (v := (1103515245 : Int32)) kc_X9_366 dX9_seeds_88 ?_
      refine go_imul (pc := 91) dX9_seeds_91 ?_
      refine go_sipush (pc := 92) (v := (12345 : Int32)) dX9_seeds_92 (by decide) ?_
      refine go_iadd (pc := 95) dX9_seeds_95 ?_
      refine go_istore (pc := 96) (lv' := [some (.inr 41), some (.inl v1), some (.inl v2), none, some (.inl v4), none, some (.inl ((v6 * (1103515245 : Int32)) + (12345 : Int32))), some (.inl v7), some (.inl v8), some (.inl v9), some (.inl v10)]) dX9_seeds_96 (by decide) rfl ?_
      refine go_aload_n (pc := 98) dX9_seeds_98 rfl ?_
      refine gf_9_13 (pc := 99) dX9_seeds_99 ?_
      refine go_iload (pc := 102) dX9_seeds_102 rfl ?_
      refine go_iload (pc := 104) dX9_seeds_104 rfl ?_
      refine go_ldcw (pc := 106) (v := (2147483647 : Int32)) kc_X9_367 dX9_seeds_106 ?_
      refine go_iand (pc := 109) dX9_seeds_109 ?_
      refine go_ldcw (pc := 110) (v := (65536 : Int32)) kc_X9_368 dX9_seeds_110 ?_
      refine go_idiv (pc := 113) dX9_seeds_113 (by decide) ?_
      refine go_bipush (pc := 114) (v := (41 : Int32)) dX9_seeds_114 (by decide) ?_
      refine go_irem (pc := 116) dX9_seeds_116 (by decide) ?_
      obtain ⟨i7, h⟩ := g_gd h
      refine go_iast (pc := 117) (n := 12) rfl (g_inb_ok i7) dX9_seeds_117 ?_
      refine go_iinc (pc := 118) (v := (1 : Int32)) (lv' := [some (.inr 41), some (.inl v1), some (.inl v2), none, some (.inl v4), none, some (.inl ((v6 * (1103515245 : Int32)) + (12345 : Int32))), some (.inl v7), some (.inl v8), some (.inl v9), some (.inl (v10 + (1 : Int32)))]) dX9_seeds_118 rfl (by decide) (by decide) rfl ?_
      refine go_goto (pc := 121) (tgt := 79) dX9_seeds_121 (by decide) ?_
      exact go_to (ih _ _ _ _ _ _ _ _ _ h) (And.intro rfl (And.intro rfl (And.intro rfl (And.intro rfl (And.intro rfl (And.intro rfl (And.intro rfl (And.intro rfl (And.intro rfl trivial)))))))))
def x_X9_seeds_L70   : Nat → Int32 → Int32 → Int32 → Int32 → Int32 → Int32 → Int32 → g_M → Option (Int32 × g_M)
  | 0, _, _, _, _, _, _, _, _ => none
  | n + 1, v1, v2, v4, v6, v7, v8, v9, M => (if v2 ≤ v9 then (((x_X9_passesAll (1 : Int32) (0 : Int32) M).bind fun u9 => if v4 = 0 then (some (v7, u9.2)) else (some (v8, u9.2)))) else (x_X9_seeds_L79  (x_X9_seeds_L70   n) g_F v1 v2 v4 v6 v7 v8 v9 (0 : Int32) M))
set_option maxHeartbeats 4000000 in
set_option maxRecDepth 100000 in
theorem z_X9_seeds_L70 {X : g_X} (hok : g_ok X)  {r : Int32 × g_M}  : ∀ (n : Nat) (v1 : Int32) (v2 : Int32) (v4 : Int32) (v6 : Int32) (v7 : Int32) (v8 : Int32) (v9 : Int32) (M : g_M), x_X9_seeds_L70   n v1 v2 v4 v6 v7 v8 v9 M = some r → g_Go X cX9_seeds RX9 11 (some .int) 4 93 r 70 [some (.inr 41), some (.inl v1), some (.inl v2), none, some (.inl v4), none, some (.inl v6), some (.inl v7), some (.inl v8), some (.inl v9), none] [] M := by
  intro n
  induction n with
  | zero =>
    intro v1 v2 v4 v6 v7 v8 v9 M h
    rw [x_X9_seeds_L70] at h
    cases h
  | succ n ih =>
    intro v1 v2 v4 v6 v7 v8 v9 M h
    rw [x_X9_seeds_L70] at h
    refine go_iload (pc := 70) dX9_seeds_70 rfl ?_
    refine go_iload_n (pc := 72) dX9_seeds_72 rfl ?_
    refine go_icmp_ge (pc := 73) (tgt := 168) dX9_seeds_73 (by decide) (fun e12 => ?_) (fun e12 => ?_)
    · replace h := (if_pos e12).symm.trans h
      refine go_aload_n (pc := 168) dX9_seeds_168 rfl ?_
      refine go_iconst (pc := 169) (v := (1 : Int32)) dX9_seeds_169 (by decide) ?_
      refine go_iconst (pc := 170) (v := (0 : Int32)) dX9_seeds_170 (by decide) ?_
      obtain ⟨u9, c10, h⟩ := g_bd h
      refine go_callV (pc := 171) (as := [.inl (1 : Int32), .inl (0 : Int32)]) (st := []) (r := u9.1) (M1 := u9.2) (z_X9_passesAll hok  c10) cw_X9_passesAll ml_X9_175 (show g_lay[41]? = some _ from rfl) rfl rfl (by decide) (Nat.le_of_ble_eq_true rfl) rfl dX9_seeds_171 ?_
      refine go_iload (pc := 174) dX9_seeds_174 rfl ?_
      refine go_if_ne (pc := 176) (tgt := 184) dX9_seeds_176 (by decide) (fun e11 => ?_) (fun e11 => ?_)
      · replace h := (if_neg e11).symm.trans h
        refine go_iload (pc := 184) dX9_seeds_184 rfl ?_
        exact go_iret (pc := 186) (Option.some.inj h).symm rfl dX9_seeds_186 rfl
      · replace h := (if_pos e11).symm.trans h
        refine go_iload (pc := 179) dX9_seeds_179 rfl ?_
        refine go_goto (pc := 181) (tgt := 186) dX9_seeds_181 (by decide) ?_
        exact go_iret (pc := 186) (Option.some.inj h).symm rfl dX9_seeds_186 rfl
    · replace h := (if_neg e12).symm.trans h
      refine go_iconst (pc := 76) (v := (0 : Int32)) dX9_seeds_76 (by decide) ?_
      refine go_istore (pc := 77) (lv' := [some (.inr 41), some (.inl v1), some (.inl v2), none, some (.inl v4), none, some (.inl v6), some (.inl v7), some (.inl v8), some (.inl v9), some (.inl (0 : Int32))]) dX9_seeds_77 (by decide) rfl ?_
      exact go_to (z_X9_seeds_L79 hok  (ih) g_F _ _ _ _ _ _ _ _ _ h) (And.intro rfl (And.intro rfl (And.intro rfl (And.intro rfl (And.intro rfl (And.intro rfl (And.intro rfl (And.intro rfl (And.intro rfl trivial)))))))))
def x_X9_seeds_L40   (v1 : Int32) (v2 : Int32) (v3 : Int32) (v4 : Int32) (v5 : Int32) (M : g_M) : Option (Int32 × g_M) := (if v5 = 0 then (((x_X9_passesAll (1 : Int32) (1 : Int32) M).bind fun u13 => x_X9_seeds_L70   g_F v1 v2 v4 v3 (0 : Int32) (0 : Int32) (0 : Int32) u13.2)) else (((x_X9_no v5 M).bind fun u15 => some (u15.1, u15.2))))
set_option maxHeartbeats 4000000 in
set_option maxRecDepth 100000 in
theorem z_X9_seeds_L40 {X : g_X} (hok : g_ok X)  {r : Int32 × g_M}  {v1 : Int32} {v2 : Int32} {v3 : Int32} {v4 : Int32} {v5 : Int32} {M : g_M} (h : x_X9_seeds_L40   v1 v2 v3 v4 v5 M = some r) : g_Go X cX9_seeds RX9 11 (some .int) 4 93 r 40 [some (.inr 41), some (.inl v1), some (.inl v2), some (.inl v3), some (.inl v4), some (.inl v5), none, none, none, none, none] [] M := by
  rw [x_X9_seeds_L40] at h
  refine go_iload (pc := 40) dX9_seeds_40 rfl ?_
  refine go_if_eq (pc := 42) (tgt := 52) dX9_seeds_42 (by decide) (fun e17 => ?_) (fun e17 => ?_)
  · replace h := (if_pos e17).symm.trans h
    refine go_aload_n (pc := 52) dX9_seeds_52 rfl ?_
    refine go_iconst (pc := 53) (v := (1 : Int32)) dX9_seeds_53 (by decide) ?_
    refine go_iconst (pc := 54) (v := (1 : Int32)) dX9_seeds_54 (by decide) ?_
    obtain ⟨u13, c14, h⟩ := g_bd h
    refine go_callV (pc := 55) (as := [.inl (1 : Int32), .inl (1 : Int32)]) (st := []) (r := u13.1) (M1 := u13.2) (z_X9_passesAll hok  c14) cw_X9_passesAll ml_X9_175 (show g_lay[41]? = some _ from rfl) rfl rfl (by decide) (Nat.le_of_ble_eq_true rfl) rfl dX9_seeds_55 ?_
    refine go_iload_n (pc := 58) dX9_seeds_58 rfl ?_
    refine go_istore (pc := 59) (lv' := [some (.inr 41), some (.inl v1), some (.inl v2), some (.inl v3), some (.inl v4), some (.inl v5), some (.inl v3), none, none, none, none]) dX9_seeds_59 (by decide) rfl ?_
    refine go_iconst (pc := 61) (v := (0 : Int32)) dX9_seeds_61 (by decide) ?_
    refine go_istore (pc := 62) (lv' := [some (.inr 41), some (.inl v1), some (.inl v2), some (.inl v3), some (.inl v4), some (.inl v5), some (.inl v3), some (.inl (0 : Int32)), none, none, none]) dX9_seeds_62 (by decide) rfl ?_
    refine go_iconst (pc := 64) (v := (0 : Int32)) dX9_seeds_64 (by decide) ?_
    refine go_istore (pc := 65) (lv' := [some (.inr 41), some (.inl v1), some (.inl v2), some (.inl v3), some (.inl v4), some (.inl v5), some (.inl v3), some (.inl (0 : Int32)), some (.inl (0 : Int32)), none, none]) dX9_seeds_65 (by decide) rfl ?_
    refine go_iconst (pc := 67) (v := (0 : Int32)) dX9_seeds_67 (by decide) ?_
    refine go_istore (pc := 68) (lv' := [some (.inr 41), some (.inl v1), some (.inl v2), some (.inl v3), some (.inl v4), some (.inl v5), some (.inl v3), some (.inl (0 : Int32)), some (.inl (0 : Int32)), some (.inl (0 : Int32)), none]) dX9_seeds_68 (by decide) rfl ?_
    exact go_to (z_X9_seeds_L70 hok   g_F _ _ _ _ _ _ _ _ h) (And.intro rfl (And.intro rfl (And.intro rfl (And.intro rfl (And.intro rfl (And.intro rfl (And.intro rfl (And.intro rfl trivial))))))))
  · replace h := (if_neg e17).symm.trans h
    refine go_aload_n (pc := 45) dX9_seeds_45 rfl ?_
    refine go_iload (pc := 46) dX9_seeds_46 rfl ?_
    obtain ⟨u15, c16, h⟩ := g_bd h
    refine go_callV (pc := 48) (as := [.inl v5]) (st := []) (r := u15.1) (M1 := u15.2) (z_X9_no hok  c16) cw_X9_no ml_X9_124 (show g_lay[41]? = some _ from rfl) rfl rfl (by decide) (Nat.le_of_ble_eq_true rfl) rfl dX9_seeds_48 ?_
    exact go_iret (pc := 51) (Option.some.inj h).symm rfl dX9_seeds_51 rfl
def x_X9_seeds_L19   (v1 : Int32) (v2 : Int32) (v3 : Int32) (v4 : Int32) (s0 : Int32) (M : g_M) : Option (Int32 × g_M) := (if s0 = 0 then (((x_X9_isIn v4 (0 : Int32) (1 : Int32) M).bind fun u18 => if u18.1 = 0 then (x_X9_seeds_L40   v1 v2 v3 v4 (-2 : Int32) u18.2) else (x_X9_seeds_L40   v1 v2 v3 v4 s0 u18.2))) else (x_X9_seeds_L40   v1 v2 v3 v4 s0 M))
set_option maxHeartbeats 4000000 in
set_option maxRecDepth 100000 in
theorem z_X9_seeds_L19 {X : g_X} (hok : g_ok X)  {r : Int32 × g_M}  {v1 : Int32} {v2 : Int32} {v3 : Int32} {v4 : Int32} {s0 : Int32} {M : g_M} (h : x_X9_seeds_L19   v1 v2 v3 v4 s0 M = some r) : g_Go X cX9_seeds RX9 11 (some .int) 4 93 r 19 [some (.inr 41), some (.inl v1), some (.inl v2), some (.inl v3), some (.inl v4), none, none, none, none, none, none] [.inl s0] M := by
  rw [x_X9_seeds_L19] at h
  refine go_istore (pc := 19) (lv' := [some (.inr 41), some (.inl v1), some (.inl v2), some (.inl v3), some (.inl v4), some (.inl s0), none, none, none, none, none]) dX9_seeds_19 (by decide) rfl ?_
  refine go_iload (pc := 21) dX9_seeds_21 rfl ?_
  refine go_if_ne (pc := 23) (tgt := 40) dX9_seeds_23 (by decide) (fun e21 => ?_) (fun e21 => ?_)
  · replace h := (if_neg e21).symm.trans h
    exact go_to (z_X9_seeds_L40 hok   h) (And.intro rfl (And.intro rfl (And.intro rfl (And.intro rfl (And.intro rfl (And.intro rfl trivial))))))
  · replace h := (if_pos e21).symm.trans h
    refine go_iload (pc := 26) dX9_seeds_26 rfl ?_
    refine go_iconst (pc := 28) (v := (0 : Int32)) dX9_seeds_28 (by decide) ?_
    refine go_iconst (pc := 29) (v := (1 : Int32)) dX9_seeds_29 (by decide) ?_
    obtain ⟨u18, c19, h⟩ := g_bd h
    refine go_callS (pc := 30) (as := [.inl v4, .inl (0 : Int32), .inl (1 : Int32)]) (st := []) (r := u18.1) (M1 := u18.2) (z_X9_isIn hok  c19) cw_X9_isIn ml_X9_135 (by decide) (Nat.le_of_ble_eq_true rfl) rfl dX9_seeds_30 ?_
    refine go_if_ne (pc := 33) (tgt := 40) dX9_seeds_33 (by decide) (fun e20 => ?_) (fun e20 => ?_)
    · replace h := (if_neg e20).symm.trans h
      exact go_to (z_X9_seeds_L40 hok   h) (And.intro rfl (And.intro rfl (And.intro rfl (And.intro rfl (And.intro rfl (And.intro rfl trivial))))))
    · replace h := (if_pos e20).symm.trans h
      refine go_bipush (pc := 36) (v := (-2 : Int32)) dX9_seeds_36 (by decide) ?_
      refine go_istore (pc := 38) (lv' := [some (.inr 41), some (.inl v1), some (.inl v2), some (.inl v3), some (.inl v4), some (.inl (-2 : Int32)), none, none, none, none, none]) dX9_seeds_38 (by decide) rfl ?_
      exact go_to (z_X9_seeds_L40 hok   h) (And.intro rfl (And.intro rfl (And.intro rfl (And.intro rfl (And.intro rfl (And.intro rfl trivial))))))
def x_X9_seeds  (p1 p2 p3 p4 : Int32) (M : g_M) : Option (Int32 × g_M) := (((x_X9_isBoat p1 M).bind fun u22 => if u22.1 = 0 then (x_X9_seeds_L19   p1 p2 p3 p4 (-1 : Int32) u22.2) else (((x_X9_bound p2 (1 : Int32) (20 : Int32) u22.2).bind fun u24 => x_X9_seeds_L19   p1 p2 p3 p4 u24.1 u24.2))))
set_option maxHeartbeats 4000000 in
set_option maxRecDepth 100000 in
theorem z_X9_seeds {X : g_X} (hok : g_ok X)  {p1 p2 p3 p4 : Int32} {M : g_M} {r : Int32 × g_M} (h : x_X9_seeds p1 p2 p3 p4 M = some r) : g_Con X yX9_seeds cX9_seeds 11 (some .int) 4 93 [.inr 41, .inl p1, .inl p2, .inl p3, .inl p4] M r := by
  rw [x_X9_seeds] at h
  refine g_con hok (plainFor_of_name (by decide +kernel)) (Nat.le_of_ble_eq_true rfl) (go_to (lv2 := [some (.inr 41), some (.inl p1), some (.inl p2), some (.inl p3), some (.inl p4), none, none, none, none, none, none]) (own := RX9) ?_ (And.intro rfl (And.intro rfl (And.intro rfl (And.intro rfl (And.intro rfl trivial))))))
  refine go_aload_n (pc := 0) dX9_seeds_0 rfl ?_
  refine go_iload_n (pc := 1) dX9_seeds_1 rfl ?_
  obtain ⟨u22, c23, h⟩ := g_bd h
  refine go_callV (pc := 2) (as := [.inl p1]) (st := []) (r := u22.1) (M1 := u22.2) (z_X9_isBoat hok  c23) cw_X9_isBoat ml_X9_168 (show g_lay[41]? = some _ from rfl) rfl rfl (by decide) (Nat.le_of_ble_eq_true rfl) rfl dX9_seeds_2 ?_
  refine go_if_ne (pc := 5) (tgt := 12) dX9_seeds_5 (by decide) (fun e26 => ?_) (fun e26 => ?_)
  · replace h := (if_neg e26).symm.trans h
    refine go_iload_n (pc := 12) dX9_seeds_12 rfl ?_
    refine go_iconst (pc := 13) (v := (1 : Int32)) dX9_seeds_13 (by decide) ?_
    refine go_bipush (pc := 14) (v := (20 : Int32)) dX9_seeds_14 (by decide) ?_
    obtain ⟨u24, c25, h⟩ := g_bd h
    refine go_callS (pc := 16) (as := [.inl p2, .inl (1 : Int32), .inl (20 : Int32)]) (st := []) (r := u24.1) (M1 := u24.2) (z_X9_bound hok  c25) cw_X9_bound ml_X9_117 (by decide) (Nat.le_of_ble_eq_true rfl) rfl dX9_seeds_16 ?_
    exact go_to (z_X9_seeds_L19 hok   h) (And.intro rfl (And.intro rfl (And.intro rfl (And.intro rfl (And.intro rfl trivial)))))
  · replace h := (if_pos e26).symm.trans h
    refine go_iconst (pc := 8) (v := (-1 : Int32)) dX9_seeds_8 (by decide) ?_
    refine go_goto (pc := 9) (tgt := 19) dX9_seeds_9 (by decide) ?_
    exact go_to (z_X9_seeds_L19 hok   h) (And.intro rfl (And.intro rfl (And.intro rfl (And.intro rfl (And.intro rfl trivial)))))
def x_X9_hangNow_L4   : Nat → Int32 → Int32 → g_M → Option (Int32 × g_M)
  | 0, _, _, _ => none
  | n + 1, v1, v2, M => (if (M 41 16) ≤ v2 then (some (v1, M)) else ((if g_inb v2 5 = true then (((x_X9_hangsWith v2 (M 41 17) (M 52 v2.toNatClampNeg) M).bind fun u2 => if u2.1 = 0 then (x_X9_hangNow_L4   n (v1 + (0 : Int32)) (v2 + (1 : Int32)) u2.2) else (x_X9_hangNow_L4   n (v1 + (1 : Int32)) (v2 + (1 : Int32)) u2.2))) else none)))
set_option maxHeartbeats 4000000 in
set_option maxRecDepth 100000 in
theorem z_X9_hangNow_L4 {X : g_X} (hok : g_ok X)  {r : Int32 × g_M}  : ∀ (n : Nat) (v1 : Int32) (v2 : Int32) (M : g_M), x_X9_hangNow_L4   n v1 v2 M = some r → g_Go X cX9_hangNow RX9 3 (some .int) 3 69 r 4 [some (.inr 41), some (.inl v1), some (.inl v2)] [] M := by
  intro n
  induction n with
  | zero =>
    intro v1 v2 M h
    rw [x_X9_hangNow_L4] at h
    cases h
  | succ n ih =>
    intro v1 v2 M h
    rw [x_X9_hangNow_L4] at h
    refine go_iload_n (pc := 4) dX9_hangNow_4 rfl ?_
    refine go_aload_n (pc := 5) dX9_hangNow_5 rfl ?_
    refine gf_9_114 (pc := 6) dX9_hangNow_6 ?_
    refine go_icmp_ge (pc := 9) (tgt := 44) dX9_hangNow_9 (by decide) (fun e5 => ?_) (fun e5 => ?_)
    · replace h := (if_pos e5).symm.trans h
      refine go_iload_n (pc := 44) dX9_hangNow_44 rfl ?_
      exact go_iret (pc := 45) (Option.some.inj h).symm rfl dX9_hangNow_45 rfl
    · replace h := (if_neg e5).symm.trans h
      refine go_iload_n (pc := 12) dX9_hangNow_12 rfl ?_
      refine go_aload_n (pc := 13) dX9_hangNow_13 rfl ?_
      refine go_iload_n (pc := 14) dX9_hangNow_14 rfl ?_
      refine go_aload_n (pc := 15) dX9_hangNow_15 rfl ?_
      refine gf_9_205 (pc := 16) dX9_hangNow_16 ?_
      refine go_aload_n (pc := 19) dX9_hangNow_19 rfl ?_
      refine gf_9_40 (pc := 20) dX9_hangNow_20 ?_
      refine go_iload_n (pc := 23) dX9_hangNow_23 rfl ?_
      obtain ⟨i1, h⟩ := g_gd h
      refine go_iald (pc := 24) (n := 5) rfl (g_inb_ok i1) dX9_hangNow_24 ?_
      obtain ⟨u2, c3, h⟩ := g_bd h
      refine go_callV (pc := 25) (as := [.inl v2, .inl (M 41 17), .inl (M 52 v2.toNatClampNeg)]) (st := [.inl v1]) (r := u2.1) (M1 := u2.2) (z_X9_hangsWith hok  c3) cw_X9_hangsWith ml_X9_218 (show g_lay[41]? = some _ from rfl) rfl rfl (by decide) (Nat.le_of_ble_eq_true rfl) rfl dX9_hangNow_25 ?_
      refine go_if_eq (pc := 28) (tgt := 35) dX9_hangNow_28 (by decide) (fun e4 => ?_) (fun e4 => ?_)
      · replace h := (if_pos e4).symm.trans h
        refine go_iconst (pc := 35) (v := (0 : Int32)) dX9_hangNow_35 (by decide) ?_
        refine go_iadd (pc := 36) dX9_hangNow_36 ?_
        refine go_istore_n (pc := 37) (lv' := [some (.inr 41), some (.inl (v1 + (0 : Int32))), some (.inl v2)]) dX9_hangNow_37 (by decide) rfl ?_
        refine go_iinc (pc := 38) (v := (1 : Int32)) (lv' := [some (.inr 41), some (.inl (v1 + (0 : Int32))), some (.inl (v2 + (1 : Int32)))]) dX9_hangNow_38 rfl (by decide) (by decide) rfl ?_
        refine go_goto (pc := 41) (tgt := 4) dX9_hangNow_41 (by decide) ?_
        exact go_to (ih _ _ _ h) (And.intro rfl (And.intro rfl (And.intro rfl trivial)))
      · replace h := (if_neg e4).symm.trans h
        refine go_iconst (pc := 31) (v := (1 : Int32)) dX9_hangNow_31 (by decide) ?_
        refine go_goto (pc := 32) (tgt := 36) dX9_hangNow_32 (by decide) ?_
        refine go_iadd (pc := 36) dX9_hangNow_36 ?_
        refine go_istore_n (pc := 37) (lv' := [some (.inr 41), some (.inl (v1 + (1 : Int32))), some (.inl v2)]) dX9_hangNow_37 (by decide) rfl ?_
        refine go_iinc (pc := 38) (v := (1 : Int32)) (lv' := [some (.inr 41), some (.inl (v1 + (1 : Int32))), some (.inl (v2 + (1 : Int32)))]) dX9_hangNow_38 rfl (by decide) (by decide) rfl ?_
        refine go_goto (pc := 41) (tgt := 4) dX9_hangNow_41 (by decide) ?_
        exact go_to (ih _ _ _ h) (And.intro rfl (And.intro rfl (And.intro rfl trivial)))
def x_X9_hangNow  (M : g_M) : Option (Int32 × g_M) := (x_X9_hangNow_L4   g_F (0 : Int32) (0 : Int32) M)
set_option maxHeartbeats 4000000 in
set_option maxRecDepth 100000 in
theorem z_X9_hangNow {X : g_X} (hok : g_ok X)  {M : g_M} {r : Int32 × g_M} (h : x_X9_hangNow  M = some r) : g_Con X yX9_hangNow cX9_hangNow 3 (some .int) 3 69 [.inr 41] M r := by
  rw [x_X9_hangNow] at h
  refine g_con hok (plainFor_of_name (by decide +kernel)) (Nat.le_of_ble_eq_true rfl) (go_to (lv2 := [some (.inr 41), none, none]) (own := RX9) ?_ (And.intro rfl trivial))
  refine go_iconst (pc := 0) (v := (0 : Int32)) dX9_hangNow_0 (by decide) ?_
  refine go_istore_n (pc := 1) (lv' := [some (.inr 41), some (.inl (0 : Int32)), none]) dX9_hangNow_1 (by decide) rfl ?_
  refine go_iconst (pc := 2) (v := (0 : Int32)) dX9_hangNow_2 (by decide) ?_
  refine go_istore_n (pc := 3) (lv' := [some (.inr 41), some (.inl (0 : Int32)), some (.inl (0 : Int32))]) dX9_hangNow_3 (by decide) rfl ?_
  exact go_to (z_X9_hangNow_L4 hok   g_F _ _ _ h) (And.intro rfl (And.intro rfl (And.intro rfl trivial)))
def x_X9_count_L138   : Nat → Int32 → Int32 → g_M → Option (Int32 × g_M)
  | 0, _, _, _ => none
  | n + 1, v2, v3, M => (if (M 41 16) ≤ v3 then (some (v2, M)) else ((if g_inb v3 5 = true then (x_X9_count_L138   n (v2 + (M 52 v3.toNatClampNeg)) (v3 + (1 : Int32)) M) else none)))
set_option maxHeartbeats 4000000 in
set_option maxRecDepth 100000 in
theorem z_X9_count_L138 {X : g_X} (hok : g_ok X)  {r : Int32 × g_M}  : ∀ (n : Nat) (v2 : Int32) (v3 : Int32) (M : g_M), x_X9_count_L138   n v2 v3 M = some r → g_Go X cX9_count RX9 4 (some .int) 4 91 r 138 [some (.inr 41), none, some (.inl v2), some (.inl v3)] [] M := by
  intro n
  induction n with
  | zero =>
    intro v2 v3 M h
    rw [x_X9_count_L138] at h
    cases h
  | succ n ih =>
    intro v2 v3 M h
    rw [x_X9_count_L138] at h
    refine go_iload_n (pc := 138) dX9_count_138 rfl ?_
    refine go_aload_n (pc := 139) dX9_count_139 rfl ?_
    refine gf_9_114 (pc := 140) dX9_count_140 ?_
    refine go_icmp_ge (pc := 143) (tgt := 161) dX9_count_143 (by decide) (fun e2 => ?_) (fun e2 => ?_)
    · replace h := (if_pos e2).symm.trans h
      refine go_iload_n (pc := 161) dX9_count_161 rfl ?_
      exact go_iret (pc := 162) (Option.some.inj h).symm rfl dX9_count_162 rfl
    · replace h := (if_neg e2).symm.trans h
      refine go_iload_n (pc := 146) dX9_count_146 rfl ?_
      refine go_aload_n (pc := 147) dX9_count_147 rfl ?_
      refine gf_9_40 (pc := 148) dX9_count_148 ?_
      refine go_iload_n (pc := 151) dX9_count_151 rfl ?_
      obtain ⟨i1, h⟩ := g_gd h
      refine go_iald (pc := 152) (n := 5) rfl (g_inb_ok i1) dX9_count_152 ?_
      refine go_iadd (pc := 153) dX9_count_153 ?_
      refine go_istore_n (pc := 154) (lv' := [some (.inr 41), none, some (.inl (v2 + (M 52 v3.toNatClampNeg))), some (.inl v3)]) dX9_count_154 (by decide) rfl ?_
      refine go_iinc (pc := 155) (v := (1 : Int32)) (lv' := [some (.inr 41), none, some (.inl (v2 + (M 52 v3.toNatClampNeg))), some (.inl (v3 + (1 : Int32)))]) dX9_count_155 rfl (by decide) (by decide) rfl ?_
      refine go_goto (pc := 158) (tgt := 138) dX9_count_158 (by decide) ?_
      exact go_to (ih _ _ _ h) (And.intro rfl (And.intro rfl (And.intro rfl trivial)))
def x_X9_count  (p1 : Int32) (M : g_M) : Option (Int32 × g_M) := (((x_X9_isIn p1 (11 : Int32) (16 : Int32) M).bind fun u3 => if u3.1 = 0 then (if p1 = (0 : Int32) then (some ((u3.2 41 16), u3.2)) else if p1 = (1 : Int32) then (some ((u3.2 41 15), u3.2)) else if p1 = (2 : Int32) then (some ((u3.2 41 17), u3.2)) else if p1 = (3 : Int32) then ((if g_inb (p1 - (3 : Int32)) 2 = true then (some ((u3.2 47 (p1 - (3 : Int32)).toNatClampNeg), u3.2)) else none)) else if p1 = (4 : Int32) then ((if g_inb (p1 - (3 : Int32)) 2 = true then (some ((u3.2 47 (p1 - (3 : Int32)).toNatClampNeg), u3.2)) else none)) else if p1 = (5 : Int32) then (x_X9_count_L138   g_F (0 : Int32) (0 : Int32) u3.2) else if p1 = (6 : Int32) then (((x_X9_hangNow u3.2).bind fun u7 => some (u7.1, u7.2))) else if p1 = (7 : Int32) then (some ((u3.2 41 24), u3.2)) else if p1 = (8 : Int32) then (some ((u3.2 41 37), u3.2)) else if p1 = (9 : Int32) then (some ((u3.2 41 18), u3.2)) else if p1 = (10 : Int32) then (some ((u3.2 41 19), u3.2)) else if p1 = (11 : Int32) then (some ((-9 : Int32), u3.2)) else if p1 = (12 : Int32) then (some ((-9 : Int32), u3.2)) else if p1 = (13 : Int32) then (some ((-9 : Int32), u3.2)) else if p1 = (14 : Int32) then (some ((-9 : Int32), u3.2)) else if p1 = (15 : Int32) then (some ((-9 : Int32), u3.2)) else if p1 = (16 : Int32) then (some ((-9 : Int32), u3.2)) else if p1 = (17 : Int32) then (some ((u3.2 41 33), u3.2)) else (some ((-9 : Int32), u3.2))) else ((if g_inb (p1 - (10 : Int32)) 7 = true then (some ((u3.2 42 (p1 - (10 : Int32)).toNatClampNeg), u3.2)) else none))))
set_option maxHeartbeats 4000000 in
set_option maxRecDepth 100000 in
theorem z_X9_count {X : g_X} (hok : g_ok X)  {p1 : Int32} {M : g_M} {r : Int32 × g_M} (h : x_X9_count p1 M = some r) : g_Con X yX9_count cX9_count 4 (some .int) 4 91 [.inr 41, .inl p1] M r := by
  rw [x_X9_count] at h
  refine g_con hok (plainFor_of_name (by decide +kernel)) (Nat.le_of_ble_eq_true rfl) (go_to (lv2 := [some (.inr 41), some (.inl p1), none, none]) (own := RX9) ?_ (And.intro rfl (And.intro rfl trivial)))
  refine go_iload_n (pc := 0) dX9_count_0 rfl ?_
  refine go_bipush (pc := 1) (v := (11 : Int32)) dX9_count_1 (by decide) ?_
  refine go_bipush (pc := 3) (v := (16 : Int32)) dX9_count_3 (by decide) ?_
  obtain ⟨u3, c4, h⟩ := g_bd h
  refine go_callS (pc := 5) (as := [.inl p1, .inl (11 : Int32), .inl (16 : Int32)]) (st := []) (r := u3.1) (M1 := u3.2) (z_X9_isIn hok  c4) cw_X9_isIn ml_X9_135 (by decide) (Nat.le_of_ble_eq_true rfl) rfl dX9_count_5 ?_
  refine go_if_eq (pc := 8) (tgt := 21) dX9_count_8 (by decide) (fun e28 => ?_) (fun e28 => ?_)
  · replace h := (if_pos e28).symm.trans h
    refine go_iconst (pc := 21) (v := (0 : Int32)) dX9_count_21 (by decide) ?_
    refine go_istore_n (pc := 22) (lv' := [some (.inr 41), some (.inl p1), some (.inl (0 : Int32)), none]) dX9_count_22 (by decide) rfl ?_
    refine go_iload_n (pc := 23) dX9_count_23 rfl ?_
    by_cases e9 : p1 = (0 : Int32)
    · replace h := (if_pos e9).symm.trans h
      refine go_tabIn (pc := 24) (off := 88) (tgt := 112) dX9_count_24 (by rw [e9]; decide) (by rw [e9]; decide) (by rw [e9]; decide) (by decide) ?_
      refine go_aload_n (pc := 112) dX9_count_112 rfl ?_
      refine gf_9_114 (pc := 113) dX9_count_113 ?_
      exact go_iret (pc := 116) (Option.some.inj h).symm rfl dX9_count_116 rfl
    · replace h := (if_neg e9).symm.trans h
      by_cases e10 : p1 = (1 : Int32)
      · replace h := (if_pos e10).symm.trans h
        refine go_tabIn (pc := 24) (off := 93) (tgt := 117) dX9_count_24 (by rw [e10]; decide) (by rw [e10]; decide) (by rw [e10]; decide) (by decide) ?_
        refine go_aload_n (pc := 117) dX9_count_117 rfl ?_
        refine gf_9_110 (pc := 118) dX9_count_118 ?_
        exact go_iret (pc := 121) (Option.some.inj h).symm rfl dX9_count_121 rfl
      · replace h := (if_neg e10).symm.trans h
        by_cases e11 : p1 = (2 : Int32)
        · replace h := (if_pos e11).symm.trans h
          refine go_tabIn (pc := 24) (off := 98) (tgt := 122) dX9_count_24 (by rw [e11]; decide) (by rw [e11]; decide) (by rw [e11]; decide) (by decide) ?_
          refine go_aload_n (pc := 122) dX9_count_122 rfl ?_
          refine gf_9_205 (pc := 123) dX9_count_123 ?_
          exact go_iret (pc := 126) (Option.some.inj h).symm rfl dX9_count_126 rfl
        · replace h := (if_neg e11).symm.trans h
          by_cases e12 : p1 = (3 : Int32)
          · replace h := (if_pos e12).symm.trans h
            refine go_tabIn (pc := 24) (off := 103) (tgt := 127) dX9_count_24 (by rw [e12]; decide) (by rw [e12]; decide) (by rw [e12]; decide) (by decide) ?_
            refine go_aload_n (pc := 127) dX9_count_127 rfl ?_
            refine gf_9_25 (pc := 128) dX9_count_128 ?_
            refine go_iload_n (pc := 131) dX9_count_131 rfl ?_
            refine go_iconst (pc := 132) (v := (3 : Int32)) dX9_count_132 (by decide) ?_
            refine go_isub (pc := 133) dX9_count_133 ?_
            obtain ⟨i5, h⟩ := g_gd h
            refine go_iald (pc := 134) (n := 2) rfl (g_inb_ok i5) dX9_count_134 ?_
            exact go_iret (pc := 135) (Option.some.inj h).symm rfl dX9_count_135 rfl
          · replace h := (if_neg e12).symm.trans h
            by_cases e13 : p1 = (4 : Int32)
            · replace h := (if_pos e13).symm.trans h
              refine go_tabIn (pc := 24) (off := 103) (tgt := 127) dX9_count_24 (by rw [e13]; decide) (by rw [e13]; decide) (by rw [e13]; decide) (by decide) ?_
              refine go_aload_n (pc := 127) dX9_count_127 rfl ?_
              refine gf_9_25 (pc := 128) dX9_count_128 ?_
              refine go_iload_n (pc := 131) dX9_count_131 rfl ?_
              refine go_iconst (pc := 132) (v := (3 : Int32)) dX9_count_132 (by decide) ?_
              refine go_isub (pc := 133) dX9_count_133 ?_
              obtain ⟨i6, h⟩ := g_gd h
              refine go_iald (pc := 134) (n := 2) rfl (g_inb_ok i6) dX9_count_134 ?_
              exact go_iret (pc := 135) (Option.some.inj h).symm rfl dX9_count_135 rfl
            · replace h := (if_neg e13).symm.trans h
              by_cases e14 : p1 = (5 : Int32)
              · replace h := (if_pos e14).symm.trans h
                refine go_tabIn (pc := 24) (off := 112) (tgt := 136) dX9_count_24 (by rw [e14]; decide) (by rw [e14]; decide) (by rw [e14]; decide) (by decide) ?_
                refine go_iconst (pc := 136) (v := (0 : Int32)) dX9_count_136 (by decide) ?_
                refine go_istore_n (pc := 137) (lv' := [some (.inr 41), some (.inl p1), some (.inl (0 : Int32)), some (.inl (0 : Int32))]) dX9_count_137 (by decide) rfl ?_
                exact go_to (z_X9_count_L138 hok   g_F _ _ _ h) (And.intro rfl (And.intro rfl (And.intro rfl trivial)))
              · replace h := (if_neg e14).symm.trans h
                by_cases e15 : p1 = (6 : Int32)
                · replace h := (if_pos e15).symm.trans h
                  refine go_tabIn (pc := 24) (off := 139) (tgt := 163) dX9_count_24 (by rw [e15]; decide) (by rw [e15]; decide) (by rw [e15]; decide) (by decide) ?_
                  refine go_aload_n (pc := 163) dX9_count_163 rfl ?_
                  obtain ⟨u7, c8, h⟩ := g_bd h
                  refine go_callV (pc := 164) (as := []) (st := []) (r := u7.1) (M1 := u7.2) (z_X9_hangNow hok  c8) cw_X9_hangNow ml_X9_369 (show g_lay[41]? = some _ from rfl) rfl rfl (by decide) (Nat.le_of_ble_eq_true rfl) rfl dX9_count_164 ?_
                  exact go_iret (pc := 167) (Option.some.inj h).symm rfl dX9_count_167 rfl
                · replace h := (if_neg e15).symm.trans h
                  by_cases e16 : p1 = (7 : Int32)
                  · replace h := (if_pos e16).symm.trans h
                    refine go_tabIn (pc := 24) (off := 144) (tgt := 168) dX9_count_24 (by rw [e16]; decide) (by rw [e16]; decide) (by rw [e16]; decide) (by decide) ?_
                    refine go_aload_n (pc := 168) dX9_count_168 rfl ?_
                    refine gf_9_121 (pc := 169) dX9_count_169 ?_
                    exact go_iret (pc := 172) (Option.some.inj h).symm rfl dX9_count_172 rfl
                  · replace h := (if_neg e16).symm.trans h
                    by_cases e17 : p1 = (8 : Int32)
                    · replace h := (if_pos e17).symm.trans h
                      refine go_tabIn (pc := 24) (off := 149) (tgt := 173) dX9_count_24 (by rw [e17]; decide) (by rw [e17]; decide) (by rw [e17]; decide) (by decide) ?_
                      refine go_aload_n (pc := 173) dX9_count_173 rfl ?_
                      refine gf_9_291 (pc := 174) dX9_count_174 ?_
                      exact go_iret (pc := 177) (Option.some.inj h).symm rfl dX9_count_177 rfl
                    · replace h := (if_neg e17).symm.trans h
                      by_cases e18 : p1 = (9 : Int32)
                      · replace h := (if_pos e18).symm.trans h
                        refine go_tabIn (pc := 24) (off := 154) (tgt := 178) dX9_count_24 (by rw [e18]; decide) (by rw [e18]; decide) (by rw [e18]; decide) (by decide) ?_
                        refine go_aload_n (pc := 178) dX9_count_178 rfl ?_
                        refine gf_9_196 (pc := 179) dX9_count_179 ?_
                        exact go_iret (pc := 182) (Option.some.inj h).symm rfl dX9_count_182 rfl
                      · replace h := (if_neg e18).symm.trans h
                        by_cases e19 : p1 = (10 : Int32)
                        · replace h := (if_pos e19).symm.trans h
                          refine go_tabIn (pc := 24) (off := 159) (tgt := 183) dX9_count_24 (by rw [e19]; decide) (by rw [e19]; decide) (by rw [e19]; decide) (by decide) ?_
                          refine go_aload_n (pc := 183) dX9_count_183 rfl ?_
                          refine gf_9_202 (pc := 184) dX9_count_184 ?_
                          exact go_iret (pc := 187) (Option.some.inj h).symm rfl dX9_count_187 rfl
                        · replace h := (if_neg e19).symm.trans h
                          by_cases e20 : p1 = (11 : Int32)
                          · replace h := (if_pos e20).symm.trans h
                            refine go_tabIn (pc := 24) (off := 169) (tgt := 193) dX9_count_24 (by rw [e20]; decide) (by rw [e20]; decide) (by rw [e20]; decide) (by decide) ?_
                            refine go_bipush (pc := 193) (v := (-9 : Int32)) dX9_count_193 (by decide) ?_
                            exact go_iret (pc := 195) (Option.some.inj h).symm rfl dX9_count_195 rfl
                          · replace h := (if_neg e20).symm.trans h
                            by_cases e21 : p1 = (12 : Int32)
                            · replace h := (if_pos e21).symm.trans h
                              refine go_tabIn (pc := 24) (off := 169) (tgt := 193) dX9_count_24 (by rw [e21]; decide) (by rw [e21]; decide) (by rw [e21]; decide) (by decide) ?_
                              refine go_bipush (pc := 193) (v := (-9 : Int32)) dX9_count_193 (by decide) ?_
                              exact go_iret (pc := 195) (Option.some.inj h).symm rfl dX9_count_195 rfl
                            · replace h := (if_neg e21).symm.trans h
                              by_cases e22 : p1 = (13 : Int32)
                              · replace h := (if_pos e22).symm.trans h
                                refine go_tabIn (pc := 24) (off := 169) (tgt := 193) dX9_count_24 (by rw [e22]; decide) (by rw [e22]; decide) (by rw [e22]; decide) (by decide) ?_
                                refine go_bipush (pc := 193) (v := (-9 : Int32)) dX9_count_193 (by decide) ?_
                                exact go_iret (pc := 195) (Option.some.inj h).symm rfl dX9_count_195 rfl
                              · replace h := (if_neg e22).symm.trans h
                                by_cases e23 : p1 = (14 : Int32)
                                · replace h := (if_pos e23).symm.trans h
                                  refine go_tabIn (pc := 24) (off := 169) (tgt := 193) dX9_count_24 (by rw [e23]; decide) (by rw [e23]; decide) (by rw [e23]; decide) (by decide) ?_
                                  refine go_bipush (pc := 193) (v := (-9 : Int32)) dX9_count_193 (by decide) ?_
                                  exact go_iret (pc := 195) (Option.some.inj h).symm rfl dX9_count_195 rfl
                                · replace h := (if_neg e23).symm.trans h
                                  by_cases e24 : p1 = (15 : Int32)
                                  · replace h := (if_pos e24).symm.trans h
                                    refine go_tabIn (pc := 24) (off := 169) (tgt := 193) dX9_count_24 (by rw [e24]; decide) (by rw [e24]; decide) (by rw [e24]; decide) (by decide) ?_
                                    refine go_bipush (pc := 193) (v := (-9 : Int32)) dX9_count_193 (by decide) ?_
                                    exact go_iret (pc := 195) (Option.some.inj h).symm rfl dX9_count_195 rfl
                                  · replace h := (if_neg e24).symm.trans h
                                    by_cases e25 : p1 = (16 : Int32)
                                    · replace h := (if_pos e25).symm.trans h
                                      refine go_tabIn (pc := 24) (off := 169) (tgt := 193) dX9_count_24 (by rw [e25]; decide) (by rw [e25]; decide) (by rw [e25]; decide) (by decide) ?_
                                      refine go_bipush (pc := 193) (v := (-9 : Int32)) dX9_count_193 (by decide) ?_
                                      exact go_iret (pc := 195) (Option.some.inj h).symm rfl dX9_count_195 rfl
                                    · replace h := (if_neg e25).symm.trans h
                                      by_cases e26 : p1 = (17 : Int32)
                                      · replace h := (if_pos e26).symm.trans h
                                        refine go_tabIn (pc := 24) (off := 164) (tgt := 188) dX9_count_24 (by rw [e26]; decide) (by rw [e26]; decide) (by rw [e26]; decide) (by decide) ?_
                                        refine go_aload_n (pc := 188) dX9_count_188 rfl ?_
                                        refine gf_9_182 (pc := 189) dX9_count_189 ?_
                                        exact go_iret (pc := 192) (Option.some.inj h).symm rfl dX9_count_192 rfl
                                      · replace h := (if_neg e26).symm.trans h
                                        refine go_tabOut (pc := 24) (tgt := 193) dX9_count_24 (by have q0 := g_out e9 (show (0 : Int32).toInt = 0 by decide); have q1 := g_out e10 (show (1 : Int32).toInt = 1 by decide); have q2 := g_out e11 (show (2 : Int32).toInt = 2 by decide); have q3 := g_out e12 (show (3 : Int32).toInt = 3 by decide); have q4 := g_out e13 (show (4 : Int32).toInt = 4 by decide); have q5 := g_out e14 (show (5 : Int32).toInt = 5 by decide); have q6 := g_out e15 (show (6 : Int32).toInt = 6 by decide); have q7 := g_out e16 (show (7 : Int32).toInt = 7 by decide); have q8 := g_out e17 (show (8 : Int32).toInt = 8 by decide); have q9 := g_out e18 (show (9 : Int32).toInt = 9 by decide); have q10 := g_out e19 (show (10 : Int32).toInt = 10 by decide); have q11 := g_out e20 (show (11 : Int32).toInt = 11 by decide); have q12 := g_out e21 (show (12 : Int32).toInt = 12 by decide); have q13 := g_out e22 (show (13 : Int32).toInt = 13 by decide); have q14 := g_out e23 (show (14 : Int32).toInt = 14 by decide); have q15 := g_out e24 (show (15 : Int32).toInt = 15 by decide); have q16 := g_out e25 (show (16 : Int32).toInt = 16 by decide); have q17 := g_out e26 (show (17 : Int32).toInt = 17 by decide); omega) (by decide) ?_
                                        refine go_bipush (pc := 193) (v := (-9 : Int32)) dX9_count_193 (by decide) ?_
                                        exact go_iret (pc := 195) (Option.some.inj h).symm rfl dX9_count_195 rfl
  · replace h := (if_neg e28).symm.trans h
    refine go_aload_n (pc := 11) dX9_count_11 rfl ?_
    refine gf_9_7 (pc := 12) dX9_count_12 ?_
    refine go_iload_n (pc := 15) dX9_count_15 rfl ?_
    refine go_bipush (pc := 16) (v := (10 : Int32)) dX9_count_16 (by decide) ?_
    refine go_isub (pc := 18) dX9_count_18 ?_
    obtain ⟨i27, h⟩ := g_gd h
    refine go_iald (pc := 19) (n := 7) rfl (g_inb_ok i27) dX9_count_19 ?_
    exact go_iret (pc := 20) (Option.some.inj h).symm rfl dX9_count_20 rfl
