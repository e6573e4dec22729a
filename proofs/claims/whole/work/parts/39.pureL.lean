/-! THE PURE PART. L: pay, back -/
theorem px_push {n b : Nat} {M : g_M} (hn : n ≤ 8) (h : M 23 2 = nI n) (w : Int32) : ∃ M', x_X7_push (nI b) w M = some (0, M') ∧ (∀ c, c ≠ 23 → c ≠ 24 → c ≠ 25 → M' c = M c) ∧ ∃ m, m ≤ 8 ∧ 1 ≤ m ∧ m = (if n < 8 then n + 1 else 8) ∧ M' 23 2 = nI m ∧ M' 24 (m - 1) = nI b ∧ M' 25 (m - 1) = w ∧ ∀ i, i + 1 < m → M' 24 (m - 1 - (i + 1)) = M 24 (n - 1 - i) ∧ M' 25 (m - 1 - (i + 1)) = M 25 (n - 1 - i) := by
  have main : ∀ (N : g_M) (k : Nat), k < 8 → N 23 2 = nI k → x_X7_push_L45 (nI b) w N = some (0, g_upd (g_upd (g_upd N 24 k (nI b)) 25 k w) 23 2 (nI (k + 1))) := by
    intro N k hk e
    have g1 : ¬ nI k < 0 := nI_pos (by omega)
    have g2 : ¬ (8 : Int32) ≤ nI k := nI_ge hk (by decide)
    have b1 := p_inb hk (by decide : (8 : Nat) < 2 ^ 31)
    have c : (nI k).toNatClampNeg = k := nI_clamp (by omega)
    have e4 : nI k + 1 = nI (k + 1) := (nI_succ ..).symm
    simp [x_X7_push_L45, e, g1, g2, b1, c, g_upd_get, e4]
  by_cases h8 : n < 8
  · refine ⟨g_upd (g_upd (g_upd M 24 n (nI b)) 25 n w) 23 2 (nI (n + 1)), ?_, fun c a d e => by rw [g_upd_ne a, g_upd_ne e, g_upd_ne d], n + 1, by omega, by omega, by rw [if_pos h8], by simp [g_upd_get], by simp [g_upd_get], by simp [g_upd_get], fun i hi => ?_⟩
    · have g1 : nI n < 8 := (p_lt (b := 8) (by omega) (by decide)).mpr h8
      simp [x_X7_push, h, g1, main M n h8 h]
    · have e : n + 1 - 1 - (i + 1) = n - 1 - i := by omega
      have z : ¬ n - 1 - i = n := by omega
      rw [e]
      simp [g_upd_get, z]
  · obtain rfl : n = 8 := by omega
    generalize hN : g_upd (g_cpy (g_cpy M 24 24 1 0 7) 25 25 1 0 7) 23 2 7 = N
    have e1 : ∀ j, j < 7 → N 24 j = M 24 (j + 1) := fun j hj => by
      rw [← hN, g_upd_ne (by decide)]
      simp [g_cpy, va_cpy, show (1 : Int32).toNatClampNeg = 1 by decide, show (7 : Int32).toNatClampNeg = 7 by decide, hj, Nat.add_comm]
    have e2 : ∀ j, j < 7 → N 25 j = M 25 (j + 1) := fun j hj => by
      rw [← hN, g_upd_ne (by decide)]
      simp [g_cpy, va_cpy, show (1 : Int32).toNatClampNeg = 1 by decide, show (7 : Int32).toNatClampNeg = 7 by decide, hj, Nat.add_comm]
    have e3 : N 23 2 = nI 7 := by rw [← hN]; simp [g_upd_get]; rfl
    have en : ∀ c, c ≠ 23 → c ≠ 24 → c ≠ 25 → N c = M c := fun c a d e => by rw [← hN, g_upd_ne a]; simp [g_cpy, d, e]
    refine ⟨g_upd (g_upd (g_upd N 24 7 (nI b)) 25 7 w) 23 2 (nI (7 + 1)), ?_, fun c a d e => by rw [g_upd_ne a, g_upd_ne e, g_upd_ne d, en c a d e], 8, by omega, by omega, rfl, by simp [g_upd_get], by simp [g_upd_get], by simp [g_upd_get], fun i hi => ?_⟩
    · have g1 : ¬ nI 8 < 8 := by decide
      have cb : g_cpb (1 : Int32) (0 : Int32) (7 : Int32) 8 8 = true := by decide
      simp only [x_X7_push, h, if_neg g1, cb, if_true, hN]
      exact main N 7 (by decide) e3
    · have e : 8 - 1 - (i + 1) = 6 - i := by omega
      have z : ¬ 6 - i = 7 := by omega
      rw [e]
      have q1 := e1 (6 - i) (by omega)
      have q2 := e2 (6 - i) (by omega)
      have e' : 6 - i + 1 = 8 - 1 - i := by omega
      rw [e'] at q1 q2
      simp [g_upd_get, z, q1, q2]
theorem py_keeps {n b : Nat} {M : g_M} (hn : n ≤ 8) (h : M 41 33 = nI n) (hb : b < 5) : ∃ M', x_X9_keepsPaid (nI b) M = some (0, M') ∧ (∀ c, c ≠ 62 → c ≠ 63 → c ≠ 41 → M' c = M c) ∧ (∀ i, i ≠ 33 → M' 41 i = M 41 i) ∧ M' 41 33 = nI (if n < 8 then n + 1 else 8) ∧ M' 62 0 = nI b ∧ M' 63 0 = M 52 b ∧ ∀ i, i < 7 → M' 62 (i + 1) = M 62 i ∧ M' 63 (i + 1) = M 63 i := by
  unfold x_X9_keepsPaid
  refine p_loop0 (n := 7) (F := fun m fuel s => x_X9_keepsPaid_L3 fuel (nI b) (nI (7 - m)) s) (I := fun m s => (∀ c, c ≠ 62 → c ≠ 63 → s c = M c) ∧ ∀ j, s 62 j = (if 7 - m < j ∧ j ≤ 7 then M 62 (j - 1) else M 62 j) ∧ s 63 j = (if 7 - m < j ∧ j ≤ 7 then M 63 (j - 1) else M 63 j)) (R := fun r => ∃ M', r = some (0, M') ∧ (∀ c, c ≠ 62 → c ≠ 63 → c ≠ 41 → M' c = M c) ∧ (∀ i, i ≠ 33 → M' 41 i = M 41 i) ∧ M' 41 33 = nI (if n < 8 then n + 1 else 8) ∧ M' 62 0 = nI b ∧ M' 63 0 = M 52 b ∧ ∀ i, i < 7 → M' 62 (i + 1) = M 62 i ∧ M' 63 (i + 1) = M 63 i) (s := M) (by decide) ?_ ?_ ?_
  · refine ⟨fun _ _ _ => rfl, fun j => ?_⟩
    rw [if_neg (by omega), if_neg (by omega)]
    exact ⟨rfl, rfl⟩
  · intro s fuel ⟨h1, h2⟩
    have b1 := p_inb hb (by decide : (5 : Nat) < 2 ^ 31)
    have c : (nI b).toNatClampNeg = b := nI_clamp (by omega)
    have s41 : s 41 33 = nI n := by rw [h1 41 (by decide) (by decide)]; exact h
    have s52 : s 52 b = M 52 b := by rw [h1 52 (by decide) (by decide)]
    have e4 : nI n + 1 = nI (n + 1) := (nI_succ ..).symm
    have fin : ∀ v : Int32, (∀ c, c ≠ 62 → c ≠ 63 → c ≠ 41 → g_upd (g_upd (g_upd s 62 0 (nI b)) 63 0 (M 52 b)) 41 33 v c = M c) ∧ (∀ i, i ≠ 33 → g_upd (g_upd (g_upd s 62 0 (nI b)) 63 0 (M 52 b)) 41 33 v 41 i = M 41 i) ∧ g_upd (g_upd (g_upd s 62 0 (nI b)) 63 0 (M 52 b)) 41 33 v 41 33 = v ∧ g_upd (g_upd (g_upd s 62 0 (nI b)) 63 0 (M 52 b)) 41 33 v 62 0 = nI b ∧ g_upd (g_upd (g_upd s 62 0 (nI b)) 63 0 (M 52 b)) 41 33 v 63 0 = M 52 b ∧ ∀ i, i < 7 → g_upd (g_upd (g_upd s 62 0 (nI b)) 63 0 (M 52 b)) 41 33 v 62 (i + 1) = M 62 i ∧ g_upd (g_upd (g_upd s 62 0 (nI b)) 63 0 (M 52 b)) 41 33 v 63 (i + 1) = M 63 i := by
      intro v
      refine ⟨fun c a d e => by rw [g_upd_ne e, g_upd_ne d, g_upd_ne a, h1 c a d], fun i hi => by simp [g_upd_get, hi, h1 41], by simp [g_upd_get], by simp [g_upd_get], by simp [g_upd_get], fun i hi => ?_⟩
      have q := h2 (i + 1)
      rw [if_pos (by omega), if_pos (by omega), Nat.add_sub_cancel] at q
      simp [g_upd_get, q.1, q.2]
    by_cases h8 : n < 8
    · have g2 : ¬ (8 : Int32) ≤ nI n := nI_ge h8 (by decide)
      rw [if_pos h8]
      exact ⟨_, by simp [x_X9_keepsPaid_L3, nI_0, b1, c, g_upd_get, s41, s52, g2, e4], fin _⟩
    · have g2 : (8 : Int32) ≤ nI n := by obtain rfl : n = 8 := by omega
                                         decide
      rw [if_neg h8]
      exact ⟨_, by simp [x_X9_keepsPaid_L3, nI_0, b1, c, g_upd_get, s41, s52, g2]; rfl, fin _⟩
  · intro m s fuel hm ⟨h1, h2⟩
    right
    have b1 := p_inb (show 7 - m < 8 by omega) (by decide : (8 : Nat) < 2 ^ 31)
    have b2 := p_inb (show 7 - (m + 1) < 8 by omega) (by decide : (8 : Nat) < 2 ^ 31)
    have c1 : (nI (7 - m)).toNatClampNeg = 7 - m := nI_clamp (by omega)
    have c2 : (nI (7 - (m + 1))).toNatClampNeg = 7 - (m + 1) := nI_clamp (by omega)
    have e1 : nI (7 - m) = nI (7 - (m + 1)) + 1 := by rw [← nI_succ]; congr 1; omega
    have e2 : nI (7 - m) - 1 = nI (7 - (m + 1)) := by rw [e1]; grind
    have e3 : nI (7 - m) + -1 = nI (7 - (m + 1)) := by rw [e1]; grind
    have g : ¬ nI (7 - m) ≤ 0 := by
      rw [Int32.not_le]
      exact (p_lt (a := 0) (by omega) (by omega)).mpr (by omega)
    refine ⟨g_upd (g_upd s 62 (7 - m) (s 62 (7 - (m + 1)))) 63 (7 - m) (s 63 (7 - (m + 1))), ⟨fun c a d => by rw [g_upd_ne d, g_upd_ne a, h1 c a d], fun j => ?_⟩, by simp only [x_X9_keepsPaid_L3, if_neg g, b1, b2, c1, c2, e2, e3, if_true, g_upd_ne (show 63 ≠ 62 by decide)]⟩
    have qj := h2 j
    have qk := h2 (7 - (m + 1))
    rw [if_neg (by omega), if_neg (by omega)] at qk
    have w62 : g_upd (g_upd s 62 (7 - m) (s 62 (7 - (m + 1)))) 63 (7 - m) (s 63 (7 - (m + 1))) 62 j = if j = 7 - m then s 62 (7 - (m + 1)) else s 62 j := by simp [g_upd_get]
    have w63 : g_upd (g_upd s 62 (7 - m) (s 62 (7 - (m + 1)))) 63 (7 - m) (s 63 (7 - (m + 1))) 63 j = if j = 7 - m then s 63 (7 - (m + 1)) else s 63 j := by simp [g_upd_get]
    rw [w62, w63, qk.1, qk.2, qj.1, qj.2]
    by_cases k : j = 7 - m
    · rw [if_pos k, if_pos k, if_pos (by omega), if_pos (by omega)]
      have : 7 - (m + 1) = j - 1 := by omega
      rw [this]
      exact ⟨rfl, rfl⟩
    · rw [if_neg k, if_neg k]
      by_cases k2 : 7 - m < j ∧ j ≤ 7
      · rw [if_pos k2, if_pos k2, if_pos (by omega), if_pos (by omega)]
        exact ⟨rfl, rfl⟩
      · rw [if_neg k2, if_neg k2, if_neg (by omega), if_neg (by omega)]
        exact ⟨rfl, rfl⟩
theorem op_pay (p v : Int32) : opOK (x_X8_pay p v) (x_X9_pay p v) := by
  intro M h
  obtain ⟨nr, nb, q1, q2, e1, e2, e3, e4, hr, hbt⟩ := inv_B h
  by_cases hp : 0 ≤ p ∧ p < nI nb
  · by_cases h0 : 0 ≤ v
    · have hv : ¬ v < 0 := by rw [Int32.not_lt]; exact h0
      by_cases h9 : v ≤ 99
      · have hv2 : ¬ (99 : Int32) < v := by rw [Int32.not_lt]; exact h9
        obtain ⟨b, hb, rfl⟩ := p_in (by omega) hp.1 hp.2
        have c1 : (nI b).toNatClampNeg = b := nI_clamp (by omega)
        obtain ⟨⟨g0, g1, g2, g3, g4, g5, g6⟩, -, -, oB⟩ := hbt b hb
        have b3 := p_inb (show b < 5 by omega) (by decide : (5 : Nat) < 2 ^ 31)
        obtain ⟨n, n8, z1, z2, z3⟩ := h.2.2.2.2.1
        have lc : x_X2_boatCell 1 (nI b) 4 M = some (M 5 (7 * b + 4), M) := px_boatCell 1 b 4 (by omega) (by decide) M
        obtain ⟨Ma, p1, p2, m, m8, m1, p3, p4, p5, p6, p7⟩ := px_push (b := b) n8 z1 (M 52 b)
        have ls : x_X2_setBoatCell 1 (nI b) 4 v Ma = some (0, g_upd Ma 5 (7 * b + 4) v) := px_setBoatCell 1 b 4 (by omega) (by decide) v Ma
        have hx : x_X8_pay (nI b) v M = some (M 52 b, g_upd Ma 5 (7 * b + 4) v) := by simp [x_X8_pay, px_hasBoat, e3, hp, h0, h9, lc, g4, p1, ls]
        generalize hMb : g_upd Ma 5 (7 * b + 4) v = Mb at hx
        have nb' : ∀ c, c ≠ 5 → c ≠ 23 → c ≠ 24 → c ≠ 25 → Mb c = M c := fun c a d e f => by rw [← hMb, g_upd_ne a, p2 c d e f]
        have nb2 : ∀ c, c ≠ 5 → Mb c = Ma c := fun c a => by rw [← hMb, g_upd_ne a]
        obtain ⟨Mc, r1, r2, r3, r4, r5, r6, r7⟩ := py_keeps (b := b) (M := Mb) n8 (by rw [nb' 41 (by decide) (by decide) (by decide) (by decide)]; exact z2) (by omega)
        have s41 : Mb 41 16 = nI nb := by rw [nb' 41 (by decide) (by decide) (by decide) (by decide)]; exact e4
        have s52 : Mb 52 = M 52 := nb' 52 (by decide) (by decide) (by decide) (by decide)
        have hy : x_X9_pay (nI b) v Mb = some (M 52 b, g_upd Mc 52 b v) := by simp [x_X9_pay, x_X9_pay_L19, py_isBoat, s41, hp, py_bound, hv, hv2, b3, c1, r1, s52]
        refine ⟨_, _, _, hx, hy, ?_⟩
        generalize hMd : g_upd Mc 52 b v = M'
        have nd : ∀ c, c ≠ 41 → c ≠ 52 → c ≠ 62 → c ≠ 63 → M' c = Mb c := fun c a d e f => by rw [← hMd, g_upd_ne d, r2 c e f a]
        have ne : ∀ c, c ≠ 5 → c ≠ 23 → c ≠ 24 → c ≠ 25 → c ≠ 41 → c ≠ 52 → c ≠ 62 → c ≠ 63 → M' c = M c := fun c a1 a2 a3 a4 a5 a6 a7 a8 => by rw [nd c a5 a6 a7 a8, nb' c a1 a2 a3 a4]
        have f41 : ∀ i, i ≠ 33 → M' 41 i = M 41 i := fun i hi => by rw [← hMd, g_upd_ne (by decide), r3 i hi, nb' 41 (by decide) (by decide) (by decide) (by decide)]
        have hl := live_ex52 (M := M) (M' := M') (fun c a b d => ne c (by omega) (by omega) (by omega) (by omega) (by omega) d (by omega) (by omega))
        have n1' : M' 1 = M 1 := ne 1 (by decide) (by decide) (by decide) (by decide) (by decide) (by decide) (by decide) (by decide)
        have q24 : M' 24 = Ma 24 := by rw [nd 24 (by decide) (by decide) (by decide) (by decide), nb2 24 (by decide)]
        have q25 : M' 25 = Ma 25 := by rw [nd 25 (by decide) (by decide) (by decide) (by decide), nb2 25 (by decide)]
        have q23 : M' 23 = Ma 23 := by rw [nd 23 (by decide) (by decide) (by decide) (by decide), nb2 23 (by decide)]
        have q62 : M' 62 = Mc 62 := by rw [← hMd, g_upd_ne (by decide)]
        have q63 : M' 63 = Mc 63 := by rw [← hMd, g_upd_ne (by decide)]
        have b62 : Mb 62 = M 62 := nb' 62 (by decide) (by decide) (by decide) (by decide)
        have b63 : Mb 63 = M 63 := nb' 63 (by decide) (by decide) (by decide) (by decide)
        obtain ⟨j1, j2, j3, j4, j5⟩ := hrel_iff.mp h.1
        refine inv_har h (hrel_iff.mpr ⟨hrT_cg j1 (ne 2 (by decide) (by decide) (by decide) (by decide) (by decide) (by decide) (by decide) (by decide)) (fun i _ => hl _ (by omega) (by omega)), hrW_cg j2 (ne 3 (by decide) (by decide) (by decide) (by decide) (by decide) (by decide) (by decide) (by decide)) (fun i _ => hl _ (by omega) (by omega)), hrI_cg j3 (fun i _ _ => congrFun n1' i) (hl _ (by decide) (by decide)) (hl _ (by decide) (by decide)) (f41 17 (by decide)) (f41 18 (by decide)), hrP_cg j4 (congrFun n1' 7) (ne 6 (by decide) (by decide) (by decide) (by decide) (by decide) (by decide) (by decide) (by decide)) (f41 19 (by decide)) (fun i _ _ => hl i (by omega) (by omega)), hrE_len j5 (b := b) (v := v) ⟨h0, h9⟩ (congrFun n1' 5) (congrFun n1' 6) (ne 4 (by decide) (by decide) (by decide) (by decide) (by decide) (by decide) (by decide) (by decide)) (fun i => ?_) (f41 15 (by decide)) (f41 16 (by decide)) (fun i _ _ => hl i (by omega) (by omega)) (fun i _ _ _ => hl i (by omega) (by omega)) (fun i hi => ?_)⟩) ⟨m, m8, by rw [q23]; exact p4, by rw [← hMd, g_upd_ne (by decide), r4, p3], fun i hi => ?_⟩ (fun c hc => ne c (by omega) (by omega) (by omega) (by omega) (by omega) (by omega) (by omega) (by omega)) (fun f _ _ => f41 f (by omega))
        · show M' 5 i = if i = 7 * b + 4 then v else M 5 i
          rw [nd 5 (by decide) (by decide) (by decide) (by decide), ← hMb, g_upd_get]
          simp [p2 5]
        · rw [lv_52 M' hi, lv_52 M hi, ← hMd, g_upd_get]
          simp [r2 52, s52]
        · rw [q24, q25, q62, q63, f41 16 (by decide)]
          match i, hi with
          | 0, _ =>
            rw [Nat.sub_zero, p5, p6, r5, r6, s52]
            exact ⟨rfl, rfl, ⟨b, rfl, by omega, by rw [e4]; exact hp.2⟩, okB_len oB⟩
          | i + 1, hi =>
            have k := p7 i hi
            have k2 := r7 i (by omega)
            rw [k.1, k.2, k2.1, k2.2, b62, b63]
            exact z3 i (by
              rw [p3] at hi
              split at hi <;> omega)
      · have hv2 : (99 : Int32) < v := by rw [← Int32.not_le]; exact h9
        exact op_ref h (k := 6) (r := -nI 6) (by decide) (by simp [x_X8_pay, px_hasBoat, e3, hp, h0, h9, n6, px_refused]) (fun M1 hc => by simp [x_X9_pay, x_X9_pay_L19, py_isBoat, hc 41 (by decide), e4, hp, py_bound, hv, hv2, n6, nz6, py_no])
    · have hv : v < 0 := by rw [← Int32.not_le]; exact h0
      exact op_ref h (k := 4) (r := -nI 4) (by decide) (by simp [x_X8_pay, px_hasBoat, e3, hp, h0, n4, px_refused]) (fun M1 hc => by simp [x_X9_pay, x_X9_pay_L19, py_isBoat, hc 41 (by decide), e4, hp, py_bound, hv, n4, nz4, py_no])
  · exact op_ref h (k := 1) (r := -nI 1) (by decide) (by simp [x_X8_pay, px_hasBoat, e3, hp, n1, px_refused]) (fun M1 hc => by simp [x_X9_pay, x_X9_pay_L19, py_isBoat, hc 41 (by decide), e4, hp, n1, nz1, py_no])
theorem ly_back {n b : Nat} {M : g_M} (h : M 41 33 = nI n) (hn : 1 ≤ n) : ∃ M', x_X9_back_L35 g_F (nI b) 0 M = some (nI b, M') ∧ (∀ c, c ≠ 62 → c ≠ 63 → c ≠ 41 → M' c = M c) ∧ (∀ i, i ≠ 33 → M' 41 i = M 41 i) ∧ M' 41 33 = nI (n - 1) ∧ ∀ i, i < 7 → M' 62 i = M 62 (i + 1) ∧ M' 63 i = M 63 (i + 1) := by
  refine p_loop0 (n := 7) (F := fun m fuel s => x_X9_back_L35 fuel (nI b) (nI m) s) (I := fun m s => (∀ c, c ≠ 62 → c ≠ 63 → s c = M c) ∧ ∀ j, s 62 j = (if j < m then M 62 (j + 1) else M 62 j) ∧ s 63 j = (if j < m then M 63 (j + 1) else M 63 j)) (R := fun r => ∃ M', r = some (nI b, M') ∧ (∀ c, c ≠ 62 → c ≠ 63 → c ≠ 41 → M' c = M c) ∧ (∀ i, i ≠ 33 → M' 41 i = M 41 i) ∧ M' 41 33 = nI (n - 1) ∧ ∀ i, i < 7 → M' 62 i = M 62 (i + 1) ∧ M' 63 i = M 63 (i + 1)) (s := M) (by decide) ?_ ?_ ?_
  · exact ⟨fun _ _ _ => rfl, fun j => ⟨rfl, rfl⟩⟩
  · intro s fuel ⟨h1, h2⟩
    have s41 : s 41 33 = nI n := by rw [h1 41 (by decide) (by decide)]; exact h
    have e : nI n - 1 = nI (n - 1) := by
      have : nI n = nI (n - 1) + 1 := by rw [← nI_succ]; congr 1; omega
      rw [this]; grind
    refine ⟨g_upd s 41 33 (nI (n - 1)), by simp [x_X9_back_L35, show (7 : Int32) ≤ nI 7 by decide, s41, e], fun c a d f => by rw [g_upd_ne f, h1 c a d], fun i hi => by simp [g_upd_get, hi, h1 41], by simp [g_upd_get], fun i hi => ?_⟩
    have q := h2 i
    rw [if_pos hi, if_pos hi] at q
    simp [g_upd_get, q.1, q.2]
  · intro m s fuel hm ⟨h1, h2⟩
    right
    have b1 := p_inb (show m < 8 by omega) (by decide : (8 : Nat) < 2 ^ 31)
    have b2 := p_inb (show m + 1 < 8 by omega) (by decide : (8 : Nat) < 2 ^ 31)
    have c1 : (nI m).toNatClampNeg = m := nI_clamp (by omega)
    have c2 : (nI (m + 1)).toNatClampNeg = m + 1 := nI_clamp (by omega)
    have e1 : nI m + 1 = nI (m + 1) := (nI_succ ..).symm
    have g : ¬ (7 : Int32) ≤ nI m := nI_ge hm (by decide)
    refine ⟨g_upd (g_upd s 62 m (s 62 (m + 1))) 63 m (s 63 (m + 1)), ⟨fun c a d => by rw [g_upd_ne d, g_upd_ne a, h1 c a d], fun j => ?_⟩, by simp only [x_X9_back_L35, if_neg g, b1, b2, c1, c2, e1, if_true, g_upd_ne (show 63 ≠ 62 by decide)]⟩
    have qj := h2 j
    have qk := h2 (m + 1)
    rw [if_neg (by omega), if_neg (by omega)] at qk
    have w62 : g_upd (g_upd s 62 m (s 62 (m + 1))) 63 m (s 63 (m + 1)) 62 j = if j = m then s 62 (m + 1) else s 62 j := by simp [g_upd_get]
    have w63 : g_upd (g_upd s 62 m (s 62 (m + 1))) 63 m (s 63 (m + 1)) 63 j = if j = m then s 63 (m + 1) else s 63 j := by simp [g_upd_get]
    rw [w62, w63, qk.1, qk.2, qj.1, qj.2]
    by_cases k : j = m
    · rw [if_pos k, if_pos k, if_pos (by omega), if_pos (by omega), k]
      exact ⟨rfl, rfl⟩
    · rw [if_neg k, if_neg k]
      by_cases k2 : j < m
      · rw [if_pos k2, if_pos k2, if_pos (by omega), if_pos (by omega)]
        exact ⟨rfl, rfl⟩
      · rw [if_neg k2, if_neg k2, if_neg (by omega), if_neg (by omega)]
        exact ⟨rfl, rfl⟩
theorem op_back : opOK x_X8_back x_X9_back := by
  intro M h
  obtain ⟨nr, nb, q1, q2, e1, e2, e3, e4, hr, hbt⟩ := inv_B h
  obtain ⟨n, n8, z1, z2, z3⟩ := h.2.2.2.2.1
  by_cases hn : n = 0
  · subst hn
    rw [nI_0] at z1 z2
    exact op_ref h (k := 3) (r := -nI 3) (by decide) (by simp [x_X8_back, z1, n3, px_refused]) (fun M1 hc => by simp [x_X9_back, hc 41 (by decide), z2, n3, py_no])
  · obtain ⟨y1, y2, ⟨b, y3, hb5, hb⟩, y4⟩ := z3 0 (by omega)
    rw [Nat.sub_zero] at y1 y2
    have c1 : (nI b).toNatClampNeg = b := nI_clamp (by omega)
    have b3 := p_inb hb5 (by decide : (5 : Nat) < 2 ^ 31)
    have b8 := p_inb (show n - 1 < 8 by omega) (by decide : (8 : Nat) < 2 ^ 31)
    have c8 : (nI (n - 1)).toNatClampNeg = n - 1 := nI_clamp (by omega)
    have k0 : ¬ nI n = 0 := fun q => by
      have := (p_eq (a := n) (b := 0) (by omega) (by decide)).mp q
      omega
    have k1 : ¬ nI n < 1 := fun q => by
      have := (p_lt (a := n) (b := 1) (by omega) (by decide)).mp q
      omega
    have k2 : ¬ (8 : Int32) < nI n := fun q => by
      have := (p_lt (a := 8) (b := n) (by decide) (by omega)).mp q
      omega
    have es : nI n - 1 = nI (n - 1) := by
      have : nI n = nI (n - 1) + 1 := by rw [← nI_succ]; congr 1; omega
      rw [this]; grind
    have t0 : (0 : Int32).toNatClampNeg = 0 := by decide
    have lb : x_X7_lastBoat M = some (nI b, M) := by simp [x_X7_lastBoat, z1, k1, k2, es, b8, c8, y1, y3]
    have ll : x_X7_lastLength M = some (M 63 0, M) := by simp [x_X7_lastLength, z1, k1, k2, es, b8, c8, y2]
    have ls : x_X2_setBoatCell 1 (nI b) 4 (M 63 0) M = some (0, g_upd M 5 (7 * b + 4) (M 63 0)) := px_setBoatCell 1 b 4 (by omega) (by decide) _ M
    have hx : x_X8_back M = some (nI b, g_upd (g_upd M 5 (7 * b + 4) (M 63 0)) 23 2 (nI (n - 1))) := by simp [x_X8_back, z1, k0, lb, ll, ls, g_upd_get, es]
    generalize hMb : g_upd (g_upd M 5 (7 * b + 4) (M 63 0)) 23 2 (nI (n - 1)) = Mb at hx
    have nb' : ∀ c, c ≠ 5 → c ≠ 23 → Mb c = M c := fun c a d => by rw [← hMb, g_upd_ne d, g_upd_ne a]
    generalize hMe : g_upd Mb 52 b (M 63 0) = Me
    have ne' : ∀ c, c ≠ 5 → c ≠ 23 → c ≠ 52 → Me c = M c := fun c a d e => by rw [← hMe, g_upd_ne e, nb' c a d]
    obtain ⟨Mc, r1, r2, r3, r4, r5⟩ := ly_back (b := b) (n := n) (M := Me) (by rw [ne' 41 (by decide) (by decide) (by decide)]; exact z2) (by omega)
    have hy : x_X9_back Mb = some (nI b, Mc) := by
      have v1 : Mb 41 33 = nI n := by rw [nb' 41 (by decide) (by decide)]; exact z2
      have v2 : Mb 62 0 = nI b := by rw [nb' 62 (by decide) (by decide)]; exact y3
      have v3 : Mb 63 0 = M 63 0 := by rw [nb' 63 (by decide) (by decide)]
      simp only [x_X9_back, v1, if_neg k0, t0, v2, b3, if_true, c1, v3, hMe, r1]
    refine ⟨_, _, _, hx, hy, ?_⟩
    have nd : ∀ c, c ≠ 41 → c ≠ 62 → c ≠ 63 → Mc c = Me c := fun c a d e => r2 c d e a
    have ne : ∀ c, c ≠ 5 → c ≠ 23 → c ≠ 41 → c ≠ 52 → c ≠ 62 → c ≠ 63 → Mc c = M c := fun c a1 a2 a3 a4 a5 a6 => by rw [nd c a3 a5 a6, ne' c a1 a2 a4]
    have f41 : ∀ i, i ≠ 33 → Mc 41 i = M 41 i := fun i hi => by rw [r3 i hi, ne' 41 (by decide) (by decide) (by decide)]
    have hl := live_ex52 (M := M) (M' := Mc) (fun c a b d => ne c (by omega) (by omega) (by omega) d (by omega) (by omega))
    have n1' : Mc 1 = M 1 := ne 1 (by decide) (by decide) (by decide) (by decide) (by decide) (by decide)
    obtain ⟨j1, j2, j3, j4, j5⟩ := hrel_iff.mp h.1
    refine inv_har h (hrel_iff.mpr ⟨hrT_cg j1 (ne 2 (by decide) (by decide) (by decide) (by decide) (by decide) (by decide)) (fun i _ => hl _ (by omega) (by omega)), hrW_cg j2 (ne 3 (by decide) (by decide) (by decide) (by decide) (by decide) (by decide)) (fun i _ => hl _ (by omega) (by omega)), hrI_cg j3 (fun i _ _ => congrFun n1' i) (hl _ (by decide) (by decide)) (hl _ (by decide) (by decide)) (f41 17 (by decide)) (f41 18 (by decide)), hrP_cg j4 (congrFun n1' 7) (ne 6 (by decide) (by decide) (by decide) (by decide) (by decide) (by decide)) (f41 19 (by decide)) (fun i _ _ => hl i (by omega) (by omega)), hrE_len j5 (b := b) (v := M 63 0) y4 (congrFun n1' 5) (congrFun n1' 6) (ne 4 (by decide) (by decide) (by decide) (by decide) (by decide) (by decide)) (fun i => ?_) (f41 15 (by decide)) (f41 16 (by decide)) (fun i _ _ => hl i (by omega) (by omega)) (fun i _ _ _ => hl i (by omega) (by omega)) (fun i hi => ?_)⟩) ⟨n - 1, by omega, ?_, r4, fun i hi => ?_⟩ (fun c hc => ne c (by omega) (by omega) (by omega) (by omega) (by omega) (by omega)) (fun f _ _ => f41 f (by omega))
    · show Mc 5 i = if i = 7 * b + 4 then M 63 0 else M 5 i
      rw [nd 5 (by decide) (by decide) (by decide), ← hMe, g_upd_ne (by decide), ← hMb, g_upd_ne (by decide), g_upd_get]
      simp
    · rw [lv_52 Mc hi, lv_52 M hi, nd 52 (by decide) (by decide) (by decide), ← hMe, g_upd_get]
      simp [nb' 52]
    · rw [nd 23 (by decide) (by decide) (by decide), ← hMe, g_upd_ne (by decide), ← hMb]
      simp [g_upd_get]
    · have k := r5 i (by omega)
      have w := z3 (i + 1) (by omega)
      rw [show n - 1 - (i + 1) = n - 1 - 1 - i by omega] at w
      rw [k.1, k.2, f41 16 (by decide), ne 24 (by decide) (by decide) (by decide) (by decide) (by decide) (by decide), ne 25 (by decide) (by decide) (by decide) (by decide) (by decide) (by decide), ne' 62 (by decide) (by decide) (by decide), ne' 63 (by decide) (by decide) (by decide)]
      exact w
