/-! THE PURE PART. K: ramp, tie, pay, back -/
theorem px_addRamp {q np : Nat} {M : g_M} (hq : M q 7 = nI np) (hn : np < 3) (a b : Int32) : x_X2_addRamp q a b M = some (0, g_upd (g_upd (g_upd M (q + 5) (2 * np) a) (q + 5) (2 * np + 1) b) q 7 (nI (np + 1))) := by
  have e0 : nI np * 2 + 0 = nI (2 * np) := by
    rw [show (2 : Int32) = nI 2 from rfl, show (0 : Int32) = nI 0 from rfl, p_mul, p_add, Nat.mul_comm]; rfl
  have e1 : nI np * 2 + 1 = nI (2 * np + 1) := by
    rw [show (2 : Int32) = nI 2 from rfl, show (1 : Int32) = nI 1 from rfl, p_mul, p_add, Nat.mul_comm]
  have n5 : ∀ (N : g_M) (k : Nat) (v : Int32), g_upd N (q + 5) k v q = N q := fun N k v => g_upd_ne (by omega)
  have e2 : nI np * 2 = nI (2 * np) := by rw [← e0]; grind
  have e3 : nI (2 * np) + 1 = nI (2 * np + 1) := (nI_succ ..).symm
  have e4 : nI np + 1 = nI (np + 1) := (nI_succ ..).symm
  simp [x_X2_addRamp, hq, e1, e2, e3, e4, px_setCell _ _ (2 * np) (show 2 * np < 6 by omega) (by decide), px_setCell _ _ (2 * np + 1) (show 2 * np + 1 < 6 by omega) (by decide), n5]
theorem op_ramp (a b : Int32) : opOK (x_X8_ramp a b) (x_X9_ramp a b) := by
  intro M h
  obtain ⟨j1, j2, j3, ⟨np, k1, k2, k3, k4⟩, j5⟩ := hrel_iff.mp h.1
  have k3 : M 41 19 = nI np := k3
  by_cases a0 : a < 0
  · exact op_ref h (k := 4) (r := -nI 4) (by decide) (by simp [x_X8_ramp, a0, n4, px_refused]) (fun M1 _ => by simp [x_X9_ramp, x_X9_ramp_L40, a0, n4, nz4, py_no])
  · by_cases b1 : 1 ≤ b
    · by_cases a6 : 60 < a
      · exact op_ref h (k := 6) (r := -nI 6) (by decide) (by simp [x_X8_ramp, a0, b1, a6, n6, px_refused]) (fun M1 _ => by simp [x_X9_ramp, x_X9_ramp_L40, a0, b1, a6, n6, nz6, py_no])
      · by_cases b4 : 40 < b
        · exact op_ref h (k := 6) (r := -nI 6) (by decide) (by simp [x_X8_ramp, a0, b1, a6, b4, n6, px_refused]) (fun M1 _ => by simp [x_X9_ramp, x_X9_ramp_L40, a0, b1, a6, b4, n6, nz6, py_no])
        · by_cases hn : np < 3
          · have g1 : nI np < 3 := (p_lt (b := 3) (by omega) (by decide)).mpr hn
            have g4 : ¬ nI np = (3 : Int32) := fun q => by rw [q] at g1; exact absurd g1 (by decide)
            have c : (nI np).toNatClampNeg = np := nI_clamp (by omega)
            have bb := p_inb hn (by decide : (3 : Nat) < 2 ^ 31)
            have sb : nI np + 1 - 1 = nI np := by grind
            have sb2 : nI (np + 1) - 1 = nI np := by rw [show nI (np + 1) = nI np + 1 from nI_succ ..]; exact sb
            refine ⟨nI np, g_upd (g_upd (g_upd M 6 (2 * np) a) 6 (2 * np + 1) b) 1 7 (nI (np + 1)), g_upd (g_upd (g_upd (g_upd (g_upd (g_upd M 6 (2 * np) a) 6 (2 * np + 1) b) 1 7 (nI (np + 1))) 55 np a) 56 np b) 41 19 (nI (np + 1)), by simp [x_X8_ramp, a0, b1, a6, b4, k2, g1, px_addRamp k2 hn, g_upd_get, sb2], by simp [x_X9_ramp, x_X9_ramp_L40, a0, b1, a6, b4, g_upd_get, k3, g4, bb, c, nI_succ, sb2], ?_⟩
            generalize hM : g_upd (g_upd (g_upd (g_upd (g_upd (g_upd M 6 (2 * np) a) 6 (2 * np + 1) b) 1 7 (nI (np + 1))) 55 np a) 56 np b) 41 19 (nI (np + 1)) = M'
            have ne : ∀ c, c ≠ 1 → c ≠ 6 → c ≠ 41 → c ≠ 55 → c ≠ 56 → M' c = M c := fun c a b d e f => by rw [← hM, g_upd_ne d, g_upd_ne f, g_upd_ne e, g_upd_ne a, g_upd_ne b, g_upd_ne b]
            have hl := live_ex56 (M := M) (M' := M') (fun c a b => ne c (by omega) (by omega) (by omega) (by omega) (by omega))
            have f1 : ∀ i, i ≠ 7 → M' 1 i = M 1 i := fun i hi => by simp [← hM, g_upd_get, hi]
            have f41 : ∀ i, i ≠ 19 → M' 41 i = M 41 i := fun i hi => by simp [← hM, g_upd_get, hi]
            refine inv_har h (hrel_iff.mpr ⟨hrT_cg j1 (ne 2 (by decide) (by decide) (by decide) (by decide) (by decide)) (fun i _ => hl _ (by omega)), hrW_cg j2 (ne 3 (by decide) (by decide) (by decide) (by decide) (by decide)) (fun i _ => hl _ (by omega)), hrI_cg j3 (fun i _ _ => f1 i (by omega)) (hl _ (by decide)) (hl _ (by decide)) (f41 17 (by decide)) (f41 18 (by decide)), ⟨np + 1, by omega, by simp [← hM, g_upd_get], by show M' 41 19 = _; simp [← hM, g_upd_get], fun r hr => ?_⟩, hrE_cg j5 (f1 5 (by decide)) (f1 6 (by decide)) (ne 4 (by decide) (by decide) (by decide) (by decide) (by decide)) (ne 5 (by decide) (by decide) (by decide) (by decide) (by decide)) (f41 15 (by decide)) (f41 16 (by decide)) (fun i _ _ => hl i (by omega)) (fun i _ _ => hl i (by omega))⟩) (iPay_cg h.2.2.2.2.1 (by rw [ne _ (by decide) (by decide) (by decide) (by decide) (by decide)]) (ne _ (by decide) (by decide) (by decide) (by decide) (by decide)) (ne _ (by decide) (by decide) (by decide) (by decide) (by decide)) (f41 33 (by decide)) (f41 16 (by decide)) (ne _ (by decide) (by decide) (by decide) (by decide) (by decide)) (ne _ (by decide) (by decide) (by decide) (by decide) (by decide))) (fun c hc => ne c (by omega) (by omega) (by omega) (by omega) (by omega)) (fun f _ _ => f41 f (by omega))
            rw [lv_55 M' (by omega), lv_56 M' (by omega)]
            by_cases e : r = np
            · subst e
              have r1 : M' 6 (2 * r) = a := by simp [← hM, g_upd_get]
              have r2 : M' 6 (2 * r + 1) = b := by simp [← hM, g_upd_get]
              have r3 : M' 55 r = a := by simp [← hM, g_upd_get]
              have r4 : M' 56 r = b := by simp [← hM, g_upd_get]
              rw [r1, r2, r3, r4]
              exact ⟨⟨rfl, by rw [← Int32.not_lt]; exact a0, by rw [← Int32.not_lt]; exact a6⟩, rfl, b1, by rw [← Int32.not_lt]; exact b4⟩
            · have z3 : ¬ 2 * r = 2 * np := by omega
              have z1 : ¬ 2 * r = 2 * np + 1 := by omega
              have z2 : ¬ 2 * r + 1 = 2 * np := by omega
              have r1 : M' 6 (2 * r) = M 6 (2 * r) := by simp [← hM, g_upd_get, e, z1, z3]
              have r2 : M' 6 (2 * r + 1) = M 6 (2 * r + 1) := by simp [← hM, g_upd_get, e, z2, z3]
              have r3 : M' 55 r = M 55 r := by simp [← hM, g_upd_get, e]
              have r4 : M' 56 r = M 56 r := by simp [← hM, g_upd_get, e]
              have q := k4 r (by omega)
              rw [lv_55 M (by omega), lv_56 M (by omega)] at q
              rw [r1, r2, r3, r4]
              exact q
          · obtain rfl : np = 3 := by omega
            rw [show nI 3 = (3 : Int32) from rfl] at k2 k3
            exact op_ref h (k := 6) (r := -nI 6) (by decide) (by simp [x_X8_ramp, a0, b1, a6, b4, k2, n6, px_refused]) (fun M1 hc => by simp [x_X9_ramp, x_X9_ramp_L40, a0, b1, a6, b4, hc 41 (by decide), k3, n6, nz6, py_no])
    · exact op_ref h (k := 4) (r := -nI 4) (by decide) (by simp [x_X8_ramp, a0, b1, n4, px_refused]) (fun M1 _ => by simp [x_X9_ramp, x_X9_ramp_L40, a0, b1, n4, nz4, py_no])
/-- one LENGTH written -/
theorem hrE_len {q : Nat} {M M' : g_M} {K K' : Nat → Int32} (h : hrE q M K) {b : Nat} {v : Int32} (hv : p_bd 0 v 99) (a : M' q 5 = M q 5) (a6 : M' q 6 = M q 6) (a3 : M' (q + 3) = M (q + 3)) (a4 : ∀ i, M' (q + 4) i = if i = 7 * b + 4 then v else M (q + 4) i) (e : K' 81 = K 81) (e2 : K' 82 = K 82) (c : ∀ i, 24 ≤ i → i < 36 → K' i = K i) (d : ∀ i, 38 ≤ i → i < 73 → (i < 58 ∨ 63 ≤ i) → K' i = K i) (d2 : ∀ i, i < 5 → K' (58 + i) = if i = b then v else K (58 + i)) : hrE q M' K' := by
  obtain ⟨nr, r1, r2, r3, r4, nb, n1, n2, n3, n4⟩ := h
  refine ⟨nr, r1, by rw [a]; exact r2, by rw [e]; exact r3, fun r hr => ?_, nb, n1, by rw [a6]; exact n2, by rw [e2]; exact n3, fun b' hb => ?_⟩
  · rw [a3, c (24 + r) (by omega) (by omega), c (30 + r) (by omega) (by omega)]; exact r4 r hr
  · rw [d (38 + b') (by omega) (by omega) (by omega), d (43 + b') (by omega) (by omega) (by omega), d (48 + b') (by omega) (by omega) (by omega), d (53 + b') (by omega) (by omega) (by omega), d2 b' (by omega), d (63 + b') (by omega) (by omega) (by omega), d (68 + b') (by omega) (by omega) (by omega)]
    simp only [a4, if_neg (show ¬ 7 * b' = 7 * b + 4 by omega), if_neg (show ¬ 7 * b' + 1 = 7 * b + 4 by omega), if_neg (show ¬ 7 * b' + 2 = 7 * b + 4 by omega), if_neg (show ¬ 7 * b' + 3 = 7 * b + 4 by omega), if_neg (show ¬ 7 * b' + 5 = 7 * b + 4 by omega), if_neg (show ¬ 7 * b' + 6 = 7 * b + 4 by omega)]
    have q := n4 b' hb
    by_cases k : b' = b
    · rw [if_pos k, if_pos (by omega)]
      exact ⟨q.1, q.2.1, q.2.2.1, q.2.2.2.1, ⟨rfl, hv⟩, q.2.2.2.2.2⟩
    · rw [if_neg k, if_neg (by omega)]
      exact q
/-- one RING written -/
theorem hrE_rng {q : Nat} {M M' : g_M} {K K' : Nat → Int32} (h : hrE q M K) {b : Nat} {v : Int32} (hv : 0 ≤ v ∧ v < K 81) (a : M' q 5 = M q 5) (a6 : M' q 6 = M q 6) (a3 : M' (q + 3) = M (q + 3)) (a4 : ∀ i, M' (q + 4) i = if i = 7 * b + 2 then v else M (q + 4) i) (e : K' 81 = K 81) (e2 : K' 82 = K 82) (c : ∀ i, 24 ≤ i → i < 36 → K' i = K i) (d : ∀ i, 38 ≤ i → i < 73 → (i < 48 ∨ 53 ≤ i) → K' i = K i) (d2 : ∀ i, i < 5 → K' (48 + i) = if i = b then v else K (48 + i)) : hrE q M' K' := by
  obtain ⟨nr, r1, r2, r3, r4, nb, n1, n2, n3, n4⟩ := h
  refine ⟨nr, r1, by rw [a]; exact r2, by rw [e]; exact r3, fun r hr => ?_, nb, n1, by rw [a6]; exact n2, by rw [e2]; exact n3, fun b' hb => ?_⟩
  · rw [a3, c (24 + r) (by omega) (by omega), c (30 + r) (by omega) (by omega)]; exact r4 r hr
  · rw [d (38 + b') (by omega) (by omega) (by omega), d (43 + b') (by omega) (by omega) (by omega), d2 b' (by omega), d (53 + b') (by omega) (by omega) (by omega), d (58 + b') (by omega) (by omega) (by omega), d (63 + b') (by omega) (by omega) (by omega), d (68 + b') (by omega) (by omega) (by omega)]
    simp only [a4, if_neg (show ¬ 7 * b' = 7 * b + 2 by omega), if_neg (show ¬ 7 * b' + 1 = 7 * b + 2 by omega), if_neg (show ¬ 7 * b' + 3 = 7 * b + 2 by omega), if_neg (show ¬ 7 * b' + 4 = 7 * b + 2 by omega), if_neg (show ¬ 7 * b' + 5 = 7 * b + 2 by omega), if_neg (show ¬ 7 * b' + 6 = 7 * b + 2 by omega)]
    have q := n4 b' hb
    rw [r3] at hv
    by_cases k : b' = b
    · rw [if_pos k, if_pos (by omega)]
      exact ⟨q.1, q.2.1, ⟨rfl, by obtain ⟨k, hk, e⟩ := p_in (by omega) hv.1 hv.2; exact ⟨k, hk, e⟩⟩, q.2.2.2⟩
    · rw [if_neg k, if_neg (by omega)]
      exact q
theorem op_tie (p v : Int32) : opOK (x_X8_tie p v) (x_X9_tie p v) := by
  intro M h
  obtain ⟨nr, nb, q1, q2, e1, e2, e3, e4, hr, hbt⟩ := inv_B h
  by_cases hp : 0 ≤ p ∧ p < nI nb
  · by_cases hv : 0 ≤ v ∧ v < nI nr
    · obtain ⟨b, hb, rfl⟩ := p_in (by omega) hp.1 hp.2
      have hv2 : ¬ nI nr ≤ v := by rw [Int32.not_le]; exact hv.2
      have c1 : (nI b).toNatClampNeg = b := nI_clamp (by omega)
      obtain ⟨⟨g0, g1, g2, g3, g4, g5, g6⟩, -⟩ := hbt b hb
      have b3 := p_inb (show b < 5 by omega) (by decide : (5 : Nat) < 2 ^ 31)
      have lc : x_X2_boatCell 1 (nI b) 2 M = some (M 5 (7 * b + 2), M) := px_boatCell 1 b 2 (by omega) (by decide) M
      have ls : x_X2_setBoatCell 1 (nI b) 2 v M = some (0, g_upd M 5 (7 * b + 2) v) := px_setBoatCell 1 b 2 (by omega) (by decide) v M
      obtain ⟨j1, j2, j3, j4, j5⟩ := hrel_iff.mp h.1
      refine ⟨M 50 b, g_upd (g_upd M 5 (7 * b + 2) v) 23 2 0, g_upd (g_upd (g_upd (g_upd M 5 (7 * b + 2) v) 23 2 0) 50 b v) 41 33 0, by simp [x_X8_tie, px_hasBoat, px_hasRing, e1, e3, hp, hv, hv2, lc, ls, g2], by simp [x_X9_tie, py_isBoat, py_isRing, g_upd_get, e2, e4, hp, hv, hv2, b3, c1], ?_⟩
      generalize hM : g_upd (g_upd (g_upd (g_upd M 5 (7 * b + 2) v) 23 2 0) 50 b v) 41 33 0 = M'
      have ne : ∀ c, c ≠ 5 → c ≠ 23 → c ≠ 41 → c ≠ 50 → M' c = M c := fun c a b d e => by rw [← hM, g_upd_ne d, g_upd_ne e, g_upd_ne b, g_upd_ne a]
      have hl := live_ex50 (M := M) (M' := M') (fun c a b d => ne c (by omega) (by omega) (by omega) d)
      have f41 : ∀ i, i ≠ 33 → M' 41 i = M 41 i := fun i hi => by simp [← hM, g_upd_get, hi]
      have n1' := ne 1 (by decide) (by decide) (by decide) (by decide)
      refine inv_har h (hrel_iff.mpr ⟨hrT_cg j1 (ne 2 (by decide) (by decide) (by decide) (by decide)) (fun i _ => hl _ (by omega) (by omega)), hrW_cg j2 (ne 3 (by decide) (by decide) (by decide) (by decide)) (fun i _ => hl _ (by omega) (by omega)), hrI_cg j3 (fun i _ _ => congrFun n1' i) (hl _ (by decide) (by decide)) (hl _ (by decide) (by decide)) (f41 17 (by decide)) (f41 18 (by decide)), hrP_cg j4 (congrFun n1' 7) (ne 6 (by decide) (by decide) (by decide) (by decide)) (f41 19 (by decide)) (fun i _ _ => hl i (by omega) (by omega)), hrE_rng j5 (b := b) (v := v) (by show 0 ≤ v ∧ v < M 41 15; rw [e2]; exact hv) (congrFun n1' 5) (congrFun n1' 6) (ne 4 (by decide) (by decide) (by decide) (by decide)) (fun i => by simp [← hM, g_upd_get]) (f41 15 (by decide)) (f41 16 (by decide)) (fun i _ _ => hl i (by omega) (by omega)) (fun i _ _ _ => hl i (by omega) (by omega)) (fun i hi => by rw [lv_50 M' hi, lv_50 M hi, ← hM]; simp [g_upd_get])⟩) ⟨0, by decide, by simp [← hM, g_upd_get, nI_0], by simp [← hM, g_upd_get, nI_0], fun i hi => absurd hi (by omega)⟩ (fun c hc => ne c (by omega) (by omega) (by omega) (by omega)) (fun f _ _ => f41 f (by omega))
    · exact op_ref h (k := 1) (r := -nI 1) (by decide) (by simp [x_X8_tie, px_hasBoat, px_hasRing, e1, e3, hp, hv, n1, px_refused]) (fun M1 hc => by simp [x_X9_tie, py_isBoat, py_isRing, hc 41 (by decide), e2, e4, hp, hv, n1, py_no])
  · exact op_ref h (k := 1) (r := -nI 1) (by decide) (by simp [x_X8_tie, px_hasBoat, e3, hp, n1, px_refused]) (fun M1 hc => by simp [x_X9_tie, py_isBoat, hc 41 (by decide), e4, hp, n1, py_no])
