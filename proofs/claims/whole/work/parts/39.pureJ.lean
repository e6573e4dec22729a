/-! THE PURE PART. J: set, row, feed, ramp -/
theorem live_ex47 {M M' : g_M} (h : ∀ c, 43 ≤ c → c ≤ 56 → c ≠ 47 → M' c = M c) : ∀ i, i < 79 → (i < 36 ∨ 38 ≤ i) → live M' i = live M i := by
  intro i hi hx
  unfold live
  rw [h 43 (by decide) (by decide) (by decide), h 44 (by decide) (by decide) (by decide), h 45 (by decide) (by decide) (by decide), h 46 (by decide) (by decide) (by decide), h 48 (by decide) (by decide) (by decide), h 49 (by decide) (by decide) (by decide), h 50 (by decide) (by decide) (by decide), h 51 (by decide) (by decide) (by decide), h 52 (by decide) (by decide) (by decide), h 53 (by decide) (by decide) (by decide), h 54 (by decide) (by decide) (by decide), h 55 (by decide) (by decide) (by decide), h 56 (by decide) (by decide) (by decide)]
  by_cases k : i < 36
  · simp only [if_pos k]
  · simp only [if_neg (show ¬ i < 38 by omega), if_pos hi]
theorem live_ex50 {M M' : g_M} (h : ∀ c, 43 ≤ c → c ≤ 56 → c ≠ 50 → M' c = M c) : ∀ i, i < 79 → (i < 48 ∨ 53 ≤ i) → live M' i = live M i := by
  intro i hi hx
  unfold live
  rw [h 43 (by decide) (by decide) (by decide), h 44 (by decide) (by decide) (by decide), h 45 (by decide) (by decide) (by decide), h 46 (by decide) (by decide) (by decide), h 47 (by decide) (by decide) (by decide), h 48 (by decide) (by decide) (by decide), h 49 (by decide) (by decide) (by decide), h 51 (by decide) (by decide) (by decide), h 52 (by decide) (by decide) (by decide), h 53 (by decide) (by decide) (by decide), h 54 (by decide) (by decide) (by decide), h 55 (by decide) (by decide) (by decide), h 56 (by decide) (by decide) (by decide)]
  by_cases k : i < 48
  · simp only [if_pos k]
  · simp only [if_neg (show ¬ i < 53 by omega), if_pos hi]
theorem live_ex52 {M M' : g_M} (h : ∀ c, 43 ≤ c → c ≤ 56 → c ≠ 52 → M' c = M c) : ∀ i, i < 79 → (i < 58 ∨ 63 ≤ i) → live M' i = live M i := by
  intro i hi hx
  unfold live
  rw [h 43 (by decide) (by decide) (by decide), h 44 (by decide) (by decide) (by decide), h 45 (by decide) (by decide) (by decide), h 46 (by decide) (by decide) (by decide), h 47 (by decide) (by decide) (by decide), h 48 (by decide) (by decide) (by decide), h 49 (by decide) (by decide) (by decide), h 50 (by decide) (by decide) (by decide), h 51 (by decide) (by decide) (by decide), h 53 (by decide) (by decide) (by decide), h 54 (by decide) (by decide) (by decide), h 55 (by decide) (by decide) (by decide), h 56 (by decide) (by decide) (by decide)]
  by_cases k : i < 58
  · simp only [if_pos k]
  · simp only [if_neg (show ¬ i < 63 by omega), if_pos hi]
theorem live_ex56 {M M' : g_M} (h : ∀ c, 43 ≤ c → c ≤ 54 → M' c = M c) : ∀ i, i < 73 → live M' i = live M i := by
  intro i hi
  unfold live
  rw [h 43 (by decide) (by decide), h 44 (by decide) (by decide), h 45 (by decide) (by decide), h 46 (by decide) (by decide), h 47 (by decide) (by decide), h 48 (by decide) (by decide), h 49 (by decide) (by decide), h 50 (by decide) (by decide), h 51 (by decide) (by decide), h 52 (by decide) (by decide), h 53 (by decide) (by decide), h 54 (by decide) (by decide)]
  simp only [if_pos hi]
/-- the Harbour written, and what pay keeps -/
theorem inv_har {M M' : g_M} (h : inv M) (hr : hrel 1 M' (live M')) (hp : iPay M') (k : ∀ c, (c = 0 ∨ (7 ≤ c ∧ c ≤ 22) ∨ c = 26 ∨ c = 42 ∨ (57 ≤ c ∧ c ≤ 61) ∨ c = 64) → M' c = M c) (k41 : ∀ f, 20 ≤ f → f ≠ 33 → M' 41 f = M 41 f) : inv M' :=
  ⟨hr, iRef_cg h.2.1 (k _ (by decide)) (k _ (by decide)), iLet_cg h.2.2.1 (by rw [k _ (by decide)]) (k _ (by decide)) (k41 24 (by decide) (by decide)) (k _ (by decide)), iRow_cg h.2.2.2.1 (by rw [k _ (by decide)]) (k _ (by decide)) (k41 37 (by decide) (by decide)) (k _ (by decide)), hp, iImg_cg h.2.2.2.2.2 (by rw [k _ (by decide)]) (k41 28 (by decide) (by decide)) (fun c a b => k c (by omega)) (fun i _ => by rw [k 61 (by decide)])⟩
theorem op_set (p v : Int32) : opOK (x_X8_set p v) (x_X9_set p v) := by
  intro M h
  have E := inv_E h
  by_cases hp : 0 ≤ p ∧ p < 2
  · obtain ⟨j, hj, rfl⟩ := p_in (n := 2) (by decide) hp.1 hp.2
    by_cases h0 : 0 ≤ v
    · have hv : ¬ v < 0 := by rw [Int32.not_lt]; exact h0
      rcases (show j = 0 ∨ j = 1 by omega) with rfl | rfl
      · rw [nI_0]
        by_cases h60 : v ≤ 60
        · have hv2 : ¬ (60 : Int32) < v := by rw [Int32.not_lt]; exact h60
          have b0 := p_inb (show 0 < 2 by decide) (by decide : (2 : Nat) < 2 ^ 31)
          rw [nI_0] at b0
          refine ⟨M 47 0, g_upd M 1 8 v, g_upd (g_upd M 1 8 v) 47 0 v, by simp [x_X8_set, x_X8_set_L38, x_X8_set_L69, px_isOneOf, h0, h60, E.1, show (0 : Int32) < 2 from by decide], by simp [x_X9_set, x_X9_set_L30, py_isIn, py_bound, hv, hv2, b0, g_upd_ne], ?_⟩
          have ne : ∀ c, c ≠ 1 → c ≠ 47 → g_upd (g_upd M 1 8 v) 47 0 v c = M c := fun c a b => by rw [g_upd_ne b, g_upd_ne a]
          have hl := live_ex47 (M := M) (M' := g_upd (g_upd M 1 8 v) 47 0 v) (fun c a b d => ne c (by omega) d)
          have f1 : ∀ i, i ≠ 8 → g_upd (g_upd M 1 8 v) 47 0 v 1 i = M 1 i := fun i hi => by simp [g_upd_get, hi]
          have n41 := ne 41 (by decide) (by decide)
          obtain ⟨j1, j2, ⟨a3, a4, a5, a6⟩, j4, j5⟩ := hrel_iff.mp h.1
          refine inv_har h (hrel_iff.mpr ⟨hrT_cg j1 (ne 2 (by decide) (by decide)) (fun i _ => hl _ (by omega) (by omega)), hrW_cg j2 (ne 3 (by decide) (by decide)) (fun i _ => hl _ (by omega) (by omega)), ⟨?_, ?_, ?_, ?_⟩, hrP_cg j4 (f1 7 (by decide)) (ne 6 (by decide) (by decide)) (congrFun n41 19) (fun i _ _ => hl i (by omega) (by omega)), hrE_cg j5 (f1 5 (by decide)) (f1 6 (by decide)) (ne 4 (by decide) (by decide)) (ne 5 (by decide) (by decide)) (congrFun n41 15) (congrFun n41 16) (fun i _ _ => hl i (by omega) (by omega)) (fun i _ _ => hl i (by omega) (by omega))⟩) (iPay_cg h.2.2.2.2.1 (by rw [ne _ (by decide) (by decide)]) (ne _ (by decide) (by decide)) (ne _ (by decide) (by decide)) (congrFun n41 33) (congrFun n41 16) (ne _ (by decide) (by decide)) (ne _ (by decide) (by decide))) (fun c hc => ne c (by omega) (by omega)) (fun f _ _ => congrFun n41 f)
          · exact ⟨rfl, h0, h60⟩
          · exact a4
          · rw [f1 10 (by decide), show live (g_upd (g_upd M 1 8 v) 47 0 v) 83 = live M 83 from congrFun n41 17]; exact a5
          · rw [f1 11 (by decide), show live (g_upd (g_upd M 1 8 v) 47 0 v) 79 = live M 79 from congrFun n41 18]; exact a6
        · have hv2 : (60 : Int32) < v := by rw [← Int32.not_le]; exact h60
          exact op_ref h (k := 6) (r := -nI 6) (by decide) (by simp [x_X8_set, x_X8_set_L38, px_isOneOf, h0, h60, show (0 : Int32) < 2 from by decide, n6, px_refused]) (fun M1 _ => by simp [x_X9_set, x_X9_set_L30, py_isIn, py_bound, hv, hv2, n6, nz6, py_no])
      · rw [show nI 1 = (1 : Int32) from rfl]
        by_cases h60 : v ≤ 9
        · have hv2 : ¬ (9 : Int32) < v := by rw [Int32.not_lt]; exact h60
          have b0 := p_inb (show 1 < 2 by decide) (by decide : (2 : Nat) < 2 ^ 31)
          rw [show nI 1 = (1 : Int32) from rfl] at b0
          have c5 : (1 : Int32).toNatClampNeg = 1 := by decide
          refine ⟨M 47 1, g_upd M 1 9 v, g_upd (g_upd M 1 9 v) 47 1 v, by simp [x_X8_set, x_X8_set_L38, x_X8_set_L69, px_isOneOf, h0, h60, E.2.1, show (1 : Int32) < 2 from by decide], by simp [x_X9_set, x_X9_set_L30, py_isIn, py_bound, hv, hv2, b0, c5, g_upd_ne], ?_⟩
          have ne : ∀ c, c ≠ 1 → c ≠ 47 → g_upd (g_upd M 1 9 v) 47 1 v c = M c := fun c a b => by rw [g_upd_ne b, g_upd_ne a]
          have hl := live_ex47 (M := M) (M' := g_upd (g_upd M 1 9 v) 47 1 v) (fun c a b d => ne c (by omega) d)
          have f1 : ∀ i, i ≠ 9 → g_upd (g_upd M 1 9 v) 47 1 v 1 i = M 1 i := fun i hi => by simp [g_upd_get, hi]
          have n41 := ne 41 (by decide) (by decide)
          obtain ⟨j1, j2, ⟨a3, a4, a5, a6⟩, j4, j5⟩ := hrel_iff.mp h.1
          refine inv_har h (hrel_iff.mpr ⟨hrT_cg j1 (ne 2 (by decide) (by decide)) (fun i _ => hl _ (by omega) (by omega)), hrW_cg j2 (ne 3 (by decide) (by decide)) (fun i _ => hl _ (by omega) (by omega)), ⟨?_, ?_, ?_, ?_⟩, hrP_cg j4 (f1 7 (by decide)) (ne 6 (by decide) (by decide)) (congrFun n41 19) (fun i _ _ => hl i (by omega) (by omega)), hrE_cg j5 (f1 5 (by decide)) (f1 6 (by decide)) (ne 4 (by decide) (by decide)) (ne 5 (by decide) (by decide)) (congrFun n41 15) (congrFun n41 16) (fun i _ _ => hl i (by omega) (by omega)) (fun i _ _ => hl i (by omega) (by omega))⟩) (iPay_cg h.2.2.2.2.1 (by rw [ne _ (by decide) (by decide)]) (ne _ (by decide) (by decide)) (ne _ (by decide) (by decide)) (congrFun n41 33) (congrFun n41 16) (ne _ (by decide) (by decide)) (ne _ (by decide) (by decide))) (fun c hc => ne c (by omega) (by omega)) (fun f _ _ => congrFun n41 f)
          · exact a3
          · exact ⟨rfl, h0, h60⟩
          · rw [f1 10 (by decide), show live (g_upd (g_upd M 1 9 v) 47 1 v) 83 = live M 83 from congrFun n41 17]; exact a5
          · rw [f1 11 (by decide), show live (g_upd (g_upd M 1 9 v) 47 1 v) 79 = live M 79 from congrFun n41 18]; exact a6
        · have hv2 : (9 : Int32) < v := by rw [← Int32.not_le]; exact h60
          exact op_ref h (k := 6) (r := -nI 6) (by decide) (by simp [x_X8_set, x_X8_set_L38, px_isOneOf, h0, h60, show (1 : Int32) < 2 from by decide, n6, px_refused]) (fun M1 _ => by simp [x_X9_set, x_X9_set_L30, py_isIn, py_bound, hv, hv2, n6, nz6, py_no])
    · have hv : v < 0 := by rw [← Int32.not_le]; exact h0
      have hi2 : (0 : Int32) ≤ nI j ∧ nI j ≤ 1 := ⟨hp.1, by rcases (show j = 0 ∨ j = 1 by omega) with rfl | rfl <;> decide⟩
      exact op_ref h (k := 4) (r := -nI 4) (by decide) (by simp [x_X8_set, px_isOneOf, hp, h0, n4, px_refused]) (fun M1 _ => by by_cases z : nI j = 0 <;> simp [x_X9_set, x_X9_set_L30, py_isIn, hi2, py_bound, hv, z, n4, nz4, py_no, show (0 : Int32) ≤ 1 from by decide])
  · have k2 : ¬ (0 ≤ p ∧ p ≤ 1) := fun k => hp ⟨k.1, by have := k.2; grind⟩
    exact op_ref h (k := 2) (r := -nI 2) (by decide) (by simp [x_X8_set, px_isOneOf, hp, n2, px_refused]) (fun M1 _ => by simp [x_X9_set, x_X9_set_L30, py_isIn, k2, n2, nz2, py_no])
theorem op_row (v : Int32) : opOK (x_X8_row v) (x_X9_row v) := by
  intro M h
  obtain ⟨n, n12, e1, e2, hrow⟩ := h.2.2.2.1
  by_cases h0 : 0 ≤ v
  · have hv : ¬ v < 0 := by rw [Int32.not_lt]; exact h0
    by_cases h9 : v ≤ 99
    · have hv2 : ¬ (99 : Int32) < v := by rw [Int32.not_lt]; exact h9
      by_cases hn : n < 12
      · have b := p_inb hn (by decide : (12 : Nat) < 2 ^ 31)
        have c : (nI n).toNatClampNeg = n := nI_clamp (by omega)
        have g1 : nI n < 12 := (p_lt (b := 12) (by omega) (by decide)).mpr hn
        have g2 : ¬ nI n < 0 := nI_pos (by omega)
        have g3 : ¬ (12 : Int32) ≤ nI n := nI_ge hn (by decide)
        have g4 : ¬ nI n = (12 : Int32) := fun q => by rw [q] at g1; exact absurd g1 (by decide)
        refine ⟨nI (n + 1), g_upd (g_upd M 22 n v) 21 1 (nI (n + 1)), g_upd (g_upd (g_upd (g_upd M 22 n v) 21 1 (nI (n + 1))) 64 n v) 41 37 (nI (n + 1)), by simp [x_X8_row, x_X6_append, h0, hv2, e1, g1, g2, g3, b, c, g_upd_get, nI_succ], by simp [x_X9_row, x_X9_row_L24, py_bound, hv, hv2, g_upd_get, e2, g4, b, c, nI_succ], ?_⟩
        generalize hM : g_upd (g_upd (g_upd (g_upd M 22 n v) 21 1 (nI (n + 1))) 64 n v) 41 37 (nI (n + 1)) = M'
        have ne : ∀ c, c ≠ 21 → c ≠ 22 → c ≠ 41 → c ≠ 64 → M' c = M c := fun c a b d e => by rw [← hM, g_upd_ne d, g_upd_ne e, g_upd_ne a, g_upd_ne b]
        have f41 : ∀ i, i ≠ 37 → M' 41 i = M 41 i := fun i hi => by simp [← hM, g_upd_get, hi]
        refine ⟨inv_rest h (fun c a b => ne c (by omega) (by omega) (by omega) (by omega)) (fun c a b => ne c (by omega) (by omega) (by omega) (by omega)) (fun f a b => f41 f (by omega)), iRef_cg h.2.1 (ne _ (by decide) (by decide) (by decide) (by decide)) (ne _ (by decide) (by decide) (by decide) (by decide)), iLet_cg h.2.2.1 (by rw [ne _ (by decide) (by decide) (by decide) (by decide)]) (ne _ (by decide) (by decide) (by decide) (by decide)) (f41 24 (by decide)) (ne _ (by decide) (by decide) (by decide) (by decide)), ⟨n + 1, by omega, by simp [← hM, g_upd_get], by simp [← hM, g_upd_get], fun i hi => ?_⟩, iPay_cg h.2.2.2.2.1 (by rw [ne _ (by decide) (by decide) (by decide) (by decide)]) (ne _ (by decide) (by decide) (by decide) (by decide)) (ne _ (by decide) (by decide) (by decide) (by decide)) (f41 33 (by decide)) (f41 16 (by decide)) (ne _ (by decide) (by decide) (by decide) (by decide)) (ne _ (by decide) (by decide) (by decide) (by decide)), iImg_cg h.2.2.2.2.2 (by rw [ne _ (by decide) (by decide) (by decide) (by decide)]) (f41 28 (by decide)) (fun c a b => ne c (by omega) (by omega) (by omega) (by omega)) (fun i _ => by rw [ne 61 (by decide) (by decide) (by decide) (by decide)])⟩
        by_cases e : i = n
        · subst e
          have r1 : M' 22 i = v := by simp [← hM, g_upd_get]
          have r2 : M' 64 i = v := by simp [← hM, g_upd_get]
          rw [r1, r2]
          exact ⟨rfl, h0, h9⟩
        · have r1 : M' 22 i = M 22 i := by simp [← hM, g_upd_get, e]
          have r2 : M' 64 i = M 64 i := by simp [← hM, g_upd_get, e]
          rw [r1, r2]
          exact hrow i (by omega)
      · obtain rfl : n = 12 := by omega
        rw [show nI 12 = (12 : Int32) from rfl] at e1 e2
        exact op_ref h (k := 6) (r := -nI 6) (by decide) (by simp [x_X8_row, h0, hv2, e1, n6, px_refused]) (fun M1 hc => by simp [x_X9_row, x_X9_row_L24, py_bound, hv, hv2, hc 41 (by decide), e2, n6, nz6, py_no])
    · have hv2 : (99 : Int32) < v := by rw [← Int32.not_le]; exact h9
      exact op_ref h (k := 6) (r := -nI 6) (by decide) (by simp [x_X8_row, h0, hv2, n6, px_refused]) (fun M1 _ => by simp [x_X9_row, x_X9_row_L24, py_bound, hv, hv2, n6, nz6, py_no])
  · have hv : v < 0 := by rw [← Int32.not_le]; exact h0
    exact op_ref h (k := 4) (r := -nI 4) (by decide) (by simp [x_X8_row, h0, n4, px_refused]) (fun M1 _ => by simp [x_X9_row, x_X9_row_L24, py_bound, hv, n4, nz4, py_no])
theorem op_feed (v : Int32) : opOK (x_X8_feed v) (x_X9_feed v) := by
  intro M h
  obtain ⟨n, n12, e1, e2, hrow⟩ := h.2.2.1
  by_cases h0 : 0 ≤ v
  · have hv : ¬ v < 0 := by rw [Int32.not_lt]; exact h0
    by_cases h9 : v ≤ 255
    · have hv2 : ¬ (255 : Int32) < v := by rw [Int32.not_lt]; exact h9
      by_cases hn : n < 96
      · have b := p_inb hn (by decide : (96 : Nat) < 2 ^ 31)
        have c : (nI n).toNatClampNeg = n := nI_clamp (by omega)
        have g1 : nI n < 96 := (p_lt (b := 96) (by omega) (by decide)).mpr hn
        have g2 : ¬ nI n < 0 := nI_pos (by omega)
        have g3 : ¬ (96 : Int32) ≤ nI n := nI_ge hn (by decide)
        have g4 : ¬ nI n = (96 : Int32) := fun q => by rw [q] at g1; exact absurd g1 (by decide)
        refine ⟨nI (n + 1), g_upd (g_upd M 20 n v) 19 1 (nI (n + 1)), g_upd (g_upd (g_upd (g_upd M 20 n v) 19 1 (nI (n + 1))) 57 n v) 41 24 (nI (n + 1)), by simp [x_X8_feed, x_X3_append, h0, hv2, e1, g1, g2, g3, b, c, g_upd_get, nI_succ], by simp [x_X9_feed, x_X9_feed_L25, py_bound, hv, hv2, g_upd_get, e2, g4, b, c, nI_succ], ?_⟩
        generalize hM : g_upd (g_upd (g_upd (g_upd M 20 n v) 19 1 (nI (n + 1))) 57 n v) 41 24 (nI (n + 1)) = M'
        have ne : ∀ c, c ≠ 19 → c ≠ 20 → c ≠ 41 → c ≠ 57 → M' c = M c := fun c a b d e => by rw [← hM, g_upd_ne d, g_upd_ne e, g_upd_ne a, g_upd_ne b]
        have f41 : ∀ i, i ≠ 24 → M' 41 i = M 41 i := fun i hi => by simp [← hM, g_upd_get, hi]
        refine ⟨inv_rest h (fun c a b => ne c (by omega) (by omega) (by omega) (by omega)) (fun c a b => ne c (by omega) (by omega) (by omega) (by omega)) (fun f a b => f41 f (by omega)), iRef_cg h.2.1 (ne _ (by decide) (by decide) (by decide) (by decide)) (ne _ (by decide) (by decide) (by decide) (by decide)), ⟨n + 1, by omega, by simp [← hM, g_upd_get], by simp [← hM, g_upd_get], fun i hi => ?_⟩, iRow_cg h.2.2.2.1 (by rw [ne _ (by decide) (by decide) (by decide) (by decide)]) (ne _ (by decide) (by decide) (by decide) (by decide)) (f41 37 (by decide)) (ne _ (by decide) (by decide) (by decide) (by decide)), iPay_cg h.2.2.2.2.1 (by rw [ne _ (by decide) (by decide) (by decide) (by decide)]) (ne _ (by decide) (by decide) (by decide) (by decide)) (ne _ (by decide) (by decide) (by decide) (by decide)) (f41 33 (by decide)) (f41 16 (by decide)) (ne _ (by decide) (by decide) (by decide) (by decide)) (ne _ (by decide) (by decide) (by decide) (by decide)), iImg_cg h.2.2.2.2.2 (by rw [ne _ (by decide) (by decide) (by decide) (by decide)]) (f41 28 (by decide)) (fun c a b => ne c (by omega) (by omega) (by omega) (by omega)) (fun i _ => by rw [ne 61 (by decide) (by decide) (by decide) (by decide)])⟩
        by_cases e : i = n
        · subst e
          have r1 : M' 20 i = v := by simp [← hM, g_upd_get]
          have r2 : M' 57 i = v := by simp [← hM, g_upd_get]
          rw [r1, r2]
          exact ⟨rfl, h0, h9⟩
        · have r1 : M' 20 i = M 20 i := by simp [← hM, g_upd_get, e]
          have r2 : M' 57 i = M 57 i := by simp [← hM, g_upd_get, e]
          rw [r1, r2]
          exact hrow i (by omega)
      · obtain rfl : n = 96 := by omega
        rw [show nI 96 = (96 : Int32) from rfl] at e1 e2
        exact op_ref h (k := 6) (r := -nI 6) (by decide) (by simp [x_X8_feed, h0, hv2, e1, n6, px_refused]) (fun M1 hc => by simp [x_X9_feed, x_X9_feed_L25, py_bound, hv, hv2, hc 41 (by decide), e2, n6, nz6, py_no])
    · have hv2 : (255 : Int32) < v := by rw [← Int32.not_le]; exact h9
      exact op_ref h (k := 6) (r := -nI 6) (by decide) (by simp [x_X8_feed, h0, hv2, n6, px_refused]) (fun M1 _ => by simp [x_X9_feed, x_X9_feed_L25, py_bound, hv, hv2, n6, nz6, py_no])
  · have hv : v < 0 := by rw [← Int32.not_le]; exact h0
    exact op_ref h (k := 4) (r := -nI 4) (by decide) (by simp [x_X8_feed, h0, n4, px_refused]) (fun M1 _ => by simp [x_X9_feed, x_X9_feed_L25, py_bound, hv, n4, nz4, py_no])
