/-! THE PURE PART. H: operations that write -/
def hrT (q : Nat) (M : g_M) (K : Nat → Int32) : Prop := ∀ h, h < 12 → M (q + 1) h = K h ∧ p_bd 0 (K h) 40
def hrW (q : Nat) (M : g_M) (K : Nat → Int32) : Prop := ∀ h, h < 12 → M (q + 2) h = K (12 + h) ∧ p_bd (-9) (K (12 + h)) 9
def hrP (q : Nat) (M : g_M) (K : Nat → Int32) : Prop := ∃ np, np ≤ 3 ∧ M q 7 = nI np ∧ K 80 = nI np ∧ ∀ r, r < np → (M (q + 5) (2 * r) = K (73 + r) ∧ p_bd 0 (K (73 + r)) 60) ∧ M (q + 5) (2 * r + 1) = K (76 + r) ∧ p_bd 1 (K (76 + r)) 40
def hrE (q : Nat) (M : g_M) (K : Nat → Int32) : Prop := ∃ nr, nr ≤ 6 ∧ M q 5 = nI nr ∧ K 81 = nI nr ∧ (∀ r, r < nr → (M (q + 3) (2 * r) = K (24 + r) ∧ p_bd 0 (K (24 + r)) 99) ∧ M (q + 3) (2 * r + 1) = K (30 + r) ∧ p_bd 0 (K (30 + r)) 60) ∧
  ∃ nb, nb ≤ 5 ∧ M q 6 = nI nb ∧ K 82 = nI nb ∧ ∀ b, b < nb → (M (q + 4) (7 * b) = K (38 + b) ∧ p_bd 0 (K (38 + b)) 5) ∧ (M (q + 4) (7 * b + 1) = K (43 + b) ∧ p_bd 0 (K (43 + b)) 9) ∧ (M (q + 4) (7 * b + 2) = K (48 + b) ∧ ∃ r, r < nr ∧ K (48 + b) = nI r) ∧ (M (q + 4) (7 * b + 3) = K (53 + b) ∧ ∃ r, r < nr ∧ K (53 + b) = nI r) ∧ (M (q + 4) (7 * b + 4) = K (58 + b) ∧ p_bd 0 (K (58 + b)) 99) ∧ (M (q + 4) (7 * b + 5) = K (63 + b) ∧ p_bd 1 (K (63 + b)) 20) ∧ M (q + 4) (7 * b + 6) = K (68 + b) ∧ p_bd 0 (K (68 + b)) 99
def hrI (q : Nat) (M : g_M) (K : Nat → Int32) : Prop := (M q 8 = K 36 ∧ p_bd 0 (K 36) 60) ∧ (M q 9 = K 37 ∧ p_bd 0 (K 37) 9) ∧ (∃ h, h < 12 ∧ M q 10 = nI h ∧ K 83 = nI h) ∧ (M q 11 = K 79 ∧ p_bd 0 (K 79) 9)
theorem hrel_iff {q : Nat} {M : g_M} {K : Nat → Int32} : hrel q M K ↔ hrT q M K ∧ hrW q M K ∧ hrI q M K ∧ hrP q M K ∧ hrE q M K := by
  constructor
  · rintro ⟨a1, a2, a3, a4, a5, a6, a7, a8⟩
    exact ⟨a1, a2, ⟨a3, a4, a5, a6⟩, a7, a8⟩
  · rintro ⟨a1, a2, ⟨a3, a4, a5, a6⟩, a7, a8⟩
    exact ⟨a1, a2, a3, a4, a5, a6, a7, a8⟩
theorem hrT_cg {q : Nat} {M M' : g_M} {K K' : Nat → Int32} (h : hrT q M K) (a : M' (q + 1) = M (q + 1)) (b : ∀ i, i < 12 → K' i = K i) : hrT q M' K' := fun i hi => by rw [a, b i hi]; exact h i hi
theorem hrW_cg {q : Nat} {M M' : g_M} {K K' : Nat → Int32} (h : hrW q M K) (a : M' (q + 2) = M (q + 2)) (b : ∀ i, i < 12 → K' (12 + i) = K (12 + i)) : hrW q M' K' := fun i hi => by rw [a, b i hi]; exact h i hi
theorem hrI_cg {q : Nat} {M M' : g_M} {K K' : Nat → Int32} (h : hrI q M K) (a : ∀ i, 8 ≤ i → i ≤ 11 → M' q i = M q i) (b6 : K' 36 = K 36) (b7 : K' 37 = K 37) (b3 : K' 83 = K 83) (b9 : K' 79 = K 79) : hrI q M' K' := by
  unfold hrI
  rw [a 8 (by decide) (by decide), a 9 (by decide) (by decide), a 10 (by decide) (by decide), a 11 (by decide) (by decide), b6, b7, b3, b9]
  exact h
theorem hrP_cg {q : Nat} {M M' : g_M} {K K' : Nat → Int32} (h : hrP q M K) (a : M' q 7 = M q 7) (a5 : M' (q + 5) = M (q + 5)) (b : K' 80 = K 80) (c : ∀ i, 73 ≤ i → i < 79 → K' i = K i) : hrP q M' K' := by
  obtain ⟨np, p1, p2, p3, p4⟩ := h
  refine ⟨np, p1, by rw [a]; exact p2, by rw [b]; exact p3, fun r hr => ?_⟩
  rw [a5, c (73 + r) (by omega) (by omega), c (76 + r) (by omega) (by omega)]
  exact p4 r hr
theorem hrE_cg {q : Nat} {M M' : g_M} {K K' : Nat → Int32} (h : hrE q M K) (a : M' q 5 = M q 5) (a6 : M' q 6 = M q 6) (a3 : M' (q + 3) = M (q + 3)) (a4 : M' (q + 4) = M (q + 4)) (b : K' 81 = K 81) (b2 : K' 82 = K 82) (c : ∀ i, 24 ≤ i → i < 36 → K' i = K i) (d : ∀ i, 38 ≤ i → i < 73 → K' i = K i) : hrE q M' K' := by
  obtain ⟨nr, r1, r2, r3, r4, nb, n1, n2, n3, n4⟩ := h
  refine ⟨nr, r1, by rw [a]; exact r2, by rw [b]; exact r3, fun r hr => ?_, nb, n1, by rw [a6]; exact n2, by rw [b2]; exact n3, fun b hb => ?_⟩
  · rw [a3, c (24 + r) (by omega) (by omega), c (30 + r) (by omega) (by omega)]; exact r4 r hr
  · rw [a4, d (38 + b) (by omega) (by omega), d (43 + b) (by omega) (by omega), d (48 + b) (by omega) (by omega), d (53 + b) (by omega) (by omega), d (58 + b) (by omega) (by omega), d (63 + b) (by omega) (by omega), d (68 + b) (by omega) (by omega)]
    exact n4 b hb
theorem iRef_cg {M M' : g_M} (h : iRef M) (a : M' 26 = M 26) (b : M' 42 = M 42) : iRef M' := by unfold iRef; rw [a, b]; exact h
theorem iLet_cg {M M' : g_M} (h : iLet M) (a : M' 19 1 = M 19 1) (b : M' 20 = M 20) (c : M' 41 24 = M 41 24) (d : M' 57 = M 57) : iLet M' := by unfold iLet; rw [a, b, c, d]; exact h
theorem iRow_cg {M M' : g_M} (h : iRow M) (a : M' 21 1 = M 21 1) (b : M' 22 = M 22) (c : M' 41 37 = M 41 37) (d : M' 64 = M 64) : iRow M' := by unfold iRow; rw [a, b, c, d]; exact h
theorem iPay_cg {M M' : g_M} (h : iPay M) (a : M' 23 2 = M 23 2) (b : M' 24 = M 24) (b2 : M' 25 = M 25) (c : M' 41 33 = M 41 33) (c2 : M' 41 16 = M 41 16) (d : M' 62 = M 62) (d2 : M' 63 = M 63) : iPay M' := by unfold iPay; rw [a, b, b2, c, c2, d, d2]; exact h
theorem iImg_cg {M M' : g_M} (h : iImg M) (a : M' 0 3 = M 0 3) (b : M' 41 28 = M 41 28) (c : ∀ c, 7 ≤ c → c ≤ 12 → M' c = M c) (d : ∀ i, i < 84 → M' 61 i = M 61 i) : iImg M' := by
  unfold iImg at *
  rw [a, b]
  exact ⟨h.1, h.2.imp id fun q => ⟨q.1, hrel_cg q.2 c d⟩⟩
theorem nz1 : (-nI 1 = 0) = False := by decide
theorem nz2 : (-nI 2 = 0) = False := by decide
theorem nz3 : (-nI 3 = 0) = False := by decide
theorem nz4 : (-nI 4 = 0) = False := by decide
theorem nz6 : (-nI 6 = 0) = False := by decide
theorem op_rises (p v : Int32) : opOK (x_X8_rises p v) (x_X9_rises p v) := by
  intro M h
  by_cases hp : 0 ≤ p ∧ p < 12
  · by_cases h0 : 0 ≤ v
    · by_cases h40 : v ≤ 40
      · obtain ⟨k, hk, rfl⟩ := p_in (n := 12) (by decide) hp.1 hp.2
        have c : (nI k).toNatClampNeg = k := nI_clamp (by omega)
        have t := (inv_T h).1 k hk
        have hv : ¬ v < 0 := by rw [Int32.not_lt]; exact h0
        have hv2 : ¬ (40 : Int32) < v := by rw [Int32.not_lt]; exact h40
        obtain ⟨i1, i2, i3, i4, i5, i6⟩ := h
        refine ⟨M 43 k, g_upd M 2 k v, g_upd (g_upd M 2 k v) 43 k v, by simp [x_X8_rises, px_isHour, hp, h0, h40, px_tideAt _ _ hk, px_setTide _ _ hk, t], by simp [x_X9_rises, x_X9_rises_L18, py_isHour, hp, py_bound, hv, hv2, p_inb hk, c, g_upd_ne], ?_⟩
        have ne : ∀ c, c ≠ 2 → c ≠ 43 → g_upd (g_upd M 2 k v) 43 k v c = M c := fun c a b => by rw [g_upd_ne b, g_upd_ne a]
        have hl : ∀ i, 12 ≤ i → live (g_upd (g_upd M 2 k v) 43 k v) i = live M i := fun i hi => by
          unfold live
          simp only [if_neg (show ¬ i < 12 by omega), ne 44 (by decide) (by decide), ne 41 (by decide) (by decide), ne 45 (by decide) (by decide), ne 46 (by decide) (by decide), ne 47 (by decide) (by decide), ne 48 (by decide) (by decide), ne 49 (by decide) (by decide), ne 50 (by decide) (by decide), ne 51 (by decide) (by decide), ne 52 (by decide) (by decide), ne 53 (by decide) (by decide), ne 54 (by decide) (by decide), ne 55 (by decide) (by decide), ne 56 (by decide) (by decide)]
        obtain ⟨j1, j2, j3, j4, j5⟩ := hrel_iff.mp i1
        refine ⟨hrel_iff.mpr ⟨fun i hi => ?_, hrW_cg j2 (ne 3 (by decide) (by decide)) (fun i _ => hl _ (by omega)), hrI_cg j3 (fun i _ _ => by rw [ne 1 (by decide) (by decide)]) (hl _ (by decide)) (hl _ (by decide)) (hl _ (by decide)) (hl _ (by decide)), hrP_cg j4 (by rw [ne 1 (by decide) (by decide)]) (ne 6 (by decide) (by decide)) (hl _ (by decide)) (fun i a _ => hl i (by omega)), hrE_cg j5 (by rw [ne 1 (by decide) (by decide)]) (by rw [ne 1 (by decide) (by decide)]) (ne 4 (by decide) (by decide)) (ne 5 (by decide) (by decide)) (hl _ (by decide)) (hl _ (by decide)) (fun i a _ => hl i (by omega)) (fun i a _ => hl i (by omega))⟩, iRef_cg i2 (ne _ (by decide) (by decide)) (ne _ (by decide) (by decide)), iLet_cg i3 (by rw [ne _ (by decide) (by decide)]) (ne _ (by decide) (by decide)) (by rw [ne _ (by decide) (by decide)]) (ne _ (by decide) (by decide)), iRow_cg i4 (by rw [ne _ (by decide) (by decide)]) (ne _ (by decide) (by decide)) (by rw [ne _ (by decide) (by decide)]) (ne _ (by decide) (by decide)), iPay_cg i5 (by rw [ne _ (by decide) (by decide)]) (ne _ (by decide) (by decide)) (ne _ (by decide) (by decide)) (by rw [ne _ (by decide) (by decide)]) (by rw [ne _ (by decide) (by decide)]) (ne _ (by decide) (by decide)) (ne _ (by decide) (by decide)), iImg_cg i6 (by rw [ne _ (by decide) (by decide)]) (by rw [ne _ (by decide) (by decide)]) (fun c a b => ne c (by omega) (by omega)) (fun i _ => by rw [ne 61 (by decide) (by decide)])⟩
        have q := j1 i hi
        rw [lv_43 _ hi] at q ⊢
        show g_upd (g_upd M 2 k v) 43 k v 2 i = _ ∧ _
        simp only [g_upd_get]
        by_cases e : i = k
        · subst e
          simp
          exact ⟨h0, h40⟩
        · simp [e]
          exact q
      · have hv : ¬ v < 0 := by rw [Int32.not_lt]; exact h0
        have hv2 : (40 : Int32) < v := by rw [← Int32.not_le]; exact h40
        exact op_ref h (k := 6) (r := -nI 6) (by decide) (by simp [x_X8_rises, px_isHour, hp, h0, h40, n6, px_refused]) (fun M1 _ => by simp [x_X9_rises, x_X9_rises_L18, py_isHour, hp, py_bound, hv, hv2, n6, nz6, py_no])
    · have hv : v < 0 := by rw [← Int32.not_le]; exact h0
      exact op_ref h (k := 4) (r := -nI 4) (by decide) (by simp [x_X8_rises, px_isHour, hp, h0, n4, px_refused]) (fun M1 _ => by simp [x_X9_rises, x_X9_rises_L18, py_isHour, hp, py_bound, hv, n4, nz4, py_no])
  · exact op_ref h (k := 1) (r := -nI 1) (by decide) (by simp [x_X8_rises, px_isHour, hp, n1, px_refused]) (fun M1 _ => by simp [x_X9_rises, x_X9_rises_L18, py_isHour, hp, n1, nz1, py_no])
theorem live_lo {M M' : g_M} (h : ∀ c, 43 ≤ c → c ≤ 56 → M' c = M c) : ∀ i, i < 79 → live M' i = live M i := by
  intro i hi
  unfold live
  rw [h 43 (by decide) (by decide), h 44 (by decide) (by decide), h 45 (by decide) (by decide), h 46 (by decide) (by decide), h 47 (by decide) (by decide), h 48 (by decide) (by decide), h 49 (by decide) (by decide), h 50 (by decide) (by decide), h 51 (by decide) (by decide), h 52 (by decide) (by decide), h 53 (by decide) (by decide), h 54 (by decide) (by decide), h 55 (by decide) (by decide), h 56 (by decide) (by decide)]
  simp only [if_pos hi]
theorem p_ub {M : g_M} {a k : Nat} {v : Int32} {c : Nat} (h : c ≠ a) : g_upd M a k v c = M c := g_upd_ne h
theorem op_spring (v : Int32) : opOK (x_X8_spring v) (x_X9_spring v) := by
  intro M h
  by_cases h0 : 0 ≤ v
  · by_cases h9 : v ≤ 9
    · have hv : ¬ v < 0 := by rw [Int32.not_lt]; exact h0
      have hv2 : ¬ (9 : Int32) < v := by rw [Int32.not_lt]; exact h9
      obtain ⟨i1, i2, i3, i4, i5, i6⟩ := h
      obtain ⟨j1, j2, ⟨a3, a4, a5, a6⟩, j4, j5⟩ := hrel_iff.mp i1
      have e : M 1 11 = M 41 18 := a6.1
      refine ⟨M 41 18, g_upd M 1 11 v, g_upd (g_upd M 1 11 v) 41 18 v, by simp [x_X8_spring, h0, h9, e], by simp [x_X9_spring, py_bound, hv, hv2, g_upd_ne], ?_⟩
      have ne : ∀ c, c ≠ 1 → c ≠ 41 → g_upd (g_upd M 1 11 v) 41 18 v c = M c := fun c a b => by rw [g_upd_ne b, g_upd_ne a]
      have hl := live_lo (M := M) (M' := g_upd (g_upd M 1 11 v) 41 18 v) (fun c a b => ne c (by omega) (by omega))
      have f1 : ∀ i, i ≠ 11 → g_upd (g_upd M 1 11 v) 41 18 v 1 i = M 1 i := fun i hi => by simp [g_upd_get, hi]
      have f41 : ∀ i, i ≠ 18 → g_upd (g_upd M 1 11 v) 41 18 v 41 i = M 41 i := fun i hi => by simp [g_upd_get, hi]
      refine ⟨hrel_iff.mpr ⟨hrT_cg j1 (ne 2 (by decide) (by decide)) (fun i _ => hl _ (by omega)), hrW_cg j2 (ne 3 (by decide) (by decide)) (fun i _ => hl _ (by omega)), ⟨?_, ?_, ?_, ?_⟩, hrP_cg j4 (f1 7 (by decide)) (ne 6 (by decide) (by decide)) (f41 19 (by decide)) (fun i _ _ => hl i (by omega)), hrE_cg j5 (f1 5 (by decide)) (f1 6 (by decide)) (ne 4 (by decide) (by decide)) (ne 5 (by decide) (by decide)) (f41 15 (by decide)) (f41 16 (by decide)) (fun i _ _ => hl i (by omega)) (fun i _ _ => hl i (by omega))⟩, iRef_cg i2 (ne _ (by decide) (by decide)) (ne _ (by decide) (by decide)), iLet_cg i3 (by rw [ne _ (by decide) (by decide)]) (ne _ (by decide) (by decide)) (f41 24 (by decide)) (ne _ (by decide) (by decide)), iRow_cg i4 (by rw [ne _ (by decide) (by decide)]) (ne _ (by decide) (by decide)) (f41 37 (by decide)) (ne _ (by decide) (by decide)), iPay_cg i5 (by rw [ne _ (by decide) (by decide)]) (ne _ (by decide) (by decide)) (ne _ (by decide) (by decide)) (f41 33 (by decide)) (f41 16 (by decide)) (ne _ (by decide) (by decide)) (ne _ (by decide) (by decide)), iImg_cg i6 (by rw [ne _ (by decide) (by decide)]) (f41 28 (by decide)) (fun c a b => ne c (by omega) (by omega)) (fun i _ => by rw [ne 61 (by decide) (by decide)])⟩
      · rw [f1 8 (by decide), hl 36 (by decide)]; exact a3
      · rw [f1 9 (by decide), hl 37 (by decide)]; exact a4
      · rw [f1 10 (by decide), show live (g_upd (g_upd M 1 11 v) 41 18 v) 83 = live M 83 from f41 17 (by decide)]; exact a5
      · exact ⟨rfl, h0, h9⟩
    · have hv : ¬ v < 0 := by rw [Int32.not_lt]; exact h0
      have hv2 : (9 : Int32) < v := by rw [← Int32.not_le]; exact h9
      exact op_ref h (k := 6) (r := -nI 6) (by decide) (by simp [x_X8_spring, h0, h9, n6, px_refused]) (fun M1 _ => by simp [x_X9_spring, py_bound, hv, hv2, n6, nz6, py_no])
  · have hv : v < 0 := by rw [← Int32.not_le]; exact h0
    exact op_ref h (k := 4) (r := -nI 4) (by decide) (by simp [x_X8_spring, h0, n4, px_refused]) (fun M1 _ => by simp [x_X9_spring, py_bound, hv, n4, nz4, py_no])
theorem p_mod12 : ∀ h, h < 12 → (nI h + 1) - (nI h + 1) / 12 * 12 = nI ((h + 1) % 12) := by decide +kernel
theorem op_hour : opOK x_X8_hour x_X9_hour := by
  intro M h
  obtain ⟨i1, i2, i3, i4, i5, i6⟩ := h
  obtain ⟨j1, j2, ⟨a3, a4, ⟨k, hk, a5, a5b⟩, a6⟩, j4, j5⟩ := hrel_iff.mp i1
  have a5c : M 41 17 = nI k := a5b
  have m := p_mod12 k hk
  have hm : (k + 1) % 12 < 12 := Nat.mod_lt _ (by decide)
  generalize (k + 1) % 12 = k2 at m hm
  refine ⟨nI k2, g_upd M 1 10 (nI k2), g_upd (g_upd M 1 10 (nI k2)) 41 17 (nI k2), by simp [x_X8_hour, a5, m, g_upd_get], by simp [x_X9_hour, a5c, m, g_upd_get], ?_⟩
  generalize hvv : nI k2 = v
  have ne : ∀ c, c ≠ 1 → c ≠ 41 → g_upd (g_upd M 1 10 v) 41 17 v c = M c := fun c a b => by rw [g_upd_ne b, g_upd_ne a]
  have hl := live_lo (M := M) (M' := g_upd (g_upd M 1 10 v) 41 17 v) (fun c a b => ne c (by omega) (by omega))
  have f1 : ∀ i, i ≠ 10 → g_upd (g_upd M 1 10 v) 41 17 v 1 i = M 1 i := fun i hi => by simp [g_upd_get, hi]
  have f41 : ∀ i, i ≠ 17 → g_upd (g_upd M 1 10 v) 41 17 v 41 i = M 41 i := fun i hi => by simp [g_upd_get, hi]
  refine ⟨hrel_iff.mpr ⟨hrT_cg j1 (ne 2 (by decide) (by decide)) (fun i _ => hl _ (by omega)), hrW_cg j2 (ne 3 (by decide) (by decide)) (fun i _ => hl _ (by omega)), ⟨?_, ?_, ?_, ?_⟩, hrP_cg j4 (f1 7 (by decide)) (ne 6 (by decide) (by decide)) (f41 19 (by decide)) (fun i _ _ => hl i (by omega)), hrE_cg j5 (f1 5 (by decide)) (f1 6 (by decide)) (ne 4 (by decide) (by decide)) (ne 5 (by decide) (by decide)) (f41 15 (by decide)) (f41 16 (by decide)) (fun i _ _ => hl i (by omega)) (fun i _ _ => hl i (by omega))⟩, iRef_cg i2 (ne _ (by decide) (by decide)) (ne _ (by decide) (by decide)), iLet_cg i3 (by rw [ne _ (by decide) (by decide)]) (ne _ (by decide) (by decide)) (f41 24 (by decide)) (ne _ (by decide) (by decide)), iRow_cg i4 (by rw [ne _ (by decide) (by decide)]) (ne _ (by decide) (by decide)) (f41 37 (by decide)) (ne _ (by decide) (by decide)), iPay_cg i5 (by rw [ne _ (by decide) (by decide)]) (ne _ (by decide) (by decide)) (ne _ (by decide) (by decide)) (f41 33 (by decide)) (f41 16 (by decide)) (ne _ (by decide) (by decide)) (ne _ (by decide) (by decide)), iImg_cg i6 (by rw [ne _ (by decide) (by decide)]) (f41 28 (by decide)) (fun c a b => ne c (by omega) (by omega)) (fun i _ => by rw [ne 61 (by decide) (by decide)])⟩
  · rw [f1 8 (by decide), hl 36 (by decide)]; exact a3
  · rw [f1 9 (by decide), hl 37 (by decide)]; exact a4
  · exact ⟨k2, hm, by simp [g_upd_get, hvv], by show g_upd (g_upd M 1 10 v) 41 17 v 41 17 = _; simp [g_upd_get, hvv]⟩
  · rw [f1 11 (by decide), show live (g_upd (g_upd M 1 10 v) 41 17 v) 79 = live M 79 from f41 18 (by decide)]; exact a6
/-- only what lies outside of the Harbour, and of 41's told fields -/
theorem inv_rest {M M' : g_M} (h : inv M) (h1 : ∀ c, 1 ≤ c → c ≤ 6 → M' c = M c) (h2 : ∀ c, 43 ≤ c → c ≤ 56 → M' c = M c) (h3 : ∀ f, 15 ≤ f → f ≤ 19 → M' 41 f = M 41 f) : hrel 1 M' (live M') := by
  refine hrel_cg h.1 (fun c a b => h1 c (by omega) (by omega)) (fun i hi => ?_)
  by_cases k : i < 79
  · exact live_lo h2 i k
  · rcases (show i = 79 ∨ i = 80 ∨ i = 81 ∨ i = 82 ∨ i = 83 by omega) with rfl | rfl | rfl | rfl | rfl
    · exact h3 18 (by decide) (by decide)
    · exact h3 19 (by decide) (by decide)
    · exact h3 15 (by decide) (by decide)
    · exact h3 16 (by decide) (by decide)
    · exact h3 17 (by decide) (by decide)
theorem op_drop : opOK x_X8_drop x_X9_drop := by
  intro M h
  obtain ⟨n, n12, e1, e2, hrow⟩ := h.2.2.2.1
  refine ⟨nI n, g_upd M 21 1 0, g_upd (g_upd M 21 1 0) 41 37 0, by simp [x_X8_drop, e1], by simp [x_X9_drop, g_upd_get, e2], ?_⟩
  have ne : ∀ c, c ≠ 21 → c ≠ 41 → g_upd (g_upd M 21 1 0) 41 37 0 c = M c := fun c a b => by rw [g_upd_ne b, g_upd_ne a]
  have f41 : ∀ i, i ≠ 37 → g_upd (g_upd M 21 1 0) 41 37 0 41 i = M 41 i := fun i hi => by simp [g_upd_get, hi]
  refine ⟨inv_rest h (fun c a b => ne c (by omega) (by omega)) (fun c a b => ne c (by omega) (by omega)) (fun f a b => f41 f (by omega)), iRef_cg h.2.1 (ne _ (by decide) (by decide)) (ne _ (by decide) (by decide)), iLet_cg h.2.2.1 (by rw [ne _ (by decide) (by decide)]) (ne _ (by decide) (by decide)) (f41 24 (by decide)) (ne _ (by decide) (by decide)), ⟨0, by decide, by simp [g_upd_get, nI_0], by simp [g_upd_get, nI_0], fun i hi => absurd hi (by omega)⟩, iPay_cg h.2.2.2.2.1 (by rw [ne _ (by decide) (by decide)]) (ne _ (by decide) (by decide)) (ne _ (by decide) (by decide)) (f41 33 (by decide)) (f41 16 (by decide)) (ne _ (by decide) (by decide)) (ne _ (by decide) (by decide)), iImg_cg h.2.2.2.2.2 (by rw [ne _ (by decide) (by decide)]) (f41 28 (by decide)) (fun c a b => ne c (by omega) (by omega)) (fun i _ => by rw [ne 61 (by decide) (by decide)])⟩
