/-! THE PURE PART. E: what holds between the two objects -/
def live (M : g_M) : Nat → Int32 := fun i =>
  if i < 12 then M 43 i else if i < 24 then M 44 (i - 12) else if i < 30 then M 45 (i - 24) else if i < 36 then M 46 (i - 30) else if i < 38 then M 47 (i - 36) else if i < 43 then M 48 (i - 38) else if i < 48 then M 49 (i - 43) else if i < 53 then M 50 (i - 48) else if i < 58 then M 51 (i - 53) else if i < 63 then M 52 (i - 58) else if i < 68 then M 53 (i - 63) else if i < 73 then M 54 (i - 68) else if i < 76 then M 55 (i - 73) else if i < 79 then M 56 (i - 76) else if i = 79 then M 41 18 else if i = 80 then M 41 19 else if i = 81 then M 41 15 else if i = 82 then M 41 16 else M 41 17
def p_bd (a x b : Int32) : Prop := a ≤ x ∧ x ≤ b
/-- a Harbour at q, and the reference's numbers K (live ones, or kept) -/
def hrel (q : Nat) (M : g_M) (K : Nat → Int32) : Prop :=
  (∀ h, h < 12 → M (q + 1) h = K h ∧ p_bd 0 (K h) 40) ∧ (∀ h, h < 12 → M (q + 2) h = K (12 + h) ∧ p_bd (-9) (K (12 + h)) 9) ∧
  (M q 8 = K 36 ∧ p_bd 0 (K 36) 60) ∧ (M q 9 = K 37 ∧ p_bd 0 (K 37) 9) ∧ (∃ h, h < 12 ∧ M q 10 = nI h ∧ K 83 = nI h) ∧ (M q 11 = K 79 ∧ p_bd 0 (K 79) 9) ∧
  (∃ np, np ≤ 3 ∧ M q 7 = nI np ∧ K 80 = nI np ∧ ∀ r, r < np → (M (q + 5) (2 * r) = K (73 + r) ∧ p_bd 0 (K (73 + r)) 60) ∧ M (q + 5) (2 * r + 1) = K (76 + r) ∧ p_bd 1 (K (76 + r)) 40) ∧
  ∃ nr, nr ≤ 6 ∧ M q 5 = nI nr ∧ K 81 = nI nr ∧ (∀ r, r < nr → (M (q + 3) (2 * r) = K (24 + r) ∧ p_bd 0 (K (24 + r)) 99) ∧ M (q + 3) (2 * r + 1) = K (30 + r) ∧ p_bd 0 (K (30 + r)) 60) ∧
  ∃ nb, nb ≤ 5 ∧ M q 6 = nI nb ∧ K 82 = nI nb ∧ ∀ b, b < nb → (M (q + 4) (7 * b) = K (38 + b) ∧ p_bd 0 (K (38 + b)) 5) ∧ (M (q + 4) (7 * b + 1) = K (43 + b) ∧ p_bd 0 (K (43 + b)) 9) ∧ (M (q + 4) (7 * b + 2) = K (48 + b) ∧ ∃ r, r < nr ∧ K (48 + b) = nI r) ∧ (M (q + 4) (7 * b + 3) = K (53 + b) ∧ ∃ r, r < nr ∧ K (53 + b) = nI r) ∧ (M (q + 4) (7 * b + 4) = K (58 + b) ∧ p_bd 0 (K (58 + b)) 99) ∧ (M (q + 4) (7 * b + 5) = K (63 + b) ∧ p_bd 1 (K (63 + b)) 20) ∧ M (q + 4) (7 * b + 6) = K (68 + b) ∧ p_bd 0 (K (68 + b)) 99
def iRef (M : g_M) : Prop := ∀ k, k < 7 → M 26 k = M 42 k
def iLet (M : g_M) : Prop := ∃ n, n ≤ 96 ∧ M 19 1 = nI n ∧ M 41 24 = nI n ∧ ∀ i, i < n → M 20 i = M 57 i ∧ p_bd 0 (M 57 i) 255
def iRow (M : g_M) : Prop := ∃ n, n ≤ 12 ∧ M 21 1 = nI n ∧ M 41 37 = nI n ∧ ∀ i, i < n → M 22 i = M 64 i ∧ p_bd 0 (M 64 i) 99
def iPay (M : g_M) : Prop := ∃ n, n ≤ 8 ∧ M 23 2 = nI n ∧ M 41 33 = nI n ∧ ∀ i, i < n → M 24 (n - 1 - i) = M 62 i ∧ M 25 (n - 1 - i) = M 63 i ∧ (∃ b, M 62 i = nI b ∧ b < 5 ∧ nI b < M 41 16) ∧ p_bd 0 (M 63 i) 99
def iImg (M : g_M) : Prop := M 0 3 = M 41 28 ∧ (M 0 3 = 0 ∨ (M 0 3 = 1 ∧ hrel 7 M (M 61)))
def inv (M : g_M) : Prop := hrel 1 M (live M) ∧ iRef M ∧ iLet M ∧ iRow M ∧ iPay M ∧ iImg M
/-- what is told of by inv stays as it is -/
def coreEq (M M' : g_M) : Prop := (∀ c, c ≤ 12 → M' c = M c) ∧ (∀ c, 19 ≤ c → c ≤ 26 → M' c = M c) ∧ (∀ i, i ≠ 25 → i ≠ 26 → i ≠ 29 → i ≠ 30 → M' 41 i = M 41 i) ∧ (∀ c, 42 ≤ c → c ≤ 57 → M' c = M c) ∧ (∀ i, i < 90 → M' 61 i = M 61 i) ∧ ∀ c, 62 ≤ c → c ≤ 64 → M' c = M c
theorem live_core {M M' : g_M} (h : coreEq M M') : live M' = live M := by
  obtain ⟨h1, h2, h3, h4, h5, h6⟩ := h
  funext i
  unfold live
  rw [h4 43 (by decide) (by decide), h4 44 (by decide) (by decide), h4 45 (by decide) (by decide), h4 46 (by decide) (by decide), h4 47 (by decide) (by decide), h4 48 (by decide) (by decide), h4 49 (by decide) (by decide), h4 50 (by decide) (by decide), h4 51 (by decide) (by decide), h4 52 (by decide) (by decide), h4 53 (by decide) (by decide), h4 54 (by decide) (by decide), h4 55 (by decide) (by decide), h4 56 (by decide) (by decide), h3 18 (by decide) (by decide) (by decide) (by decide), h3 19 (by decide) (by decide) (by decide) (by decide), h3 15 (by decide) (by decide) (by decide) (by decide), h3 16 (by decide) (by decide) (by decide) (by decide), h3 17 (by decide) (by decide) (by decide) (by decide)]
theorem hrel_cg {q : Nat} {M M' : g_M} {K K' : Nat → Int32} (h : hrel q M K) (hM : ∀ c, q ≤ c → c ≤ q + 5 → M' c = M c) (hK : ∀ i, i < 84 → K' i = K i) : hrel q M' K' := by
  obtain ⟨a1, a2, a3, a4, ⟨h0, a5, a5b, a5c⟩, a6, ⟨np, p1, p2, p3, p4⟩, nr, r1, r2, r3, r4, nb, n1, n2, n3, n4⟩ := h
  have m0 := hM q (by omega) (by omega)
  have m1 := hM (q + 1) (by omega) (by omega)
  have m2 := hM (q + 2) (by omega) (by omega)
  have m3 := hM (q + 3) (by omega) (by omega)
  have m4 := hM (q + 4) (by omega) (by omega)
  have m5 := hM (q + 5) (by omega) (by omega)
  unfold hrel
  rw [m0, m1, m2, m3, m4, m5, hK 36 (by decide), hK 37 (by decide), hK 83 (by decide), hK 79 (by decide), hK 80 (by decide), hK 81 (by decide), hK 82 (by decide)]
  refine ⟨fun h hh => ?_, fun h hh => ?_, a3, a4, ⟨h0, a5, a5b, a5c⟩, a6, ⟨np, p1, p2, p3, fun r hr => ?_⟩, nr, r1, r2, r3, fun r hr => ?_, nb, n1, n2, n3, fun b hb => ?_⟩
  · rw [hK h (by omega)]; exact a1 h hh
  · rw [hK (12 + h) (by omega)]; exact a2 h hh
  · rw [hK (73 + r) (by omega), hK (76 + r) (by omega)]; exact p4 r hr
  · rw [hK (24 + r) (by omega), hK (30 + r) (by omega)]; exact r4 r hr
  · rw [hK (38 + b) (by omega), hK (43 + b) (by omega), hK (48 + b) (by omega), hK (53 + b) (by omega), hK (58 + b) (by omega), hK (63 + b) (by omega), hK (68 + b) (by omega)]
    exact n4 b hb
theorem inv_core {M M' : g_M} (hc : coreEq M M') (h : inv M) : inv M' := by
  have hl := live_core hc
  obtain ⟨h1, h2, h3, h4, h5, h6⟩ := hc
  obtain ⟨i1, i2, i3, i4, i5, i6⟩ := h
  refine ⟨hrel_cg i1 (fun c a b => h1 c (by omega)) (fun i _ => by rw [hl]), ?_, ?_, ?_, ?_, ?_⟩
  · unfold iRef at *
    rw [h2 26 (by decide) (by decide), h4 42 (by decide) (by decide)]
    exact i2
  · unfold iLet at *
    rw [h2 19 (by decide) (by decide), h2 20 (by decide) (by decide), h3 24 (by decide) (by decide) (by decide) (by decide), h4 57 (by decide) (by decide)]
    exact i3
  · unfold iRow at *
    rw [h2 21 (by decide) (by decide), h2 22 (by decide) (by decide), h3 37 (by decide) (by decide) (by decide) (by decide), h6 64 (by decide) (by decide)]
    exact i4
  · unfold iPay at *
    rw [h2 23 (by decide) (by decide), h2 24 (by decide) (by decide), h2 25 (by decide) (by decide), h3 33 (by decide) (by decide) (by decide) (by decide), h3 16 (by decide) (by decide) (by decide) (by decide), h6 62 (by decide) (by decide), h6 63 (by decide) (by decide)]
    exact i5
  · unfold iImg at *
    rw [h1 0 (by decide), h3 28 (by decide) (by decide) (by decide) (by decide)]
    refine ⟨i6.1, i6.2.imp id fun q => ⟨q.1, ?_⟩⟩
    exact hrel_cg q.2 (fun c a b => h1 c (by omega)) (fun i hi => h5 i (by omega))
/-- a refusal on both sides -/
theorem inv_ref {M : g_M} (h : inv M) {k : Nat} (hk : k < 7) : inv (g_upd (g_upd M 26 k (M 26 k + 1)) 42 k (M 42 k + 1)) := by
  obtain ⟨i1, i2, i3, i4, i5, i6⟩ := h
  have ne : ∀ c, c ≠ 26 → c ≠ 42 → g_upd (g_upd M 26 k (M 26 k + 1)) 42 k (M 42 k + 1) c = M c := fun c a b => by rw [g_upd_ne b, g_upd_ne a]
  have hl : live (g_upd (g_upd M 26 k (M 26 k + 1)) 42 k (M 42 k + 1)) = live M := by
    funext i
    unfold live
    simp only [ne 41 (by decide) (by decide), ne 43 (by decide) (by decide), ne 44 (by decide) (by decide), ne 45 (by decide) (by decide), ne 46 (by decide) (by decide), ne 47 (by decide) (by decide), ne 48 (by decide) (by decide), ne 49 (by decide) (by decide), ne 50 (by decide) (by decide), ne 51 (by decide) (by decide), ne 52 (by decide) (by decide), ne 53 (by decide) (by decide), ne 54 (by decide) (by decide), ne 55 (by decide) (by decide), ne 56 (by decide) (by decide)]
  refine ⟨hrel_cg i1 (fun c a b => ne c (by omega) (by omega)) (fun i _ => by rw [hl]), ?_, ?_, ?_, ?_, ?_⟩
  · intro j hj
    have := i2 j hj
    simp only [g_upd_get]
    by_cases e : j = k
    · subst e
      simp [i2 j hj]
    · simp [e, this]
  · unfold iLet at *
    rw [ne 19 (by decide) (by decide), ne 20 (by decide) (by decide), ne 41 (by decide) (by decide), ne 57 (by decide) (by decide)]
    exact i3
  · unfold iRow at *
    rw [ne 21 (by decide) (by decide), ne 22 (by decide) (by decide), ne 41 (by decide) (by decide), ne 64 (by decide) (by decide)]
    exact i4
  · unfold iPay at *
    rw [ne 23 (by decide) (by decide), ne 24 (by decide) (by decide), ne 25 (by decide) (by decide), ne 41 (by decide) (by decide), ne 62 (by decide) (by decide), ne 63 (by decide) (by decide)]
    exact i5
  · unfold iImg at *
    rw [ne 0 (by decide) (by decide), ne 41 (by decide) (by decide), ne 61 (by decide) (by decide)]
    exact ⟨i6.1, i6.2.imp id fun q => ⟨q.1, hrel_cg q.2 (fun c a b => ne c (by omega) (by omega)) (fun _ _ => rfl)⟩⟩
/-- what an operation owes: both answer, alike, and inv holds behind it -/
def opOK (fx fy : g_M → Option (Int32 × g_M)) : Prop := ∀ M, inv M → ∃ (r : Int32) (M1 M2 : g_M), fx M = some (r, M1) ∧ fy M1 = some (r, M2) ∧ inv M2
/-- the tides alike -/
theorem inv_T {M : g_M} (h : inv M) : (∀ k, k < 12 → M 2 k = M 43 k) ∧ okT (M 43) := by
  obtain ⟨⟨a1, -⟩, -⟩ := h
  have e : ∀ k, k < 12 → live M k = M 43 k := fun k hk => by unfold live; rw [if_pos hk]
  exact ⟨fun k hk => by rw [← e k hk]; exact (a1 k hk).1, fun k hk => by rw [← e k hk]; exact (a1 k hk).2⟩
/-- both refuse -/
theorem op_ref {M : g_M} (h : inv M) {fx fy : g_M → Option (Int32 × g_M)} {r : Int32} {k : Nat} (hk : k < 7) (hx : fx M = some (r, g_upd M 26 k (M 26 k + 1))) (hy : ∀ M1, (∀ c, 41 ≤ c → M1 c = M c) → fy M1 = some (r, g_upd M1 42 k (M1 42 k + 1))) : ∃ (r : Int32) (M1 M2 : g_M), fx M = some (r, M1) ∧ fy M1 = some (r, M2) ∧ inv M2 := by
  have e : g_upd M 26 k (M 26 k + 1) 42 k = M 42 k := by rw [g_upd_ne (by decide)]
  refine ⟨r, _, _, hx, hy _ (fun c hc => g_upd_ne (by omega)), ?_⟩
  rw [e]
  exact inv_ref h hk
/-- the class wrote what is no more looked at -/
def scr (M M1 : g_M) : Prop := ∀ c, (c ≤ 12 ∨ (19 ≤ c ∧ c ≤ 26) ∨ 41 ≤ c) → M1 c = M c
theorem scr_rf (M : g_M) : scr M M := fun _ _ => rfl
theorem scr_core {M M1 : g_M} (h : scr M M1) : coreEq M M1 := ⟨fun c a => h c (Or.inl a), fun c a b => h c (Or.inr (Or.inl ⟨a, b⟩)), fun i _ _ _ _ => by rw [h 41 (by omega)], fun c a b => h c (by omega), fun i _ => by rw [h 61 (by omega)], fun c a b => h c (by omega)⟩
/-- both answer; the class writes scratch, so does the reference -/
theorem op_ask {M : g_M} (h : inv M) {fx fy : g_M → Option (Int32 × g_M)} {r : Int32} {M1 : g_M} (hx : fx M = some (r, M1)) (hs : scr M M1) (hy : inv M1 → (∀ c, 41 ≤ c → M1 c = M c) → ∃ M2, fy M1 = some (r, M2) ∧ coreEq M1 M2) : ∃ (r : Int32) (M1 M2 : g_M), fx M = some (r, M1) ∧ fy M1 = some (r, M2) ∧ inv M2 := by
  have h1 := inv_core (scr_core hs) h
  obtain ⟨M2, e, hc⟩ := hy h1 (fun c hc => hs c (by omega))
  exact ⟨r, M1, M2, hx, e, inv_core hc h1⟩
theorem coreEq_rf (M : g_M) : coreEq M M := ⟨fun _ _ => rfl, fun _ _ _ => rfl, fun _ _ _ _ _ => rfl, fun _ _ _ => rfl, fun _ _ => rfl, fun _ _ _ => rfl⟩
theorem n1 : (-1 : Int32) = -nI 1 := rfl
theorem n2 : (-2 : Int32) = -nI 2 := rfl
theorem n3 : (-3 : Int32) = -nI 3 := rfl
theorem n4 : (-4 : Int32) = -nI 4 := rfl
theorem n6 : (-6 : Int32) = -nI 6 := rfl
theorem op_tide (p : Int32) : opOK (x_X8_tide p) (x_X9_tide p) := by
  intro M h
  by_cases hp : 0 ≤ p ∧ p < 12
  · obtain ⟨k, hk, rfl⟩ := p_in (n := 12) (by decide) hp.1 hp.2
    have c : (nI k).toNatClampNeg = k := nI_clamp (by omega)
    refine op_ask h (r := M 2 k) (by simp [x_X8_tide, px_isHour, hp, px_tideAt _ _ hk]) (scr_rf M) fun h1 _ => ⟨M, ?_, coreEq_rf M⟩
    simp [x_X9_tide, py_isHour, hp, p_inb hk, c, (inv_T h).1 k hk]
  · exact op_ref h (k := 1) (r := -nI 1) (by decide) (by simp [x_X8_tide, px_isHour, hp, n1, px_refused]) (fun M1 _ => by simp [x_X9_tide, py_isHour, hp, n1, py_no])
theorem inv_W {M : g_M} (h : inv M) {k : Nat} (hk : k < 12) : M 3 k = M 44 k ∧ p_bd (-9) (M 44 k) 9 := by
  obtain ⟨⟨-, a2, -⟩, -⟩ := h
  have e : live M (12 + k) = M 44 k := by unfold live; rw [if_neg (by omega), if_pos (by omega), Nat.add_sub_cancel_left]
  have := a2 k hk
  rw [e] at this
  exact this
theorem op_wind (p : Int32) : opOK (x_X8_wind p) (x_X9_wind p) := by
  intro M h
  by_cases hp : 0 ≤ p ∧ p < 12
  · obtain ⟨k, hk, rfl⟩ := p_in (n := 12) (by decide) hp.1 hp.2
    have c : (nI k).toNatClampNeg = k := nI_clamp (by omega)
    refine op_ask h (r := M 3 k) (by simp [x_X8_wind, px_isHour, hp, px_windAt _ _ hk]) (scr_rf M) fun h1 _ => ⟨M, ?_, coreEq_rf M⟩
    simp [x_X9_wind, py_isHour, hp, p_inb hk, c, (inv_W h hk).1]
  · exact op_ref h (k := 1) (r := 1000000000 - -nI 1) (by decide) (by simp [x_X8_wind, px_isHour, hp, n1, px_refusedFar]) (fun M1 _ => by simp [x_X9_wind, py_isHour, hp, n1, py_lower])
