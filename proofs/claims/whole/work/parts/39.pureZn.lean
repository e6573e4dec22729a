/-! THE PURE PART. ZN: quay -/
theorem inv_let0 {M M' : g_M} (h : inv M) (hc : ∀ c, (c < 13 ∨ 19 < c) → c ≠ 41 → c ≠ 58 → c ≠ 59 → c ≠ 60 → M' c = M c) (h41 : ∀ f, f ≠ 24 → f ≠ 25 → f ≠ 26 → M' 41 f = M 41 f) (e1 : M' 19 1 = 0) (e2 : M' 41 24 = 0) : inv M' := by
  have n : ∀ c, (c < 13 ∨ 19 < c) ∧ c ≠ 41 ∧ c ≠ 58 ∧ c ≠ 59 ∧ c ≠ 60 → M' c = M c := fun c q => hc c q.1 q.2.1 q.2.2.1 q.2.2.2.1 q.2.2.2.2
  have f : ∀ f, f ≠ 24 ∧ f ≠ 25 ∧ f ≠ 26 → M' 41 f = M 41 f := fun f q => h41 f q.1 q.2.1 q.2.2
  exact ⟨inv_rest h (fun c a b => n c (by omega)) (fun c a b => n c (by omega)) (fun g a b => f g (by omega)), iRef_cg h.2.1 (n _ (by decide)) (n _ (by decide)), ⟨0, by decide, e1, e2, fun i hi => absurd hi (by omega)⟩, iRow_cg h.2.2.2.1 (by rw [n _ (by decide)]) (n _ (by decide)) (f 37 (by decide)) (n _ (by decide)), iPay_cg h.2.2.2.2.1 (by rw [n _ (by decide)]) (n _ (by decide)) (n _ (by decide)) (f 33 (by decide)) (f 16 (by decide)) (n _ (by decide)) (n _ (by decide)), iImg_cg h.2.2.2.2.2 (by rw [n _ (by decide)]) (f 28 (by decide)) (fun c a b => n c (by omega)) (fun i hi => by rw [n 61 (by decide)])⟩
theorem apA_none {L : Nat → Nat} {K : Nat → Int32} {a : Nat} (h : apA L K a = none) : ∀ d, apA L K (a + d) = none := by
  intro d
  induction d with
  | zero => exact h
  | succ d ih => rw [← Nat.add_assoc, apA, ih]
theorem apA_fail {L : Nat → Nat} {K K' : Nat → Int32} {k : Nat} (h : apA L K k = some K') (h2 : ap L (ps L k) K' = none) {m : Nat} (hm : k < m) : apA L K m = none := by
  have s : apA L K (k + 1) = none := by rw [apA, h]; exact h2
  have := apA_none s (m - (k + 1))
  rw [show k + 1 + (m - (k + 1)) = m by omega] at this
  exact this
theorem apA_uni {L : Nat → Nat} {K K1 K2 : Nat → Int32} {k k2 : Nat} (h : apA L K k = some K1) (h2 : ap L (ps L k) K1 = none) (g : apA L K k2 = some K2) (g2 : ap L (ps L k2) K2 = none) : k = k2 := by
  rcases Nat.lt_trichotomy k k2 with z | z | z
  · rw [apA_fail h h2 z] at g; cases g
  · exact z
  · rw [apA_fail g g2 z] at h; cases h
/-- what the reference does when every letter is read -/
theorem py_quay {M1 : g_M} {L : Nat → Nat} {n m : Nat} (hY : isY M1 L n) (hs : sgp L n = -9) (hm : ps L m = n) (hSm : ∀ k, k < m → okS L n (ps L k)) (hb : bdK (live M1)) :
    (∃ K' M2, apA L (live M1) m = some K' ∧ x_X9_quay M1 = some (nI m, M2) ∧ (∀ c, (c < 43 ∨ 56 < c) → c ≠ 41 → c ≠ 58 → c ≠ 59 → c ≠ 60 → c ≠ 61 → M2 c = M1 c) ∧ (∀ f, f ≠ 15 → f ≠ 16 → f ≠ 24 → f ≠ 25 → f ≠ 26 → f ≠ 29 → f ≠ 30 → f ≠ 33 → M2 41 f = M1 41 f) ∧ M2 41 24 = 0 ∧ M2 41 33 = 0 ∧ (∀ i, i < 90 → M2 61 i = M1 61 i) ∧ lK M2 K') ∨
    (∃ k Ma M2, k < m ∧ (∃ K', apA L (live M1) k = some K' ∧ ap L (ps L k) K' = none) ∧ x_X9_quay M1 = some (-2000 - nI (ps L k), M2) ∧ coreEq Ma M2 ∧ (∀ c, c ≠ 41 → c ≠ 58 → c ≠ 59 → c ≠ 60 → Ma c = M1 c) ∧ (∀ f, f ≠ 24 → f ≠ 25 → f ≠ 26 → Ma 41 f = M1 41 f) ∧ Ma 41 24 = 0) := by
  obtain ⟨N, hN⟩ : ∃ N, g_upd (g_upd M1 41 25 0) 41 26 0 = N := ⟨_, rfl⟩
  have nN : ∀ c, c ≠ 41 → N c = M1 c := fun c a => by rw [← hN, g_upd_ne a, g_upd_ne a]
  have n41 : ∀ f, f ≠ 25 → f ≠ 26 → N 41 f = M1 41 f := fun f a b => by rw [← hN, g_upd_get, if_neg (fun q => b q.2), g_upd_get, if_neg (fun q => a q.2)]
  have NY : isY N L n := by
    unfold isY
    rw [n41 24 (by decide) (by decide), nN 57 (by decide)]
    exact hY
  have N25 : N 41 25 = nI 0 := by rw [← hN, g_upd_get, if_neg (by decide), g_upd_get, if_pos ⟨rfl, rfl⟩]; rfl
  have N26 : N 41 26 = nI 0 := by rw [← hN, g_upd_get, if_pos ⟨rfl, rfl⟩]; rfl
  have q0 : x_X9_quay M1 = x_X9_quay_L12 g_F 1 N := by rw [x_X9_quay, hN]
  rcases py_parse NY N25 N26 with ⟨s', q, a1, a2, a3, a4⟩ | ⟨s1, m', a1, a2, a3, a4, a5, a6, a7, a8⟩
  · exfalso
    rw [hs] at a4
    have := p_ge0 (a := q) (by omega)
    rw [← a4.1] at this
    exact absurd this (by decide)
  have em : m' = m := by
    have inc : ∀ (a b : Nat), a < b → ps L a < ps L b := by
      intro a b h
      obtain ⟨d, rfl⟩ : ∃ d, b = a + 1 + d := ⟨b - (a + 1), by omega⟩
      clear h
      induction d with
      | zero => show ps L a < ps L a + 1 + _; omega
      | succ d ih => rw [← Nat.add_assoc]; show ps L a < ps L (a + 1 + d) + 1 + _; omega
    rcases Nat.lt_trichotomy m' m with z | z | z
    · have := inc _ _ z; omega
    · exact z
    · have := inc _ _ z; omega
  subst em
  obtain ⟨Ma, hMa⟩ : ∃ Ma, g_upd s1 41 24 0 = Ma := ⟨_, rfl⟩
  have nMa : ∀ c, c ≠ 41 → Ma c = s1 c := fun c a => by rw [← hMa, g_upd_ne a]
  have fMa : ∀ f, f ≠ 24 → Ma 41 f = s1 41 f := fun f a => by rw [← hMa, g_upd_get, if_neg (fun q => a q.2)]
  have Ma24 : Ma 41 24 = 0 := by rw [← hMa, g_upd_get, if_pos ⟨rfl, rfl⟩]
  have cMa : ∀ c, c ≠ 41 → c ≠ 58 → c ≠ 59 → c ≠ 60 → Ma c = M1 c := fun c a b d e => by rw [nMa c a, a2.1 c a b d e, nN c a]
  have gMa : ∀ f, f ≠ 24 → f ≠ 25 → f ≠ 26 → Ma 41 f = M1 41 f := fun f a b d => by rw [fMa f a, a2.2 f b d, n41 f b d]
  obtain ⟨Mk, b1, kk⟩ := py_keep (w := 1) (by decide) Ma
  have kk' := kk
  obtain ⟨k1, k2, k3, k4, k5, k6⟩ := kk'
  have lk : lK Mk (live M1) := fun j hj => by
    by_cases z : j < 79
    · exact live_lo (fun c a b => by rw [k3 c (by omega) (by omega), cMa c (by omega) (by omega) (by omega) (by omega)]) j z
    · have w : ∀ f, 15 ≤ f → f ≤ 19 → Mk 41 f = M1 41 f := fun f a b => by rw [k4 f (by omega) (by omega), gMa f (by omega) (by omega) (by omega)]
      rcases (show j = 79 ∨ j = 80 ∨ j = 81 ∨ j = 82 ∨ j = 83 by omega) with rfl | rfl | rfl | rfl | rfl
      · exact w 18 (by decide) (by decide)
      · exact w 19 (by decide) (by decide)
      · exact w 15 (by decide) (by decide)
      · exact w 16 (by decide) (by decide)
      · exact w 17 (by decide) (by decide)
  have tk : ∀ k, k < m' → told Mk L (ps L k) k := fun k hk => by
    have := a7 k hk
    unfold told at this ⊢
    rw [k3 58 (by decide) (by decide), k3 59 (by decide) (by decide), k3 60 (by decide) (by decide), nMa 58 (by decide), nMa 59 (by decide), nMa 60 (by decide)]
    exact this
  have e26 : Mk 41 26 = nI m' := by rw [k4 26 (by decide) (by decide), fMa 26 (by decide)]; exact a3
  have q1 : x_X9_quay M1 = x_X9_quay_L86 g_F 0 Mk := by
    rw [q0, a1, x_X9_quay_L60, if_neg (show ¬ (1 : Int32) = 0 by decide), hMa]
    exact bnd b1 _
  rcases py_all a4 a6 (fun i hi => (hY.2.2 i hi).2) tk e26 lk hb with ⟨K', s', c1, c2, c3, c4⟩ | ⟨k, s', ck, c1, c3, c2⟩
  · left
    refine ⟨K', g_upd s' 41 33 0, c1, q1.trans c2, fun c a b d e f g => ?_, fun f a b d e g i j o => ?_, ?_, ?_, fun i hi => ?_, fun j hj => ?_⟩
    · rw [g_upd_ne b, c3.1 c a b, k3 c g b, cMa c b d e f]
    · rw [g_upd_get, if_neg (fun q => o q.2), c3.2.1 f a b, k4 f i j, gMa f d e g]
    · rw [g_upd_get, if_neg (by decide), c3.2.1 24 (by decide) (by decide), k4 24 (by decide) (by decide), Ma24]
    · rw [g_upd_get, if_pos ⟨rfl, rfl⟩]
    · rw [g_upd_ne (by decide), c3.1 61 (by decide) (by decide), k6 i (Or.inl hi), cMa 61 (by decide) (by decide) (by decide) (by decide)]
    · rw [← c4 j hj]
      by_cases z : j < 79
      · exact live_lo (fun c a b => by rw [g_upd_ne (by omega)]) j z
      · have w : ∀ f, f ≠ 33 → g_upd s' 41 33 0 41 f = s' 41 f := fun f a => by rw [g_upd_get, if_neg (fun q => a q.2)]
        rcases (show j = 79 ∨ j = 80 ∨ j = 81 ∨ j = 82 ∨ j = 83 by omega) with rfl | rfl | rfl | rfl | rfl
        · exact w 18 (by decide)
        · exact w 19 (by decide)
        · exact w 15 (by decide)
        · exact w 16 (by decide)
        · exact w 17 (by decide)
  · right
    obtain ⟨M2, r0, r1, r2, r3, f1, f2, f3, f4, f5⟩ := py_rest (w := 1) (by decide) s'
    have m24 := a4
    refine ⟨k, Ma, M2, ck, c1, ?_, keep_rest kk (fun c a b => c3.1 c (by omega) b) (fun f a b d e g => c3.2.1 f (by omega) (by omega)) (fun c j a b d => c3.2.2 c j a b d) r1 r2 r3 f1 f2 f3 f4 f5, cMa, gMa, Ma24⟩
    rw [q1, c2]
    refine (bnd r0 _).trans ?_
    dsimp only
    rw [if_pos (p_inb (show k < 48 by omega) (by decide)), nI_clamp (by omega), r1 59 (by decide) (by decide), c3.1 59 (by decide) (by decide), (tk k ck).2.1]
