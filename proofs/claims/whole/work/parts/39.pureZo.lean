/-! THE PURE PART. ZO: quay, both sides -/
theorem op_quay : opOK x_X8_quay x_X9_quay := by
  intro M h
  obtain ⟨n, n96, l1, l2, l3⟩ := h.2.2.1
  obtain ⟨L, hLd⟩ : ∃ L : Nat → Nat, L = fun i => (M 57 i).toNatClampNeg := ⟨_, rfl⟩
  have lv : ∀ i, i < n → M 57 i = nI (L i) ∧ L i ≤ 255 := by
    intro i hi
    have b := (l3 i hi).2
    obtain ⟨k, k1, k2⟩ := p_in (n := 256) (by decide) b.1 (Int32.lt_of_le_of_lt b.2 (by decide))
    have e : L i = k := by rw [hLd]; show (M 57 i).toNatClampNeg = k; rw [k2, nI_clamp (by omega)]
    rw [e]
    exact ⟨k2, by omega⟩
  have hL : isL M L n := ⟨n96, l1, fun i hi => ⟨(l3 i hi).1.trans (lv i hi).1, (lv i hi).2⟩⟩
  have pY : ∀ M1 : g_M, (∀ c, 41 ≤ c → M1 c = M c) → isY M1 L n := fun M1 e => by
    unfold isY
    rw [e 41 (by decide), e 57 (by decide)]
    exact ⟨n96, l2, lv⟩
  have sp := px_strange hL
  by_cases z : sgp L n = -9
  rotate_left
  · obtain ⟨N, hN⟩ : ∃ N, g_upd (g_upd (g_upd M 19 1 0) 41 25 0) 41 26 0 = N := ⟨_, rfl⟩
    have nN : ∀ c, c ≠ 41 → c ≠ 19 → N c = M c := fun c a b => by rw [← hN, g_upd_ne a, g_upd_ne a, g_upd_ne b]
    have n41 : ∀ f, f ≠ 25 → f ≠ 26 → N 41 f = M 41 f := fun f a b => by rw [← hN, g_upd_get, if_neg (fun q => b q.2), g_upd_get, if_neg (fun q => a q.2), g_upd_ne (by decide)]
    have NY : isY N L n := by
      unfold isY
      rw [n41 24 (by decide) (by decide), nN 57 (by decide) (by decide)]
      exact ⟨n96, l2, lv⟩
    have N25 : N 41 25 = nI 0 := by rw [← hN, g_upd_get, if_neg (by decide), g_upd_get, if_pos ⟨rfl, rfl⟩]; rfl
    have N26 : N 41 26 = nI 0 := by rw [← hN, g_upd_get, if_pos ⟨rfl, rfl⟩]; rfl
    rcases py_parse NY N25 N26 with ⟨s', q, a1, a2, a3, a4, -⟩ | ⟨s1, m', a1, a2, a3, a4, a5, a6, a7, a8⟩
    rotate_left
    · exact absurd a8 z
    refine ⟨-1000 - sgp L n, g_upd M 19 1 0, g_upd s' 41 24 0, ?_, ?_, ?_⟩
    · rw [x_X8_quay]
      refine (bnd sp _).trans ?_
      exact if_neg z
    · rw [x_X9_quay, hN, a1, x_X9_quay_L60, if_pos rfl, g_upd_get, if_neg (by decide), a3, a4]
    · refine inv_let0 h (fun c a b d e f => ?_) (fun f a b d => ?_) ?_ ?_
      · rw [g_upd_ne b, a2.1 c b d e f, nN c b (by omega)]
      · rw [g_upd_get, if_neg (fun q => a q.2), a2.2 f b d, n41 f b d]
      · rw [g_upd_ne (by decide), a2.1 19 (by decide) (by decide) (by decide) (by decide), ← hN, g_upd_ne (by decide), g_upd_ne (by decide), g_upd_get, if_pos ⟨rfl, rfl⟩]
      · rw [g_upd_get, if_pos ⟨rfl, rfl⟩]
  · obtain ⟨N, hN⟩ : ∃ N, g_upd (g_upd M 41 25 0) 41 26 0 = N := ⟨_, rfl⟩
    have NY : isY N L n := by
      unfold isY
      rw [← hN, g_upd_get, if_neg (by decide), g_upd_get, if_neg (by decide), g_upd_ne (by decide), g_upd_ne (by decide)]
      exact ⟨n96, l2, lv⟩
    have N25 : N 41 25 = nI 0 := by rw [← hN, g_upd_get, if_neg (by decide), g_upd_get, if_pos ⟨rfl, rfl⟩]; rfl
    have N26 : N 41 26 = nI 0 := by rw [← hN, g_upd_get, if_pos ⟨rfl, rfl⟩]; rfl
    have par : ∃ m, m ≤ 24 ∧ ps L m = n ∧ ∀ k, k < m → okS L n (ps L k) := by
      rcases py_parse NY N25 N26 with ⟨s', q, a1, a2, a3, a4, a5⟩ | ⟨s1, m', a1, a2, a3, a4, a5, a6, a7, a8⟩
      · exfalso
        have := p_ge0 (a := q) (by omega)
        rw [← a4, z] at this
        exact absurd this (by decide)
      · exact ⟨m', a4, a5, a6⟩
    obtain ⟨m, m24, pm, pS⟩ := par
    have bK : bdK (live M) := by
      obtain ⟨j1, j2, j3, j4, nr, r1, r2, r3, r4, nb, n1, n2, n3, n4⟩ := hrel_iff.mp h.1
      exact ⟨nr, nb, r1, n1, r3, n3⟩
    obtain ⟨Mc, c1, c2, c3, c4, c5, c6, c7, c8⟩ := px_copyFrom (q := 13) (q1 := 1) (Or.inr (by decide)) M
    have hK : hrel 13 Mc (live M) := hrel_copy h.1 c3 c4 c5 c6 c7 c8 (fun _ _ => rfl)
    have cL : isL Mc L n := by
      unfold isL
      rw [c2 19 (by decide), c2 20 (by decide)]
      exact hL
    have lvc : ∀ M1 : g_M, (∀ c, 41 ≤ c → M1 c = M c) → live M1 = live M := fun M1 e => by
      funext i
      unfold live
      rw [e 41 (by decide), e 43 (by decide), e 44 (by decide), e 45 (by decide), e 46 (by decide), e 47 (by decide), e 48 (by decide), e 49 (by decide), e 50 (by decide), e 51 (by decide), e 52 (by decide), e 53 (by decide), e 54 (by decide), e 55 (by decide), e 56 (by decide)]
    rcases px_take cL (show m ≤ 40 by omega) pm pS hK with ⟨K', s', t1, t2, t3, t4⟩ | ⟨k, s', tk, ⟨K', t1, t1b⟩, t2, t3⟩
    · -- every statement is taken
      obtain ⟨Md, d1, d2, d3, d4, d5, d6, d7, d8⟩ := px_copyFrom (q := 1) (q1 := 13) (Or.inl (by decide)) s'
      obtain ⟨M1, hM1⟩ : ∃ M1, g_upd (g_upd Md 23 2 0) 19 1 0 = M1 := ⟨_, rfl⟩
      have n1 : ∀ c, c ≠ 19 → c ≠ 23 → M1 c = Md c := fun c a b => by rw [← hM1, g_upd_ne a, g_upd_ne b]
      have fr : ∀ c, c ≠ 19 → c ≠ 23 → (c < 1 ∨ 6 < c) → (c < 13 ∨ 18 < c) → M1 c = M c := fun c a b d e => by rw [n1 c a b, d2 c (by omega), t3 c e, c2 c (by omega)]
      have hi : ∀ c, 41 ≤ c → M1 c = M c := fun c a => fr c (by omega) (by omega) (by omega) (by omega)
      have M119 : M1 19 1 = 0 := by rw [← hM1, g_upd_get, if_pos ⟨rfl, rfl⟩]
      have M123 : M1 23 2 = 0 := by rw [← hM1, g_upd_ne (by decide), g_upd_get, if_pos ⟨rfl, rfl⟩]
      have hx : x_X8_quay M = some (nI m, M1) := by
        have tak : x_X8_takeStatements M = some (nI m, g_upd Md 23 2 0) := by
          rw [x_X8_takeStatements]
          refine (bnd c1 _).trans ?_
          show x_X8_takeStatements_L15 g_F 0 0 Mc = _
          rw [t2, x_X8_takeStatements_L70]
          exact bnd d1 _
        rw [x_X8_quay]
        refine (bnd sp _).trans ?_
        refine Eq.trans (if_pos z) ?_
        refine (bnd tak _).trans ?_
        show some (nI m, g_upd (g_upd Md 23 2 0) 19 1 0) = _
        rw [hM1]
      have bl : bdK (live M1) := by rw [lvc M1 hi]; exact bK
      rcases py_quay (pY M1 hi) z pm pS bl with ⟨K2, M2, e1, e2, e3, e4, e5, e6, e7, e8⟩ | ⟨k, Ma, M2, ck, ⟨K2, e1, e2⟩, -⟩
      rotate_left
      · exfalso
        rw [lvc M1 hi] at e1
        rw [apA_fail e1 e2 ck] at t1
        cases t1
      rw [lvc M1 hi, t1] at e1
      obtain rfl : K' = K2 := Option.some.inj e1
      refine ⟨nI m, M1, M2, hx, e2, ?_⟩
      have g1 : ∀ c, (c < 43 ∨ 56 < c) ∧ c ≠ 41 ∧ c ≠ 58 ∧ c ≠ 59 ∧ c ≠ 60 ∧ c ≠ 61 → M2 c = M1 c := fun c q => e3 c q.1 q.2.1 q.2.2.1 q.2.2.2.1 q.2.2.2.2.1 q.2.2.2.2.2
      have g2 : ∀ c, ((c < 1 ∨ 6 < c) ∧ (c < 13 ∨ 19 < c) ∧ c ≠ 23) ∧ (c < 43 ∨ 56 < c) ∧ c ≠ 41 ∧ c ≠ 58 ∧ c ≠ 59 ∧ c ≠ 60 ∧ c ≠ 61 → M2 c = M c := fun c q => by rw [g1 c q.2, fr c (by omega) (by omega) (by omega) (by omega)]
      have w : ∀ c, 1 ≤ c → c ≤ 6 → M2 c = Md c := fun c a b => by rw [g1 c (by omega), n1 c (by omega) (by omega)]
      have f41 : ∀ f, f ≠ 15 ∧ f ≠ 16 ∧ f ≠ 24 ∧ f ≠ 25 ∧ f ≠ 26 ∧ f ≠ 29 ∧ f ≠ 30 ∧ f ≠ 33 → M2 41 f = M 41 f := fun f q => by rw [e4 f q.1 q.2.1 q.2.2.1 q.2.2.2.1 q.2.2.2.2.1 q.2.2.2.2.2.1 q.2.2.2.2.2.2.1 q.2.2.2.2.2.2.2, hi 41 (by decide)]
      have hr : hrel 1 M2 (live M2) := hrel_copy t4 (fun i x y => by rw [w 1 (by decide) (by decide), d3 i x y]) (fun k hk => by rw [w 2 (by decide) (by decide)]; exact d4 k hk) (fun k hk => by rw [w 3 (by decide) (by decide)]; exact d5 k hk) (fun k hk => by rw [w 4 (by decide) (by decide)]; exact d6 k hk) (fun k hk => by rw [w 5 (by decide) (by decide)]; exact d7 k hk) (fun k hk => by rw [w 6 (by decide) (by decide)]; exact d8 k hk) e8
      exact ⟨hr, iRef_cg h.2.1 (g2 _ (by decide)) (g2 _ (by decide)), ⟨0, by decide, by rw [g1 19 (by decide)]; exact M119, e5, fun i hi => absurd hi (by omega)⟩, iRow_cg h.2.2.2.1 (by rw [g2 _ (by decide)]) (g2 _ (by decide)) (f41 37 (by decide)) (g2 _ (by decide)), ⟨0, by decide, by rw [g1 23 (by decide)]; exact M123, e6, fun i hi => absurd hi (by omega)⟩, iImg_cg h.2.2.2.2.2 (by rw [g2 _ (by decide)]) (f41 28 (by decide)) (fun c a b => g2 c (by omega)) (fun i hi' => by rw [e7 i (by omega), hi 61 (by decide)])⟩
    · -- one fails
      obtain ⟨M1, hM1⟩ : ∃ M1, g_upd s' 19 1 0 = M1 := ⟨_, rfl⟩
      have fr : ∀ c, c ≠ 19 → (c < 13 ∨ 18 < c) → M1 c = M c := fun c a e => by rw [← hM1, g_upd_ne a, t3 c e, c2 c (by omega)]
      have hi : ∀ c, 41 ≤ c → M1 c = M c := fun c a => fr c (by omega) (by omega)
      have M119 : M1 19 1 = 0 := by rw [← hM1, g_upd_get, if_pos ⟨rfl, rfl⟩]
      have hx : x_X8_quay M = some (-2000 - nI (ps L k), M1) := by
        have tak : x_X8_takeStatements M = some (-2000 - nI (ps L k), s') := by
          rw [x_X8_takeStatements]
          refine (bnd c1 _).trans ?_
          exact t2
        rw [x_X8_quay]
        refine (bnd sp _).trans ?_
        refine Eq.trans (if_pos z) ?_
        refine (bnd tak _).trans ?_
        show some (-2000 - nI (ps L k), g_upd s' 19 1 0) = _
        rw [hM1]
      have bl : bdK (live M1) := by rw [lvc M1 hi]; exact bK
      rcases py_quay (pY M1 hi) z pm pS bl with ⟨K2, M2, e1, -⟩ | ⟨k2, Ma, M2, ck, ⟨K2, e1, e2⟩, e3, e4, e5, e6, e7⟩
      · exfalso
        rw [lvc M1 hi, apA_fail t1 t1b tk] at e1
        cases e1
      rw [lvc M1 hi] at e1
      obtain rfl := apA_uni t1 t1b e1 e2
      refine ⟨-2000 - nI (ps L k), M1, M2, hx, e3, inv_core e4 (inv_let0 h (fun c a b d e f => ?_) (fun f a b d => ?_) ?_ e7)⟩
      · rw [e5 c b d e f, fr c (by omega) (by omega)]
      · rw [e6 f a b d, hi 41 (by decide)]
      · rw [e5 19 (by decide) (by decide) (by decide) (by decide)]; exact M119
