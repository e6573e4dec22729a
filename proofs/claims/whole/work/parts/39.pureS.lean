/-! THE PURE PART. S: whose, judge, count -/
/-- only the two Moorings were written -/
def sc (M s : g_M) : Prop := ∀ c, c ≠ 27 → c ≠ 28 → s c = M c
theorem sc_rf (M : g_M) : sc M M := fun _ _ _ => rfl
theorem sc_scr {M s : g_M} (h : sc M s) : scr M s := fun c hc => h c (by omega) (by omega)
theorem sc_inv {M s : g_M} (h : sc M s) (hi : inv M) : inv s := inv_core (scr_core (sc_scr h)) hi
theorem sc_hc {M s : g_M} (h : sc M s) : ∀ c, 41 ≤ c → s c = M c := fun c hc => h c (by omega) (by omega)
theorem sc_up {M s s' : g_M} {q : Nat} (h : sc M s) (hq : q = 27 ∨ q = 28) (h' : ∀ c, c ≠ q → s' c = s c) : sc M s' := fun c a b => by rw [h' c (by omega), h c a b]
/-- a boat loaded in a loop -/
theorem sld {M s : g_M} (hi : inv M) (h : sc M s) {q : Nat} (hq : q = 27 ∨ q = 28) {nb b : Nat} (hn : M 1 6 = nI nb) (hnb : nb ≤ 5) (hb : b < nb) : ∃ s', x_X5_load q 1 (nI b) s = some (0, s') ∧ isM q s' (rb M b) ∧ (∀ c, c ≠ q → s' c = s c) ∧ sc M s' ∧ (∀ k, k < 12 → s' 2 k = M 43 k) ∧ okT (s' 2) := by
  have i2 := sc_inv h hi
  have lt : nI b < s 1 6 := by
    rw [h 1 (by decide) (by decide), hn]
    exact (p_lt (by omega) (by omega)).mpr hb
  obtain ⟨s', e1, e2, e3, e4, e5⟩ := lxd i2 (q := q) (by omega) lt (by omega)
  rw [rb_eq (sc_hc h)] at e2
  refine ⟨s', e1, e2, e3, sc_up h hq e3, fun k hk => ?_, e5⟩
  rw [e4 k hk, h 43 (by decide) (by decide)]
/-- the boats -/
theorem inv_nb {M : g_M} (h : inv M) : ∃ nb : Nat, nb ≤ 5 ∧ M 1 6 = nI nb ∧ M 41 16 = nI nb ∧ ∀ b, b < nb → okR M b ∧ okB (rb M b) := by
  obtain ⟨nr, nb, n1, n2, e1, e2, e3, e4, hr, hbt⟩ := inv_B h
  refine ⟨nb, n2, e3, e4, fun b hb => ?_⟩
  obtain ⟨-, q1, q2, q3⟩ := hbt b hb
  exact ⟨okR_of n1 q1 q2, q3⟩
theorem op_whose (v : Int32) : opOK (x_X8_whose v) (x_X9_whose v) := by
  intro M h
  by_cases h0 : 0 ≤ v
  rotate_left
  · have hv : v < 0 := by rw [← Int32.not_le]; exact h0
    exact op_ref h (k := 4) (r := -nI 4) (by decide) (by simp [x_X8_whose, h0, n4, px_refused]) (fun M1 _ => by simp [x_X9_whose, py_bound, hv, n4, nz4, py_no])
  have hv : ¬ v < 0 := by rw [Int32.not_lt]; exact h0
  by_cases h4 : v ≤ 4095
  rotate_left
  · have hv2 : 4095 < v := by rw [← Int32.not_le]; exact h4
    exact op_ref h (k := 6) (r := -nI 6) (by decide) (by simp [x_X8_whose, h0, h4, n6, px_refused]) (fun M1 _ => by simp [x_X9_whose, py_bound, hv, hv2, n6, nz6, py_no])
  have hv2 : ¬ 4095 < v := by rw [Int32.not_lt]; exact h4
  obtain ⟨nb, nb5, e1, e2, hB⟩ := inv_nb h
  have T := inv_T h
  have lx : ∃ s', x_X8_whose_L29 g_F v 0 0 M = some (bt (fun b => decide (sHH (rb M b) (rb M b 5) (M 43) = v)) nb, s') ∧ sc M s' := by
    rw [show (0 : Int32) = nI 0 from rfl]
    refine p_loop0 (n := nb) (F := fun i fuel s => x_X8_whose_L29 fuel v (bt (fun b => decide (sHH (rb M b) (rb M b 5) (M 43) = v)) i) (nI i) s) (I := fun _ s => sc M s) (R := fun r => ∃ s', r = some (bt (fun b => decide (sHH (rb M b) (rb M b 5) (M 43) = v)) nb, s') ∧ sc M s') (s := M) (by omega) (sc_rf M) ?_ ?_
    · intro s fuel hs
      refine ⟨s, ?_, hs⟩
      show x_X8_whose_L29 (fuel + 1) _ _ _ s = _
      rw [x_X8_whose_L29, hs 1 (by decide) (by decide), e1, if_pos (Int32.le_refl _)]
    · intro i s fuel hi hs
      right
      obtain ⟨s', l1, l2, l3, l4, l5, l6⟩ := sld h hs (q := 27) (Or.inl rfl) e1 nb5 hi
      refine ⟨s', l4, ?_⟩
      show x_X8_whose_L29 (fuel + 1) _ _ _ s = x_X8_whose_L29 fuel v (bt _ (i + 1)) (nI (i + 1)) s'
      rw [x_X8_whose_L29, hs 1 (by decide) (by decide), e1, if_neg (show ¬ nI nb ≤ nI i from nI_ge hi (by omega))]
      refine (bnd l1 _).trans ?_
      refine (bnd (px_hangH l2) _).trans ?_
      dsimp only
      rw [sHH_cg l5, nI_succ]
      by_cases q : sHH (rb M i) (rb M i 5) (M 43) = v
      · rw [if_pos q, bt_t (p := fun b => decide (sHH (rb M b) (rb M b 5) (M 43) = v)) (by simpa using q)]
      · rw [if_neg q, bt_f (p := fun b => decide (sHH (rb M b) (rb M b 5) (M 43) = v)) (by simpa using q)]
  obtain ⟨s', x1, x2⟩ := lx
  refine op_ask h (r := bt (fun b => decide (sHH (rb M b) (rb M b 5) (M 43) = v)) nb) (M1 := s') ?_ (sc_scr x2) fun h1 hc => ⟨s', ?_, coreEq_rf _⟩
  · rw [x_X8_whose, if_pos h0, if_pos h4]
    exact x1
  · have g0 : x_X9_bound v 0 4095 s' = some (0, s') := by rw [py_bound, if_neg hv, if_neg hv2]
    rw [x_X9_whose]
    refine (bnd g0 _).trans ?_
    dsimp only
    rw [if_pos rfl]
    have e2' : s' 41 16 = nI nb := by rw [hc 41 (by decide)]; exact e2
    obtain ⟨nb', nb5', e1', e2'', hB'⟩ := inv_nb h1
    have en : nb' = nb := (p_eq (by omega) (by omega)).mp (by rw [← e2'', e2'])
    subst en
    have T' := inv_T h1
    have rr := rb_eq hc
    have t43 := hc 43 (by decide)
    have t52 := hc 52 (by decide)
    rw [← rr, ← t43]
    conv => lhs; rw [show (0 : Int32) = nI 0 from rfl]
    refine p_loop0 (n := nb') (F := fun i fuel (_ : Unit) => x_X9_whose_L24 fuel v (bt (fun b => decide (sHH (rb s' b) (rb s' b 5) (s' 43) = v)) i) (nI i) s') (I := fun _ _ => True) (R := fun r => r = some (bt (fun b => decide (sHH (rb s' b) (rb s' b 5) (s' 43) = v)) nb', s')) (s := ()) (by omega) trivial ?_ ?_
    · intro _ fuel _
      show x_X9_whose_L24 (fuel + 1) _ _ _ s' = _
      rw [x_X9_whose_L24, e2', if_pos (Int32.le_refl _)]
    · intro i _ fuel hi _
      right
      refine ⟨(), trivial, ?_⟩
      show x_X9_whose_L24 (fuel + 1) _ _ _ s' = x_X9_whose_L24 fuel v (bt _ (i + 1)) (nI (i + 1)) s'
      have c : (nI i).toNatClampNeg = i := nI_clamp (by omega)
      rw [x_X9_whose_L24, e2', if_neg (show ¬ nI nb' ≤ nI i from nI_ge hi (by omega)), if_pos (p_inb (show i < 5 by omega) (by decide)), c]
      refine (bnd (py_hangH (by omega) (hB' i hi).1 (hB' i hi).2 T'.2 _) _).trans ?_
      dsimp only
      rw [nI_succ]
      have e5 : s' 52 i = rb s' i 5 := rfl
      rw [e5]
      by_cases q : sHH (rb s' i) (rb s' i 5) (s' 43) = v
      · rw [if_pos q, bt_t (p := fun b => decide (sHH (rb s' b) (rb s' b 5) (s' 43) = v)) (by simpa using q)]
      · rw [if_neg q, bt_f0 (p := fun b => decide (sHH (rb s' b) (rb s' b 5) (s' 43) = v)) (by simpa using q)]
theorem inv_drop {M : g_M} (h : inv M) : inv (g_upd (g_upd M 21 1 0) 41 37 0) := by
  have ne : ∀ c, c ≠ 21 → c ≠ 41 → g_upd (g_upd M 21 1 0) 41 37 0 c = M c := fun c a b => by rw [g_upd_ne b, g_upd_ne a]
  have f41 : ∀ i, i ≠ 37 → g_upd (g_upd M 21 1 0) 41 37 0 41 i = M 41 i := fun i hi => by simp [g_upd_get, hi]
  exact ⟨inv_rest h (fun c a b => ne c (by omega) (by omega)) (fun c a b => ne c (by omega) (by omega)) (fun f a b => f41 f (by omega)), iRef_cg h.2.1 (ne _ (by decide) (by decide)) (ne _ (by decide) (by decide)), iLet_cg h.2.2.1 (by rw [ne _ (by decide) (by decide)]) (ne _ (by decide) (by decide)) (f41 24 (by decide)) (ne _ (by decide) (by decide)), ⟨0, by decide, by simp [g_upd_get, nI_0], by simp [g_upd_get, nI_0], fun i hi => absurd hi (by omega)⟩, iPay_cg h.2.2.2.2.1 (by rw [ne _ (by decide) (by decide)]) (ne _ (by decide) (by decide)) (ne _ (by decide) (by decide)) (f41 33 (by decide)) (f41 16 (by decide)) (ne _ (by decide) (by decide)) (ne _ (by decide) (by decide)), iImg_cg h.2.2.2.2.2 (by rw [ne _ (by decide) (by decide)]) (f41 28 (by decide)) (fun c a b => ne c (by omega) (by omega)) (fun i _ => by rw [ne 61 (by decide) (by decide)])⟩
theorem inv_H {M : g_M} (h : inv M) : ∃ k : Nat, k < 12 ∧ M 1 10 = nI k ∧ M 41 17 = nI k := by
  obtain ⟨j1, j2, ⟨a3, a4, ⟨k, hk, a5, a5b⟩, a6⟩, j4, j5⟩ := hrel_iff.mp h.1
  exact ⟨k, hk, a5, a5b⟩
theorem op_judge (p : Int32) : opOK (x_X8_judge p) (x_X9_judge p) := by
  intro M h
  by_cases hp : 0 ≤ p ∧ p < M 1 6
  rotate_left
  · exact op_ref h (k := 1) (r := -nI 1) (by decide) (by simp [x_X8_judge, px_hasBoat, hp, n1, px_refused]) (fun M1 hc => by simp [x_X9_judge, noB h hp hc, n1, py_no])
  obtain ⟨b, rfl, hb, hb1, hb2, hR, hB⟩ := bo h hp
  obtain ⟨M', e1, e2, e3, tt, T2⟩ := lxd h (q := 27) (by decide) hb1 hb
  have hl := okB_len hB
  have T := inv_T h
  obtain ⟨n, n12, z1, z2, z3⟩ := inv_N h
  obtain ⟨hh, hh12, y1, y2⟩ := inv_H h
  have b5 : M' 27 5 = rb M b 5 := e2 5 (by decide)
  have m1 : M' 1 10 = nI hh := by rw [e3 1 (by decide)]; exact y1
  have m21 : M' 21 1 = nI n := by rw [e3 21 (by decide)]; exact z1
  have m22 : M' 22 = M 22 := e3 22 (by decide)
  let pp : Nat → Bool := fun i => decide (¬ sR (rb M b) (rb M b 5) (M 43 ((hh + i) % 12)) = M 64 i)
  have pv : ∀ i, pp i = decide (¬ sR (rb M b) (rb M b 5) (M 43 ((hh + i) % 12)) = M 64 i) := fun _ => rfl
  clear_value pp
  have lx : x_X8_judge_L42 g_F (-9) (nI n - 1) M' = some (ff pp nI (-9) n 0, g_upd M' 21 1 0) := by
    refine p_loop0 (n := n) (F := fun m fuel (_ : Unit) => x_X8_judge_L42 fuel (ff pp nI (-9) m (n - m)) (nI (n - m) - 1) M') (I := fun _ _ => True) (R := fun r => r = some (ff pp nI (-9) n 0, g_upd M' 21 1 0)) (s := ()) (by omega) trivial ?_ ?_
    · intro _ fuel _
      show x_X8_judge_L42 (fuel + 1) (ff pp nI (-9) n (n - n)) (nI (n - n) - 1) M' = _
      rw [Nat.sub_self, x_X8_judge_L42, if_pos (by decide)]
    · intro m _ fuel hm _
      right
      refine ⟨(), trivial, ?_⟩
      show x_X8_judge_L42 (fuel + 1) (ff pp nI (-9) m (n - m)) (nI (n - m) - 1) M' = x_X8_judge_L42 fuel (ff pp nI (-9) (m + 1) (n - (m + 1))) (nI (n - (m + 1)) - 1) M'
      have em : nI (n - m) - 1 = nI (n - (m + 1)) := by
        have : nI (n - m) = nI (n - (m + 1)) + 1 := by rw [← nI_succ]; congr 1; omega
        rw [this]; grind
      generalize hi : n - (m + 1) = i at em
      have hi2 : n - m = i + 1 := by omega
      have in' : i < n := by omega
      rw [em, hi2]
      have hmm : (hh + i) % 12 < 12 := Nat.mod_lt _ (by decide)
      rw [x_X8_judge_L42, if_neg (nI_pos (by omega)), m1, p_add, (p_fm (hh + i) (by omega)).2]
      refine (bnd (px_tideAt 1 _ hmm M') _).trans ?_
      dsimp only
      rw [b5, show M' (1 + 1) ((hh + i) % 12) = M 43 ((hh + i) % 12) from tt _ hmm]
      refine (bnd (px_reach e2 hB hl.1 hl.2 (T.2 _ hmm).1 (T.2 _ hmm).2) _).trans ?_
      refine (bnd (px_at n12 m21 in') _).trans ?_
      dsimp only
      rw [m22, (z3 i in').1, ff, show nI i + -1 = nI i - 1 by grind]
      by_cases q : sR (rb M b) (rb M b 5) (M 43 ((hh + i) % 12)) = M 64 i
      · rw [if_pos q, if_neg (by rw [pv]; simpa using q)]
      · rw [if_neg q, if_pos (by rw [pv]; simpa using q)]
  have hx : x_X8_judge (nI b) M = some (ff pp nI (-9) n 0, g_upd M' 21 1 0) := by
    have g1 : x_X2_hasBoat 1 (nI b) M = some (1, M) := by rw [px_hasBoat, if_pos hp]
    rw [x_X8_judge]
    refine (bnd g1 _).trans ?_
    dsimp only
    rw [if_neg (show ¬ (1 : Int32) = 0 by decide)]
    refine (bnd e1 _).trans ?_
    dsimp only
    rw [m21]
    exact lx
  have hiM := inv_core (scr_core (ld_scr (Or.inl rfl) e3)) h
  refine ⟨_, _, g_upd (g_upd M' 21 1 0) 41 37 0, hx, ?_, inv_drop hiM⟩
  have N3 : ∀ c, c ≠ 21 → c ≠ 41 → g_upd (g_upd M' 21 1 0) 41 37 0 c = M' c := fun c a b => by rw [g_upd_ne b, g_upd_ne a]
  have N41 : ∀ f, f ≠ 37 → g_upd (g_upd M' 21 1 0) 41 37 0 41 f = M 41 f := fun f hf => by simp [g_upd_get, hf, e3 41]
  have g1 : x_X9_isBoat (nI b) (g_upd M' 21 1 0) = some (1, g_upd M' 21 1 0) := by
    have : 0 ≤ nI b ∧ nI b < g_upd M' 21 1 0 41 16 := ⟨hp.1, by rw [g_upd_ne (by decide), e3 41 (by decide)]; exact hb2⟩
    rw [py_isBoat, if_pos this]
  rw [x_X9_judge]
  refine (bnd g1 _).trans ?_
  dsimp only
  rw [if_neg (show ¬ (1 : Int32) = 0 by decide), show g_upd M' 21 1 0 41 37 = nI n by rw [g_upd_ne (by decide), e3 41 (by decide)]; exact z2]
  generalize g_upd (g_upd M' 21 1 0) 41 37 0 = N at N3 N41
  have rN : rb N = rb M := by
    funext b' j
    unfold rb
    simp only [N3 45 (by decide) (by decide), N3 46 (by decide) (by decide), N3 47 (by decide) (by decide), N3 48 (by decide) (by decide), N3 49 (by decide) (by decide), N3 50 (by decide) (by decide), N3 51 (by decide) (by decide), N3 52 (by decide) (by decide), N3 53 (by decide) (by decide), N3 54 (by decide) (by decide), e3 45 (by decide), e3 46 (by decide), e3 47 (by decide), e3 48 (by decide), e3 49 (by decide), e3 50 (by decide), e3 51 (by decide), e3 52 (by decide), e3 53 (by decide), e3 54 (by decide)]
  have RN : okR N b := by
    unfold okR
    rw [N3 50 (by decide) (by decide), N3 51 (by decide) (by decide), e3 50 (by decide), e3 51 (by decide)]
    exact hR
  have tN : N 43 = M 43 := by rw [N3 43 (by decide) (by decide), e3 43 (by decide)]
  have n64 : N 64 = M 64 := by rw [N3 64 (by decide) (by decide), e3 64 (by decide)]
  have n17 : N 41 17 = nI hh := by rw [N41 17 (by decide)]; exact y2
  rw [show (0 : Int32) = nI 0 from rfl]
  refine p_find (F := fun i fuel => x_X9_judge_L26 fuel (nI b) (nI n) (nI i) N) (by omega) (fun fuel => ?_) (fun i fuel hi => ?_)
  · show x_X9_judge_L26 (fuel + 1) _ _ _ N = _
    rw [x_X9_judge_L26, if_pos (Int32.le_refl _)]
  · have hmm : (hh + i) % 12 < 12 := Nat.mod_lt _ (by decide)
    have c : (nI i).toNatClampNeg = i := nI_clamp (by omega)
    show x_X9_judge_L26 (fuel + 1) _ _ _ N = (if pp i = true then _ else x_X9_judge_L26 fuel _ _ (nI (i + 1)) N)
    rw [x_X9_judge_L26, if_neg (show ¬ nI n ≤ nI i from nI_ge hi (by omega)), n17, p_add, (p_fm (hh + i) (by omega)).2]
    refine (bnd (py_outAt hb hmm RN (by rw [rN]; exact hB) (by rw [tN]; exact T.2)) _).trans ?_
    dsimp only
    rw [if_pos (p_inb (show i < 12 by omega) (by decide)), c, ← nI_succ]
    have q1 : sR (rb N b) (rb N b 5) (N 43 ((hh + i) % 12)) = sR (rb M b) (rb M b 5) (M 43 ((hh + i) % 12)) := by rw [rN, tN]
    have q2 : N 64 i = M 64 i := by rw [n64]
    have q3 := pv i
    by_cases q : sR (rb M b) (rb M b 5) (M 43 ((hh + i) % 12)) = M 64 i
    · have q4 : ¬ pp i = true := by rw [q3]; simpa using q
      rw [if_pos (by rw [q1, q2]; exact q), if_neg q4]
    · have q4 : pp i = true := by rw [q3]; simpa using q
      rw [if_neg (by rw [q1, q2]; exact q), if_pos q4]
/-! counts -/
theorem op_count (v : Int32) : opOK (x_X8_count v) (x_X9_count v) := by
  intro M h
  obtain ⟨nr, nb, q1, q2, e1, e2, e3, e4, hr, hbt⟩ := inv_B h
  obtain ⟨n, n12, z1, z2, z3⟩ := inv_N h
  obtain ⟨nl, nl96, l1, l2, l3⟩ := h.2.2.1
  obtain ⟨np, np8, p1, p2, p3⟩ := h.2.2.2.2.1
  obtain ⟨hh, hh12, y1, y2⟩ := inv_H h
  obtain ⟨nm, nm3, m1, m2, m3⟩ := inv_P h
  have E := inv_E h
  have S := inv_S h
  have T := inv_T h
  have same : ∀ r : Int32, x_X8_count v M = some (r, M) → x_X9_count v M = some (r, M) → ∃ (r : Int32) (M1 M2 : g_M), x_X8_count v M = some (r, M1) ∧ x_X9_count v M1 = some (r, M2) ∧ inv M2 := fun r a b => ⟨r, M, M, a, b, h⟩
  by_cases hc : 11 ≤ v ∧ v ≤ 16
  · obtain ⟨k, hk, ek⟩ := p_in (i := v - 11) (n := 6) (by decide) (by have := hc.1; have := hc.2; grind) (show v - 11 < 6 by have := hc.1; have := hc.2; grind)
    have ev : v - 11 + 1 = nI (k + 1) := by rw [ek, nI_succ]
    have ev2 : v - 10 = nI (k + 1) := by rw [← ev]; grind
    have b7 := p_inb (show k + 1 < 7 by omega) (by decide : (7 : Nat) < 2 ^ 31)
    have c : (nI (k + 1)).toNatClampNeg = k + 1 := nI_clamp (by omega)
    have a1 : ¬ v < 11 := by rw [Int32.not_lt]; exact hc.1
    have a2 : ¬ 16 < v := by rw [Int32.not_lt]; exact hc.2
    refine same (M 26 (k + 1)) ?_ ?_
    · rw [x_X8_count, if_neg a1, if_neg a2, ev, if_pos b7, c]
    · rw [h.2.1 (k + 1) (by omega), x_X9_count, py_isIn, if_pos hc, Option.bind_some]
      dsimp only
      rw [if_neg (by decide), ev2, if_pos b7, c]
  have hx : x_X8_count v M = x_X8_count_L24 v M := by
    rw [x_X8_count]
    by_cases a1 : v < 11
    · rw [if_pos a1]
    · rw [if_neg a1, if_pos (by
        rw [Int32.not_lt] at a1
        rw [← Int32.not_le]
        exact fun q => hc ⟨a1, q⟩)]
  have e11 : v ≠ 11 := by rintro rfl; exact hc (by decide)
  have e12 : v ≠ 12 := by rintro rfl; exact hc (by decide)
  have e13 : v ≠ 13 := by rintro rfl; exact hc (by decide)
  have e14 : v ≠ 14 := by rintro rfl; exact hc (by decide)
  have e15 : v ≠ 15 := by rintro rfl; exact hc (by decide)
  have e16 : v ≠ 16 := by rintro rfl; exact hc (by decide)
  by_cases v0 : v = 0
  · subst v0
    exact same (nI nb) (by rw [hx]; simp [x_X8_count_L24, e3]) (by simp [x_X9_count, py_isIn, hc, e4])
  by_cases v1 : v = 1
  · subst v1
    exact same (nI nr) (by rw [hx]; simp [x_X8_count_L24, e1]) (by simp [x_X9_count, py_isIn, hc, e2])
  by_cases v2 : v = 2
  · subst v2
    exact same (nI hh) (by rw [hx]; simp [x_X8_count_L24, y1]) (by simp [x_X9_count, py_isIn, hc, y2])
  have t0 : (0 : Int32).toNatClampNeg = 0 := by decide
  have t1 : (1 : Int32).toNatClampNeg = 1 := by decide
  have i0 : g_inb 0 2 = true := by decide
  have i1 : g_inb 1 2 = true := by decide
  by_cases v3 : v = 3
  · subst v3
    exact same (M 47 0) (by rw [hx]; simp [x_X8_count_L24, E.1]) (by simp [x_X9_count, py_isIn, hc, i0])
  by_cases v4 : v = 4
  · subst v4
    exact same (M 47 1) (by rw [hx]; simp [x_X8_count_L24, E.2.1]) (by simp [x_X9_count, py_isIn, hc, i1, t1, show (4 : Int32) - 3 = 1 by decide])
  by_cases v7 : v = 7
  · subst v7
    exact same (nI nl) (by rw [hx]; simp [x_X8_count_L24, l1]) (by simp [x_X9_count, py_isIn, hc, l2])
  by_cases v8 : v = 8
  · subst v8
    exact same (nI n) (by rw [hx]; simp [x_X8_count_L24, z1]) (by simp [x_X9_count, py_isIn, hc, z2])
  by_cases v9 : v = 9
  · subst v9
    exact same (M 41 18) (by rw [hx]; simp [x_X8_count_L24, S.1]) (by simp [x_X9_count, py_isIn, hc])
  by_cases v10 : v = 10
  · subst v10
    exact same (nI nm) (by rw [hx]; simp [x_X8_count_L24, m1]) (by simp [x_X9_count, py_isIn, hc, m2])
  by_cases v17 : v = 17
  · subst v17
    exact same (nI np) (by rw [hx]; simp [x_X8_count_L24, p1]) (by simp [x_X9_count, py_isIn, hc, p2])
  by_cases v5 : v = 5
  · subst v5
    let sm : Nat → Int32 := fun i => Nat.rec 0 (fun k s => s + M 52 k) i
    have sm0 : sm 0 = 0 := rfl
    have sm1 : ∀ i, sm (i + 1) = sm i + M 52 i := fun _ => rfl
    clear_value sm
    have lx : x_X8_lengthsTogether M = some (sm nb, M) := by
      unfold x_X8_lengthsTogether
      rw [show x_X8_lengthsTogether_L4 g_F 0 0 M = x_X8_lengthsTogether_L4 g_F (sm 0) (nI 0) M by rw [sm0]; rfl]
      refine p_loop0 (n := nb) (F := fun i fuel (_ : Unit) => x_X8_lengthsTogether_L4 fuel (sm i) (nI i) M) (I := fun _ _ => True) (R := fun r => r = some (sm nb, M)) (s := ()) (by omega) trivial ?_ ?_
      · intro _ fuel _
        show x_X8_lengthsTogether_L4 (fuel + 1) _ _ M = _
        rw [x_X8_lengthsTogether_L4, e3, if_pos (Int32.le_refl _)]
      · intro i _ fuel hi _
        right
        refine ⟨(), trivial, ?_⟩
        show x_X8_lengthsTogether_L4 (fuel + 1) _ _ M = x_X8_lengthsTogether_L4 fuel (sm (i + 1)) (nI (i + 1)) M
        rw [x_X8_lengthsTogether_L4, e3, if_neg (show ¬ nI nb ≤ nI i from nI_ge hi (by omega))]
        refine (bnd (px_boatCell 1 i 4 (by omega) (by decide) M) _).trans ?_
        dsimp only
        rw [show M (1 + 4) (7 * i + 4) = M 52 i from (hbt i hi).1.2.2.2.2.1, sm1, nI_succ]
    have ly : x_X9_count_L138 g_F 0 0 M = some (sm nb, M) := by
      rw [show x_X9_count_L138 g_F 0 0 M = x_X9_count_L138 g_F (sm 0) (nI 0) M by rw [sm0]; rfl]
      refine p_loop0 (n := nb) (F := fun i fuel (_ : Unit) => x_X9_count_L138 fuel (sm i) (nI i) M) (I := fun _ _ => True) (R := fun r => r = some (sm nb, M)) (s := ()) (by omega) trivial ?_ ?_
      · intro _ fuel _
        show x_X9_count_L138 (fuel + 1) _ _ M = _
        rw [x_X9_count_L138, e4, if_pos (Int32.le_refl _)]
      · intro i _ fuel hi _
        right
        refine ⟨(), trivial, ?_⟩
        have c : (nI i).toNatClampNeg = i := nI_clamp (by omega)
        show x_X9_count_L138 (fuel + 1) _ _ M = x_X9_count_L138 fuel (sm (i + 1)) (nI (i + 1)) M
        rw [x_X9_count_L138, e4, if_neg (show ¬ nI nb ≤ nI i from nI_ge hi (by omega)), if_pos (p_inb (show i < 5 by omega) (by decide)), c, sm1, nI_succ]
    refine same (sm nb) ?_ ?_
    · rw [hx]
      simp only [x_X8_count_L24, v0, v1, v2, v3, v4, if_false, if_true]
      exact bnd lx _
    · rw [x_X9_count, py_isIn, if_neg hc, Option.bind_some]
      simp only [v0, v1, v2, v3, v4, if_false, if_true]
      exact ly
  by_cases v6 : v = 6
  · subst v6
    let sm : Nat → Int32 := fun i => Nat.rec 0 (fun k s => if rb M k 5 * rb M k 5 < sN (rb M k) (M 43 hh) then s + 1 else s) i
    have sm0 : sm 0 = 0 := rfl
    have sm1 : ∀ i, sm (i + 1) = if rb M i 5 * rb M i 5 < sN (rb M i) (M 43 hh) then sm i + 1 else sm i := fun _ => rfl
    clear_value sm
    obtain ⟨nb', nb5', e1', e2'', hB'⟩ := inv_nb h
    have en : nb' = nb := (p_eq (by omega) (by omega)).mp (by rw [← e2'', e4])
    subst en
    have lx : ∃ s', x_X8_boatsHangingNow M = some (sm nb', s') ∧ sc M s' := by
      unfold x_X8_boatsHangingNow
      rw [show x_X8_boatsHangingNow_L4 g_F 0 0 M = x_X8_boatsHangingNow_L4 g_F (sm 0) (nI 0) M by rw [sm0]; rfl]
      refine p_loop0 (n := nb') (F := fun i fuel s => x_X8_boatsHangingNow_L4 fuel (sm i) (nI i) s) (I := fun _ s => sc M s) (R := fun r => ∃ s', r = some (sm nb', s') ∧ sc M s') (s := M) (by omega) (sc_rf M) ?_ ?_
      · intro s fuel hs
        refine ⟨s, ?_, hs⟩
        show x_X8_boatsHangingNow_L4 (fuel + 1) _ _ s = _
        rw [x_X8_boatsHangingNow_L4, hs 1 (by decide) (by decide), e3, if_pos (Int32.le_refl _)]
      · intro i s fuel hi hs
        right
        obtain ⟨s', l1, l2, l3, l4, l5, l6⟩ := sld h hs (q := 27) (Or.inl rfl) e3 q2 hi
        refine ⟨s', l4, ?_⟩
        show x_X8_boatsHangingNow_L4 (fuel + 1) _ _ s = x_X8_boatsHangingNow_L4 fuel (sm (i + 1)) (nI (i + 1)) s'
        rw [x_X8_boatsHangingNow_L4, hs 1 (by decide) (by decide), e3, if_neg (show ¬ nI nb' ≤ nI i from nI_ge hi (by omega))]
        refine (bnd l1 _).trans ?_
        dsimp only
        rw [l4 1 (by decide) (by decide), y1]
        refine (bnd (px_tideAt 1 hh hh12 s') _).trans ?_
        dsimp only
        rw [l2 5 (by decide), show s' (1 + 1) hh = M 43 hh from l5 hh hh12]
        refine (bnd (px_hangs l2 _ _) _).trans ?_
        dsimp only
        rw [sm1, nI_succ]
        by_cases q : rb M i 5 * rb M i 5 < sN (rb M i) (M 43 hh)
        · rw [if_pos q, if_pos q, if_neg (by decide)]
        · rw [if_neg q, if_neg q, if_pos rfl]
    obtain ⟨s', x1, x2⟩ := lx
    have hx2 : x_X8_count 6 M = some (sm nb', s') := by
      rw [hx]
      simp only [x_X8_count_L24, v0, v1, v2, v3, v4, v5, if_false, if_true]
      exact bnd x1 _
    refine op_ask h hx2 (sc_scr x2) fun h1 hc' => ⟨s', ?_, coreEq_rf _⟩
    rw [x_X9_count, py_isIn, if_neg hc, Option.bind_some]
    simp only [v0, v1, v2, v3, v4, v5, if_false, if_true]
    have T' := inv_T h1
    obtain ⟨nb'', nb5'', e1'', e2''', hB''⟩ := inv_nb h1
    have en : nb'' = nb' := (p_eq (by omega) (by omega)).mp (by rw [← e2''', hc' 41 (by decide), e4])
    subst en
    have y2' : s' 41 17 = nI hh := by rw [hc' 41 (by decide)]; exact y2
    have rr := rb_eq hc'
    have t43 := hc' 43 (by decide)
    have ly : x_X9_hangNow s' = some (sm nb'', s') := by
      unfold x_X9_hangNow
      rw [show x_X9_hangNow_L4 g_F 0 0 s' = x_X9_hangNow_L4 g_F (sm 0) (nI 0) s' by rw [sm0]; rfl]
      refine p_loop0 (n := nb'') (F := fun i fuel (_ : Unit) => x_X9_hangNow_L4 fuel (sm i) (nI i) s') (I := fun _ _ => True) (R := fun r => r = some (sm nb'', s')) (s := ()) (by omega) trivial ?_ ?_
      · intro _ fuel _
        show x_X9_hangNow_L4 (fuel + 1) _ _ s' = _
        rw [x_X9_hangNow_L4, e2''', if_pos (Int32.le_refl _)]
      · intro i _ fuel hi _
        right
        refine ⟨(), trivial, ?_⟩
        have c : (nI i).toNatClampNeg = i := nI_clamp (by omega)
        show x_X9_hangNow_L4 (fuel + 1) _ _ s' = x_X9_hangNow_L4 fuel (sm (i + 1)) (nI (i + 1)) s'
        rw [x_X9_hangNow_L4, e2''', if_neg (show ¬ nI nb'' ≤ nI i from nI_ge hi (by omega)), if_pos (p_inb (show i < 5 by omega) (by decide)), c, y2']
        refine (bnd (py_hangsWith (by omega) hh12 (hB'' i hi).1 (hB'' i hi).2 (T'.2 hh hh12) _) _).trans ?_
        dsimp only
        rw [sm1, nI_succ, show s' 52 i = rb s' i 5 from rfl, rr, t43]
        by_cases q : rb M i 5 * rb M i 5 < sN (rb M i) (M 43 hh)
        · rw [if_pos q, if_pos q, if_neg (by decide)]
        · rw [if_neg q, if_neg q, if_pos rfl, show sm i + 0 = sm i by grind]
    exact bnd ly _
  refine same (-9) ?_ ?_
  · rw [hx]
    simp only [x_X8_count_L24, v0, v1, v2, v3, v4, v5, v6, v7, v8, v9, v10, e11, e12, e13, e14, e15, e16, v17, if_false]
  · rw [x_X9_count, py_isIn, if_neg hc, Option.bind_some]
    simp only [v0, v1, v2, v3, v4, v5, v6, v7, v8, v9, v10, e11, e12, e13, e14, e15, e16, v17, if_false, if_true]
