/-! THE PURE PART. ZF: cheapest -/
def wlC (M : g_M) (b r : Nat) : Nat := sL (Br (rb M b) M r) (M 43)
def cC (M : g_M) (nb nr b r : Nat) : Int := if b < nb ∧ r < nr then (wlC M b r : Int) else 0
theorem px_cheapC {M : g_M} (h : inv M) (w : Int32) {nr nb : Nat} (hnr : nr ≤ 6) (hnb : nb ≤ 5) (f1 : M 1 5 = nI nr) (f2 : M 41 15 = nI nr) (f3 : M 1 6 = nI nb) (hBo : ∀ b, b < nb → okB (rb M b)) (hc : ∀ b r, -1000000 ≤ cC M nb nr b r ∧ cC M nb nr b r ≤ 1000000) (hd : -10000000 ≤ dp (cC M nb nr) nr 1000000 nb 0 0 ∧ dp (cC M nb nr) nr 1000000 nb 0 0 ≤ 10000000) : ∃ s r, sc5 M s ∧ x_X8_cheapest_L34 g_F w 0 M = some (r, s) ∧ r = (if dp (cC M nb nr) nr 1000000 nb 0 0 < 1000000 then (if w = 0 then zI (dp (cC M nb nr) nr 1000000 nb 0 0) else nI (rd nr (wy (cC M nb nr) nr 1000000 nb 0 0) nb 0)) else -9) := by
  have T := inv_T h
  have zm : zI 1000000 = (1000000 : Int32) := by decide
  refine p_loop0 (n := nb) (F := fun b fuel s => x_X8_cheapest_L34 fuel w (nI b) s) (I := fun b s => sc5 M s ∧ ∀ b' r, b' < b → r < nr → s 35 (6 * b' + r) = zI (cC M nb nr b' r)) (R := fun x => ∃ s r, sc5 M s ∧ x = some (r, s) ∧ r = (if dp (cC M nb nr) nr 1000000 nb 0 0 < 1000000 then (if w = 0 then zI (dp (cC M nb nr) nr 1000000 nb 0 0) else nI (rd nr (wy (cC M nb nr) nr 1000000 nb 0 0) nb 0)) else -9)) (s := M) (by omega) ⟨fun _ _ _ _ _ _ => rfl, fun b' r hb' => absurd hb' (by omega)⟩ ?_ ?_
  · intro s fuel ⟨h1, h2⟩
    have s1 : s 1 = M 1 := h1 1 (by decide) (by decide) (by decide) (by decide) (by decide)
    obtain ⟨N, n1', n2', n3', n4'⟩ := px_solve (s := s) (c := cC M nb nr) (nb := nb) (nr := nr) (no := 1000000) h2 hnb hnr hc (by omega)
    have dg := px_digits n3' n4' hnb hnr hc (by omega)
    refine ⟨N, _, fun c a b d e f => by rw [n2' c d f, h1 c a b d e f], ?_, rfl⟩
    show x_X8_cheapest_L34 (fuel + 1) w (nI nb) s = _
    rw [x_X8_cheapest_L34, s1, f3, f1, if_pos (Int32.le_refl _)]
    rw [zm] at n1'
    refine (bnd n1' _).trans ?_
    dsimp only
    have d0 := n4' 0 0 (by omega) (by omega) (by decide)
    rw [Nat.sub_zero, Nat.mul_zero, Nat.add_zero] at d0
    have cl0 : (0 : Int32).toNatClampNeg = 0 := by decide
    have lc : x_X0_leastCost N = some (zI (dp (cC M nb nr) nr 1000000 nb 0 0), N) := by rw [x_X0_leastCost, cl0, d0]
    refine (bnd lc _).trans ?_
    dsimp only
    have lt := zI_lt (x := dp (cC M nb nr) nr 1000000 nb 0 0) (y := 1000000) hd (by omega)
    rw [zm] at lt
    by_cases z : dp (cC M nb nr) nr 1000000 nb 0 0 < 1000000
    · rw [if_pos (lt.mpr z), if_pos z]
      by_cases w0 : w = 0
      · rw [if_pos w0, if_pos w0]
        exact bnd lc _
      · rw [if_neg w0, if_neg w0]
        exact bnd dg _
    · rw [if_neg (fun q => z (lt.mp q)), if_neg z]
  · intro b s fuel hb ⟨h1, h2⟩
    right
    show ∃ s', (sc5 M s' ∧ ∀ b' r, b' < b + 1 → r < nr → s' 35 (6 * b' + r) = zI (cC M nb nr b' r)) ∧ x_X8_cheapest_L34 (fuel + 1) w (nI b) s = x_X8_cheapest_L34 fuel w (nI (b + 1)) s'
    have s1 : s 1 = M 1 := h1 1 (by decide) (by decide) (by decide) (by decide) (by decide)
    obtain ⟨sl, l1, l2, l3⟩ := rg5 (nr := nr) h h1 f3 hnb hb
    rw [x_X8_cheapest_L34, s1, f3, if_neg (show ¬ nI nb ≤ nI b from nI_ge hb (by omega))]
    generalize x_X8_cheapest_L34 fuel = k34
    have goal : ∃ s', (sc5 M s' ∧ ∀ b' r, b' < b + 1 → r < nr → s' 35 (6 * b' + r) = zI (cC M nb nr b' r)) ∧ x_X8_cheapest_L59 k34 g_F w (nI b) 0 sl = k34 w (nI (b + 1)) s' := by
      refine p_loop0 (n := nr) (F := fun r fuel s => x_X8_cheapest_L59 k34 fuel w (nI b) (nI r) s) (I := fun r s => sc5 M s ∧ (∀ j, j ≤ 8 → j ≠ 2 → j ≠ 3 → s 27 j = rb M b j) ∧ ∀ b' r', (b' < b ∨ (b' = b ∧ r' < r)) → r' < nr → s 35 (6 * b' + r') = zI (cC M nb nr b' r')) (R := fun x => ∃ s', (sc5 M s' ∧ ∀ b' r, b' < b + 1 → r < nr → s' 35 (6 * b' + r) = zI (cC M nb nr b' r)) ∧ x = k34 w (nI (b + 1)) s') (s := sl) (by omega) ⟨fun c a1 a2 a3 a4 a5 => by rw [l3 c a1, h1 c a1 a2 a3 a4 a5], fun j hj _ _ => l2 j hj, fun b' r' q hr' => by rw [l3 35 (by decide)]; exact h2 b' r' (by omega) hr'⟩ ?_ ?_
      · intro s fuel ⟨g1, g2, g3⟩
        refine ⟨s, ⟨g1, fun b' r hb' hr => g3 b' r (by omega) hr⟩, ?_⟩
        show x_X8_cheapest_L59 k34 (fuel + 1) _ _ (nI nr) s = _
        rw [x_X8_cheapest_L59, g1 1 (by decide) (by decide) (by decide) (by decide) (by decide), f1, if_pos (Int32.le_refl _), nI_succ]
      · intro r s fuel hr ⟨g1, g2, g3⟩
        right
        obtain ⟨sm', m1, m2, m3⟩ := mv5 h g1 g2 f2 hr hnr
        have g1' : sc5 M sm' := fun c a1 a2 a3 a4 a5 => by rw [m3 c a1, g1 c a1 a2 a3 a4 a5]
        have tt : ∀ k, k < 12 → sm' 2 k = M 43 k := fun k hk => by rw [g1' 2 (by decide) (by decide) (by decide) (by decide) (by decide)]; exact T.1 k hk
        have okr := Br_ok h (hBo b hb) f2 hr hnr
        have lf := px_leastFor (a := 2) m2 okr (okT_cg tt T.2)
        rw [sL_cg tt] at lf
        have L79 := sL_79 okr T.2
        have cv : zI (cC M nb nr b r) = nI (sL (Br (rb M b) M r) (M 43)) := by
          unfold cC wlC
          rw [if_pos ⟨hb, hr⟩, ← zI_n (by omega)]
        refine ⟨g_upd sm' 35 (6 * b + r) (zI (cC M nb nr b r)), ⟨fun c a1 a2 a3 a4 a5 => by rw [g_upd_ne a4, g1' c a1 a2 a3 a4 a5], fun j hj z2 z3 => ?_, fun b' r' q hr' => ?_⟩, ?_⟩
        · rw [g_upd_ne (by decide), m2 j hj]
          unfold Br
          rw [if_neg z2, if_neg z3]
        · rw [g_upd_get]
          by_cases z : b' = b ∧ r' = r
          · rw [if_pos ⟨rfl, by omega⟩, z.1, z.2]
          · rw [if_neg (fun k => z (by have := k.2; omega)), m3 35 (by decide)]
            exact g3 b' r' (by omega) hr'
        · show x_X8_cheapest_L59 k34 (fuel + 1) _ _ (nI r) s = x_X8_cheapest_L59 k34 fuel _ _ (nI (r + 1)) _
          rw [x_X8_cheapest_L59, g1 1 (by decide) (by decide) (by decide) (by decide) (by decide), f1, if_neg (show ¬ nI nr ≤ nI r from nI_ge hr (by omega))]
          refine (bnd m1 _).trans ?_
          refine (bnd lf _).trans ?_
          dsimp only
          rw [if_pos (nI_99 (by omega)).2, nI_succ r, cv]
          exact bnd (px_setCost (by omega) (by omega) _ sm') _
    obtain ⟨s', g1, g2⟩ := goal
    exact ⟨s', g1, (bnd l1 _).trans g2⟩
/-! the reference -/
theorem py_findLeast {M : g_M} (h : inv M) {nr nb : Nat} (hnr : nr ≤ 6) (hnb : nb ≤ 5) (e1 : M 41 16 = nI nb) (e2 : M 41 15 = nI nr) (hB : ∀ b, b < nb → okR M b ∧ okB (rb M b)) : ∃ N, x_X9_findLeastAt M = some (0, N) ∧ (∀ c, c ≠ 69 → N c = M c) ∧ ∀ b r, b < nb → r < nr → N 69 (6 * b + r) = nI (wlC M b r) := by
  have T := inv_T h
  unfold x_X9_findLeastAt
  refine p_loop0 (n := nb) (F := fun b fuel s => x_X9_findLeastAt_L2 fuel (nI b) s) (I := fun b s => (∀ c, c ≠ 69 → s c = M c) ∧ ∀ b' r, b' < b → r < nr → s 69 (6 * b' + r) = nI (wlC M b' r)) (R := fun x => ∃ N, x = some (0, N) ∧ (∀ c, c ≠ 69 → N c = M c) ∧ ∀ b r, b < nb → r < nr → N 69 (6 * b + r) = nI (wlC M b r)) (s := M) (by omega) ⟨fun _ _ => rfl, fun b' r hb' => absurd hb' (by omega)⟩ ?_ ?_
  · intro s fuel ⟨g1, g2⟩
    refine ⟨s, ?_, g1, g2⟩
    show x_X9_findLeastAt_L2 (fuel + 1) (nI nb) s = _
    rw [x_X9_findLeastAt_L2, g1 41 (by decide), e1, if_pos (Int32.le_refl _)]
  · intro b s fuel hb ⟨g1, g2⟩
    right
    show ∃ s', ((∀ c, c ≠ 69 → s' c = M c) ∧ ∀ b' r, b' < b + 1 → r < nr → s' 69 (6 * b' + r) = nI (wlC M b' r)) ∧ x_X9_findLeastAt_L2 (fuel + 1) (nI b) s = x_X9_findLeastAt_L2 fuel (nI (b + 1)) s'
    have cb : (nI b).toNatClampNeg = b := nI_clamp (by omega)
    have b5 := p_inb (show b < 5 by omega) (by decide : (5 : Nat) < 2 ^ 31)
    rw [x_X9_findLeastAt_L2, g1 41 (by decide), e1, if_neg (show ¬ nI nb ≤ nI b from nI_ge hb (by omega)), if_pos b5, cb, g1 50 (by decide)]
    generalize x_X9_findLeastAt_L2 fuel = k2
    refine p_loop0 (n := nr) (F := fun r fuel s => x_X9_findLeastAt_L19 k2 fuel (nI b) (M 50 b) (nI r) s) (I := fun r s => (∀ c, c ≠ 69 → c ≠ 50 → s c = M c) ∧ (∀ j, j ≠ b → s 50 j = M 50 j) ∧ ∀ b' r', (b' < b ∨ (b' = b ∧ r' < r)) → r' < nr → s 69 (6 * b' + r') = nI (wlC M b' r')) (R := fun x => ∃ s', ((∀ c, c ≠ 69 → s' c = M c) ∧ ∀ b' r, b' < b + 1 → r < nr → s' 69 (6 * b' + r) = nI (wlC M b' r)) ∧ x = k2 (nI (b + 1)) s') (s := s) (by omega) ⟨fun c a _ => g1 c a, fun j _ => by rw [g1 50 (by decide)], fun b' r' q hr' => g2 b' r' (by omega) hr'⟩ ?_ ?_
    · intro s fuel ⟨g1, g2, g3⟩
      refine ⟨g_upd s 50 b (M 50 b), ⟨fun c hc => ?_, fun b' r hb' hr => by rw [g_upd_ne (by decide)]; exact g3 b' r (by omega) hr⟩, ?_⟩
      · by_cases z : c = 50
        · subst z
          funext j
          rw [g_upd_get]
          by_cases y : j = b
          · rw [if_pos ⟨rfl, y⟩, y]
          · rw [if_neg (fun q => y q.2), g2 j y]
        · rw [g_upd_ne z, g1 c hc z]
      · show x_X9_findLeastAt_L19 k2 (fuel + 1) _ _ (nI nr) s = _
        rw [x_X9_findLeastAt_L19, g1 41 (by decide) (by decide), e2, if_pos (Int32.le_refl _), if_pos b5, cb, nI_succ]
    · intro r s fuel hr ⟨g1, g2, g3⟩
      right
      obtain ⟨Q, hQ⟩ : ∃ Q, g_upd s 50 b (nI r) = Q := ⟨_, rfl⟩
      have q50 : Q 50 b = nI r := by rw [← hQ, g_upd_get, if_pos ⟨rfl, rfl⟩]
      have qn : ∀ c, c ≠ 69 → c ≠ 50 → Q c = M c := fun c a d => by rw [← hQ, g_upd_ne d, g1 c a d]
      have rQ := rb_ring2 (fun c x y z => qn c (by omega) z) q50 (by omega)
      have RQ : okR Q b := ⟨⟨r, by omega, q50⟩, by rw [qn 51 (by decide) (by decide)]; exact (hB b hb).1.2⟩
      have BQ : okB (rb Q b) := by rw [rQ]; exact Br_ok h (hB b hb).2 e2 hr hnr
      have y := py_least (M := Q) (b := b) (by omega) RQ BQ (by rw [qn 43 (by decide) (by decide)]; exact T.2)
      rw [rQ, qn 43 (by decide) (by decide)] at y
      have ei : (6 : Int32) * nI b + nI r = nI (6 * b + r) := by rw [show (6 : Int32) = nI 6 from rfl, p_mul, p_add]
      have ci : (nI (6 * b + r)).toNatClampNeg = 6 * b + r := nI_clamp (by omega)
      have bi := p_inb (show 6 * b + r < 30 by omega) (by decide : (30 : Nat) < 2 ^ 31)
      refine ⟨g_upd Q 69 (6 * b + r) (nI (wlC M b r)), ⟨fun c a d => by rw [g_upd_ne a, qn c a d], fun j hj => by rw [g_upd_ne (by decide), ← hQ, g_upd_get, if_neg (fun q => hj q.2), g2 j hj], fun b' r' q hr' => ?_⟩, ?_⟩
      · rw [g_upd_get]
        by_cases z : b' = b ∧ r' = r
        · rw [if_pos ⟨rfl, by omega⟩, z.1, z.2]
        · rw [if_neg (fun k => z (by have := k.2; omega)), ← hQ, g_upd_ne (by decide)]
          exact g3 b' r' (by omega) hr'
      · show x_X9_findLeastAt_L19 k2 (fuel + 1) _ _ (nI r) s = x_X9_findLeastAt_L19 k2 fuel _ _ (nI (r + 1)) _
        rw [x_X9_findLeastAt_L19, g1 41 (by decide) (by decide), e2, if_neg (show ¬ nI nr ≤ nI r from nI_ge hr (by omega)), if_pos b5, cb, hQ]
        refine (bnd y _).trans ?_
        dsimp only
        rw [ei, ci, if_pos bi, nI_succ r]
        rfl
theorem FE_iff {nr : Nat} {way : Nat → Nat} : ∀ k a U, (∀ i, i < k → way (a + i) < nr) → (FE nr way k a U ↔ (∀ i, i < k → U.testBit (way (a + i)) = false) ∧ ∀ i j, i < j → j < k → way (a + i) ≠ way (a + j)) := by
  intro k
  induction k with
  | zero => intro a U _; exact ⟨fun _ => ⟨fun i hi => absurd hi (by omega), fun i j _ hj => absurd hj (by omega)⟩, fun _ => trivial⟩
  | succ k ih =>
    intro a U hw
    have w0 := hw 0 (by omega)
    rw [Nat.add_zero] at w0
    have ih := ih (a + 1) (nx nr U (way a)) (fun i hi => by have := hw (i + 1) (by omega); rw [show a + 1 + i = a + (i + 1) by omega]; exact this)
    have tb : ∀ x, (nx nr U (way a)).testBit x = (U.testBit x || decide (way a = x)) := fun x => by
      unfold nx
      rw [if_pos w0, Nat.testBit_or, Nat.testBit_two_pow]
    rw [FE, ih]
    constructor
    · rintro ⟨h1, h2, h3⟩
      refine ⟨fun i hi => ?_, fun i j hij hj => ?_⟩
      · by_cases z : i = 0
        · subst z; exact h1 w0
        · have := h2 (i - 1) (by omega)
          rw [tb, show a + 1 + (i - 1) = a + i by omega, Bool.or_eq_false_iff] at this
          exact this.1
      · by_cases z : i = 0
        · subst z
          have := h2 (j - 1) (by omega)
          rw [tb, show a + 1 + (j - 1) = a + j by omega, Bool.or_eq_false_iff, decide_eq_false_iff_not] at this
          exact this.2
        · have := h3 (i - 1) (j - 1) (by omega) (by omega)
          rw [show a + 1 + (i - 1) = a + i by omega, show a + 1 + (j - 1) = a + j by omega] at this
          exact this
    · rintro ⟨h1, h2⟩
      refine ⟨fun _ => h1 0 (by omega), fun i hi => ?_, fun i j hij hj => ?_⟩
      · rw [tb, show a + 1 + i = a + (i + 1) by omega, Bool.or_eq_false_iff, decide_eq_false_iff_not]
        exact ⟨h1 (i + 1) (by omega), h2 0 (i + 1) (by omega) (by omega)⟩
      · have := h2 (i + 1) (j + 1) (by omega) (by omega)
        rw [show a + 1 + i = a + (i + 1) by omega, show a + 1 + j = a + (j + 1) by omega]
        exact this
theorem cs_99 {wl : Nat → Nat → Nat} {nb nr : Nat} (h : ∀ b r, b < nb → r < nr → wl b r ≤ 99) (way : Nat → Nat) : ∀ k a, a + k = nb → cs wl nr way k a ≤ 99 * k := by
  intro k
  induction k with
  | zero => intro a _; exact Nat.le_refl _
  | succ k ih =>
    intro a ha
    have := ih (a + 1) (by omega)
    rw [cs]
    split
    · rename_i z
      have := h a (way a) (by omega) z
      omega
    · omega
theorem py_lengthsBy {s : g_M} {nr nb : Nat} {wl : Nat → Nat → Nat} (hnr0 : 1 ≤ nr) (hnr : nr ≤ 6) (hnb : nb ≤ 5) (e1 : s 41 16 = nI nb) (e2 : s 41 15 = nI nr) (hw : ∀ b r, b < nb → r < nr → s 69 (6 * b + r) = nI (wl b r)) (h1 : ∀ b r, b < nb → r < nr → wl b r ≤ 99) {n : Nat} (hn : n < 20000) : ∃ s' v, x_X9_lengthsBy (nI n) s = some (v, s') ∧ (∀ c, c ≠ 67 → s' c = s c) ∧ ((FE nr (dgt nr nb n) nb 0 0 ∧ v = nI (cs wl nr (dgt nr nb n) nb 0) ∧ ∀ b, b < nb → s' 67 b = nI (dgt nr nb n b)) ∨ (¬ FE nr (dgt nr nb n) nb 0 0 ∧ v = -9)) := by
  have rz : ¬ nI nr = (0 : Int32) := fun q => absurd ((p_eq (a := nr) (b := 0) (by omega) (by decide)).mp q) (by omega)
  have dK : ∀ b, dgt nr nb n b < nr := fun b => Nat.mod_lt _ (by omega)
  have fe := FE_iff (nr := nr) (way := dgt nr nb n) nb 0 0 (fun i _ => dK _)
  simp only [Nat.zero_add] at fe
  unfold x_X9_lengthsBy
  rw [e1, show x_X9_lengthsBy_L15 g_F (nI n) 0 0 (nI nb - 1) s = x_X9_lengthsBy_L15 g_F (nI (n / nr ^ 0)) (nI 0) (nI (cs wl nr (dgt nr nb n) 0 (nb - 0))) (nI (nb - 0) - 1) s by rw [Nat.pow_zero, Nat.div_one, Nat.sub_zero]; rfl]
  refine p_loop0 (n := nb) (F := fun m fuel (t : Nat × g_M) => x_X9_lengthsBy_L15 fuel (nI (n / nr ^ m)) (nI t.1) (nI (cs wl nr (dgt nr nb n) m (nb - m))) (nI (nb - m) - 1) t.2) (I := fun m t => (∀ c, c ≠ 67 → t.2 c = s c) ∧ t.1 < 64 ∧ (∀ x, t.1.testBit x = true ↔ ∃ j, j < nb ∧ nb ≤ j + m ∧ dgt nr nb n j = x) ∧ (∀ i j, i < j → j < nb → nb ≤ i + m → dgt nr nb n i ≠ dgt nr nb n j) ∧ ∀ b, b < nb → nb ≤ b + m → t.2 67 b = nI (dgt nr nb n b)) (R := fun x => ∃ s' v, x = some (v, s') ∧ (∀ c, c ≠ 67 → s' c = s c) ∧ ((FE nr (dgt nr nb n) nb 0 0 ∧ v = nI (cs wl nr (dgt nr nb n) nb 0) ∧ ∀ b, b < nb → s' 67 b = nI (dgt nr nb n b)) ∨ (¬ FE nr (dgt nr nb n) nb 0 0 ∧ v = -9))) (s := ((0 : Nat), s)) (by omega) ?_ ?_ ?_
  · refine ⟨fun _ _ => rfl, ?_, fun x => ⟨fun q => ?_, fun q => ?_⟩, fun i j a b c => absurd c (by omega), fun b a c => absurd c (by omega)⟩
    · show 0 < 64
      decide
    · have q' : (0 : Nat).testBit x = true := q
      rw [Nat.zero_testBit] at q'
      cases q'
    · obtain ⟨j, a, b, -⟩ := q
      omega
  · rintro ⟨U, s'⟩ fuel ⟨g1, g2, g3, g4, g5⟩
    refine ⟨s', nI (cs wl nr (dgt nr nb n) nb 0), ?_, g1, Or.inl ⟨fe.mpr ⟨fun i hi => Nat.zero_testBit _, fun i j a b => g4 i j a b (by omega)⟩, rfl, fun b hb => g5 b hb (by omega)⟩⟩
    show x_X9_lengthsBy_L15 (fuel + 1) _ (nI U) (nI (cs wl nr (dgt nr nb n) nb (nb - nb))) (nI (nb - nb) - 1) s' = _
    rw [Nat.sub_self, x_X9_lengthsBy_L15, if_pos (by decide)]
  · rintro m ⟨U, s'⟩ fuel hm ⟨g1, g2, g3, g4, g5⟩
    dsimp only at g1 g2 g3 g4 g5
    obtain ⟨b, hb⟩ : ∃ b, nb - m = b + 1 := ⟨nb - m - 1, by omega⟩
    have cb : (nI b).toNatClampNeg = b := nI_clamp (by omega)
    have b5 := p_inb (show b < 5 by omega) (by decide : (5 : Nat) < 2 ^ 31)
    have d0 : n / nr ^ m ≤ n := Nat.div_le_self _ _
    have s15 : s' 41 15 = nI nr := by rw [g1 41 (by decide)]; exact e2
    have md := p_modn (x := n / nr ^ m) (K := nr) (by omega) (by omega) (by omega)
    have dv : nI (n / nr ^ m) / nI nr = nI (n / nr ^ (m + 1)) := by rw [p_div (by omega) (by omega), Nat.div_div_eq_div_mul, ← Nat.pow_succ]
    have dg : n / nr ^ m % nr = dgt nr nb n b := by unfold dgt; rw [show nb - 1 - b = m by omega]
    rw [dg] at md
    have db := dK b
    obtain ⟨m1, m2, m3, m4⟩ := p_msk U g2 (dgt nr nb n b) (by omega)
    obtain ⟨Q, hQ⟩ : ∃ Q, g_upd s' 67 b (nI (dgt nr nb n b)) = Q := ⟨_, rfl⟩
    have q67 : Q 67 b = nI (dgt nr nb n b) := by rw [← hQ, g_upd_get, if_pos ⟨rfl, rfl⟩]
    have qn : ∀ c, c ≠ 67 → Q c = s c := fun c a => by rw [← hQ, g_upd_ne a, g1 c a]
    have ei : (6 : Int32) * nI b + nI (dgt nr nb n b) = nI (6 * b + dgt nr nb n b) := by rw [show (6 : Int32) = nI 6 from rfl, p_mul, p_add]
    have ci : (nI (6 * b + dgt nr nb n b)).toNatClampNeg = 6 * b + dgt nr nb n b := nI_clamp (by omega)
    have bi := p_inb (show 6 * b + dgt nr nb n b < 30 by omega) (by decide : (30 : Nat) < 2 ^ 31)
    have w69 : Q 69 (6 * b + dgt nr nb n b) = nI (wl b (dgt nr nb n b)) := by rw [qn 69 (by decide)]; exact hw b _ (by omega) db
    have w99 := h1 b _ (show b < nb by omega) db
    have e0 : x_X9_lengthsBy_L15 (fuel + 1) (nI (n / nr ^ m)) (nI U) (nI (cs wl nr (dgt nr nb n) m (nb - m))) (nI (nb - m) - 1) s' = if ((nI U >>> (nI (dgt nr nb n b) &&& 31)) &&& 1) = 1 then some (-9, Q) else x_X9_lengthsBy_L15 fuel (nI (n / nr ^ (m + 1))) (nI (U ||| 2 ^ dgt nr nb n b)) (nI (cs wl nr (dgt nr nb n) (m + 1) (nb - (m + 1)))) (nI (nb - (m + 1)) - 1) Q := by
      rw [hb, show nb - (m + 1) = b by omega, p_pred, cs, if_pos db, x_X9_lengthsBy_L15, if_neg (nI_pos (by omega)), cb, s15, if_neg rz, if_pos b5, md, hQ, qn 41 (by decide), e2, if_neg rz, if_pos b5, q67, if_pos b5, ei, if_pos bi, ci, w69, if_pos (p_ge0 (by omega)), if_pos b5, if_pos b5, if_pos bi, m2, p_add, dv, show nI b + -1 = nI b - 1 by grind, Nat.add_comm (wl b (dgt nr nb n b))]
    show (∃ s'' v, x_X9_lengthsBy_L15 (fuel + 1) (nI (n / nr ^ m)) (nI U) (nI (cs wl nr (dgt nr nb n) m (nb - m))) (nI (nb - m) - 1) s' = some (v, s'') ∧ _) ∨ ∃ t : Nat × g_M, _ ∧ x_X9_lengthsBy_L15 (fuel + 1) (nI (n / nr ^ m)) (nI U) (nI (cs wl nr (dgt nr nb n) m (nb - m))) (nI (nb - m) - 1) s' = x_X9_lengthsBy_L15 fuel (nI (n / nr ^ (m + 1))) (nI t.1) (nI (cs wl nr (dgt nr nb n) (m + 1) (nb - (m + 1)))) (nI (nb - (m + 1)) - 1) t.2
    rw [e0]
    by_cases z : U.testBit (dgt nr nb n b) = true
    · left
      refine ⟨Q, -9, by rw [if_pos (m4.mpr z)], qn, Or.inr ⟨fun q => ?_, rfl⟩⟩
      obtain ⟨j, j1, j2, j3⟩ := (g3 _).mp z
      exact (fe.mp q).2 b j (by omega) j1 j3.symm
    · right
      refine ⟨(U ||| 2 ^ dgt nr nb n b, Q), ⟨qn, m3, fun x => ?_, fun i j a c d => ?_, fun b' a c => ?_⟩, by rw [if_neg (fun q => z (m4.mp q))]⟩
      · dsimp only
        rw [Nat.testBit_or, Nat.testBit_two_pow, Bool.or_eq_true, g3, decide_eq_true_eq]
        constructor
        · rintro (⟨j, a, c, d⟩ | q)
          · exact ⟨j, a, by omega, d⟩
          · exact ⟨b, by omega, by omega, q⟩
        · rintro ⟨j, a, c, d⟩
          by_cases y : j = b
          · subst y; exact Or.inr d
          · exact Or.inl ⟨j, a, by omega, d⟩
      · by_cases y : i = b
        · subst y
          exact fun q => z ((g3 _).mpr ⟨j, c, by omega, q.symm⟩)
        · exact g4 i j a c (by omega)
      · show Q 67 b' = _
        by_cases y : b' = b
        · subst y; exact q67
        · rw [← hQ, g_upd_get, if_neg (fun q => y q.2)]
          exact g5 b' a (by omega)
theorem cs_SS2 {wl : Nat → Nat → Nat} {c : Nat → Nat → Int} {nb nr : Nat} (h : ∀ b r, b < nb → r < nr → c b r = (wl b r : Int)) {way : Nat → Nat} (no : Int) : ∀ k a, a + k = nb → (∀ i, i < k → way (a + i) < nr) → SS c nr no way k a = (cs wl nr way k a : Int) := by
  intro k
  induction k with
  | zero => intro a _ _; rfl
  | succ k ih =>
    intro a ha hw
    have w0 := hw 0 (by omega)
    rw [Nat.add_zero] at w0
    rw [SS, cs, ih (a + 1) (by omega) (fun i hi => by have := hw (i + 1) (by omega); rw [show a + 1 + i = a + (i + 1) by omega]; exact this), if_pos w0, if_pos w0, h a _ (by omega) w0]
    omega
theorem op_cheapest (w : Int32) : opOK (x_X8_cheapest w) (x_X9_cheapest w) := by
  intro M h
  by_cases w2 : 0 ≤ w ∧ w < 2
  rotate_left
  · have w3 : ¬ (0 ≤ w ∧ w ≤ 1) := fun q => w2 ⟨q.1, by have := q.2; grind⟩
    exact op_ref h (k := 2) (r := -nI 2) (by decide) (by simp [x_X8_cheapest, px_isOneOf, w2, n2, px_refused]) (fun M1 hc => by simp [x_X9_cheapest, x_X9_cheapest_L27, py_isIn, w3, n2, nz2, py_no])
  have w3 : 0 ≤ w ∧ w ≤ 1 := ⟨w2.1, by have := w2.2; grind⟩
  obtain ⟨nr, nb, hnr, hnb, f1, f2, f3, f4, hr, hbt⟩ := inv_B h
  by_cases b0 : nb = 0
  · subst b0
    have f3' : M 1 6 = 0 := f3
    have f4' : M 41 16 = 0 := f4
    exact op_ref h (k := 3) (r := -nI 3) (by decide) (by simp [x_X8_cheapest, px_isOneOf, w2, f3', n3, px_refused]) (fun M1 hc => by simp [x_X9_cheapest, x_X9_cheapest_L27, py_isIn, w3, hc 41 (by decide), f4', n3, nz3, py_no])
  have hr0 : 1 ≤ nr := by
    obtain ⟨r, hr, -⟩ := (hbt 0 (by omega)).2.1
    omega
  have T := inv_T h
  have hB : ∀ b, b < nb → okR M b ∧ okB (rb M b) := fun b hb => ⟨okR_of hnr (hbt b hb).2.1 (hbt b hb).2.2.1, (hbt b hb).2.2.2⟩
  have wl99 : ∀ b r, b < nb → r < nr → wlC M b r ≤ 99 := fun b r hb hr => by
    have := sL_79 (Br_ok h (hB b hb).2 f2 hr hnr) T.2
    unfold wlC
    omega
  have cw' : ∀ b r, b < nb → r < nr → cC M nb nr b r = (wlC M b r : Int) := fun b r hb hr => if_pos ⟨hb, hr⟩
  have cb : ∀ b r, 0 ≤ cC M nb nr b r ∧ cC M nb nr b r ≤ 99 := fun b r => by
    unfold cC
    split
    · rename_i q
      have := wl99 b r q.1 q.2
      omega
    · omega
  have hc6 : ∀ b r, -1000000 ≤ cC M nb nr b r ∧ cC M nb nr b r ≤ 1000000 := fun b r => by have := cb b r; omega
  have hd6 := dp_b (nr := nr) hc6 (no := 1000000) (by omega) nb 0 0
  have cle : ∀ k a U, 0 ≤ dp (cC M nb nr) nr 1000000 k a U := by
    intro k
    induction k with
    | zero => intro a U; exact Int.le_refl _
    | succ k ih =>
      intro a U
      show 0 ≤ mnf _ _ _
      rcases mnf_ex (cwf (cC M nb nr a) (dp (cC M nb nr) nr 1000000 k (a + 1)) U) (1000000 + dp (cC M nb nr) nr 1000000 k (a + 1) U) nr with q | ⟨r, hr, q⟩
      · rw [q]
        have := ih (a + 1) U
        omega
      · rw [q]
        have := ih (a + 1) (U ||| 2 ^ r)
        have := cb a r
        unfold cwf
        split <;> omega
  obtain ⟨s, r, x1, x4, x5⟩ := px_cheapC h w hnr hnb f1 f2 f3 (fun b hb => (hB b hb).2) hc6 (by omega)
  have nz : ¬ nI nb = (0 : Int32) := fun q => b0 ((p_eq (a := nb) (b := 0) (by omega) (by decide)).mp q)
  have g2 : x_X8_isOneOf w 2 M = some (1, M) := by rw [px_isOneOf, if_pos w2]
  have hx : x_X8_cheapest w M = some (r, s) := by
    rw [x_X8_cheapest]
    refine (bnd g2 _).trans ?_
    dsimp only
    rw [if_neg (by decide)]
    refine Eq.trans (if_neg (by rw [f3]; exact nz)) ?_
    exact x4
  refine op_ask h hx (sc5_scr x1) fun h1 hc => ?_
  have rr := rb_eq hc
  have e1' : s 41 16 = nI nb := by rw [hc 41 (by decide)]; exact f4
  have e2' : s 41 15 = nI nr := by rw [hc 41 (by decide)]; exact f2
  have hB' : ∀ b, b < nb → okR s b ∧ okB (rb s b) := fun b hb => ⟨by unfold okR; rw [hc 50 (by decide), hc 51 (by decide)]; exact (hB b hb).1, by rw [rr]; exact (hB b hb).2⟩
  obtain ⟨N, y1, y2, y3⟩ := py_findLeast h1 hnr hnb e1' e2' hB'
  have wle : wlC s = wlC M := by
    funext b r
    unfold wlC Br
    rw [rr, hc 45 (by decide), hc 46 (by decide), hc 43 (by decide)]
  rw [wle] at y3
  have Ne1 : N 41 16 = nI nb := by rw [y2 41 (by decide)]; exact e1'
  have Ne2 : N 41 15 = nI nr := by rw [y2 41 (by decide)]; exact e2'
  have all : nr ^ nb ≤ 7776 := Nat.le_trans (Nat.pow_le_pow_left hnr nb) (Nat.pow_le_pow_right (by decide) hnb)
  have dK : ∀ n b, dgt nr nb n b < nr := fun n b => Nat.mod_lt _ (by omega)
  have low := fun way (hF : FE nr way nb 0 0) => dp_le (c := cC M nb nr) (no := 1000000) (way := way) nb 0 0 hF
  have ss : ∀ n, SS (cC M nb nr) nr 1000000 (dgt nr nb n) nb 0 = (cs (wlC M) nr (dgt nr nb n) nb 0 : Int) := fun n => cs_SS2 cw' 1000000 nb 0 (by omega) (fun i _ => dK n _)
  have c495 : ∀ way, cs (wlC M) nr way nb 0 ≤ 495 := fun way => by
    have := cs_99 wl99 way nb 0 (by omega)
    omega
  have scan : ∃ s', x_X9_cheapest_L80 g_F w (nI (nr ^ nb)) (-9) (-9) 0 N = some (r, s') ∧ ∀ c, c ≠ 67 → s' c = N c := by
    by_cases feas : dp (cC M nb nr) nr 1000000 nb 0 0 < 1000000
    · have ok := wy_ok (c := cC M nb nr) (nr := nr) (K := nr) (no := 1000000) (Or.inl rfl) (fun k a U r q => by have := cb a r; omega) (fun k a U q => by have := cle k (a + 1) U; omega) nb 0 0 feas
      obtain ⟨o1, o2, o3, o4⟩ := ok
      rw [if_pos feas] at x5
      simp only [Nat.zero_add] at o3
      rw [cs_SS2 cw' 1000000 nb 0 (by omega) (fun i hi => by rw [Nat.zero_add]; exact o3 i hi)] at o2
      have v5 := c495 (wy (cC M nb nr) nr 1000000 nb 0 0)
      generalize hwy : wy (cC M nb nr) nr 1000000 nb 0 0 = wa at *
      generalize hV : cs (wlC M) nr wa nb 0 = V at *
      rw [← o2] at o4 low x5
      have nst : num nr wa nb 0 < nr ^ nb := num_lt nb 0 (fun i hi => by rw [Nat.zero_add]; exact o3 i hi)
      generalize hn : num nr wa nb 0 = ns at *
      have dd : ∀ n, n < nr ^ nb → num nr (dgt nr nb n) nb 0 = n := fun n hn => by rw [num_dgt nb 0 (by omega), Nat.mod_eq_of_lt hn]
      have best : ∀ n, n < nr ^ nb → FE nr (dgt nr nb n) nb 0 0 → V ≤ cs (wlC M) nr (dgt nr nb n) nb 0 ∧ (n < ns → V < cs (wlC M) nr (dgt nr nb n) nb 0) := by
        intro n hn2 hF
        have l := low _ hF
        rw [ss n] at l
        refine ⟨by omega, fun q => ?_⟩
        by_cases z : V < cs (wlC M) nr (dgt nr nb n) nb 0
        · exact z
        · have := o4 (dgt nr nb n) (fun i _ => dK n _) hF (by rw [ss n]; omega)
          rw [dd n hn2] at this
          omega
      have ways : ∀ b, b < nb → dgt nr nb ns b = wa b := fun b hb => by
        have := num_inj (K := nr) (w := dgt nr nb ns) (w' := wa) nb 0 (fun i _ => dK ns _) (fun i hi => by rw [Nat.zero_add]; exact o3 i hi) (by rw [dd ns nst, hn]) b hb
        rw [Nat.zero_add] at this
        exact this
      have FEs : FE nr (dgt nr nb ns) nb 0 0 ∧ cs (wlC M) nr (dgt nr nb ns) nb 0 = V := by
        have key : ∀ k a U, a + k = nb → (FE nr (dgt nr nb ns) k a U ↔ FE nr wa k a U) ∧ cs (wlC M) nr (dgt nr nb ns) k a = cs (wlC M) nr wa k a := by
          intro k
          induction k with
          | zero => intro a U _; exact ⟨Iff.rfl, rfl⟩
          | succ k ih =>
            intro a U hk
            rw [FE, FE, cs, cs, ways a (by omega), (ih (a + 1) (nx nr U (wa a)) (by omega)).1, (ih (a + 1) 0 (by omega)).2]
            exact ⟨Iff.rfl, rfl⟩
        have k := key nb 0 0 (by omega)
        exact ⟨k.1.mpr o1, by rw [k.2, hV]⟩
      have rdw : rd nr (dgt nr nb ns) nb 0 = rd nr wa nb 0 := rd_cg nb 0 (fun i hi => by rw [Nat.zero_add]; exact ways i hi)
      refine p_loop0 (n := nr ^ nb) (F := fun i fuel (t : Int32 × Int32 × g_M) => x_X9_cheapest_L80 fuel w (nI (nr ^ nb)) t.1 t.2.1 (nI i) t.2.2) (I := fun i t => (∀ c, c ≠ 67 → t.2.2 c = N c) ∧ (i ≤ ns → t.1 = -9 ∨ ∃ m, V < m ∧ m ≤ 495 ∧ t.1 = nI m) ∧ (ns < i → t.1 = nI V ∧ t.2.1 = nI (rd nr wa nb 0))) (R := fun x => ∃ s', x = some (r, s') ∧ ∀ c, c ≠ 67 → s' c = N c) (s := ((-9 : Int32), (-9 : Int32), N)) (by omega) ⟨fun _ _ => rfl, fun _ => Or.inl rfl, fun q => absurd q (by omega)⟩ ?_ ?_
      · rintro ⟨le, be, s'⟩ fuel ⟨g1, g2, g3⟩
        obtain ⟨q1, q2⟩ := g3 (by omega)
        refine ⟨s', ?_, g1⟩
        dsimp only at q1 q2 g1
        show x_X9_cheapest_L80 (fuel + 1) w _ le be (nI (nr ^ nb)) s' = _
        rw [x_X9_cheapest_L80, if_pos (Int32.le_refl _), q1, q2, x5, ← zI_n (by omega)]
        split <;> rfl
      · rintro i ⟨le, be, s'⟩ fuel hi ⟨g1, g2, g3⟩
        right
        dsimp only at g1 g2 g3
        have se1 : s' 41 16 = nI nb := by rw [g1 41 (by decide)]; exact Ne1
        have se2 : s' 41 15 = nI nr := by rw [g1 41 (by decide)]; exact Ne2
        obtain ⟨t, v, k1, k2, k4⟩ := py_lengthsBy (s := s') (wl := wlC M) hr0 hnr hnb se1 se2 (fun b r a c => by rw [g1 69 (by decide)]; exact y3 b r a c) wl99 (show i < 20000 by omega)
        have te1 : t 41 16 = nI nb := by rw [k2 41 (by decide)]; exact se1
        have upd : ∀ k80 : Int32 → Int32 → Int32 → Int32 → Int32 → g_M → Option (Int32 × g_M), (∀ b, b < nb → t 67 b = nI (dgt nr nb i b)) → x_X9_cheapest_L114 k80 w (nI (nr ^ nb)) (nI i) v t = k80 w (nI (nr ^ nb)) v (nI (rd nr (dgt nr nb i) nb 0)) (nI (i + 1)) t := by
          intro k80 h67
          rw [x_X9_cheapest_L114, te1, show x_X9_cheapest_L129 k80 g_F w (nI (nr ^ nb)) v 0 (nI i) (nI nb - 1) t = x_X9_cheapest_L129 k80 g_F w (nI (nr ^ nb)) v (nI (rd nr (dgt nr nb i) 0 (nb - 0))) (nI i) (nI (nb - 0) - 1) t by rw [Nat.sub_zero]; rfl]
          refine p_loop0 (n := nb) (F := fun m fuel (_ : Unit) => x_X9_cheapest_L129 k80 fuel w (nI (nr ^ nb)) v (nI (rd nr (dgt nr nb i) m (nb - m))) (nI i) (nI (nb - m) - 1) t) (I := fun _ _ => True) (R := fun x => x = k80 w (nI (nr ^ nb)) v (nI (rd nr (dgt nr nb i) nb 0)) (nI (i + 1)) t) (s := ()) (by omega) trivial ?_ ?_
          · intro _ fuel _
            show x_X9_cheapest_L129 k80 (fuel + 1) _ _ _ (nI (rd nr (dgt nr nb i) nb (nb - nb))) _ (nI (nb - nb) - 1) t = _
            rw [Nat.sub_self, x_X9_cheapest_L129, if_pos (by decide), nI_succ]
          · intro m _ fuel hm _
            right
            refine ⟨(), trivial, ?_⟩
            show x_X9_cheapest_L129 k80 (fuel + 1) _ _ _ (nI (rd nr (dgt nr nb i) m (nb - m))) _ (nI (nb - m) - 1) t = x_X9_cheapest_L129 k80 fuel _ _ _ (nI (rd nr (dgt nr nb i) (m + 1) (nb - (m + 1)))) _ (nI (nb - (m + 1)) - 1) t
            obtain ⟨b, hb⟩ : ∃ b, nb - m = b + 1 := ⟨nb - m - 1, by omega⟩
            have cb : (nI b).toNatClampNeg = b := nI_clamp (by omega)
            have b5 := p_inb (show b < 5 by omega) (by decide : (5 : Nat) < 2 ^ 31)
            rw [hb, show nb - (m + 1) = b by omega, p_pred, rd, if_pos (dK i b), x_X9_cheapest_L129, if_neg (nI_pos (by omega)), if_pos b5, cb, h67 b (by omega), show (10 : Int32) = nI 10 from rfl, p_mul, p_add, show nI b + -1 = nI b - 1 by grind, Nat.add_comm]
        have e0 : x_X9_cheapest_L80 (fuel + 1) w (nI (nr ^ nb)) le be (nI i) s' = if v < 0 then x_X9_cheapest_L80 fuel w (nI (nr ^ nb)) le be (nI (i + 1)) t else if le < 0 then x_X9_cheapest_L114 (x_X9_cheapest_L80 fuel) w (nI (nr ^ nb)) (nI i) v t else if v < le then x_X9_cheapest_L114 (x_X9_cheapest_L80 fuel) w (nI (nr ^ nb)) (nI i) v t else x_X9_cheapest_L80 fuel w (nI (nr ^ nb)) le be (nI (i + 1)) t := by
          rw [x_X9_cheapest_L80, if_neg (show ¬ nI (nr ^ nb) ≤ nI i from nI_ge hi (by omega))]
          refine (bnd k1 _).trans ?_
          dsimp only
          rw [nI_succ i]
        show ∃ t' : Int32 × Int32 × g_M, _ ∧ x_X9_cheapest_L80 (fuel + 1) w (nI (nr ^ nb)) le be (nI i) s' = x_X9_cheapest_L80 fuel w (nI (nr ^ nb)) t'.1 t'.2.1 (nI (i + 1)) t'.2.2
        rw [e0]
        have fr : ∀ c, c ≠ 67 → t c = N c := fun c a => by rw [k2 c a, g1 c a]
        rcases k4 with ⟨q1, q2, q3⟩ | ⟨q1, q2⟩
        · have c5 := c495 (dgt nr nb i)
          have bst := best i hi q1
          have v0 : ¬ v < 0 := by rw [q2]; exact nI_pos (by omega)
          rw [if_neg v0]
          have doit : (i ≤ ns) → ∃ t' : Int32 × Int32 × g_M, ((∀ c, c ≠ 67 → t'.2.2 c = N c) ∧ (i + 1 ≤ ns → t'.1 = -9 ∨ ∃ m, V < m ∧ m ≤ 495 ∧ t'.1 = nI m) ∧ (ns < i + 1 → t'.1 = nI V ∧ t'.2.1 = nI (rd nr wa nb 0))) ∧ x_X9_cheapest_L114 (x_X9_cheapest_L80 fuel) w (nI (nr ^ nb)) (nI i) v t = x_X9_cheapest_L80 fuel w (nI (nr ^ nb)) t'.1 t'.2.1 (nI (i + 1)) t'.2.2 := by
            intro le'
            refine ⟨(v, nI (rd nr (dgt nr nb i) nb 0), t), ⟨fr, fun q => Or.inr ⟨_, bst.2 (by omega), c5, q2⟩, fun q => ?_⟩, upd _ q3⟩
            obtain rfl : i = ns := by omega
            exact ⟨by show v = _; rw [q2, FEs.2], by show nI _ = _; rw [rdw]⟩
          by_cases y : i ≤ ns
          · rcases g2 y with g | ⟨m, hm, hm2, g⟩
            · rw [if_pos (by rw [g]; decide)]
              exact doit y
            · have l0 : ¬ le < 0 := by rw [g]; exact nI_pos (by omega)
              rw [if_neg l0]
              by_cases z : v < le
              · rw [if_pos z]
                exact doit y
              · rw [if_neg z]
                refine ⟨(le, be, t), ⟨fr, fun q => Or.inr ⟨m, hm, hm2, g⟩, fun q => ?_⟩, rfl⟩
                exfalso
                obtain rfl : i = ns := by omega
                rw [q2, FEs.2, g, p_lt (by omega) (by omega)] at z
                exact z hm
          · have g := g3 (by omega)
            have l0 : ¬ le < 0 := by rw [g.1]; exact nI_pos (by omega)
            have z : ¬ v < le := by
              rw [q2, g.1, p_lt (by omega) (by omega)]
              omega
            rw [if_neg l0, if_neg z]
            exact ⟨(le, be, t), ⟨fr, fun q => absurd q (by omega), fun _ => g⟩, rfl⟩
        · rw [if_pos (by rw [q2]; decide)]
          refine ⟨(le, be, t), ⟨fr, fun q => g2 (by omega), fun q => ?_⟩, rfl⟩
          by_cases y : i = ns
          · rw [y] at q1
            exact absurd FEs.1 q1
          · exact g3 (by omega)
    · rw [if_neg feas] at x5
      have no : ∀ n, ¬ FE nr (dgt nr nb n) nb 0 0 := fun n hF => by
        have l := low _ hF
        rw [ss n] at l
        have := c495 (dgt nr nb n)
        omega
      refine p_loop0 (n := nr ^ nb) (F := fun i fuel s => x_X9_cheapest_L80 fuel w (nI (nr ^ nb)) (-9) (-9) (nI i) s) (I := fun _ s => ∀ c, c ≠ 67 → s c = N c) (R := fun x => ∃ s', x = some (r, s') ∧ ∀ c, c ≠ 67 → s' c = N c) (s := N) (by omega) (fun _ _ => rfl) ?_ ?_
      · intro s' fuel g1
        refine ⟨s', ?_, g1⟩
        show x_X9_cheapest_L80 (fuel + 1) w _ _ _ (nI (nr ^ nb)) s' = _
        rw [x_X9_cheapest_L80, if_pos (Int32.le_refl _), x5]
        split <;> rfl
      · intro i s' fuel hi g1
        right
        obtain ⟨t, v, k1, k2, k4⟩ := py_lengthsBy (s := s') (wl := wlC M) hr0 hnr hnb (by rw [g1 41 (by decide)]; exact Ne1) (by rw [g1 41 (by decide)]; exact Ne2) (fun b r a c => by rw [g1 69 (by decide)]; exact y3 b r a c) wl99 (show i < 20000 by omega)
        refine ⟨t, fun c a => by rw [k2 c a, g1 c a], ?_⟩
        show x_X9_cheapest_L80 (fuel + 1) w _ _ _ (nI i) s' = x_X9_cheapest_L80 fuel w _ _ _ (nI (i + 1)) t
        rw [x_X9_cheapest_L80, if_neg (show ¬ nI (nr ^ nb) ≤ nI i from nI_ge hi (by omega)), nI_succ i]
        refine (bnd k1 _).trans ?_
        dsimp only
        rcases k4 with ⟨q1, -⟩ | ⟨q1, q2⟩
        · exact absurd q1 (no i)
        · rw [q2, if_pos (by decide)]
  obtain ⟨s', z1, z2⟩ := scan
  have core : ∀ c, c ≠ 67 → c ≠ 69 → s' c = s c := fun c a d => by rw [z2 c a, y2 c d]
  refine ⟨s', ?_, fun c a => core c (by omega) (by omega), fun c a b => core c (by omega) (by omega), fun i _ _ _ _ => by rw [core 41 (by decide) (by decide)], fun c a b => core c (by omega) (by omega), fun i _ => by rw [core 61 (by decide) (by decide)], fun c a b => core c (by omega) (by omega)⟩
  have g3 : x_X9_isIn w 0 1 s = some (1, s) := by rw [py_isIn, if_pos w3]
  rw [x_X9_cheapest]
  refine (bnd g3 _).trans ?_
  dsimp only
  rw [if_neg (by decide)]
  refine Eq.trans (if_neg (by rw [e1']; exact nz)) ?_
  rw [x_X9_cheapest_L27, if_pos rfl]
  refine (bnd y1 _).trans ?_
  dsimp only
  rw [show x_X9_cheapest_L47 g_F w 1 0 N = x_X9_cheapest_L47 g_F w (nI (nr ^ 0)) (nI 0) N by rw [Nat.pow_zero]; rfl]
  refine p_loop0 (n := nb) (F := fun i fuel (_ : Unit) => x_X9_cheapest_L47 fuel w (nI (nr ^ i)) (nI i) N) (I := fun _ _ => True) (R := fun x => x = some (r, s')) (s := ()) (by omega) trivial ?_ ?_
  · intro _ fuel _
    show x_X9_cheapest_L47 (fuel + 1) w _ (nI nb) N = _
    rw [x_X9_cheapest_L47, Ne1, if_pos (Int32.le_refl _)]
    exact z1
  · intro i _ fuel hi _
    right
    refine ⟨(), trivial, ?_⟩
    show x_X9_cheapest_L47 (fuel + 1) w (nI (nr ^ i)) (nI i) N = x_X9_cheapest_L47 fuel w (nI (nr ^ (i + 1))) (nI (i + 1)) N
    rw [x_X9_cheapest_L47, Ne1, if_neg (show ¬ nI nb ≤ nI i from nI_ge hi (by omega)), Ne2, p_mul, Nat.pow_succ, nI_succ i]
