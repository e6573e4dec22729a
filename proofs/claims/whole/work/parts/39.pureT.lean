/-! THE PURE PART. T: marks, hung -/
def cnt (p : Nat → Bool) : Nat → Nat
  | 0 => 0
  | n + 1 => if p n = true then cnt p n + 1 else cnt p n
theorem cnt_t {p : Nat → Bool} {n : Nat} (h : p n = true) : cnt p (n + 1) = cnt p n + 1 := by rw [cnt, if_pos h]
theorem cnt_f {p : Nat → Bool} {n : Nat} (h : ¬ p n = true) : cnt p (n + 1) = cnt p n := by rw [cnt, if_neg h]
theorem cnt_le (p : Nat → Bool) : ∀ n, cnt p n ≤ n := by
  intro n
  induction n with
  | zero => exact Nat.le_refl _
  | succ n ih => rw [cnt]; split <;> omega
theorem cnt_mono (p : Nat → Bool) {e : Nat} : ∀ n, e ≤ n → cnt p e ≤ cnt p n := by
  intro n
  induction n with
  | zero => intro h; obtain rfl : e = 0 := by omega
            exact Nat.le_refl _
  | succ n ih =>
    intro h
    by_cases z : e = n + 1
    · subst z; exact Nat.le_refl _
    · have := ih (by omega)
      rw [cnt]
      split <;> omega
theorem cnt_0 (p : Nat → Bool) : ∀ n, cnt p n = 0 ↔ ∀ j, j < n → p j = false := by
  intro n
  induction n with
  | zero => exact ⟨fun _ j h => absurd h (by omega), fun _ => rfl⟩
  | succ n ih =>
    by_cases q : p n = true
    · rw [cnt_t q]
      exact ⟨fun z => absurd z (by omega), fun z => by rw [z n (by omega)] at q; cases q⟩
    · rw [cnt_f q, ih]
      constructor
      · intro z j hj
        by_cases e : j = n
        · subst e; rwa [Bool.not_eq_true] at q
        · exact z j (by omega)
      · exact fun z j hj => z j (by omega)
theorem ff_snoc (p : Nat → Bool) (r : Nat → Int32) (d : Int32) (k : Nat) : ff p r d (k + 1) 0 = if cnt p k = 0 then (if p k = true then r k else d) else ff p r d k 0 := by
  by_cases q : cnt p k = 0
  · rw [if_pos q]
    have q2 := (cnt_0 p k).mp q
    rcases ff_spec p r d (k + 1) with ⟨i, h1, h2, h3, h4⟩ | ⟨h1, h2⟩
    · have : i = k := by
        by_cases e : i = k
        · exact e
        · rw [q2 i (by omega)] at h2; cases h2
      subst this
      rw [h4, if_pos h2]
    · rw [h2, if_neg (by rw [h1 k (by omega)]; decide)]
  · rw [if_neg q]
    rcases ff_spec p r d k with ⟨j, g1, g2, g3, g4⟩ | ⟨g1, g2⟩
    · rcases ff_spec p r d (k + 1) with ⟨i, h1, h2, h3, h4⟩ | ⟨h1, h2⟩
      · have : i = j := by
          rcases Nat.lt_trichotomy i j with z | z | z
          · rw [g3 i z] at h2; cases h2
          · exact z
          · rw [h3 j z] at g2; cases g2
        subst this
        rw [g4, h4]
      · rw [h1 j (by omega)] at g2; cases g2
    · exact absurd ((cnt_0 p k).mpr g1) q
theorem px_wrong (p v w : Int32) (M : g_M) : x_X8_wrongOfMarks p v w M = some (if 0 ≤ p ∧ p < M 1 6 then (if 0 ≤ v then (if v ≤ 4095 then (if 0 ≤ w ∧ w < 2 then 0 else -2) else -6) else -4) else -1, M) := by
  rw [x_X8_wrongOfMarks]
  refine (bnd (px_hasBoat 1 p M) _).trans ?_
  dsimp only
  by_cases h1 : 0 ≤ p ∧ p < M 1 6
  · rw [if_pos h1, if_pos h1, if_neg (by decide)]
    by_cases h2 : 0 ≤ v
    · rw [if_pos h2, if_pos h2]
      by_cases h3 : v ≤ 4095
      · rw [if_pos h3, if_pos h3]
        refine (bnd (px_isOneOf w 2 M) _).trans ?_
        dsimp only
        by_cases h4 : 0 ≤ w ∧ w < 2
        · rw [if_pos h4, if_neg (by decide), if_pos h4]
        · rw [if_neg h4, if_pos rfl, if_neg h4]
      · rw [if_neg h3, if_neg h3]
    · rw [if_neg h2, if_neg h2]
  · rw [if_neg h1, if_pos rfl, if_neg h1]
theorem e99 : nI 100 - 1 = (99 : Int32) := by decide
theorem p_pred {k : Nat} : nI (k + 1) - 1 = nI k := by rw [nI_succ]; grind
theorem p_predn {k : Nat} : nI (k + 1) + -1 = nI k := by rw [nI_succ]; grind
theorem op_marks (a v w : Int32) : opOK (x_X8_marks a v w) (x_X9_marks a v w) := by
  intro M h
  by_cases hp : 0 ≤ a ∧ a < M 1 6
  rotate_left
  · exact op_ref h (k := 1) (r := -nI 1) (by decide) (by simp [x_X8_marks, px_wrong, hp, n1, nz1, px_refused]) (fun M1 hc => by simp [x_X9_marks, x_X9_marks_L20, x_X9_marks_L40, noB h hp hc, n1, nz1, py_no])
  by_cases v0 : 0 ≤ v
  rotate_left
  · have hv : v < 0 := by rw [← Int32.not_le]; exact v0
    exact op_ref h (k := 4) (r := -nI 4) (by decide) (by simp [x_X8_marks, px_wrong, hp, v0, n4, nz4, px_refused]) (fun M1 hc => by simp [x_X9_marks, x_X9_marks_L20, x_X9_marks_L40, yesB h hp hc, py_bound, hv, n4, nz4, py_no])
  have hv : ¬ v < 0 := by rw [Int32.not_lt]; exact v0
  by_cases v4 : v ≤ 4095
  rotate_left
  · have hv2 : 4095 < v := by rw [← Int32.not_le]; exact v4
    exact op_ref h (k := 6) (r := -nI 6) (by decide) (by simp [x_X8_marks, px_wrong, hp, v0, v4, n6, nz6, px_refused]) (fun M1 hc => by simp [x_X9_marks, x_X9_marks_L20, x_X9_marks_L40, yesB h hp hc, py_bound, hv, hv2, n6, nz6, py_no])
  have hv2 : ¬ 4095 < v := by rw [Int32.not_lt]; exact v4
  by_cases w2 : 0 ≤ w ∧ w < 2
  rotate_left
  · have w3 : ¬ (0 ≤ w ∧ w ≤ 1) := fun q => w2 ⟨q.1, by have := q.2; grind⟩
    exact op_ref h (k := 2) (r := -nI 2) (by decide) (by simp [x_X8_marks, px_wrong, hp, v0, v4, w2, n2, nz2, px_refused]) (fun M1 hc => by simp [x_X9_marks, x_X9_marks_L20, x_X9_marks_L40, yesB h hp hc, py_bound, hv, hv2, py_isIn, w3, n2, nz2, py_no])
  have w3 : 0 ≤ w ∧ w ≤ 1 := ⟨w2.1, by have := w2.2; grind⟩
  obtain ⟨b, rfl, hb, hb1, hb2, hR, hB⟩ := bo h hp
  obtain ⟨M', e1, e2, e3, tt, T2⟩ := lxd h (q := 27) (by decide) hb1 hb
  let pp : Nat → Bool := fun i => decide (sHH (rb M b) (nI i) (M 43) = v)
  have pv : ∀ i, pp i = decide (sHH (rb M b) (nI i) (M 43) = v) := fun _ => rfl
  clear_value pp
  have lx : x_X8_marks_L44 g_F v w 0 (-9) 99 M' = some (if w = 0 then nI (cnt pp 100) else ff pp nI (-9) 100 0, M') := by
    rw [show x_X8_marks_L44 g_F v w 0 (-9) 99 M' = x_X8_marks_L44 g_F v w (nI (cnt pp 100 - cnt pp (100 - 0))) (ff pp nI (-9) 0 (100 - 0)) (nI (100 - 0) - 1) M' by rw [Nat.sub_zero, Nat.sub_self, e99]; rfl]
    refine p_loop0 (n := 100) (F := fun m fuel (_ : Unit) => x_X8_marks_L44 fuel v w (nI (cnt pp 100 - cnt pp (100 - m))) (ff pp nI (-9) m (100 - m)) (nI (100 - m) - 1) M') (I := fun _ _ => True) (R := fun r => r = some (if w = 0 then nI (cnt pp 100) else ff pp nI (-9) 100 0, M')) (s := ()) (by decide) trivial ?_ ?_
    · intro _ fuel _
      show x_X8_marks_L44 (fuel + 1) v w (nI (cnt pp 100 - cnt pp (100 - 100))) (ff pp nI (-9) 100 (100 - 100)) (nI (100 - 100) - 1) M' = _
      rw [Nat.sub_self, x_X8_marks_L44, if_pos (by decide)]
      show (if w = 0 then some (nI (cnt pp 100 - 0), M') else some (ff pp nI (-9) 100 0, M')) = _
      rw [Nat.sub_zero]
      split <;> rfl
    · intro m _ fuel hm _
      right
      refine ⟨(), trivial, ?_⟩
      show x_X8_marks_L44 (fuel + 1) v w (nI (cnt pp 100 - cnt pp (100 - m))) (ff pp nI (-9) m (100 - m)) (nI (100 - m) - 1) M' = x_X8_marks_L44 fuel v w (nI (cnt pp 100 - cnt pp (100 - (m + 1)))) (ff pp nI (-9) (m + 1) (100 - (m + 1))) (nI (100 - (m + 1)) - 1) M'
      generalize hi : 100 - (m + 1) = i
      rw [show 100 - m = i + 1 by omega, p_pred, x_X8_marks_L44, if_neg (nI_pos (by omega))]
      refine (bnd (px_hangW e2 _) _).trans ?_
      dsimp only
      rw [sHH_cg tt, ff, show nI i + -1 = nI i - 1 by grind]
      have mo := cnt_mono pp (e := i + 1) 100 (by omega)
      by_cases q : sHH (rb M b) (nI i) (M 43) = v
      · have q4 : pp i = true := by rw [pv]; simpa using q
        rw [cnt_t q4] at mo ⊢
        rw [if_pos q, if_pos q4, ← nI_succ]
        congr 2
        omega
      · have q4 : ¬ pp i = true := by rw [pv]; simpa using q
        rw [if_neg q, if_neg q4, cnt_f q4]
  have hx : x_X8_marks (nI b) v w M = some (if w = 0 then nI (cnt pp 100) else ff pp nI (-9) 100 0, M') := by
    rw [x_X8_marks]
    refine (bnd (px_wrong (nI b) v w M) _).trans ?_
    dsimp only
    rw [if_pos hp, if_pos v0, if_pos v4, if_pos w2, if_pos rfl]
    refine (bnd e1 _).trans ?_
    exact lx
  refine op_ask h hx (ld_scr (Or.inl rfl) e3) fun h1 hc => ⟨M', ?_, coreEq_rf _⟩
  obtain ⟨r1, r2, r3, r4, r5, r6⟩ := rby h hc hb2 hb hR hB
  have g0 : x_X9_bound v 0 4095 M' = some (0, M') := by rw [py_bound, if_neg hv, if_neg hv2]
  have g1 : x_X9_isIn w 0 1 M' = some (1, M') := by rw [py_isIn, if_pos w3]
  rw [x_X9_marks]
  refine (bnd r6 _).trans ?_
  dsimp only
  rw [if_neg (by decide)]
  refine (bnd g0 _).trans ?_
  dsimp only
  rw [x_X9_marks_L20, if_pos rfl]
  refine (bnd g1 _).trans ?_
  dsimp only
  rw [if_neg (by decide), x_X9_marks_L40, if_pos rfl]
  rw [show x_X9_marks_L62 g_F (nI b) v w 0 (-9) 0 M' = x_X9_marks_L62 g_F (nI b) v w (nI (cnt pp 0)) (ff pp nI (-9) 0 0) (nI 0) M' by rfl]
  refine p_loop0 (n := 100) (F := fun m fuel (_ : Unit) => x_X9_marks_L62 fuel (nI b) v w (nI (cnt pp m)) (ff pp nI (-9) m 0) (nI m) M') (I := fun _ _ => True) (R := fun r => r = some (if w = 0 then nI (cnt pp 100) else ff pp nI (-9) 100 0, M')) (s := ()) (by decide) trivial ?_ ?_
  · intro _ fuel _
    show x_X9_marks_L62 (fuel + 1) _ _ _ _ _ (nI 100) M' = _
    rw [x_X9_marks_L62, if_pos (by decide)]
    split <;> rfl
  · intro i _ fuel hi _
    right
    refine ⟨(), trivial, ?_⟩
    show x_X9_marks_L62 (fuel + 1) _ _ _ (nI (cnt pp i)) (ff pp nI (-9) i 0) (nI i) M' = x_X9_marks_L62 fuel _ _ _ (nI (cnt pp (i + 1))) (ff pp nI (-9) (i + 1) 0) (nI (i + 1)) M'
    have g : ¬ (99 : Int32) < nI i := fun q => by
      have := (p_lt (a := 99) (by decide) (by omega)).mp q
      omega
    rw [x_X9_marks_L62, if_neg g]
    refine (bnd (py_hangH hb r1 r2 r3 _) _).trans ?_
    dsimp only
    rw [r4, r5, ff_snoc, nI_succ i]
    have cl := cnt_le pp i
    have c0 : nI (cnt pp i) = 0 ↔ cnt pp i = 0 := p_eq (a := cnt pp i) (b := 0) (by omega) (by decide)
    by_cases q : sHH (rb M b) (nI i) (M 43) = v
    · have q4 : pp i = true := by rw [pv]; simpa using q
      rw [if_pos q, cnt_t q4, nI_succ]
      by_cases z : cnt pp i = 0
      · rw [if_pos (c0.mpr z), if_pos z, if_pos q4]
      · rw [if_neg (fun y => z (c0.mp y)), if_neg z]
    · have q4 : ¬ pp i = true := by rw [pv]; simpa using q
      rw [if_neg q, cnt_f q4]
      by_cases z : cnt pp i = 0
      · rw [if_pos z, if_neg q4]
        congr 1
        rcases ff_spec pp nI (-9) i with ⟨j, g1, g2, g3, g4⟩ | ⟨g1, g2⟩
        · rw [(cnt_0 pp i).mp z j g1] at g2; cases g2
        · exact g2
      · rw [if_neg z]
/-! a boat at another RING -/
def Br (B : Nat → Int32) (M : g_M) (r : Nat) : Nat → Int32 := fun j => if j = 2 then M 45 r else if j = 3 then M 46 r else B j
theorem Br_ok {M : g_M} (h : inv M) {B : Nat → Int32} (hB : okB B) {nr r : Nat} (e : M 41 15 = nI nr) (hr : r < nr) (hnr : nr ≤ 6) : okB (Br B M r) := by
  obtain ⟨nr', nb, q1, q2, e1, e2, e3, e4, hr', hbt⟩ := inv_B h
  have en : nr' = nr := (p_eq (by omega) (by omega)).mp (by rw [← e2, e])
  subst en
  obtain ⟨-, -, p1, p2⟩ := hr' r hr
  obtain ⟨a1, a2, a3, a4, a5, a6, a7, a8, a9⟩ := hB
  exact ⟨a1, a2, a3, a4, p1.1, p1.2, p2.1, p2.2, a9⟩
theorem sld_move {M s : g_M} (hi : inv M) (h : sc M s) {B : Nat → Int32} (hm : isM 27 s B) {nr r : Nat} (e : M 41 15 = nI nr) (hr : r < nr) (hnr : nr ≤ 6) : ∃ s', x_X5_moveTo 27 1 (nI r) s = some (0, s') ∧ isM 27 s' (Br B M r) ∧ (∀ c, c ≠ 27 → s' c = s c) := by
  obtain ⟨nr', nb, q1, q2, e1, e2, e3, e4, hr', hbt⟩ := inv_B hi
  have en : nr' = nr := (p_eq (by omega) (by omega)).mp (by rw [← e2, e])
  subst en
  obtain ⟨p1, p2, -⟩ := hr' r hr
  have s4 : s 4 = M 4 := h 4 (by decide) (by decide)
  refine ⟨g_upd (g_upd s 27 2 (M 45 r)) 27 3 (M 46 r), ?_, fun j hj => ?_, fun c hc => by rw [g_upd_ne hc, g_upd_ne hc]⟩
  · rw [x_X5_moveTo]
    refine (bnd (px_ringCell 1 r 0 (by omega) (by decide) s) _).trans ?_
    dsimp only
    refine (bnd (px_ringCell 1 r 1 (by omega) (by decide) _) _).trans ?_
    dsimp only
    rw [show s (1 + 3) (2 * r + 0) = M 45 r by rw [s4]; exact p1, g_upd_ne (show 1 + 3 ≠ 27 by decide), show s (1 + 3) (2 * r + 1) = M 46 r by rw [s4]; exact p2]
  · rw [g_upd_get, g_upd_get]
    unfold Br
    by_cases z3 : j = 3
    · subst z3; rfl
    · by_cases z2 : j = 2
      · subst z2; rfl
      · rw [if_neg (fun q => z3 q.2), if_neg (fun q => z2 q.2), if_neg z2, if_neg z3]
        exact hm j hj
theorem rb_ring (M : g_M) (b r : Nat) (hr : r < 2 ^ 31) : rb (g_upd M 50 b (nI r)) b = Br (rb M b) M r := by
  have c : (nI r).toNatClampNeg = r := nI_clamp hr
  funext j
  unfold rb Br
  by_cases z2 : j = 2
  · subst z2
    simp [g_upd_get, c]
  · by_cases z3 : j = 3
    · subst z3
      simp [g_upd_get, c]
    · simp [z2, z3, g_upd_get]
theorem okR_ring {M : g_M} {b r : Nat} (h : okR M b) (hr : r < 6) : okR (g_upd M 50 b (nI r)) b := ⟨⟨r, hr, by simp [g_upd_get]⟩, by rw [g_upd_ne (by decide)]; exact h.2⟩
theorem upd_back {M : g_M} {c i : Nat} {v : Int32} : g_upd (g_upd M c i v) c i (M c i) = M := by
  funext q j
  rw [g_upd_get, g_upd_get]
  by_cases z : q = c ∧ j = i
  · rw [if_pos z, z.1, z.2]
  · rw [if_neg z, if_neg z]
theorem upd_twice {M : g_M} {c i : Nat} {v w : Int32} : g_upd (g_upd M c i v) c i w = g_upd M c i w := by
  funext q j
  rw [g_upd_get, g_upd_get, g_upd_get]
  by_cases z : q = c ∧ j = i
  · rw [if_pos z, if_pos z]
  · rw [if_neg z, if_neg z, if_neg z]
theorem upd_same {M : g_M} {c i : Nat} {v : Int32} (h : M c i = v) : g_upd M c i v = M := by
  funext q j
  rw [g_upd_get]
  by_cases z : q = c ∧ j = i
  · rw [if_pos z, z.1, z.2, h]
  · rw [if_neg z]
theorem p_div100 : ∀ k, k < 600 → nI k / 100 = nI (k / 100) ∧ nI k - nI k / 100 * 100 = nI (k % 100) := by decide +kernel
theorem op_hung (a v w : Int32) : opOK (x_X8_hung a v w) (x_X9_hung a v w) := by
  intro M h
  by_cases hp : 0 ≤ a ∧ a < M 1 6
  rotate_left
  · exact op_ref h (k := 1) (r := -nI 1) (by decide) (by simp [x_X8_hung, px_wrong, hp, n1, nz1, px_refused]) (fun M1 hc => by simp [x_X9_hung, x_X9_hung_L20, x_X9_hung_L40, noB h hp hc, n1, nz1, py_no])
  by_cases v0 : 0 ≤ v
  rotate_left
  · have hv : v < 0 := by rw [← Int32.not_le]; exact v0
    exact op_ref h (k := 4) (r := -nI 4) (by decide) (by simp [x_X8_hung, px_wrong, hp, v0, n4, nz4, px_refused]) (fun M1 hc => by simp [x_X9_hung, x_X9_hung_L20, x_X9_hung_L40, yesB h hp hc, py_bound, hv, n4, nz4, py_no])
  have hv : ¬ v < 0 := by rw [Int32.not_lt]; exact v0
  by_cases v4 : v ≤ 4095
  rotate_left
  · have hv2 : 4095 < v := by rw [← Int32.not_le]; exact v4
    exact op_ref h (k := 6) (r := -nI 6) (by decide) (by simp [x_X8_hung, px_wrong, hp, v0, v4, n6, nz6, px_refused]) (fun M1 hc => by simp [x_X9_hung, x_X9_hung_L20, x_X9_hung_L40, yesB h hp hc, py_bound, hv, hv2, n6, nz6, py_no])
  have hv2 : ¬ 4095 < v := by rw [Int32.not_lt]; exact v4
  by_cases w2 : 0 ≤ w ∧ w < 2
  rotate_left
  · have w3 : ¬ (0 ≤ w ∧ w ≤ 1) := fun q => w2 ⟨q.1, by have := q.2; grind⟩
    exact op_ref h (k := 2) (r := -nI 2) (by decide) (by simp [x_X8_hung, px_wrong, hp, v0, v4, w2, n2, nz2, px_refused]) (fun M1 hc => by simp [x_X9_hung, x_X9_hung_L20, x_X9_hung_L40, yesB h hp hc, py_bound, hv, hv2, py_isIn, w3, n2, nz2, py_no])
  have w3 : 0 ≤ w ∧ w ≤ 1 := ⟨w2.1, by have := w2.2; grind⟩
  obtain ⟨b, rfl, hb, hb1, hb2, hR, hB⟩ := bo h hp
  obtain ⟨M', e1, e2, e3, tt, T2⟩ := lxd h (q := 27) (by decide) hb1 hb
  obtain ⟨nr, nb, q1, q2, f1, f2, f3, f4, hr, hbt⟩ := inv_B h
  have T := inv_T h
  let pp : Nat → Bool := fun i => decide (sHH (Br (rb M b) M (i / 100)) (nI (i % 100)) (M 43) = v)
  have pv : ∀ i, pp i = decide (sHH (Br (rb M b) M (i / 100)) (nI (i % 100)) (M 43) = v) := fun _ => rfl
  clear_value pp
  have sc0 : sc M M' := fun c a b => e3 c a
  -- inner: the lines of one RING
  have inner : ∀ (r : Nat), r < nr → ∀ (k51 : Int32 → Int32 → Int32 → Int32 → Int32 → g_M → Option (Int32 × g_M)) (s : g_M), isM 27 s (Br (rb M b) M r) → sc M s → x_X8_hung_L73 k51 g_F v w (nI (cnt pp (100 * nr) - cnt pp (100 * (r + 1)))) (ff pp nI (-9) (100 * nr - 100 * (r + 1)) (100 * (r + 1))) (nI r) 99 s = k51 v w (nI (cnt pp (100 * nr) - cnt pp (100 * r))) (ff pp nI (-9) (100 * nr - 100 * r) (100 * r)) (nI r + -1) s := by
    intro r hr2 k51 s hm hs
    have t43 : ∀ k, k < 12 → s (1 + 1) k = M 43 k := fun k hk => by rw [hs 2 (by decide) (by decide)]; exact T.1 k hk
    rw [show x_X8_hung_L73 k51 g_F v w (nI (cnt pp (100 * nr) - cnt pp (100 * (r + 1)))) (ff pp nI (-9) (100 * nr - 100 * (r + 1)) (100 * (r + 1))) (nI r) 99 s = x_X8_hung_L73 k51 g_F v w (nI (cnt pp (100 * nr) - cnt pp (100 * r + (100 - 0)))) (ff pp nI (-9) (100 * nr - (100 * r + (100 - 0))) (100 * r + (100 - 0))) (nI r) (nI (100 - 0) - 1) s by rw [Nat.sub_zero, e99, show 100 * (r + 1) = 100 * r + 100 by omega]]
    refine p_loop0 (n := 100) (F := fun m fuel (_ : Unit) => x_X8_hung_L73 k51 fuel v w (nI (cnt pp (100 * nr) - cnt pp (100 * r + (100 - m)))) (ff pp nI (-9) (100 * nr - (100 * r + (100 - m))) (100 * r + (100 - m))) (nI r) (nI (100 - m) - 1) s) (I := fun _ _ => True) (R := fun x => x = k51 v w (nI (cnt pp (100 * nr) - cnt pp (100 * r))) (ff pp nI (-9) (100 * nr - 100 * r) (100 * r)) (nI r + -1) s) (s := ()) (by decide) trivial ?_ ?_
    · intro _ fuel _
      show x_X8_hung_L73 k51 (fuel + 1) v w _ _ (nI r) (nI (100 - 100) - 1) s = _
      rw [x_X8_hung_L73, if_pos (by decide)]
      rfl
    · intro m _ fuel hm2 _
      right
      refine ⟨(), trivial, ?_⟩
      show x_X8_hung_L73 k51 (fuel + 1) v w (nI (cnt pp (100 * nr) - cnt pp (100 * r + (100 - m)))) (ff pp nI (-9) (100 * nr - (100 * r + (100 - m))) (100 * r + (100 - m))) (nI r) (nI (100 - m) - 1) s = x_X8_hung_L73 k51 fuel v w (nI (cnt pp (100 * nr) - cnt pp (100 * r + (100 - (m + 1))))) (ff pp nI (-9) (100 * nr - (100 * r + (100 - (m + 1)))) (100 * r + (100 - (m + 1)))) (nI r) (nI (100 - (m + 1)) - 1) s
      generalize hi : 100 - (m + 1) = i
      rw [show 100 - m = i + 1 by omega, p_pred, x_X8_hung_L73, if_neg (nI_pos (by omega))]
      refine (bnd (px_hangW hm _) _).trans ?_
      dsimp only
      have er : 100 * nr - (100 * r + i) = (100 * nr - (100 * r + (i + 1))) + 1 := by omega
      rw [sHH_cg t43, er, ff, show nI i + -1 = nI i - 1 by grind, show (100 : Int32) = nI 100 from rfl, p_mul, p_add]
      have mo := cnt_mono pp (e := 100 * r + i + 1) (100 * nr) (by omega)
      have d1 : (100 * r + i) / 100 = r := by omega
      have d2 : (100 * r + i) % 100 = i := by omega
      have pe := pv (100 * r + i)
      rw [d1, d2] at pe
      rw [← Nat.add_assoc]
      by_cases q : sHH (Br (rb M b) M r) (nI i) (M 43) = v
      · have q4 : pp (100 * r + i) = true := by rw [pe]; simpa using q
        rw [cnt_t q4] at mo ⊢
        rw [if_pos q, if_pos q4, ← nI_succ]
        congr 2
        omega
      · have q4 : ¬ pp (100 * r + i) = true := by rw [pe]; simpa using q
        rw [if_neg q, if_neg q4, cnt_f q4]
  have lx : ∃ s', x_X8_hung_L51 g_F v w 0 (-9) (nI nr - 1) M' = some (if w = 0 then nI (cnt pp (100 * nr)) else ff pp nI (-9) (100 * nr) 0, s') ∧ sc M s' := by
    rw [show x_X8_hung_L51 g_F v w 0 (-9) (nI nr - 1) M' = x_X8_hung_L51 g_F v w (nI (cnt pp (100 * nr) - cnt pp (100 * (nr - 0)))) (ff pp nI (-9) (100 * nr - 100 * (nr - 0)) (100 * (nr - 0))) (nI (nr - 0) - 1) M' by rw [Nat.sub_zero, Nat.sub_self, Nat.sub_self]; rfl]
    refine p_loop0 (n := nr) (F := fun m fuel s => x_X8_hung_L51 fuel v w (nI (cnt pp (100 * nr) - cnt pp (100 * (nr - m)))) (ff pp nI (-9) (100 * nr - 100 * (nr - m)) (100 * (nr - m))) (nI (nr - m) - 1) s) (I := fun _ s => sc M s ∧ ∀ j, j ≤ 8 → j ≠ 2 → j ≠ 3 → s 27 j = rb M b j) (R := fun x => ∃ s', x = some (if w = 0 then nI (cnt pp (100 * nr)) else ff pp nI (-9) (100 * nr) 0, s') ∧ sc M s') (s := M') (by omega) ⟨sc0, fun j hj _ _ => e2 j hj⟩ ?_ ?_
    · intro s fuel ⟨hs, _⟩
      refine ⟨s, ?_, hs⟩
      show x_X8_hung_L51 (fuel + 1) v w (nI (cnt pp (100 * nr) - cnt pp (100 * (nr - nr)))) (ff pp nI (-9) (100 * nr - 100 * (nr - nr)) (100 * (nr - nr))) (nI (nr - nr) - 1) s = _
      rw [Nat.sub_self, x_X8_hung_L51, if_pos (by decide), Nat.mul_zero, Nat.sub_zero]
      show (if w = 0 then some (nI (cnt pp (100 * nr) - 0), s) else some (ff pp nI (-9) (100 * nr) 0, s)) = _
      rw [Nat.sub_zero]
      split <;> rfl
    · intro m s fuel hm ⟨hs, hs2⟩
      right
      generalize hi : nr - (m + 1) = r
      have hr2 : r < nr := by omega
      let B0 : Nat → Int32 := fun j => s 27 j
      obtain ⟨s', l1, l2, l3⟩ := sld_move h hs (B := B0) (fun j _ => rfl) f2 hr2 q1
      have l2' : isM 27 s' (Br (rb M b) M r) := by
        intro j hj
        rw [l2 j hj]
        unfold Br
        by_cases z2 : j = 2
        · rw [if_pos z2, if_pos z2]
        · by_cases z3 : j = 3
          · rw [if_neg z2, if_neg z2, if_pos z3, if_pos z3]
          · rw [if_neg z2, if_neg z2, if_neg z3, if_neg z3]
            exact hs2 j hj z2 z3
      have hs' : sc M s' := sc_up hs (q := 27) (Or.inl rfl) l3
      refine ⟨s', ⟨hs', fun j hj z2 z3 => ?_⟩, ?_⟩
      · rw [l2' j hj]
        unfold Br
        rw [if_neg z2, if_neg z3]
      · show x_X8_hung_L51 (fuel + 1) v w (nI (cnt pp (100 * nr) - cnt pp (100 * (nr - m)))) (ff pp nI (-9) (100 * nr - 100 * (nr - m)) (100 * (nr - m))) (nI (nr - m) - 1) s = x_X8_hung_L51 fuel v w (nI (cnt pp (100 * nr) - cnt pp (100 * r))) (ff pp nI (-9) (100 * nr - 100 * r) (100 * r)) (nI r - 1) s'
        rw [show nr - m = r + 1 by omega, p_pred, x_X8_hung_L51, if_neg (nI_pos (by omega))]
        refine (bnd l1 _).trans ?_
        dsimp only
        rw [inner r hr2 _ s' l2' hs', show nI r + -1 = nI r - 1 by grind]
  obtain ⟨s', x1, x2⟩ := lx
  have hx : x_X8_hung (nI b) v w M = some (if w = 0 then nI (cnt pp (100 * nr)) else ff pp nI (-9) (100 * nr) 0, s') := by
    rw [x_X8_hung]
    refine (bnd (px_wrong (nI b) v w M) _).trans ?_
    dsimp only
    rw [if_pos hp, if_pos v0, if_pos v4, if_pos w2, if_pos rfl]
    refine (bnd e1 _).trans ?_
    dsimp only
    rw [e3 1 (by decide), f1]
    exact x1
  refine op_ask h hx (sc_scr x2) fun h1 hc => ⟨s', ?_, coreEq_rf _⟩
  obtain ⟨r1, r2, r3, r4, r5, r6⟩ := rby h hc hb2 hb hR hB
  have g0 : x_X9_bound v 0 4095 s' = some (0, s') := by rw [py_bound, if_neg hv, if_neg hv2]
  have g1 : x_X9_isIn w 0 1 s' = some (1, s') := by rw [py_isIn, if_pos w3]
  have c1 : (nI b).toNatClampNeg = b := nI_clamp (by omega)
  have f2' : s' 41 15 = nI nr := by rw [hc 41 (by decide)]; exact f2
  rw [x_X9_hung]
  refine (bnd r6 _).trans ?_
  dsimp only
  rw [if_neg (by decide)]
  refine (bnd g0 _).trans ?_
  dsimp only
  rw [x_X9_hung_L20, if_pos rfl]
  refine (bnd g1 _).trans ?_
  dsimp only
  rw [if_neg (by decide), x_X9_hung_L40, if_pos rfl, if_pos (p_inb hb (by decide)), c1]
  rw [show x_X9_hung_L70 g_F (nI b) v w (s' 50 b) 0 (-9) 0 s' = x_X9_hung_L70 g_F (nI b) v w (s' 50 b) (nI (cnt pp 0)) (ff pp nI (-9) 0 0) (nI 0) s' by rfl]
  refine p_loop0 (n := 100 * nr) (F := fun m fuel s => x_X9_hung_L70 fuel (nI b) v w (s' 50 b) (nI (cnt pp m)) (ff pp nI (-9) m 0) (nI m) s) (I := fun _ s => ∃ x, s = g_upd s' 50 b x) (R := fun r => r = some (if w = 0 then nI (cnt pp (100 * nr)) else ff pp nI (-9) (100 * nr) 0, s')) (s := s') (by omega) ⟨s' 50 b, (upd_same rfl).symm⟩ ?_ ?_
  · rintro s fuel ⟨x, rfl⟩
    show x_X9_hung_L70 (fuel + 1) _ _ _ _ _ _ (nI (100 * nr)) _ = _
    have m1 : nI nr * 100 = nI (100 * nr) := by rw [show (100 : Int32) = nI 100 from rfl, p_mul, Nat.mul_comm]
    rw [x_X9_hung_L70, g_upd_ne (show 41 ≠ 50 by decide), f2', m1, if_pos (Int32.le_refl _), if_pos (p_inb hb (by decide)), c1, upd_back]
    split <;> rfl
  · rintro i s fuel hi ⟨x, rfl⟩
    right
    have m1 : nI nr * 100 = nI (100 * nr) := by rw [show (100 : Int32) = nI 100 from rfl, p_mul, Nat.mul_comm]
    have dv := p_div100 i (by omega)
    have ir : i / 100 < 6 := by omega
    refine ⟨g_upd s' 50 b (nI (i / 100)), ⟨_, rfl⟩, ?_⟩
    show x_X9_hung_L70 (fuel + 1) _ _ _ _ (nI (cnt pp i)) (ff pp nI (-9) i 0) (nI i) _ = x_X9_hung_L70 fuel _ _ _ _ (nI (cnt pp (i + 1))) (ff pp nI (-9) (i + 1) 0) (nI (i + 1)) _
    rw [x_X9_hung_L70, g_upd_ne (show 41 ≠ 50 by decide), f2', m1, if_neg (show ¬ nI (100 * nr) ≤ nI i from nI_ge hi (by omega)), if_pos (p_inb hb (by decide)), c1, upd_twice, dv.2, dv.1]
    have rbr := rb_ring s' b (i / 100) (by omega)
    have okb2 : okB (Br (rb s' b) s' (i / 100)) := Br_ok h1 r2 f2' (by omega) q1
    refine (bnd (py_hangH (M := g_upd s' 50 b (nI (i / 100))) hb (okR_ring r1 ir) (by rw [rbr]; exact okb2) (by rw [g_upd_ne (by decide)]; exact r3) _) _).trans ?_
    dsimp only
    rw [rbr, g_upd_ne (show 43 ≠ 50 by decide), r4, r5, show Br (rb M b) s' (i / 100) = Br (rb M b) M (i / 100) by unfold Br; rw [hc 45 (by decide), hc 46 (by decide)], ff_snoc, nI_succ i]
    have cl := cnt_le pp i
    have c0 : nI (cnt pp i) = 0 ↔ cnt pp i = 0 := p_eq (a := cnt pp i) (b := 0) (by omega) (by decide)
    have pe := pv i
    by_cases q : sHH (Br (rb M b) M (i / 100)) (nI (i % 100)) (M 43) = v
    · have q4 : pp i = true := by rw [pe]; simpa using q
      rw [if_pos q, cnt_t q4, nI_succ]
      by_cases z : cnt pp i = 0
      · rw [if_pos (c0.mpr z), if_pos z, if_pos q4]
      · rw [if_neg (fun y => z (c0.mp y)), if_neg z]
    · have q4 : ¬ pp i = true := by rw [pe]; simpa using q
      rw [if_neg q, cnt_f q4]
      by_cases z : cnt pp i = 0
      · rw [if_pos z, if_neg q4]
        congr 1
        rcases ff_spec pp nI (-9) i with ⟨j, g1, g2, g3, g4⟩ | ⟨g1, g2⟩
        · rw [(cnt_0 pp i).mp z j g1] at g2; cases g2
        · exact g2
      · rw [if_neg z]
