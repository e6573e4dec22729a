/-! THE PURE PART. Q: first of a row; ramps, gates, mud -/
def ff (p : Nat → Bool) (r : Nat → Int32) (d : Int32) : Nat → Nat → Int32
  | 0, _ => d
  | k + 1, i => if p i = true then r i else ff p r d k (i + 1)
theorem p_find {M : g_M} {n : Nat} {F : Nat → Nat → Option (Int32 × g_M)} {p : Nat → Bool} {r : Nat → Int32} {d : Int32} (hn : n < 20000) (hend : ∀ fuel, F n (fuel + 1) = some (d, M)) (hstep : ∀ i fuel, i < n → F i (fuel + 1) = if p i = true then some (r i, M) else F (i + 1) fuel) : F 0 g_F = some (ff p r d n 0, M) := by
  have key : ∀ k i fuel, i + k = n → k < fuel → F i fuel = some (ff p r d k i, M) := by
    intro k
    induction k with
    | zero =>
      intro i fuel hi hf
      obtain ⟨m, rfl⟩ : ∃ m, fuel = m + 1 := ⟨fuel - 1, by omega⟩
      obtain rfl : i = n := by omega
      exact hend m
    | succ k ih =>
      intro i fuel hi hf
      obtain ⟨m, rfl⟩ : ∃ m, fuel = m + 1 := ⟨fuel - 1, by omega⟩
      rw [hstep i m (by omega), ff]
      split
      · rfl
      · exact ih (i + 1) m (by omega) (by omega)
  exact key n 0 g_F (by omega) hn
theorem ff_cg {p p' : Nat → Bool} {r r' : Nat → Int32} {d : Int32} {n : Nat} (h : ∀ i, i < n → p i = p' i) (hr : ∀ i, i < n → r i = r' i) : ff p r d n 0 = ff p' r' d n 0 := by
  have key : ∀ k i, i + k = n → ff p r d k i = ff p' r' d k i := by
    intro k
    induction k with
    | zero => intro i _; rfl
    | succ k ih =>
      intro i hi
      rw [ff, ff, h i (by omega), hr i (by omega), ih (i + 1) (by omega)]
  exact key n 0 (by omega)
theorem ff_spec (p : Nat → Bool) (r : Nat → Int32) (d : Int32) (n : Nat) : (∃ i, i < n ∧ p i = true ∧ (∀ j, j < i → p j = false) ∧ ff p r d n 0 = r i) ∨ ((∀ i, i < n → p i = false) ∧ ff p r d n 0 = d) := by
  have key : ∀ k i, i + k = n → (∀ j, j < i → p j = false) → (∃ i, i < n ∧ p i = true ∧ (∀ j, j < i → p j = false) ∧ ∀ m, m = ff p r d k 0 ∨ True) ∨ True := fun _ _ _ _ => Or.inr trivial
  have main : ∀ k i, i + k = n → (∀ j, j < i → p j = false) → (∃ i', i' < n ∧ p i' = true ∧ (∀ j, j < i' → p j = false) ∧ ff p r d k i = r i') ∨ ((∀ i, i < n → p i = false) ∧ ff p r d k i = d) := by
    intro k
    induction k with
    | zero =>
      intro i hi hj
      exact Or.inr ⟨fun j h => hj j (by omega), rfl⟩
    | succ k ih =>
      intro i hi hj
      by_cases hp : p i = true
      · exact Or.inl ⟨i, by omega, hp, hj, by rw [ff, if_pos hp]⟩
      · rw [ff, if_neg hp]
        exact ih (i + 1) (by omega) (fun j h => by
          by_cases e : j = i
          · subst e; rwa [Bool.not_eq_true] at hp
          · exact hj j (by omega))
  exact main n 0 (by omega) (fun j h => absurd h (by omega))
/-! ramps -/
def sS (h w t : Int32) : Int32 := 100 * g_abs (t - h) / w
theorem px_slope {q k : Nat} (hk : k < 12) {w : Int32} (hw : 1 ≤ w) (h : Int32) (M : g_M) : x_X2_slopeOf q h w (nI k) M = some (sS h w (M (q + 1) k), M) := by
  have hz : ¬ w = 0 := by rintro rfl; exact absurd hw (by decide)
  simp [x_X2_slopeOf, hw, hz, px_tideAt _ _ hk, sS]
theorem py_slope {k : Nat} (hk : k < 12) {w : Int32} (hw : 1 ≤ w) (h : Int32) (M : g_M) : x_X9_slopeBy h w (nI k) M = some (sS h w (M 43 k), M) := by
  have hz : ¬ w = 0 := by rintro rfl; exact absurd hw (by decide)
  have c : (nI k).toNatClampNeg = k := nI_clamp (by omega)
  unfold x_X9_slopeBy sS g_abs
  rw [if_pos (p_inb hk (by decide)), c]
  split
  · rfl
  · have : 0 - (M 43 k - h) = -(M 43 k - h) := by grind
    rw [this]
def sO (h w s : Int32) (T : Nat → Int32) : Int32 := bt (fun i => decide (¬ s < sS h w (T i))) 12
theorem px_open {q : Nat} {w : Int32} (hw : 1 ≤ w) (h s : Int32) (M : g_M) : x_X2_hoursOpen q h w s M = some (sO h w s (M (q + 1)), M) := by
  unfold x_X2_hoursOpen
  refine p_loop0 (n := 12) (F := fun i fuel (_ : Unit) => x_X2_hoursOpen_L6 q fuel h w s (bt (fun i => decide (¬ s < sS h w (M (q + 1) i))) i) (nI i) M) (I := fun _ _ => True) (R := fun r => r = some (sO h w s (M (q + 1)), M)) (s := ()) (by decide) trivial ?_ ?_
  · intro _ fuel _
    simp only [x_X2_hoursOpen_L6]
    rw [if_pos (by decide)]
    rfl
  · intro i _ fuel hi _
    right
    refine ⟨(), trivial, ?_⟩
    show x_X2_hoursOpen_L6 q (fuel + 1) _ _ _ _ _ M = _
    rw [x_X2_hoursOpen_L6, if_neg (p_n12 hi), px_slope hi hw, Option.bind_some]
    by_cases hp : s < sS h w (M (q + 1) i)
    · rw [if_pos hp, ← nI_succ, bt_f (p := fun i => decide (¬ s < sS h w (M (q + 1) i))) (by simpa using hp)]
    · rw [if_neg hp, ← nI_succ, bt_t (p := fun i => decide (¬ s < sS h w (M (q + 1) i))) (by simpa using hp)]
theorem py_open {w : Int32} (hw : 1 ≤ w) (h s : Int32) (M : g_M) : x_X9_openHours h w s M = some (sO h w s (M 43), M) := by
  unfold x_X9_openHours
  refine p_loop0 (n := 12) (F := fun i fuel (_ : Unit) => x_X9_openHours_L6 fuel h w s (bt (fun i => decide (¬ s < sS h w (M 43 i))) i) (nI i) M) (I := fun _ _ => True) (R := fun r => r = some (sO h w s (M 43), M)) (s := ()) (by decide) trivial ?_ ?_
  · intro _ fuel _
    simp only [x_X9_openHours_L6]
    rw [if_pos (by decide)]
    rfl
  · intro i _ fuel hi _
    right
    refine ⟨(), trivial, ?_⟩
    show x_X9_openHours_L6 (fuel + 1) _ _ _ _ _ M = _
    rw [x_X9_openHours_L6, if_neg (p_n12 hi), py_slope hi hw, Option.bind_some]
    by_cases hp : s < sS h w (M 43 i)
    · rw [if_pos hp, ← nI_succ, bt_f0 (p := fun i => decide (¬ s < sS h w (M 43 i))) (by simpa using hp)]
    · rw [if_neg hp, ← nI_succ, bt_t (p := fun i => decide (¬ s < sS h w (M 43 i))) (by simpa using hp)]
theorem sO_cg {h w s : Int32} {T T' : Nat → Int32} (e : ∀ k, k < 12 → T k = T' k) : sO h w s T = sO h w s T' := bt_cg fun i hi => by rw [e i hi]
theorem isS_sO (h w s : Int32) (T : Nat → Int32) : isS (sO h w s T) := by
  unfold sO
  exact isS_bt _
theorem inv_P {M : g_M} (h : inv M) : ∃ np : Nat, np ≤ 3 ∧ M 1 7 = nI np ∧ M 41 19 = nI np ∧ ∀ r, r < np → M 6 (2 * r) = M 55 r ∧ M 6 (2 * r + 1) = M 56 r ∧ 1 ≤ M 56 r := by
  obtain ⟨j1, j2, j3, ⟨np, k1, k2, k3, k4⟩, j5⟩ := hrel_iff.mp h.1
  refine ⟨np, k1, k2, k3, fun r hr => ?_⟩
  have q := k4 r hr
  rw [lv_55 M (by omega), lv_56 M (by omega)] at q
  exact ⟨q.1.1, q.2.1, q.2.2.1⟩
theorem op_slope (p p2 : Int32) : opOK (x_X8_slope p p2) (x_X9_slope p p2) := by
  intro M h
  obtain ⟨np, n3', e1, e2, hr⟩ := inv_P h
  by_cases hp : 0 ≤ p ∧ p < nI np
  · by_cases hh : 0 ≤ p2 ∧ p2 < 12
    · obtain ⟨r, hr2, rfl⟩ := p_in (by omega) hp.1 hp.2
      obtain ⟨k, hk, rfl⟩ := p_in (n := 12) (by decide) hh.1 hh.2
      have c1 : (nI r).toNatClampNeg = r := nI_clamp (by omega)
      obtain ⟨g1, g2, g3⟩ := hr r hr2
      have b3 := p_inb (show r < 3 by omega) (by decide : (3 : Nat) < 2 ^ 31)
      have l0 : x_X2_rampCell 1 (nI r) 0 M = some (M 55 r, M) := by rw [← g1]; exact px_rampCell 1 r 0 (by omega) (by decide) M
      have l1 : x_X2_rampCell 1 (nI r) 1 M = some (M 56 r, M) := by rw [← g2]; exact px_rampCell 1 r 1 (by omega) (by decide) M
      have t := (inv_T h).1 k hk
      refine op_ask h (r := sS (M 55 r) (M 56 r) (M 43 k)) (M1 := M) ?_ (scr_rf M) fun h1 hc => ⟨M, ?_, coreEq_rf _⟩
      · simp [x_X8_slope, px_hasRamp, e1, hp, px_isHour, hh, l0, l1, px_slope hk g3, t]
      · simp [x_X9_slope, py_isRamp, e2, hp, py_isHour, hh, b3, c1, py_slope hk g3]
    · exact op_ref h (k := 1) (r := -nI 1) (by decide) (by simp [x_X8_slope, px_hasRamp, e1, hp, px_isHour, hh, n1, px_refused]) (fun M1 hc => by simp [x_X9_slope, py_isRamp, hc 41 (by decide), e2, hp, py_isHour, hh, n1, py_no])
  · exact op_ref h (k := 1) (r := -nI 1) (by decide) (by simp [x_X8_slope, px_hasRamp, e1, hp, n1, px_refused]) (fun M1 hc => by simp [x_X9_slope, py_isRamp, hc 41 (by decide), e2, hp, n1, py_no])
theorem op_open (p s : Int32) : opOK (x_X8_open p s) (x_X9_open p s) := by
  intro M h
  obtain ⟨np, n3', e1, e2, hr⟩ := inv_P h
  by_cases hp : 0 ≤ p ∧ p < nI np
  · by_cases h0 : 0 ≤ s
    · have hv : ¬ s < 0 := by rw [Int32.not_lt]; exact h0
      by_cases h9 : s ≤ 999
      · have hv2 : ¬ (999 : Int32) < s := by rw [Int32.not_lt]; exact h9
        obtain ⟨r, hr2, rfl⟩ := p_in (by omega) hp.1 hp.2
        have c1 : (nI r).toNatClampNeg = r := nI_clamp (by omega)
        obtain ⟨g1, g2, g3⟩ := hr r hr2
        have b3 := p_inb (show r < 3 by omega) (by decide : (3 : Nat) < 2 ^ 31)
        have l0 : x_X2_rampCell 1 (nI r) 0 M = some (M 55 r, M) := by rw [← g1]; exact px_rampCell 1 r 0 (by omega) (by decide) M
        have l1 : x_X2_rampCell 1 (nI r) 1 M = some (M 56 r, M) := by rw [← g2]; exact px_rampCell 1 r 1 (by omega) (by decide) M
        have t : sO (M 55 r) (M 56 r) s (M 2) = sO (M 55 r) (M 56 r) s (M 43) := sO_cg (inv_T h).1
        refine op_ask h (r := sO (M 55 r) (M 56 r) s (M 43)) (M1 := M) ?_ (scr_rf M) fun h1 hc => ⟨M, ?_, coreEq_rf _⟩
        · simp [x_X8_open, px_hasRamp, e1, hp, h0, h9, l0, l1, px_open g3, t]
        · simp [x_X9_open, x_X9_open_L20, py_isRamp, e2, hp, py_bound, hv, hv2, b3, c1, py_open g3]
      · have hv2 : (999 : Int32) < s := by rw [← Int32.not_le]; exact h9
        exact op_ref h (k := 6) (r := -nI 6) (by decide) (by simp [x_X8_open, px_hasRamp, e1, hp, h0, h9, n6, px_refused]) (fun M1 hc => by simp [x_X9_open, x_X9_open_L20, py_isRamp, hc 41 (by decide), e2, hp, py_bound, hv, hv2, n6, nz6, py_no])
    · have hv : s < 0 := by rw [← Int32.not_le]; exact h0
      exact op_ref h (k := 4) (r := -nI 4) (by decide) (by simp [x_X8_open, px_hasRamp, e1, hp, h0, n4, px_refused]) (fun M1 hc => by simp [x_X9_open, x_X9_open_L20, py_isRamp, hc 41 (by decide), e2, hp, py_bound, hv, n4, nz4, py_no])
  · exact op_ref h (k := 1) (r := -nI 1) (by decide) (by simp [x_X8_open, px_hasRamp, e1, hp, n1, px_refused]) (fun M1 hc => by simp [x_X9_open, x_X9_open_L20, py_isRamp, hc 41 (by decide), e2, hp, n1, nz1, py_no])
theorem lx_bridge (a s c : Int32) (M : g_M) : x_X8_bridge_L48 g_F a s c 1 M = some (ff (fun i => decide (¬ bc (sO a (nI (i + 1)) s (M 2)) < c)) (fun i => nI (i + 1)) (-9) 40 0, M) := by
  have w1 : ∀ i, i < 40 → 1 ≤ nI (i + 1) := fun i hi => (p_le (a := 1) (by decide) (by omega)).mpr (by omega)
  rw [show (1 : Int32) = nI (0 + 1) from rfl]
  refine p_find (F := fun i fuel => x_X8_bridge_L48 fuel a s c (nI (i + 1)) M) (by decide) (fun fuel => ?_) (fun i fuel hi => ?_)
  · simp only [x_X8_bridge_L48]
    rw [if_pos (by decide)]
  · have g : ¬ (40 : Int32) < nI (i + 1) := fun q => by
      have := (p_lt (a := 40) (by decide) (by omega)).mp q
      omega
    simp only [x_X8_bridge_L48, if_neg g, px_open (w1 i hi), Option.bind_some, px_bits]
    simp only [decide_eq_true_eq]
    by_cases q : bc (sO a (nI (i + 1)) s (M 2)) < c
    · rw [if_pos q, if_neg (not_not_intro q), ← nI_succ]
    · rw [if_neg q, if_pos q]
theorem ly_bridge (a s c : Int32) (M : g_M) : x_X9_bridge_L59 g_F a s c 1 M = some (ff (fun i => decide (¬ bc (sO a (nI (i + 1)) s (M 43)) < c)) (fun i => nI (i + 1)) (-9) 40 0, M) := by
  have w1 : ∀ i, i < 40 → 1 ≤ nI (i + 1) := fun i hi => (p_le (a := 1) (by decide) (by omega)).mpr (by omega)
  rw [show (1 : Int32) = nI (0 + 1) from rfl]
  refine p_find (F := fun i fuel => x_X9_bridge_L59 fuel a s c (nI (i + 1)) M) (by decide) (fun fuel => ?_) (fun i fuel hi => ?_)
  · simp only [x_X9_bridge_L59]
    rw [if_pos (by decide)]
  · have g : ¬ (40 : Int32) < nI (i + 1) := fun q => by
      have := (p_lt (a := 40) (by decide) (by omega)).mp q
      omega
    have iS : x_X9_bits (sO a (nI (i + 1)) s (M 43)) M = some (bc (sO a (nI (i + 1)) s (M 43)), M) := py_bits (isS_sO ..) M
    rw [x_X9_bridge_L59, if_neg g]
    refine (bnd (py_open (w1 i hi) ..) _).trans ?_
    refine (bnd iS _).trans ?_
    show (if bc (sO a (nI (i + 1)) s (M 43)) < c then x_X9_bridge_L59 fuel a s c (nI (i + 1) + 1) M else some (nI (i + 1), M)) = _
    simp only [decide_eq_true_eq]
    by_cases q : bc (sO a (nI (i + 1)) s (M 43)) < c
    · rw [if_pos q, if_neg (not_not_intro q), ← nI_succ]
    · rw [if_neg q, if_pos q]
theorem op_bridge (a s c : Int32) : opOK (x_X8_bridge a s c) (x_X9_bridge a s c) := by
  intro M h
  by_cases a0 : a < 0
  · exact op_ref h (k := 4) (r := -nI 4) (by decide) (by simp [x_X8_bridge, a0, n4, px_refused]) (fun M1 _ => by simp [x_X9_bridge, x_X9_bridge_L42, a0, n4, nz4, py_no])
  by_cases s0 : s < 0
  · exact op_ref h (k := 4) (r := -nI 4) (by decide) (by simp [x_X8_bridge, a0, s0, n4, px_refused]) (fun M1 _ => by simp [x_X9_bridge, x_X9_bridge_L42, a0, s0, n4, nz4, py_no])
  by_cases c0 : 0 ≤ c
  rotate_left
  · exact op_ref h (k := 4) (r := -nI 4) (by decide) (by simp [x_X8_bridge, a0, s0, c0, n4, px_refused]) (fun M1 _ => by simp [x_X9_bridge, x_X9_bridge_L42, a0, s0, c0, n4, nz4, py_no])
  by_cases a6 : 60 < a
  · exact op_ref h (k := 6) (r := -nI 6) (by decide) (by simp [x_X8_bridge, a0, s0, c0, a6, n6, px_refused]) (fun M1 _ => by simp [x_X9_bridge, x_X9_bridge_L42, a0, s0, c0, a6, n6, nz6, py_no])
  by_cases s9 : 999 < s
  · exact op_ref h (k := 6) (r := -nI 6) (by decide) (by simp [x_X8_bridge, a0, s0, c0, a6, s9, n6, px_refused]) (fun M1 _ => by simp [x_X9_bridge, x_X9_bridge_L42, a0, s0, c0, a6, s9, n6, nz6, py_no])
  by_cases c12 : c ≤ 12
  rotate_left
  · exact op_ref h (k := 6) (r := -nI 6) (by decide) (by simp [x_X8_bridge, a0, s0, c0, a6, s9, c12, n6, px_refused]) (fun M1 _ => by simp [x_X9_bridge, x_X9_bridge_L42, a0, s0, c0, a6, s9, c12, n6, nz6, py_no])
  refine op_ask h (r := ff (fun i => decide (¬ bc (sO a (nI (i + 1)) s (M 43)) < c)) (fun i => nI (i + 1)) (-9) 40 0) (M1 := M) ?_ (scr_rf M) fun h1 hc => ⟨M, ?_, coreEq_rf _⟩
  · simp only [x_X8_bridge, if_neg a0, if_neg s0, if_pos c0, if_neg a6, if_neg s9, if_pos c12, lx_bridge]
    rw [ff_cg (fun i _ => by rw [sO_cg (inv_T h).1]) (fun _ _ => rfl)]
  · simp only [x_X9_bridge, x_X9_bridge_L42, if_neg a0, if_neg s0, if_pos c0, if_neg a6, if_neg s9, if_pos c12, if_true, ly_bridge]
