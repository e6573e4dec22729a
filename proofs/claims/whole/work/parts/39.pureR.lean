/-! THE PURE PART. R: mud, passes, waited, carry, swells -/
theorem p_fm : ∀ a, a < 24 → 0 ≤ nI a ^^^ 12 ∧ nI a - nI a / 12 * 12 = nI (a % 12) := by decide +kernel
theorem px_fm {a : Nat} (h : a < 24) (M : g_M) : x_J9_floorMod_7cf53 (nI a) 12 M = some (nI (a % 12), M) := by
  have q := p_fm a h
  have z : ¬ (12 : Int32) = 0 := by decide
  rw [x_J9_floorMod_7cf53, if_neg z, if_pos q.1, q.2]
def sF (T : Nat → Int32) (f : Int32) (a : Nat) (i : Nat) : Bool := decide (¬ T ((a + i) % 12) < f)
theorem px_first {q a : Nat} (ha : a < 12) (f : Int32) (M : g_M) : x_X2_firstHourWith q f (nI a) M = some (ff (sF (M (q + 1)) f a) (fun i => nI ((a + i) % 12)) (-9) 12 0, M) := by
  unfold x_X2_firstHourWith
  rw [show (0 : Int32) = nI 0 from rfl]
  refine p_find (F := fun i fuel => x_X2_firstHourWith_L2 q fuel f (nI a) (nI i) M) (by decide) (fun fuel => ?_) (fun i fuel hi => ?_)
  · simp only [x_X2_firstHourWith_L2]
    rw [if_pos (by decide)]
  · have hm : (a + i) % 12 < 12 := Nat.mod_lt _ (by decide)
    have e : nI a + nI i = nI (a + i) := p_add
    show x_X2_firstHourWith_L2 q (fuel + 1) f (nI a) (nI i) M = _
    rw [x_X2_firstHourWith_L2, if_neg (p_n12 hi), e]
    refine (bnd (px_fm (show a + i < 24 by omega) M) _).trans ?_
    refine (bnd (px_tideAt q _ hm M) _).trans ?_
    show (if M (q + 1) ((a + i) % 12) < f then x_X2_firstHourWith_L2 q fuel f (nI a) (nI i + 1) M else some (nI ((a + i) % 12), M)) = _
    simp only [sF, decide_eq_true_eq]
    by_cases k : M (q + 1) ((a + i) % 12) < f
    · rw [if_pos k, if_neg (not_not_intro k), ← nI_succ]
    · rw [if_neg k, if_pos k]
theorem sF_cg {T T' : Nat → Int32} (h : ∀ k, k < 12 → T k = T' k) (f : Int32) (a i : Nat) : sF T f a i = sF T' f a i := by
  unfold sF
  rw [h _ (Nat.mod_lt _ (by decide))]
theorem py_waits {a : Nat} (ha : a < 12) (f : Int32) (M : g_M) : x_X9_waitsAt f (nI a) M = some (ff (sF (M 43) f a) nI (-9) 12 0, M) := by
  unfold x_X9_waitsAt
  rw [show (0 : Int32) = nI 0 from rfl]
  refine p_find (F := fun i fuel => x_X9_waitsAt_L2 fuel f (nI a) (nI i) M) (by decide) (fun fuel => ?_) (fun i fuel hi => ?_)
  · simp only [x_X9_waitsAt_L2]
    rw [if_pos (by decide)]
  · have hm : (a + i) % 12 < 12 := Nat.mod_lt _ (by decide)
    have e : nI a + nI i = nI (a + i) := p_add
    have c : (nI ((a + i) % 12)).toNatClampNeg = (a + i) % 12 := nI_clamp (by omega)
    show x_X9_waitsAt_L2 (fuel + 1) f (nI a) (nI i) M = _
    rw [x_X9_waitsAt_L2, if_neg (p_n12 hi), e, (p_fm (a + i) (by omega)).2, if_pos (p_inb hm (by decide)), c]
    simp only [sF, decide_eq_true_eq]
    by_cases k : M 43 ((a + i) % 12) < f
    · rw [if_pos k, if_neg (not_not_intro k), ← nI_succ]
    · rw [if_neg k, if_pos k]
theorem op_mud (v a : Int32) : opOK (x_X8_mud v a) (x_X9_mud v a) := by
  intro M h
  by_cases h0 : 0 ≤ v
  rotate_left
  · have hv : v < 0 := by rw [← Int32.not_le]; exact h0
    exact op_ref h (k := 4) (r := -nI 4) (by decide) (by simp [x_X8_mud, h0, n4, px_refused]) (fun M1 _ => by simp [x_X9_mud, x_X9_mud_L21, py_bound, hv, n4, nz4, py_no])
  have hv : ¬ v < 0 := by rw [Int32.not_lt]; exact h0
  by_cases h4 : v ≤ 40
  rotate_left
  · have hv2 : 40 < v := by rw [← Int32.not_le]; exact h4
    exact op_ref h (k := 6) (r := -nI 6) (by decide) (by simp [x_X8_mud, h0, h4, n6, px_refused]) (fun M1 _ => by simp [x_X9_mud, x_X9_mud_L21, py_bound, hv, hv2, n6, nz6, py_no])
  have hv2 : ¬ 40 < v := by rw [Int32.not_lt]; exact h4
  by_cases ha : 0 ≤ a ∧ a < 12
  rotate_left
  · exact op_ref h (k := 1) (r := -nI 1) (by decide) (by simp [x_X8_mud, h0, h4, px_isHour, ha, n1, px_refused]) (fun M1 _ => by simp [x_X9_mud, x_X9_mud_L21, py_bound, hv, hv2, py_isHour, ha, n1, nz1, py_no])
  obtain ⟨b, hb, rfl⟩ := p_in (n := 12) (by decide) ha.1 ha.2
  have ly : x_X9_mud_L34 g_F v (nI b) 0 M = some (ff (sF (M 43) (v + 1) b) (fun i => nI ((b + i) % 12)) (-9) 12 0, M) := by
    rw [show (0 : Int32) = nI 0 from rfl]
    refine p_find (F := fun i fuel => x_X9_mud_L34 fuel v (nI b) (nI i) M) (by decide) (fun fuel => ?_) (fun i fuel hi => ?_)
    · simp only [x_X9_mud_L34]
      rw [if_pos (by decide)]
    · have hm : (b + i) % 12 < 12 := Nat.mod_lt _ (by decide)
      have e : nI b + nI i = nI (b + i) := p_add
      have c : (nI ((b + i) % 12)).toNatClampNeg = (b + i) % 12 := nI_clamp (by omega)
      show x_X9_mud_L34 (fuel + 1) v (nI b) (nI i) M = _
      rw [x_X9_mud_L34, if_neg (p_n12 hi), e, (p_fm (b + i) (by omega)).2, if_pos (p_inb hm (by decide)), c]
      simp only [sF, decide_eq_true_eq]
      by_cases k : M 43 ((b + i) % 12) ≤ v
      · have k2 : M 43 ((b + i) % 12) < v + 1 := by grind
        rw [if_pos k, if_neg (not_not_intro k2), ← nI_succ]
      · have k2 : ¬ M 43 ((b + i) % 12) < v + 1 := by grind
        rw [if_neg k, if_pos k2]
  refine op_ask h (r := ff (sF (M 43) (v + 1) b) (fun i => nI ((b + i) % 12)) (-9) 12 0) (M1 := M) ?_ (scr_rf M) fun h1 hc => ⟨M, ?_, coreEq_rf _⟩
  · rw [ff_cg (fun i _ => (sF_cg (inv_T h).1 (v + 1) b i).symm) (fun _ _ => rfl)]
    simp [x_X8_mud, h0, h4, px_isHour, ha, px_first hb]
  · simp [x_X9_mud, x_X9_mud_L21, py_bound, hv, hv2, py_isHour, ha, ly]
theorem p_pos {k : Nat} (h : k < 2 ^ 31) : (0 : Int32) ≤ nI k := p_ge0 h
/-- the wait and the HOUR of it -/
theorem ff_two (p : Nat → Bool) (a : Nat) : (∃ k, k < 12 ∧ ff p nI (-9) 12 0 = nI k ∧ ff p (fun i => nI ((a + i) % 12)) (-9) 12 0 = nI ((a + k) % 12)) ∨ (ff p nI (-9) 12 0 = -9 ∧ ff p (fun i => nI ((a + i) % 12)) (-9) 12 0 = -9) := by
  rcases ff_spec p nI (-9) 12 with ⟨i, h1, h2, h3, h4⟩ | ⟨h1, h2⟩
  · rcases ff_spec p (fun i => nI ((a + i) % 12)) (-9) 12 with ⟨j, g1, g2, g3, g4⟩ | ⟨g1, g2⟩
    · have : i = j := by
        rcases Nat.lt_trichotomy i j with q | q | q
        · rw [g3 i q] at h2; cases h2
        · exact q
        · rw [h3 j q] at g2; cases g2
      subst this
      exact Or.inl ⟨i, h1, h4, g4⟩
    · rw [g1 i h1] at h2; cases h2
  · rcases ff_spec p (fun i => nI ((a + i) % 12)) (-9) 12 with ⟨j, g1, g2, g3, g4⟩ | ⟨g1, g2⟩
    · rw [h1 j g1] at g2; cases g2
    · exact Or.inr ⟨h2, g2⟩
theorem op_passes (v f a : Int32) : opOK (x_X8_passes v f a) (x_X9_passes_ v f a) := by
  intro M h
  by_cases v0 : v < 0
  · exact op_ref h (k := 4) (r := -nI 4) (by decide) (by simp [x_X8_passes, v0, n4, px_refused]) (fun M1 _ => by simp [x_X9_passes_, x_X9_passes__L22, x_X9_notGate, v0, n4, nz4, py_no])
  by_cases f0 : 0 ≤ f
  rotate_left
  · exact op_ref h (k := 4) (r := -nI 4) (by decide) (by simp [x_X8_passes, v0, f0, n4, px_refused]) (fun M1 _ => by simp [x_X9_passes_, x_X9_passes__L22, x_X9_notGate, v0, f0, n4, nz4, py_no])
  by_cases v4 : 40 < v
  · exact op_ref h (k := 6) (r := -nI 6) (by decide) (by simp [x_X8_passes, v0, f0, v4, n6, px_refused]) (fun M1 _ => by simp [x_X9_passes_, x_X9_passes__L22, x_X9_notGate, v0, f0, v4, n6, nz6, py_no])
  by_cases f9 : f ≤ 9
  rotate_left
  · exact op_ref h (k := 6) (r := -nI 6) (by decide) (by simp [x_X8_passes, v0, f0, v4, f9, n6, px_refused]) (fun M1 _ => by simp [x_X9_passes_, x_X9_passes__L22, x_X9_notGate, v0, f0, v4, f9, n6, nz6, py_no])
  by_cases ha : 0 ≤ a ∧ a < 12
  rotate_left
  · exact op_ref h (k := 1) (r := -nI 1) (by decide) (by simp [x_X8_passes, v0, f0, v4, f9, px_isHour, ha, n1, px_refused]) (fun M1 _ => by simp [x_X9_passes_, x_X9_passes__L22, x_X9_notGate, v0, f0, v4, f9, py_isHour, ha, n1, nz1, py_no])
  obtain ⟨b, hb, rfl⟩ := p_in (n := 12) (by decide) ha.1 ha.2
  have gx : x_X8_passes v f (nI b) M = some (ff (sF (M 43) (v + f) b) (fun i => nI ((b + i) % 12)) (-9) 12 0, M) := by
    rw [ff_cg (fun i _ => (sF_cg (inv_T h).1 (v + f) b i).symm) (fun _ _ => rfl)]
    simp [x_X8_passes, v0, f0, v4, f9, px_isHour, ha, px_first hb]
  refine op_ask h gx (scr_rf M) fun h1 hc => ⟨M, ?_, coreEq_rf _⟩
  have w := py_waits hb (v + f) M
  rcases ff_two (sF (M 43) (v + f) b) b with ⟨k, hk, e1, e2⟩ | ⟨e1, e2⟩
  · rw [e2]
    rw [e1] at w
    have e : nI b + nI k = nI (b + k) := p_add
    simp [x_X9_passes_, x_X9_passes__L22, x_X9_notGate, v0, f0, v4, f9, py_isHour, ha, w, p_pos (show k < 2 ^ 31 by omega), e, (p_fm (b + k) (by omega)).2]
  · rw [e2]
    rw [e1] at w
    simp [x_X9_passes_, x_X9_passes__L22, x_X9_notGate, v0, f0, v4, f9, py_isHour, ha, w, show ¬ (0 : Int32) ≤ -9 by decide]
/-! a TIDE on a day -/
def sW7 (s d : Int32) : Int32 := s * g_abs (d - 7) / 7
theorem sW7_b : ∀ s, s < 10 → ∀ d, d < 14 → 0 ≤ sW7 (nI s) (nI d) ∧ sW7 (nI s) (nI d) ≤ 9 ∧ (if (7 : Int32) ≤ nI d then nI s * (nI d - 7) / 7 else nI s * (7 - nI d) / 7) = sW7 (nI s) (nI d) := by decide +kernel
def sD (t s d : Int32) : Int32 := if t ≤ 20 then (if 20 ≤ t then t else g_max 0 (t - sW7 s d)) else g_min 40 (t + sW7 s d)
theorem px_tideOn {q k : Nat} (hk : k < 12) (d : Int32) (M : g_M) : x_X2_tideOn q (nI k) d M = some (sD (M (q + 1) k) (M q 11) d, M) := by
  unfold x_X2_tideOn sD sW7
  rw [px_tideAt _ _ hk, Option.bind_some]
  split
  · split <;> rfl
  · rfl
theorem sD_b {t s d : Int32} (ht : 0 ≤ t ∧ t ≤ 40) (hs : 0 ≤ s ∧ s ≤ 9) (hd : 0 ≤ d ∧ d < 14) : 0 ≤ sD t s d ∧ sD t s d ≤ 40 := by
  obtain ⟨s', hs', rfl⟩ := p_in (n := 10) (by decide) hs.1 (show s < 10 by have := hs.2; grind)
  obtain ⟨d', hd', rfl⟩ := p_in (n := 14) (by decide) hd.1 hd.2
  obtain ⟨b1, b2, -⟩ := sW7_b s' hs' d' hd'
  unfold sD g_max g_min
  generalize sW7 (nI s') (nI d') = w at *
  obtain ⟨t0, t1⟩ := ht
  split
  · split
    · exact ⟨t0, t1⟩
    · split
      · constructor <;> grind
      · constructor <;> grind
  · split
    · constructor <;> grind
    · constructor <;> grind
theorem py_tideOn {k : Nat} (hk : k < 12) {d : Int32} {M : g_M} (ht : 0 ≤ M 43 k ∧ M 43 k ≤ 40) (hs : 0 ≤ M 41 18 ∧ M 41 18 ≤ 9) (hd : 0 ≤ d ∧ d < 14) : x_X9_tideOn (nI k) d M = some (sD (M 43 k) (M 41 18) d, M) := by
  have c : (nI k).toNatClampNeg = k := nI_clamp (by omega)
  have b := p_inb hk (by decide : (12 : Nat) < 2 ^ 31)
  obtain ⟨s', hs', es⟩ := p_in (n := 10) (by decide) hs.1 (show M 41 18 < nI 10 by have := hs.2; show M 41 18 < 10; grind)
  obtain ⟨d', hd', rfl⟩ := p_in (n := 14) (by decide) hd.1 hd.2
  obtain ⟨b1, b2, b3⟩ := sW7_b s' hs' d' hd'
  have key : x_X9_tideOn (nI k) (nI d') M = (if (M 43 k) ≤ (20 : Int32) then (if (20 : Int32) ≤ (M 43 k) then x_X9_tideOn_L72 20 M else x_X9_tideOn_L72 (M 43 k - sW7 (nI s') (nI d')) M) else x_X9_tideOn_L72 (M 43 k + sW7 (nI s') (nI d')) M) := by
    unfold x_X9_tideOn
    rw [es]
    by_cases q : (7 : Int32) ≤ nI d'
    · rw [if_pos q] at b3 ⊢
      simp only [x_X9_tideOn_L21, b, c, if_true, b3]
    · rw [if_neg q] at b3 ⊢
      simp only [x_X9_tideOn_L21, b, c, if_true, b3]
  rw [key, es]
  unfold sD x_X9_tideOn_L72 g_max g_min
  generalize sW7 (nI s') (nI d') = w at *
  generalize M 43 k = t at *
  obtain ⟨t0, t1⟩ := ht
  by_cases q1 : t ≤ 20
  · by_cases q2 : 20 ≤ t
    · have : t = 20 := by grind
      subst this
      simp
    · rw [if_pos q1, if_neg q2, if_pos q1, if_neg q2]
      by_cases q3 : 0 ≤ t - w
      · have q4 : t - w ≤ 40 := by grind
        rw [if_pos q3, if_pos q4]
        congr 2
        split <;> grind
      · rw [if_neg q3]
        congr 2
        split <;> grind
  · rw [if_neg q1, if_neg q1]
    have q3 : 0 ≤ t + w := by grind
    rw [if_pos q3]
    by_cases q4 : t + w ≤ 40
    · rw [if_pos q4]
      congr 2
      split <;> grind
    · rw [if_neg q4]
      congr 2
      split <;> grind
theorem inv_S {M : g_M} (h : inv M) : M 1 11 = M 41 18 ∧ 0 ≤ M 41 18 ∧ M 41 18 ≤ 9 := by
  obtain ⟨j1, j2, ⟨a3, a4, a5, a6⟩, j4, j5⟩ := hrel_iff.mp h.1
  exact ⟨a6.1, a6.2.1, a6.2.2⟩
theorem op_swells (a d : Int32) : opOK (x_X8_swells a d) (x_X9_swells a d) := by
  intro M h
  by_cases ha : 0 ≤ a ∧ a < 12
  rotate_left
  · exact op_ref h (k := 1) (r := -nI 1) (by decide) (by simp [x_X8_swells, px_isHour, ha, n1, px_refused]) (fun M1 _ => by simp [x_X9_swells, x_X9_swells_L18, py_isHour, ha, n1, nz1, py_no])
  by_cases d0 : 0 ≤ d
  rotate_left
  · have hv : d < 0 := by rw [← Int32.not_le]; exact d0
    exact op_ref h (k := 4) (r := -nI 4) (by decide) (by simp [x_X8_swells, px_isHour, ha, d0, n4, px_refused]) (fun M1 _ => by simp [x_X9_swells, x_X9_swells_L18, py_isHour, ha, py_bound, hv, n4, nz4, py_no])
  have hv : ¬ d < 0 := by rw [Int32.not_lt]; exact d0
  by_cases d14 : d < 14
  rotate_left
  · have hv2 : 13 < d := by grind
    exact op_ref h (k := 6) (r := -nI 6) (by decide) (by simp [x_X8_swells, px_isHour, ha, d0, d14, n6, px_refused]) (fun M1 _ => by simp [x_X9_swells, x_X9_swells_L18, py_isHour, ha, py_bound, hv, hv2, n6, nz6, py_no])
  have hv2 : ¬ 13 < d := by grind
  obtain ⟨k, hk, rfl⟩ := p_in (n := 12) (by decide) ha.1 ha.2
  have S := inv_S h
  have t := (inv_T h).1 k hk
  refine op_ask h (r := sD (M 43 k) (M 41 18) d) (M1 := M) ?_ (scr_rf M) fun h1 hc => ⟨M, ?_, coreEq_rf _⟩
  · simp [x_X8_swells, px_isHour, ha, d0, d14, px_tideOn hk, t, S.1]
  · simp [x_X9_swells, x_X9_swells_L18, py_isHour, ha, py_bound, hv, hv2, py_tideOn hk ((inv_T h).2 k hk) S.2 ⟨d0, d14⟩]
/-! the ROW -/
theorem inv_N {M : g_M} (h : inv M) : ∃ n : Nat, n ≤ 12 ∧ M 21 1 = nI n ∧ M 41 37 = nI n ∧ ∀ i, i < n → M 22 i = M 64 i ∧ 0 ≤ M 64 i ∧ M 64 i ≤ 99 := by
  obtain ⟨n, n12, e1, e2, hrow⟩ := h.2.2.2.1
  exact ⟨n, n12, e1, e2, fun i hi => ⟨(hrow i hi).1, (hrow i hi).2.1, (hrow i hi).2.2⟩⟩
theorem px_at {M : g_M} {n i : Nat} (hn : n ≤ 12) (e : M 21 1 = nI n) (hi : i < n) : x_X6_at (nI i) M = some (M 22 i, M) := by
  have c : (nI i).toNatClampNeg = i := nI_clamp (by omega)
  have g1 : ¬ nI i < 0 := nI_pos (by omega)
  have g2 : ¬ nI n ≤ nI i := nI_ge hi (by omega)
  have g3 : ¬ (12 : Int32) ≤ nI i := p_n12 (by omega)
  simp only [x_X6_at, if_neg g1, e, if_neg g2, if_neg g3, p_inb (show i < 12 by omega) (by decide), if_true, c]
/-- greatest of the first so many -/
def mxr (T : Nat → Int32) (d : Int32) : Nat → Int32
  | 0 => d
  | n + 1 => g_max (mxr T d n) (T n)
theorem mxr_lt (T : Nat → Int32) (d v : Int32) : ∀ n, mxr T d n < v ↔ d < v ∧ ∀ i, i < n → T i < v := by
  intro n
  induction n with
  | zero => exact ⟨fun q => ⟨q, fun i hi => absurd hi (by omega)⟩, fun q => q.1⟩
  | succ n ih =>
    have e : mxr T d (n + 1) < v ↔ mxr T d n < v ∧ T n < v := by
      show g_max _ _ < v ↔ _
      unfold g_max
      generalize mxr T d n = x
      generalize T n = y
      split
      · constructor
        · intro q; exact ⟨by grind, q⟩
        · exact fun q => q.2
      · constructor
        · intro q; exact ⟨q, by grind⟩
        · exact fun q => q.1
    rw [e, ih]
    constructor
    · rintro ⟨⟨a, b⟩, c⟩
      refine ⟨a, fun i hi => ?_⟩
      by_cases z : i = n
      · subst z; exact c
      · exact b i (by omega)
    · rintro ⟨a, b⟩
      exact ⟨⟨a, fun i hi => b i (by omega)⟩, b n (by omega)⟩
theorem px_greatest {M : g_M} {n : Nat} (hn : n ≤ 12) (e : M 21 1 = nI n) : x_X6_greatest M = some (mxr (M 22) (-9) n, M) := by
  unfold x_X6_greatest
  rw [show (0 : Int32) = nI 0 from rfl]
  refine p_loop0 (n := n) (F := fun i fuel (_ : Unit) => x_X6_greatest_L5 fuel (mxr (M 22) (-9) i) (nI i) M) (I := fun _ _ => True) (R := fun r => r = some (mxr (M 22) (-9) n, M)) (s := ()) (by omega) trivial ?_ ?_
  · intro _ fuel _
    show x_X6_greatest_L5 (fuel + 1) _ _ M = _
    rw [x_X6_greatest_L5, e, if_pos (Int32.le_refl _)]
  · intro i _ fuel hi _
    right
    refine ⟨(), trivial, ?_⟩
    show x_X6_greatest_L5 (fuel + 1) _ _ M = x_X6_greatest_L5 fuel _ _ M
    rw [x_X6_greatest_L5, e, if_neg (show ¬ nI n ≤ nI i from nI_ge hi (by omega))]
    refine (bnd (px_at hn e hi) _).trans ?_
    rw [nI_succ]
    rfl
/-- waits together; none -/
def sQ (f : Int32) (T R : Nat → Int32) : Nat → Nat → Int32 → Int32
  | 0, _, s => s
  | k + 1, i, s => if ff (sF T f (R i).toNatClampNeg) nI (-9) 12 0 = -9 then -9 else sQ f T R k (i + 1) (s + ff (sF T f (R i).toNatClampNeg) nI (-9) 12 0)
theorem p_fm2 : ∀ a, a < 12 → ∀ k, k < 12 → (let x := nI ((a + k) % 12) - nI a; (if 0 ≤ x ^^^ 12 then x - x / 12 * 12 else if x - x / 12 * 12 = 0 then x - x / 12 * 12 else x - x / 12 * 12 + 12) = nI k) := by decide +kernel
theorem px_fm2 {a k : Nat} (ha : a < 12) (hk : k < 12) (M : g_M) : x_J9_floorMod_7cf53 (nI ((a + k) % 12) - nI a) 12 M = some (nI k, M) := by
  have q := p_fm2 a ha k hk
  have z : ¬ (12 : Int32) = 0 := by decide
  rw [x_J9_floorMod_7cf53, if_neg z]
  simp only at q
  generalize nI ((a + k) % 12) - nI a = x at q
  rw [← q]
  split
  · rfl
  · split <;> rfl
theorem n9 : ∀ k, k < 12 → ¬ nI k = (-9 : Int32) := by decide
theorem lx_waited {M : g_M} {n : Nat} (hn : n ≤ 12) (e : M 21 1 = nI n) (hr : ∀ i, i < n → 0 ≤ M 22 i ∧ M 22 i < 12) (v f : Int32) : ∀ k i fuel s, i + k = n → k < fuel → x_X8_waited_L58 fuel v f s (nI i) M = some (sQ (v + f) (M 2) (M 22) k i s, M) := by
  intro k
  induction k with
  | zero =>
    intro i fuel s hi hf
    obtain ⟨m, rfl⟩ : ∃ m, fuel = m + 1 := ⟨fuel - 1, by omega⟩
    obtain rfl : i = n := by omega
    rw [x_X8_waited_L58, e, if_pos (Int32.le_refl _)]
    rfl
  | succ k ih =>
    intro i fuel s hi hf
    obtain ⟨m, rfl⟩ : ∃ m, fuel = m + 1 := ⟨fuel - 1, by omega⟩
    have r := hr i (by omega)
    obtain ⟨a, ha, ea⟩ := p_in (n := 12) (by decide) r.1 r.2
    have c : (nI a).toNatClampNeg = a := nI_clamp (by omega)
    rw [x_X8_waited_L58, e, if_neg (show ¬ nI n ≤ nI i from nI_ge (by omega) (by omega))]
    refine (bnd (px_at hn e (by omega)) _).trans ?_
    show Option.bind (x_X2_firstHourWith 1 (v + f) (M 22 i) M) _ = _
    rw [ea, sQ, ea, c]
    refine (bnd (px_first ha (v + f) M) _).trans ?_
    rcases ff_two (sF (M 2) (v + f) a) a with ⟨j, hj, e1, e2⟩ | ⟨e1, e2⟩
    · show (if ff (sF (M 2) (v + f) a) (fun i => nI ((a + i) % 12)) (-9) 12 0 = (-9 : Int32) then some ((-9 : Int32), M) else (x_J9_floorMod_7cf53 (ff (sF (M 2) (v + f) a) (fun i => nI ((a + i) % 12)) (-9) 12 0 - nI a) 12 M).bind fun u5 => x_X8_waited_L58 m v f (s + u5.1) (nI i + 1) u5.2) = _
      rw [e1, e2, if_neg (n9 j hj), if_neg (n9 _ (Nat.mod_lt _ (by decide)))]
      refine (bnd (px_fm2 ha hj M) _).trans ?_
      rw [← nI_succ]
      exact ih (i + 1) m _ (by omega) (by omega)
    · show (if ff (sF (M 2) (v + f) a) (fun i => nI ((a + i) % 12)) (-9) 12 0 = (-9 : Int32) then some ((-9 : Int32), M) else (x_J9_floorMod_7cf53 (ff (sF (M 2) (v + f) a) (fun i => nI ((a + i) % 12)) (-9) 12 0 - nI a) 12 M).bind fun u5 => x_X8_waited_L58 m v f (s + u5.1) (nI i + 1) u5.2) = _
      rw [e1, e2, if_pos rfl, if_pos rfl]
theorem ly_waited {M : g_M} {n : Nat} (hn : n ≤ 12) (e : M 41 37 = nI n) (hr : ∀ i, i < n → 0 ≤ M 64 i ∧ M 64 i < 12) (v f : Int32) : ∀ k i fuel s, i + k = n → k < fuel → x_X9_waited_L64 fuel v f s (nI i) M = some (sQ (v + f) (M 43) (M 64) k i s, M) := by
  intro k
  induction k with
  | zero =>
    intro i fuel s hi hf
    obtain ⟨m, rfl⟩ : ∃ m, fuel = m + 1 := ⟨fuel - 1, by omega⟩
    obtain rfl : i = n := by omega
    rw [x_X9_waited_L64, e, if_pos (Int32.le_refl _)]
    rfl
  | succ k ih =>
    intro i fuel s hi hf
    obtain ⟨m, rfl⟩ : ∃ m, fuel = m + 1 := ⟨fuel - 1, by omega⟩
    have r := hr i (by omega)
    obtain ⟨a, ha, ea⟩ := p_in (n := 12) (by decide) r.1 r.2
    have c : (nI a).toNatClampNeg = a := nI_clamp (by omega)
    have ci : (nI i).toNatClampNeg = i := nI_clamp (by omega)
    rw [x_X9_waited_L64, e, if_neg (show ¬ nI n ≤ nI i from nI_ge (by omega) (by omega)), if_pos (p_inb (show i < 12 by omega) (by decide)), ci, ea, sQ, ea, c]
    refine (bnd (py_waits ha (v + f) M) _).trans ?_
    show (if 0 ≤ ff (sF (M 43) (v + f) a) nI (-9) 12 0 then x_X9_waited_L64 m v f (s + ff (sF (M 43) (v + f) a) nI (-9) 12 0) (nI i + 1) M else some ((-9 : Int32), M)) = _
    rcases ff_two (sF (M 43) (v + f) a) a with ⟨j, hj, e1, e2⟩ | ⟨e1, e2⟩
    · rw [e1, if_pos (p_pos (by omega)), if_neg (n9 j hj), ← nI_succ]
      exact ih (i + 1) m _ (by omega) (by omega)
    · rw [e1, if_neg (by decide), if_pos rfl]
theorem sQ_cg {f : Int32} {T T' R R' : Nat → Int32} (h : ∀ k, k < 12 → T k = T' k) : ∀ k i s, (∀ j, j < i + k → R j = R' j) → sQ f T R k i s = sQ f T' R' k i s := by
  intro k
  induction k with
  | zero => intro i s _; rfl
  | succ k ih =>
    intro i s hR
    rw [sQ, sQ, hR i (by omega), ff_cg (fun j _ => sF_cg h f _ j) (fun _ _ => rfl), ih (i + 1) _ (fun j hj => hR j (by omega))]
theorem op_waited (v f : Int32) : opOK (x_X8_waited v f) (x_X9_waited v f) := by
  intro M h
  obtain ⟨n, n12, e1, e2, hr⟩ := inv_N h
  have stop : ∀ (w : Int32) (k : Nat) (M1 : g_M), ¬ w = 0 → M1 41 37 = nI n → x_X9_waited_L9 g_F v f w 0 M1 = x_X9_waited_L48 v f w M1 := by
    intro w k M1 hw e
    show x_X9_waited_L9 (19999 + 1) v f w 0 M1 = _
    rw [x_X9_waited_L9]
    split
    · rfl
    · rfl
  by_cases v0 : v < 0
  · exact op_ref h (k := 4) (r := -nI 4) (by decide) (by simp [x_X8_waited, v0, n4, px_refused]) (fun M1 hc => by simp [x_X9_waited, stop (-nI 4) 0 M1 (by decide) (by rw [hc 41 (by decide)]; exact e2), x_X9_waited_L48, x_X9_notGate, v0, n4, nz4, py_no])
  by_cases f0 : 0 ≤ f
  rotate_left
  · exact op_ref h (k := 4) (r := -nI 4) (by decide) (by simp [x_X8_waited, v0, f0, n4, px_refused]) (fun M1 hc => by simp [x_X9_waited, stop (-nI 4) 0 M1 (by decide) (by rw [hc 41 (by decide)]; exact e2), x_X9_waited_L48, x_X9_notGate, v0, f0, n4, nz4, py_no])
  by_cases v4 : 40 < v
  · exact op_ref h (k := 6) (r := -nI 6) (by decide) (by simp [x_X8_waited, v0, f0, v4, n6, px_refused]) (fun M1 hc => by simp [x_X9_waited, stop (-nI 6) 0 M1 (by decide) (by rw [hc 41 (by decide)]; exact e2), x_X9_waited_L48, x_X9_notGate, v0, f0, v4, n6, nz6, py_no])
  by_cases f9 : f ≤ 9
  rotate_left
  · exact op_ref h (k := 6) (r := -nI 6) (by decide) (by simp [x_X8_waited, v0, f0, v4, f9, n6, px_refused]) (fun M1 hc => by simp [x_X9_waited, stop (-nI 6) 0 M1 (by decide) (by rw [hc 41 (by decide)]; exact e2), x_X9_waited_L48, x_X9_notGate, v0, f0, v4, f9, n6, nz6, py_no])
  have look : ∀ M1 : g_M, M1 41 37 = nI n → M1 64 = M 64 → x_X9_waited_L9 g_F v f 0 0 M1 = x_X9_waited_L48 v f (if ∀ i, i < n → M 64 i < 12 then 0 else -3) M1 := by
    intro M1 m1 m2
    have lp : ∀ k i fuel, i + k = n → k + 1 < fuel → (∀ j, j < i → M 64 j < 12) → x_X9_waited_L9 fuel v f 0 (nI i) M1 = x_X9_waited_L48 v f (if ∀ i, i < n → M 64 i < 12 then 0 else -3) M1 := by
      intro k
      induction k with
      | zero =>
        intro i fuel hi hf hj
        obtain ⟨m, rfl⟩ : ∃ m, fuel = m + 1 := ⟨fuel - 1, by omega⟩
        obtain rfl : i = n := by omega
        rw [x_X9_waited_L9, m1, if_pos (Int32.le_refl _), if_pos hj]
      | succ k ih =>
        intro i fuel hi hf hj
        obtain ⟨m, rfl⟩ : ∃ m, fuel = m + 2 := ⟨fuel - 2, by omega⟩
        have c : (nI i).toNatClampNeg = i := nI_clamp (by omega)
        rw [x_X9_waited_L9, m1, if_neg (show ¬ nI n ≤ nI i from nI_ge (by omega) (by omega)), if_pos rfl, if_pos (p_inb (show i < 12 by omega) (by decide)), c, m2]
        refine (bnd (py_isHour (M 64 i) M1) _).trans ?_
        by_cases q : M 64 i < 12
        · have q2 : 0 ≤ M 64 i ∧ M 64 i < 12 := ⟨(hr i (by omega)).2.1, q⟩
          show (if (if 0 ≤ M 64 i ∧ M 64 i < 12 then (1 : Int32) else 0) = 0 then x_X9_waited_L9 (m + 1) v f (-3) (nI i + 1) M1 else x_X9_waited_L9 (m + 1) v f 0 (nI i + 1) M1) = _
          rw [if_pos q2, if_neg (by decide), ← nI_succ]
          exact ih (i + 1) (m + 1) (by omega) (by omega) (fun j hj2 => by
            by_cases z : j = i
            · subst z; exact q
            · exact hj j (by omega))
        · have q2 : ¬ (0 ≤ M 64 i ∧ M 64 i < 12) := fun z => q z.2
          show (if (if 0 ≤ M 64 i ∧ M 64 i < 12 then (1 : Int32) else 0) = 0 then x_X9_waited_L9 (m + 1) v f (-3) (nI i + 1) M1 else x_X9_waited_L9 (m + 1) v f 0 (nI i + 1) M1) = _
          rw [if_neg q2, if_pos rfl, if_neg (fun z => q (z i (by omega))), x_X9_waited_L9, m1]
          split
          · rfl
          · rw [if_neg (by decide)]
    exact lp n 0 g_F (by omega) (by show n + 1 < 20000; omega) (fun j hj => absurd hj (by omega))
  have gr := px_greatest n12 e1
  have all : mxr (M 22) (-9) n < 12 ↔ ∀ i, i < n → M 64 i < 12 := by
    rw [mxr_lt]
    constructor
    · exact fun q i hi => by rw [← (hr i hi).1]; exact q.2 i hi
    · exact fun q => ⟨by decide, fun i hi => by rw [(hr i hi).1]; exact q i hi⟩
  by_cases hall : ∀ i, i < n → M 64 i < 12
  · have hx := lx_waited n12 e1 (fun i hi => by rw [(hr i hi).1]; exact ⟨(hr i hi).2.1, hall i hi⟩) v f n 0 g_F 0 (by omega) (by show n < 20000; omega)
    have hy := ly_waited n12 e2 (fun i hi => ⟨(hr i hi).2.1, hall i hi⟩) v f n 0 g_F 0 (by omega) (by show n < 20000; omega)
    rw [nI_0] at hx hy
    rw [sQ_cg (T' := M 43) (R' := M 64) (inv_T h).1 n 0 0 (fun j hj => (hr j (by omega)).1)] at hx
    refine op_ask h (r := sQ (v + f) (M 43) (M 64) n 0 0) (M1 := M) ?_ (scr_rf M) fun h1 hc => ⟨M, ?_, coreEq_rf _⟩
    · simp [x_X8_waited, v0, f0, v4, f9, gr, all.mpr hall, hx]
    · have lk := look M e2 rfl
      rw [if_pos hall] at lk
      simp [x_X9_waited, x_X9_notGate, v0, f0, v4, f9, lk, x_X9_waited_L48, hy]
  · have na : ¬ mxr (M 22) (-9) n < 12 := fun q => hall (all.mp q)
    refine op_ref h (k := 3) (r := -nI 3) (by decide) (by simp [x_X8_waited, v0, f0, v4, f9, gr, na, n3, px_refused]) (fun M1 hc => ?_)
    have lk := look M1 (by rw [hc 41 (by decide)]; exact e2) (hc 64 (by decide))
    rw [if_neg hall] at lk
    simp [x_X9_waited, x_X9_notGate, v0, f0, v4, f9, lk, x_X9_waited_L48, n3, nz3, py_no]
theorem p_car : ∀ a, a < 12 → ∀ b, b < 12 → ¬ a = b → ((b + 12 - a) % 12 < 12) ∧ (a + (b + 12 - a) % 12) % 12 = b ∧ (∀ i, i < (b + 12 - a) % 12 → ¬ (a + i) % 12 = b) ∧ (let x := nI b - nI a; (if 0 ≤ x ^^^ 12 then x - x / 12 * 12 else if x - x / 12 * 12 = 0 then x - x / 12 * 12 else x - x / 12 * 12 + 12) = nI ((b + 12 - a) % 12)) := by decide +kernel
theorem p_next : ∀ a, a < 12 → ∀ i, i < 12 → nI ((a + i) % 12) + 1 - (nI ((a + i) % 12) + 1) / 12 * 12 = nI ((a + (i + 1)) % 12) := by decide +kernel
theorem op_carry (v a b : Int32) : opOK (x_X8_carry v a b) (x_X9_carry v a b) := by
  intro M h
  by_cases h0 : 0 ≤ v
  rotate_left
  · have hv : v < 0 := by rw [← Int32.not_le]; exact h0
    exact op_ref h (k := 4) (r := -nI 4) (by decide) (by simp [x_X8_carry, h0, n4, px_refused]) (fun M1 _ => by simp [x_X9_carry, x_X9_carry_L36, py_bound, hv, n4, nz4, py_no])
  have hv : ¬ v < 0 := by rw [Int32.not_lt]; exact h0
  by_cases h4 : v ≤ 40
  rotate_left
  · have hv2 : 40 < v := by rw [← Int32.not_le]; exact h4
    exact op_ref h (k := 6) (r := -nI 6) (by decide) (by simp [x_X8_carry, h0, h4, n6, px_refused]) (fun M1 _ => by simp [x_X9_carry, x_X9_carry_L36, py_bound, hv, hv2, n6, nz6, py_no])
  have hv2 : ¬ 40 < v := by rw [Int32.not_lt]; exact h4
  by_cases ha : 0 ≤ a ∧ a < 12
  rotate_left
  · exact op_ref h (k := 1) (r := -nI 1) (by decide) (by simp [x_X8_carry, h0, h4, px_isHour, ha, n1, px_refused]) (fun M1 _ => by simp [x_X9_carry, x_X9_carry_L36, py_bound, hv, hv2, py_isHour, ha, n1, nz1, py_no])
  by_cases hb : 0 ≤ b ∧ b < 12
  rotate_left
  · exact op_ref h (k := 1) (r := -nI 1) (by decide) (by simp [x_X8_carry, h0, h4, px_isHour, ha, hb, n1, px_refused]) (fun M1 _ => by simp [x_X9_carry, x_X9_carry_L36, py_bound, hv, hv2, py_isHour, ha, hb, n1, nz1, py_no])
  by_cases hab : a = b
  · exact op_ref h (k := 1) (r := -nI 1) (by decide) (by simp [x_X8_carry, h0, h4, px_isHour, hb, hab, n1, px_refused]) (fun M1 _ => by simp [x_X9_carry, x_X9_carry_L36, py_bound, hv, hv2, py_isHour, hb, hab, n1, nz1, py_no])
  obtain ⟨i, hi, rfl⟩ := p_in (n := 12) (by decide) ha.1 ha.2
  obtain ⟨j, hj, rfl⟩ := p_in (n := 12) (by decide) hb.1 hb.2
  have hij : ¬ i = j := fun q => hab (by rw [q])
  obtain ⟨c1, c2, c3, c4⟩ := p_car i hi j hj hij
  generalize hn : (j + 12 - i) % 12 = n at c1 c2 c3 c4
  have T := inv_T h
  have fm : x_J9_floorMod_7cf53 (nI j - nI i) 12 M = some (nI n, M) := by
    have z : ¬ (12 : Int32) = 0 := by decide
    rw [x_J9_floorMod_7cf53, if_neg z]
    simp only at c4
    generalize nI j - nI i = x at c4
    rw [← c4]
    split
    · rfl
    · split <;> rfl
  have lx : ∀ k e fuel s, e + k = n → k < fuel → x_X8_carry_L65 fuel (nI i) (nI j) s (nI n) (nI e) M = (let w := mxr (fun t => M 43 ((i + (e + t)) % 12)) s k; some (if M 43 j ≤ w then -9 else w, M)) := by
    intro k
    induction k with
    | zero =>
      intro e fuel s he hf
      obtain ⟨m, rfl⟩ : ∃ m, fuel = m + 1 := ⟨fuel - 1, by omega⟩
      obtain rfl : e = n := by omega
      rw [x_X8_carry_L65, if_pos (Int32.le_refl _)]
      refine (bnd (px_tideAt 1 j hj M) _).trans ?_
      show (if M 2 j ≤ s then some ((-9 : Int32), M) else some (s, M)) = some (if M 43 j ≤ s then -9 else s, M)
      rw [T.1 j hj]
      split <;> rfl
    | succ k ih =>
      intro e fuel s he hf
      obtain ⟨m, rfl⟩ : ∃ m, fuel = m + 1 := ⟨fuel - 1, by omega⟩
      have hm : (i + e) % 12 < 12 := Nat.mod_lt _ (by decide)
      rw [x_X8_carry_L65, if_neg (show ¬ nI n ≤ nI e from nI_ge (by omega) (by omega)), p_add, (p_fm (i + e) (by omega)).2]
      refine (bnd (px_tideAt 1 _ hm M) _).trans ?_
      show x_X8_carry_L65 m (nI i) (nI j) (g_max s (M 2 ((i + e) % 12))) (nI n) (nI e + 1) M = _
      rw [T.1 _ hm, ← nI_succ, ih (e + 1) m _ (by omega) (by omega)]
      have sh : ∀ k, mxr (fun t => M 43 ((i + (e + 1 + t)) % 12)) (g_max s (M 43 ((i + e) % 12))) k = mxr (fun t => M 43 ((i + (e + t)) % 12)) s (k + 1) := by
        intro k
        induction k with
        | zero => rfl
        | succ k ih2 =>
          rw [mxr, ih2, mxr.eq_def _ _ (k + 1 + 1)]
          show g_max _ (M 43 ((i + (e + 1 + k)) % 12)) = g_max _ (M 43 ((i + (e + (k + 1))) % 12))
          rw [show e + 1 + k = e + (k + 1) by omega]
      rw [sh]
  have ly : ∀ k e fuel s, e + k = n → k < fuel → x_X9_carry_L54 fuel (nI j) s (nI ((i + e) % 12)) M = (let w := mxr (fun t => M 43 ((i + (e + t)) % 12)) s k; some (if M 43 j ≤ w then -9 else w, M)) := by
    intro k
    have cj : (nI j).toNatClampNeg = j := nI_clamp (by omega)
    induction k with
    | zero =>
      intro e fuel s he hf
      obtain ⟨m, rfl⟩ : ∃ m, fuel = m + 1 := ⟨fuel - 1, by omega⟩
      obtain rfl : e = n := by omega
      rw [c2, x_X9_carry_L54, if_pos rfl, if_pos (p_inb hj (by decide)), cj]
      show (if M 43 j ≤ s then some ((-9 : Int32), M) else some (s, M)) = some (if M 43 j ≤ s then -9 else s, M)
      split <;> rfl
    | succ k ih =>
      intro e fuel s he hf
      obtain ⟨m, rfl⟩ : ∃ m, fuel = m + 1 := ⟨fuel - 1, by omega⟩
      have hm : (i + e) % 12 < 12 := Nat.mod_lt _ (by decide)
      have ce : (nI ((i + e) % 12)).toNatClampNeg = (i + e) % 12 := nI_clamp (by omega)
      have nej : ¬ nI ((i + e) % 12) = nI j := fun q => c3 e (by omega) ((p_eq (by omega) (by omega)).mp q)
      rw [x_X9_carry_L54, if_neg nej]
      simp only [p_inb hm (by decide), if_true, ce, p_next i hi e (by omega)]
      have sh : ∀ k, mxr (fun t => M 43 ((i + (e + 1 + t)) % 12)) (g_max s (M 43 ((i + e) % 12))) k = mxr (fun t => M 43 ((i + (e + t)) % 12)) s (k + 1) := by
        intro k
        induction k with
        | zero => rfl
        | succ k ih2 =>
          rw [mxr, ih2, mxr.eq_def _ _ (k + 1 + 1)]
          show g_max _ (M 43 ((i + (e + 1 + k)) % 12)) = g_max _ (M 43 ((i + (e + (k + 1))) % 12))
          rw [show e + 1 + k = e + (k + 1) by omega]
      have g : (if M 43 ((i + e) % 12) ≤ s then x_X9_carry_L54 m (nI j) s (nI ((i + (e + 1)) % 12)) M else x_X9_carry_L54 m (nI j) (M 43 ((i + e) % 12)) (nI ((i + (e + 1)) % 12)) M) = x_X9_carry_L54 m (nI j) (g_max s (M 43 ((i + e) % 12))) (nI ((i + (e + 1)) % 12)) M := by
        unfold g_max
        by_cases q : M 43 ((i + e) % 12) ≤ s
        · rw [if_pos q, if_neg (by rw [Int32.not_lt]; exact q)]
        · rw [if_neg q, if_pos (by rw [← Int32.not_le]; exact q)]
      rw [g, ih (e + 1) m _ (by omega) (by omega), sh]
  have x1 := lx n 0 g_F v (by omega) (by show n < 20000; omega)
  have y1 := ly n 0 g_F v (by omega) (by show n < 20000; omega)
  rw [nI_0] at x1
  rw [Nat.add_zero, Nat.mod_eq_of_lt hi] at y1
  refine op_ask h (r := if M 43 j ≤ mxr (fun t => M 43 ((i + (0 + t)) % 12)) v n then -9 else mxr (fun t => M 43 ((i + (0 + t)) % 12)) v n) (M1 := M) ?_ (scr_rf M) fun h1 hc => ⟨M, ?_, coreEq_rf _⟩
  · have g1 : x_X8_isHour (nI i) M = some (1, M) := by rw [px_isHour, if_pos ha]
    have g2 : x_X8_isHour (nI j) M = some (1, M) := by rw [px_isHour, if_pos hb]
    have z : ¬ (1 : Int32) = 0 := by decide
    rw [x_X8_carry, if_pos h0, if_pos h4]
    refine (bnd g1 _).trans ?_
    dsimp only
    rw [if_neg z]
    refine (bnd g2 _).trans ?_
    dsimp only
    rw [if_neg z, if_neg hab]
    refine (bnd fm _).trans ?_
    exact x1
  · have g0 : x_X9_bound v 0 40 M = some (0, M) := by rw [py_bound, if_neg hv, if_neg hv2]
    have g1 : x_X9_isHour (nI i) M = some (1, M) := by rw [py_isHour, if_pos ha]
    have g2 : x_X9_isHour (nI j) M = some (1, M) := by rw [py_isHour, if_pos hb]
    have z : ¬ (1 : Int32) = 0 := by decide
    rw [x_X9_carry]
    refine (bnd g0 _).trans ?_
    dsimp only
    rw [if_pos rfl]
    refine (bnd g1 _).trans ?_
    dsimp only
    rw [if_neg z]
    refine (bnd g2 _).trans ?_
    dsimp only
    rw [if_neg z, if_neg hab, x_X9_carry_L36, if_pos rfl]
    exact y1
