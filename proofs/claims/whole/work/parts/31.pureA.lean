/-! THE PURE PART. A: numbers, simple methods of both sides -/
theorem p_lt {a b : Nat} (ha : a < 2 ^ 31) (hb : b < 2 ^ 31) : nI a < nI b ↔ a < b := by
  rw [Int32.lt_iff_toInt_lt, nI_toInt ha, nI_toInt hb]; omega
theorem p_le {a b : Nat} (ha : a < 2 ^ 31) (hb : b < 2 ^ 31) : nI a ≤ nI b ↔ a ≤ b := by
  rw [Int32.le_iff_toInt_le, nI_toInt ha, nI_toInt hb]; omega
theorem p_eq {a b : Nat} (ha : a < 2 ^ 31) (hb : b < 2 ^ 31) : nI a = nI b ↔ a = b := by
  constructor
  · intro h
    have := congrArg Int32.toInt h
    rw [nI_toInt ha, nI_toInt hb] at this
    omega
  · rintro rfl
    rfl
theorem p_ge0 {a : Nat} (ha : a < 2 ^ 31) : 0 ≤ nI a := by
  rw [Int32.le_iff_toInt_le, nI_toInt ha, Int32.toInt_zero]; omega
theorem p_in {i : Int32} {n : Nat} (hn : n < 2 ^ 31) (h0 : 0 ≤ i) (h1 : i < nI n) : ∃ k, k < n ∧ i = nI k := by
  obtain ⟨k, hk, rfl⟩ := nI_of (by rw [Int32.not_lt]; exact h0)
  exact ⟨k, (p_lt hk hn).mp h1, rfl⟩
theorem p_inb {k n : Nat} (h : k < n) (hn : n < 2 ^ 31) : g_inb (nI k) n = true := by
  unfold g_inb
  rw [nI_clamp (by omega), Bool.and_eq_true, decide_eq_true_eq, decide_eq_true_eq]
  exact ⟨p_ge0 (by omega), h⟩
theorem p_add {a b : Nat} : nI a + nI b = nI (a + b) := (Int32.ofNat_add a b).symm
theorem p_mul {a b : Nat} : nI a * nI b = nI (a * b) := (Int32.ofNat_mul a b).symm
theorem p_sub {a b : Nat} (h : b ≤ a) : nI a - nI b = nI (a - b) := by
  have : nI a = nI (a - b) + nI b := by rw [p_add, Nat.sub_add_cancel h]
  rw [this]
  grind
theorem p_div {a b : Nat} (ha : a < 2 ^ 31) (hb : b < 2 ^ 31) : nI a / nI b = nI (a / b) := by
  have hd : a / b < 2 ^ 31 := Nat.lt_of_le_of_lt (Nat.div_le_self a b) ha
  apply Int32.toInt_inj.mp
  rw [nI_toInt hd, Int32.toInt_div, nI_toInt ha, nI_toInt hb]
  have e : (a : Int).tdiv (b : Int) = ((a / b : Nat) : Int) := by
    rw [Int.ofNat_tdiv]
  rw [e]
  generalize a / b = c at hd
  exact Int.bmod_eq_of_le (by omega) (by omega)
/-- the square root, cut -/
def p_rt (v : Nat) : Nat → Nat
  | 0 => 0
  | n + 1 => if (n + 1) * (n + 1) ≤ v then n + 1 else p_rt v n
def p_root (v : Nat) : Nat := p_rt v 127
theorem p_rt_spec (v : Nat) : ∀ n, p_rt v n * p_rt v n ≤ v ∧ p_rt v n ≤ n ∧ ∀ m, m ≤ n → m * m ≤ v → m ≤ p_rt v n := by
  intro n
  induction n with
  | zero => exact ⟨by simp [p_rt], by simp [p_rt], fun m hm _ => by omega⟩
  | succ n ih =>
    unfold p_rt
    by_cases h : (n + 1) * (n + 1) ≤ v
    · rw [if_pos h]
      exact ⟨h, Nat.le_refl _, fun m hm _ => hm⟩
    · rw [if_neg h]
      refine ⟨ih.1, by omega, fun m hm h2 => ?_⟩
      by_cases e : m = n + 1
      · subst e
        exact absurd h2 h
      · exact ih.2.2 m (by omega) h2
theorem p_root_eq {v r : Nat} (h1 : r * r ≤ v) (h2 : v < (r + 1) * (r + 1)) (hr : r ≤ 127) : p_root v = r := by
  obtain ⟨a, b, c⟩ := p_rt_spec v 127
  have h3 := c r hr h1
  have h4 : ¬ r + 1 ≤ p_rt v 127 := fun h => by
    have := Nat.mul_le_mul h h
    omega
  show p_rt v 127 = r
  omega
theorem px_isHour (p : Int32) (M : g_M) : x_X8_isHour p M = some (if 0 ≤ p ∧ p < 12 then 1 else 0, M) := by grind [x_X8_isHour]
theorem py_isHour (p : Int32) (M : g_M) : x_X9_isHour p M = some (if 0 ≤ p ∧ p < 12 then 1 else 0, M) := by grind [x_X9_isHour]
theorem py_bound (p a b : Int32) (M : g_M) : x_X9_bound p a b M = some (if p < a then -4 else if b < p then -6 else 0, M) := by grind [x_X9_bound]
theorem py_isIn (p a b : Int32) (M : g_M) : x_X9_isIn p a b M = some (if a ≤ p ∧ p ≤ b then 1 else 0, M) := by grind [x_X9_isIn]
theorem px_isOneOf (p n : Int32) (M : g_M) : x_X8_isOneOf p n M = some (if 0 ≤ p ∧ p < n then 1 else 0, M) := by grind [x_X8_isOneOf]
theorem px_cellAt (a n k : Nat) (hk : k < n) (hn : n < 2 ^ 31) (M : g_M) : x_X2_cellAt a n (nI k) M = some (M a k, M) := by
  have h1 : ¬ nI k < 0 := nI_pos (by omega)
  have h2 : ¬ Int32.ofNat n ≤ nI k := nI_ge hk hn
  have h3 := p_inb hk hn
  have h4 : (nI k).toNatClampNeg = k := nI_clamp (by omega)
  simp [x_X2_cellAt, h1, h2, h3, h4]
theorem px_setCell (a n k : Nat) (hk : k < n) (hn : n < 2 ^ 31) (v : Int32) (M : g_M) : x_X2_setCell a n (nI k) v M = some (0, g_upd M a k v) := by
  have h1 : ¬ nI k < 0 := nI_pos (by omega)
  have h2 : ¬ Int32.ofNat n ≤ nI k := nI_ge hk hn
  have h3 := p_inb hk hn
  have h4 : (nI k).toNatClampNeg = k := nI_clamp (by omega)
  simp [x_X2_setCell, h1, h2, h3, h4]
theorem px_tideAt (q k : Nat) (hk : k < 12) (M : g_M) : x_X2_tideAt q (nI k) M = some (M (q + 1) k, M) := by
  simp [x_X2_tideAt, px_cellAt _ _ _ hk (by decide)]
theorem px_windAt (q k : Nat) (hk : k < 12) (M : g_M) : x_X2_windAt q (nI k) M = some (M (q + 2) k, M) := by
  simp [x_X2_windAt, px_cellAt _ _ _ hk (by decide)]
theorem px_setTide (q k : Nat) (hk : k < 12) (v : Int32) (M : g_M) : x_X2_setTide q (nI k) v M = some (0, g_upd M (q + 1) k v) := by
  simp [x_X2_setTide, px_setCell _ _ _ hk (by decide)]
theorem px_setWind (q k : Nat) (hk : k < 12) (v : Int32) (M : g_M) : x_X2_setWind q (nI k) v M = some (0, g_upd M (q + 2) k v) := by
  simp [x_X2_setWind, px_setCell _ _ _ hk (by decide)]
theorem px_hasRing (q : Nat) (p : Int32) (M : g_M) : x_X2_hasRing q p M = some (if 0 ≤ p ∧ p < M q 5 then 1 else 0, M) := by grind [x_X2_hasRing]
theorem px_hasBoat (q : Nat) (p : Int32) (M : g_M) : x_X2_hasBoat q p M = some (if 0 ≤ p ∧ p < M q 6 then 1 else 0, M) := by grind [x_X2_hasBoat]
theorem px_hasRamp (q : Nat) (p : Int32) (M : g_M) : x_X2_hasRamp q p M = some (if 0 ≤ p ∧ p < M q 7 then 1 else 0, M) := by grind [x_X2_hasRamp]
theorem py_isRing (p : Int32) (M : g_M) : x_X9_isRing p M = some (if 0 ≤ p ∧ p < M 41 15 then 1 else 0, M) := by grind [x_X9_isRing]
theorem py_isBoat (p : Int32) (M : g_M) : x_X9_isBoat p M = some (if 0 ≤ p ∧ p < M 41 16 then 1 else 0, M) := by grind [x_X9_isBoat]
theorem py_isRamp (p : Int32) (M : g_M) : x_X9_isRamp p M = some (if 0 ≤ p ∧ p < M 41 19 then 1 else 0, M) := by grind [x_X9_isRamp]
theorem px_ringCell (q k j : Nat) (hk : k < 6) (hj : j < 2) (M : g_M) : x_X2_ringCell q (nI k) (nI j) M = some (M (q + 3) (2 * k + j), M) := by
  have e : nI k * 2 + nI j = nI (2 * k + j) := by
    rw [show (2 : Int32) = nI 2 from rfl, p_mul, p_add, Nat.mul_comm]
  simp [x_X2_ringCell, e, px_cellAt _ _ (2 * k + j) (show 2 * k + j < 12 by omega) (by decide)]
theorem px_boatCell (q k j : Nat) (hk : k < 5) (hj : j < 7) (M : g_M) : x_X2_boatCell q (nI k) (nI j) M = some (M (q + 4) (7 * k + j), M) := by
  have e : nI k * 7 + nI j = nI (7 * k + j) := by
    rw [show (7 : Int32) = nI 7 from rfl, p_mul, p_add, Nat.mul_comm]
  simp [x_X2_boatCell, e, px_cellAt _ _ (7 * k + j) (show 7 * k + j < 35 by omega) (by decide)]
theorem px_setBoatCell (q k j : Nat) (hk : k < 5) (hj : j < 7) (v : Int32) (M : g_M) : x_X2_setBoatCell q (nI k) (nI j) v M = some (0, g_upd M (q + 4) (7 * k + j) v) := by
  have e : nI k * 7 + nI j = nI (7 * k + j) := by
    rw [show (7 : Int32) = nI 7 from rfl, p_mul, p_add, Nat.mul_comm]
  simp [x_X2_setBoatCell, e, px_setCell _ _ (7 * k + j) (show 7 * k + j < 35 by omega) (by decide)]
theorem px_rampCell (q k j : Nat) (hk : k < 3) (hj : j < 2) (M : g_M) : x_X2_rampCell q (nI k) (nI j) M = some (M (q + 5) (2 * k + j), M) := by
  have e : nI k * 2 + nI j = nI (2 * k + j) := by
    rw [show (2 : Int32) = nI 2 from rfl, p_mul, p_add, Nat.mul_comm]
  simp [x_X2_rampCell, e, px_cellAt _ _ (2 * k + j) (show 2 * k + j < 6 by omega) (by decide)]
/-! refusals -/
theorem px_refused (k : Nat) (hk : k < 7) (M : g_M) : x_X8_refused (-nI k) M = some (-nI k, g_upd M 26 k (M 26 k + 1)) := by
  have e : - -nI k = nI k := by grind
  have h1 : ¬ nI k < 0 := nI_pos (by omega)
  have h2 : ¬ (7 : Int32) ≤ nI k := nI_ge hk (by decide)
  have h3 := p_inb hk (by decide : (7 : Nat) < 2 ^ 31)
  have h4 : (nI k).toNatClampNeg = k := nI_clamp (by omega)
  simp [x_X8_refused, e, h1, h2, h3, h4]
theorem py_no (k : Nat) (hk : k < 7) (M : g_M) : x_X9_no (-nI k) M = some (-nI k, g_upd M 42 k (M 42 k + 1)) := by
  have e : - -nI k = nI k := by grind
  have h3 := p_inb hk (by decide : (7 : Nat) < 2 ^ 31)
  have h4 : (nI k).toNatClampNeg = k := nI_clamp (by omega)
  simp [x_X9_no, e, h3, h4]
theorem px_refusedFar (k : Nat) (hk : k < 7) (M : g_M) : x_X8_refusedFar (-nI k) M = some (1000000000 - -nI k, g_upd M 26 k (M 26 k + 1)) := by
  simp [x_X8_refusedFar, px_refused k hk]
theorem py_lower (k : Nat) (hk : k < 7) (M : g_M) : x_X9_lower (-nI k) M = some (1000000000 - -nI k, g_upd M 42 k (M 42 k + 1)) := by
  have e : - -nI k = nI k := by grind
  have h3 := p_inb hk (by decide : (7 : Nat) < 2 ^ 31)
  have h4 : (nI k).toNatClampNeg = k := nI_clamp (by omega)
  simp [x_X9_lower, e, h3, h4]
