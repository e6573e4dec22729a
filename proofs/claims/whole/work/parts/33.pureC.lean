/-! THE PURE PART. C: roots, OUT -/
theorem lx_root (M : g_M) (v : Nat) (hv : v < 16384) : ∀ (j r fuel : Nat), j + 1 < fuel → r * r ≤ v → v < (r + 2 * 2 ^ j) * (r + 2 * 2 ^ j) → r + 2 * 2 ^ j ≤ 128 → x_X8_rootWithin_L5 fuel (nI v) (nI r) (nI (2 ^ j)) M = some (nI (p_root v), M) := by
  intro j
  induction j with
  | zero =>
    intro r fuel hf h1 h2 h3
    obtain ⟨n, rfl⟩ : ∃ n, fuel = n + 1 + 1 := ⟨fuel - 2, by omega⟩
    have e0 : ¬ nI (2 ^ 0) ≤ 0 := by decide
    have ea : nI r + nI (2 ^ 0) = nI (r + 1) := p_add
    have e1 : nI (2 ^ 0) / 2 = 0 := by decide
    have em : nI (r + 1) * nI (r + 1) = nI ((r + 1) * (r + 1)) := p_mul
    have hb : (r + 1) * (r + 1) < 2 ^ 31 := by
      have := Nat.mul_le_mul (show r + 1 ≤ 128 by omega) (show r + 1 ≤ 128 by omega)
      omega
    rw [x_X8_rootWithin_L5, if_neg e0, ea, em, e1]
    by_cases h : v < (r + 1) * (r + 1)
    · rw [if_pos ((p_lt (by omega) hb).mpr h), x_X8_rootWithin_L5, if_pos (by decide), p_root_eq h1 h (by omega)]
    · rw [if_neg (fun q => h ((p_lt (by omega) hb).mp q)), x_X8_rootWithin_L5, if_pos (by decide), p_root_eq (r := r + 1) (by omega) (by simpa using h2) (by omega)]
  | succ j ih =>
    intro r fuel hf h1 h2 h3
    obtain ⟨n, rfl⟩ : ∃ n, fuel = n + 1 := ⟨fuel - 1, by omega⟩
    have hp : 1 ≤ 2 ^ j := Nat.one_le_two_pow
    have hp2 : 2 ^ (j + 1) = 2 * 2 ^ j := by rw [Nat.pow_succ]; omega
    have hs : 2 ^ (j + 1) < 2 ^ 31 := by omega
    have e0 : ¬ nI (2 ^ (j + 1)) ≤ 0 := nI_nle (by omega) hs
    have ea : nI r + nI (2 ^ (j + 1)) = nI (r + 2 * 2 ^ j) := by rw [p_add, hp2]
    have e1 : nI (2 ^ (j + 1)) / 2 = nI (2 ^ j) := by
      rw [show (2 : Int32) = nI 2 from rfl, p_div hs (by decide), hp2]
      congr 1
      omega
    have hb : (r + 2 * 2 ^ j) * (r + 2 * 2 ^ j) < 2 ^ 31 := by
      have := Nat.mul_le_mul (show r + 2 * 2 ^ j ≤ 128 by omega) (show r + 2 * 2 ^ j ≤ 128 by omega)
      omega
    rw [x_X8_rootWithin_L5, if_neg e0, ea, p_mul, e1]
    by_cases h : v < (r + 2 * 2 ^ j) * (r + 2 * 2 ^ j)
    · rw [if_pos ((p_lt (by omega) hb).mpr h)]
      exact ih r n (by omega) h1 h (by omega)
    · rw [if_neg (fun q => h ((p_lt (by omega) hb).mp q))]
      refine ih (r + 2 * 2 ^ j) n (by omega) (by omega) ?_ (by omega)
      rw [hp2] at h2
      have e : r + 2 * 2 ^ j + 2 * 2 ^ j = r + 2 * (2 * 2 ^ j) := by omega
      rw [e]
      exact h2
theorem px_root {v : Nat} (hv : v < 16384) (M : g_M) : x_X8_rootWithin (nI v) M = some (nI (p_root v), M) :=
  lx_root M v hv 6 0 g_F (by decide) (by omega) (by omega) (by omega)
theorem p_root_spec {v : Nat} (hv : v < 16384) : p_root v * p_root v ≤ v ∧ v < (p_root v + 1) * (p_root v + 1) ∧ p_root v ≤ 127 := by
  obtain ⟨a, b, c⟩ := p_rt_spec v 127
  refine ⟨a, ?_, b⟩
  by_cases h : p_root v + 1 ≤ 127
  · rcases Nat.lt_or_ge v ((p_root v + 1) * (p_root v + 1)) with q | q
    · exact q
    · have := c (p_root v + 1) h q
      have e : p_rt v 127 = p_root v := rfl
      omega
  · have e : p_root v = 127 := by
      have : p_rt v 127 = p_root v := rfl
      omega
    rw [e]
    exact hv
theorem ly_root (M : g_M) (v : Nat) (hv : v < 16384) : ∀ (k r fuel : Nat), r + k = p_root v → k < fuel → x_X9_rootOf_L2 fuel (nI v) (nI r) M = some (nI (p_root v), M) := by
  obtain ⟨s1, s2, s3⟩ := p_root_spec hv
  intro k
  induction k with
  | zero =>
    intro r fuel hr hf
    obtain ⟨n, rfl⟩ : ∃ n, fuel = n + 1 := ⟨fuel - 1, by omega⟩
    have hr : r = p_root v := by omega
    subst hr
    have hb : (p_root v + 1) * (p_root v + 1) < 2 ^ 31 := by
      have := Nat.mul_le_mul (show p_root v + 1 ≤ 128 by omega) (show p_root v + 1 ≤ 128 by omega)
      omega
    rw [x_X9_rootOf_L2, show (1 : Int32) = nI 1 from rfl, p_add, p_mul, if_pos ((p_lt (by omega) hb).mpr s2)]
  | succ k ih =>
    intro r fuel hr hf
    obtain ⟨n, rfl⟩ : ∃ n, fuel = n + 1 := ⟨fuel - 1, by omega⟩
    have h1 : (r + 1) * (r + 1) ≤ v := Nat.le_trans (Nat.mul_le_mul (show r + 1 ≤ p_root v by omega) (show r + 1 ≤ p_root v by omega)) s1
    rw [x_X9_rootOf_L2, show (1 : Int32) = nI 1 from rfl, p_add, p_mul, if_neg (fun q => absurd ((p_lt (by omega) (by omega)).mp q) (by omega))]
    exact ih (r + 1) n (by omega) (by omega)
theorem py_root {v : Nat} (hv : v < 16384) (M : g_M) : x_X9_rootOf (nI v) M = some (nI (p_root v), M) :=
  ly_root M v hv (p_root v) 0 g_F (by omega) (by
    have := (p_root_spec hv).2.2
    show p_root v < 20000
    omega)
/-- OUT with a line v at a tide t -/
def sR (B : Nat → Int32) (v t : Int32) : Int32 :=
  if v * v < sN B t then 0 else
    let r := nI (p_root (v * v - sN B t).toNatClampNeg)
    if B 0 = 1 then r / 2 else if B 0 = 2 then 3 * r / 4 else if B 0 = 3 then (if B 1 ≤ r then B 1 else r) else if B 0 = 4 then r / 2 else if B 0 = 5 then (if B 1 < t then 3 * r / 4 else 0) else r
theorem p_diff {v n : Int32} (hv0 : 0 ≤ v) (hv : v ≤ 99) (h0 : 0 ≤ n) (h1 : n ≤ 6100) (h : ¬ v * v < n) : ∃ k, k < 16384 ∧ v * v - n = nI k := by
  have a := p_sqm (x := v) (m := 99) (by decide) (by show -99 ≤ v; grind) hv
  have a2 : v * v ≤ 9801 := a.2
  have a1 := a.1
  generalize v * v = y at *
  clear a
  exact p_in (by decide) (by grind) (show y - n < 16384 by grind)
theorem px_reach {q : Nat} {M : g_M} {B : Nat → Int32} (h : isM q M B) (hB : okB B) {v t : Int32} (hv0 : 0 ≤ v) (hv : v ≤ 99) (h0 : 0 ≤ t) (h1 : t ≤ 40) : x_X5_reach q v t M = some (sR B v t, M) := by
  have n0 := sN_b hB h0 h1
  have e0 := h 0 (by decide); have e1 := h 1 (by decide)
  have a := p_sqm (x := v) (m := 99) (by decide) (by show -99 ≤ v; grind) hv
  have a2 : v * v ≤ 9801 := a.2
  have a1 := a.1
  unfold x_X5_reach sR
  simp only [px_need h, Option.bind_some]
  by_cases hh : v * v < sN B t
  · rw [if_pos hh, if_neg (by generalize v * v = y at *; grind)]
  · obtain ⟨k, hk, ek⟩ := p_diff hv0 hv n0.1 n0.2 hh
    rw [if_neg hh, if_pos (by generalize v * v = y at *; grind), ek]
    have c : (nI k).toNatClampNeg = k := nI_clamp (by omega)
    simp only [px_root hk, Option.bind_some, e0, e1, c]
    unfold g_min
    by_cases k1 : B 0 = 1
    · simp [k1]
    · by_cases k2 : B 0 = 2
      · simp [k2]
      · by_cases k3 : B 0 = 3
        · simp only [k3]; simp; split <;> split <;> first | rfl | (exfalso; grind) | grind
        · by_cases k4 : B 0 = 4
          · simp [k4]
          · by_cases k5 : B 0 = 5
            · simp [k5]; split <;> rfl
            · simp [k1, k2, k3, k4, k5]
theorem py_outWith {M : g_M} {b h : Nat} (hb : b < 5) (hh : h < 12) (hR : okR M b) (hB : okB (rb M b)) (ht : 0 ≤ M 43 h ∧ M 43 h ≤ 40) {v : Int32} (hv0 : 0 ≤ v) (hv : v ≤ 99) : x_X9_outWith (nI b) (nI h) v M = some (sR (rb M b) v (M 43 h), M) := by
  have n0 := sN_b hB ht.1 ht.2
  have b1 := p_inb hb (by decide : (5 : Nat) < 2 ^ 31)
  have b2 := p_inb hh (by decide : (12 : Nat) < 2 ^ 31)
  have c1 : (nI b).toNatClampNeg = b := nI_clamp (by omega)
  have c2 : (nI h).toNatClampNeg = h := nI_clamp (by omega)
  have q0 : rb M b 0 = M 48 b := rfl
  have q1 : rb M b 1 = M 49 b := rfl
  unfold x_X9_outWith sR
  simp only [py_hangsWith hb hh hR hB ht, py_need hb hh hR hB ht, Option.bind_some]
  by_cases hl : v * v < sN (rb M b) (M 43 h)
  · simp [hl]
  · obtain ⟨k, hk, ek⟩ := p_diff hv0 hv n0.1 n0.2 hl
    have c : (nI k).toNatClampNeg = k := nI_clamp (by omega)
    simp only [if_neg hl, if_true, ek, py_root hk, Option.bind_some, c, b1, b2, c1, c2, q0, q1]
    by_cases k1 : M 48 b = 1
    · simp [k1]
    · by_cases k2 : M 48 b = 2
      · simp [k2]
      · by_cases k3 : M 48 b = 3
        · simp only [k3]; simp; split <;> rfl
        · by_cases k4 : M 48 b = 4
          · simp [k4]
          · by_cases k5 : M 48 b = 5
            · simp [k5]; split <;> rfl
            · simp [k1, k2, k3, k4, k5]
