/-! THE PURE PART. B: a boat at its line: B = kind, figure, place, height, other place, length, long, far, bow; t = tide -/
def sN (B : Nat → Int32) (t : Int32) : Int32 :=
  let d := B 3 - t - B 8
  let h := (B 2 - B 4) / 2
  if B 0 = 1 then d * d + h * h else if B 0 = 3 then (if B 3 < t + B 8 then d * d else 0) else if B 0 = 4 then d * d + h * h + B 1 * B 1 else if B 0 = 5 then (if B 1 < t then d * d else 0) else d * d
def isM (q : Nat) (M : g_M) (B : Nat → Int32) : Prop := ∀ j, j ≤ 8 → M q j = B j
theorem p_abs2 (x : Int32) : g_abs x * g_abs x = x * x := by
  unfold g_abs
  split
  · rfl
  · grind
theorem px_half (q : Nat) (M : g_M) : x_X5_halfApartSquare q M = some ((M q 2 - M q 4) / 2 * ((M q 2 - M q 4) / 2), M) := rfl
theorem px_need {q : Nat} {M : g_M} {B : Nat → Int32} (h : isM q M B) (t : Int32) : x_X5_squareNeeded q t M = some (sN B t, M) := by
  have h0 := h 0 (by decide); have h1 := h 1 (by decide); have h2 := h 2 (by decide); have h3 := h 3 (by decide); have h4 := h 4 (by decide); have h8 := h 8 (by decide)
  unfold x_X5_squareNeeded sN
  simp only [px_half, Option.bind_some, p_abs2, h0, h1, h2, h3, h4, h8]
  by_cases k1 : B 0 = 1
  · simp [k1]
  · by_cases k2 : B 0 = 2
    · simp [k2]
    · by_cases k3 : B 0 = 3
      · simp [k3]; split <;> rfl
      · by_cases k4 : B 0 = 4
        · simp [k4]
        · by_cases k5 : B 0 = 5
          · simp [k5]; split <;> rfl
          · simp [k1, k2, k3, k4, k5]
theorem px_hangs {q : Nat} {M : g_M} {B : Nat → Int32} (h : isM q M B) (v t : Int32) : x_X5_hangs q v t M = some (if v * v < sN B t then 1 else 0, M) := by
  unfold x_X5_hangs
  simp only [px_need h, Option.bind_some]
  split <;> split <;> first | rfl | (exfalso; grind)
/-- the reference's boat b -/
def rb (M : g_M) (b : Nat) : Nat → Int32 := fun j => if j = 0 then M 48 b else if j = 1 then M 49 b else if j = 2 then M 45 (M 50 b).toNatClampNeg else if j = 3 then M 46 (M 50 b).toNatClampNeg else if j = 4 then M 45 (M 51 b).toNatClampNeg else if j = 5 then M 52 b else if j = 6 then M 53 b else if j = 7 then M 54 b else M 47 1
/-- numbers that a boat may have -/
def okB (B : Nat → Int32) : Prop := 0 ≤ B 0 ∧ B 0 ≤ 5 ∧ 0 ≤ B 1 ∧ B 1 ≤ 9 ∧ 0 ≤ B 2 ∧ B 2 ≤ 99 ∧ 0 ≤ B 3 ∧ B 3 ≤ 60 ∧ 0 ≤ B 4 ∧ B 4 ≤ 99 ∧ 0 ≤ B 5 ∧ B 5 ≤ 99 ∧ 1 ≤ B 6 ∧ B 6 ≤ 20 ∧ 0 ≤ B 7 ∧ B 7 ≤ 99 ∧ 0 ≤ B 8 ∧ B 8 ≤ 9
/-- the boat's rings are rings -/
def okR (M : g_M) (b : Nat) : Prop := (∃ r, r < 6 ∧ M 50 b = nI r) ∧ ∃ r, r < 6 ∧ M 51 b = nI r
theorem p_half2 {x : Int32} (h0 : -99 ≤ x) (h1 : x ≤ 99) : (-x) / 2 * ((-x) / 2) = x / 2 * (x / 2) := by
  have key : ∀ k, k < 199 → (-(nI k - 99)) / 2 * ((-(nI k - 99)) / 2) = (nI k - 99) / 2 * ((nI k - 99) / 2) := by decide +kernel
  obtain ⟨k, hk, e⟩ := p_in (i := x + 99) (n := 199) (by decide) (by grind) (show x + 99 < 199 by grind)
  have e2 : x = nI k - 99 := by grind
  rw [e2]
  exact key k hk
theorem py_need {M : g_M} {b h : Nat} (hb : b < 5) (hh : h < 12) (hR : okR M b) (hB : okB (rb M b)) (ht : 0 ≤ M 43 h ∧ M 43 h ≤ 40) : x_X9_needsAt (nI b) (nI h) M = some (sN (rb M b) (M 43 h), M) := by
  obtain ⟨⟨r1, hr1, e1⟩, ⟨r2, hr2, e2⟩⟩ := hR
  have b1 := p_inb hb (by decide : (5 : Nat) < 2 ^ 31)
  have b2 := p_inb hh (by decide : (12 : Nat) < 2 ^ 31)
  have b3 := p_inb hr1 (by decide : (6 : Nat) < 2 ^ 31)
  have b4 := p_inb hr2 (by decide : (6 : Nat) < 2 ^ 31)
  have c1 : (nI b).toNatClampNeg = b := nI_clamp (by omega)
  have c2 : (nI h).toNatClampNeg = h := nI_clamp (by omega)
  have c3 : (nI r1).toNatClampNeg = r1 := nI_clamp (by omega)
  have c4 : (nI r2).toNatClampNeg = r2 := nI_clamp (by omega)
  have c5 : (1 : Int32).toNatClampNeg = 1 := by decide
  have ew : x_X9_water (nI h) M = some (M 43 h + M 47 1, M) := by simp [x_X9_water, b2, c2, c5]
  have q0 : rb M b 0 = M 48 b := rfl
  have q1 : rb M b 1 = M 49 b := rfl
  have q2 : rb M b 2 = M 45 r1 := by show M 45 (M 50 b).toNatClampNeg = _; rw [e1, c3]
  have q3 : rb M b 3 = M 46 r1 := by show M 46 (M 50 b).toNatClampNeg = _; rw [e1, c3]
  have q4 : rb M b 4 = M 45 r2 := by show M 45 (M 51 b).toNatClampNeg = _; rw [e2, c4]
  have q8 : rb M b 8 = M 47 1 := rfl
  obtain ⟨z1, z2, z3, z4, z5, z6, z7, z8, z9, z10, -, -, -, -, -, -, z17, z18⟩ := hB
  rw [q2] at z5 z6
  rw [q3] at z7 z8
  rw [q4] at z9 z10
  rw [q8] at z17 z18
  have hd : M 46 r1 - (M 43 h + M 47 1) = M 46 r1 - M 43 h - M 47 1 := by grind
  have key : ∀ s : Int32, s / 2 * (s / 2) = (M 45 r1 - M 45 r2) / 2 * ((M 45 r1 - M 45 r2) / 2) → x_X9_needsAt_L56 (nI b) (nI h) (M 46 r1 - (M 43 h + M 47 1)) s M = some (sN (rb M b) (M 43 h), M) := by
    intro s hs
    have hlt : (M 46 r1 - M 43 h - M 47 1 < 0) = (M 46 r1 - M 43 h - M 47 1 < 0) := rfl
    unfold x_X9_needsAt_L56 sN
    simp only [b1, b2, c1, c2, q0, q1, q2, q3, q4, q8, hs, hd, if_true]
    by_cases k1 : M 48 b = 1
    · simp [k1]
    · by_cases k2 : M 48 b = 2
      · simp [k2]
      · by_cases k3 : M 48 b = 3
        · have e3 : (M 46 r1 - M 43 h - M 47 1 < 0) ↔ (M 46 r1 < M 43 h + M 47 1) := by constructor <;> intro q <;> grind
          simp only [k3, e3]
          simp
          split <;> rfl
        · by_cases k4 : M 48 b = 4
          · simp [k4]
          · by_cases k5 : M 48 b = 5
            · simp [k5]; split <;> rfl
            · simp [k1, k2, k3, k4, k5]
  unfold x_X9_needsAt
  simp only [b1, b3, b4, c1, c3, c4, e1, e2, ew, Option.bind_some, if_true]
  split
  · exact key _ rfl
  · exact key _ (p_half2 (by grind) (by grind))

theorem py_hangsWith {M : g_M} {b h : Nat} (hb : b < 5) (hh : h < 12) (hR : okR M b) (hB : okB (rb M b)) (ht : 0 ≤ M 43 h ∧ M 43 h ≤ 40) (v : Int32) : x_X9_hangsWith (nI b) (nI h) v M = some (if v * v < sN (rb M b) (M 43 h) then 1 else 0, M) := by
  unfold x_X9_hangsWith
  simp only [py_need hb hh hR hB ht, Option.bind_some]
  split <;> split <;> first | rfl | (exfalso; grind)
/-- what a boat needs is between 0 and 6100 -/
theorem p_sq {x : Int32} (h0 : -100 ≤ x) (h1 : x ≤ 100) : 0 ≤ x * x ∧ x * x ≤ 10000 := by
  have key : ∀ k, k < 201 → 0 ≤ (nI k - 100) * (nI k - 100) ∧ (nI k - 100) * (nI k - 100) ≤ 10000 := by decide +kernel
  obtain ⟨k, hk, e⟩ := p_in (i := x + 100) (n := 201) (by decide) (by grind) (show x + 100 < 201 by grind)
  have e2 : x = nI k - 100 := by grind
  rw [e2]
  exact key k hk
theorem p_sqm {x : Int32} {m : Nat} (hm : m ≤ 100) (h0 : -nI m ≤ x) (h1 : x ≤ nI m) : 0 ≤ x * x ∧ x * x ≤ nI (m * m) := by
  have key : ∀ m, m ≤ 100 → ∀ k, k < 2 * m + 1 → 0 ≤ (nI k - nI m) * (nI k - nI m) ∧ (nI k - nI m) * (nI k - nI m) ≤ nI (m * m) := by decide +kernel
  have hm1 : nI m ≤ 100 := (p_le (by omega) (by decide)).mpr hm
  have hm0 := p_ge0 (a := m) (by omega)
  obtain ⟨k, hk, e⟩ := p_in (i := x + nI m) (n := 2 * m + 1) (by omega) (by grind) (by rw [show 2 * m + 1 = m + m + 1 by omega, ← p_add, ← p_add]; show x + nI m < nI m + nI m + 1; grind)
  have e2 : x = nI k - nI m := by grind
  rw [e2]
  exact key m hm k hk
theorem p_halfb {x : Int32} (h0 : -99 ≤ x) (h1 : x ≤ 99) : -49 ≤ x / 2 ∧ x / 2 ≤ 49 := by
  have key : ∀ k, k < 199 → -49 ≤ (nI k - 99) / 2 ∧ (nI k - 99) / 2 ≤ 49 := by decide +kernel
  obtain ⟨k, hk, e⟩ := p_in (i := x + 99) (n := 199) (by decide) (by grind) (show x + 99 < 199 by grind)
  have e2 : x = nI k - 99 := by grind
  rw [e2]
  exact key k hk
theorem sN_b {B : Nat → Int32} (hB : okB B) {t : Int32} (h0 : 0 ≤ t) (h1 : t ≤ 40) : 0 ≤ sN B t ∧ sN B t ≤ 6100 := by
  obtain ⟨z1, z2, z3, z4, z5, z6, z7, z8, z9, z10, -, -, -, -, -, -, z17, z18⟩ := hB
  have a1 := p_sqm (x := B 3 - t - B 8) (m := 60) (by decide) (by show -60 ≤ _; grind) (by show _ ≤ 60; grind)
  have a2 := p_halfb (x := B 2 - B 4) (by grind) (by grind)
  have a3 := p_sqm (x := (B 2 - B 4) / 2) (m := 49) (by decide) (by show -49 ≤ _; exact a2.1) (by show _ ≤ 49; exact a2.2)
  have a4 := p_sqm (x := B 1) (m := 9) (by decide) (by show -9 ≤ _; grind) (by show _ ≤ 9; grind)
  have a1b : (B 3 - t - B 8) * (B 3 - t - B 8) ≤ 3600 := a1.2
  have a3b : (B 2 - B 4) / 2 * ((B 2 - B 4) / 2) ≤ 2401 := a3.2
  have a4b : B 1 * B 1 ≤ 81 := a4.2
  have a10 := a1.1
  have a30 := a3.1
  have a40 := a4.1
  unfold sN
  simp only []
  generalize (B 3 - t - B 8) * (B 3 - t - B 8) = x1 at *
  generalize (B 2 - B 4) / 2 * ((B 2 - B 4) / 2) = x2 at *
  generalize B 1 * B 1 = x3 at *
  clear a1 a3 a4 a2
  by_cases k1 : B 0 = 1
  · simp only [k1, if_true]; constructor <;> grind
  · by_cases k3 : B 0 = 3
    · simp only [k3]; simp; split <;> constructor <;> grind
    · by_cases k4 : B 0 = 4
      · simp only [k4]; simp; constructor <;> grind
      · by_cases k5 : B 0 = 5
        · simp only [k5]; simp; split <;> constructor <;> grind
        · simp only [k1, k3, k4, k5]; simp; constructor <;> grind
