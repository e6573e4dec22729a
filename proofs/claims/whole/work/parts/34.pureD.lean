/-! THE PURE PART. D: HOURS as bits -/
def bt (p : Nat → Bool) : Nat → Int32
  | 0 => 0
  | n + 1 => if p n = true then bt p n ||| ((1 : Int32) <<< (nI n &&& 31)) else bt p n
theorem bt_t {p : Nat → Bool} {i : Nat} (h : p i = true) : bt p i ||| ((1 : Int32) <<< (nI i &&& 31)) = bt p (i + 1) := by simp [bt, h]
theorem bt_f {p : Nat → Bool} {i : Nat} (h : ¬ p i = true) : bt p i = bt p (i + 1) := by simp [bt, h]
theorem bt_f0 {p : Nat → Bool} {i : Nat} (h : ¬ p i = true) : bt p i ||| 0 = bt p (i + 1) := by rw [← bt_f h]; simp
theorem bt_cg {p p' : Nat → Bool} {n : Nat} (h : ∀ i, i < n → p i = p' i) : bt p n = bt p' n := by
  induction n with
  | zero => rfl
  | succ n ih => simp [bt, h n (by omega), ih (fun i hi => h i (by omega))]
theorem p_n12 {i : Nat} (h : i < 12) : ¬ (12 : Int32) ≤ nI i := nI_ge h (by decide)
def sHH (B : Nat → Int32) (v : Int32) (T : Nat → Int32) : Int32 := bt (fun h => decide (v * v < sN B (T h))) 12
def sFH (B : Nat → Int32) (v : Int32) (T : Nat → Int32) : Int32 := bt (fun h => decide (B 7 < sR B v (T h))) 12
def sUH (edge bow : Int32) (T : Nat → Int32) : Int32 := bt (fun h => decide (edge < T h + bow)) 12
def okT (T : Nat → Int32) : Prop := ∀ h, h < 12 → 0 ≤ T h ∧ T h ≤ 40
theorem lx_hangW {q a : Nat} {M : g_M} {B : Nat → Int32} (h : isM q M B) (v : Int32) : ∀ (k i fuel : Nat), i + k = 12 → k < fuel → x_X5_hangingWith_L5 q a 12 fuel v (bt (fun h => decide (v * v < sN B (M a h))) i) (nI i) M = some (sHH B v (M a), M) := by
  intro k
  induction k with
  | zero =>
    intro i fuel hi hf
    obtain ⟨n, rfl⟩ : ∃ n, fuel = n + 1 := ⟨fuel - 1, by omega⟩
    obtain rfl : i = 12 := by omega
    rw [x_X5_hangingWith_L5, if_pos (by decide)]
    rfl
  | succ k ih =>
    intro i fuel hi hf
    obtain ⟨n, rfl⟩ : ∃ n, fuel = n + 1 := ⟨fuel - 1, by omega⟩
    have c : (nI i).toNatClampNeg = i := nI_clamp (by omega)
    rw [x_X5_hangingWith_L5, if_neg (show ¬ Int32.ofNat 12 ≤ nI i from p_n12 (by omega)), if_pos (p_inb (by omega) (by decide)), px_hangs h, c, Option.bind_some]
    by_cases hp : v * v < sN B (M a i)
    · simp only [if_pos hp]
      rw [if_neg (by decide), ← nI_succ, bt_t (p := fun h => decide (v * v < sN B (M a h))) (by simpa using hp)]
      exact ih (i + 1) n (by omega) (by omega)
    · simp only [if_neg hp]
      rw [if_pos trivial, ← nI_succ, bt_f (p := fun h => decide (v * v < sN B (M a h))) (by simpa using hp)]
      exact ih (i + 1) n (by omega) (by omega)
theorem px_hangW {q a : Nat} {M : g_M} {B : Nat → Int32} (h : isM q M B) (v : Int32) : x_X5_hangingWith q a 12 v M = some (sHH B v (M a), M) :=
  lx_hangW h v 12 0 g_F (by decide) (by decide)
theorem px_hangH {q a : Nat} {M : g_M} {B : Nat → Int32} (h : isM q M B) : x_X5_hangingHours q a 12 M = some (sHH B (B 5) (M a), M) := by
  simp [x_X5_hangingHours, px_hangW h, h 5 (by decide)]
theorem lx_farH {q a : Nat} {M : g_M} {B : Nat → Int32} (h : isM q M B) (hB : okB B) (hT : okT (M a)) : ∀ (k i fuel : Nat), i + k = 12 → k < fuel → x_X5_tooFarHours_L4 q a 12 fuel (bt (fun h => decide (B 7 < sR B (B 5) (M a h))) i) (nI i) M = some (sFH B (B 5) (M a), M) := by
  intro k
  induction k with
  | zero =>
    intro i fuel hi hf
    obtain ⟨n, rfl⟩ : ∃ n, fuel = n + 1 := ⟨fuel - 1, by omega⟩
    obtain rfl : i = 12 := by omega
    rw [x_X5_tooFarHours_L4, if_pos (by decide)]
    rfl
  | succ k ih =>
    intro i fuel hi hf
    obtain ⟨n, rfl⟩ : ∃ n, fuel = n + 1 := ⟨fuel - 1, by omega⟩
    have c : (nI i).toNatClampNeg = i := nI_clamp (by omega)
    have t := hT i (by omega)
    have e5 := h 5 (by decide)
    have e7 := h 7 (by decide)
    rw [x_X5_tooFarHours_L4, if_neg (show ¬ Int32.ofNat 12 ≤ nI i from p_n12 (by omega)), if_pos (p_inb (by omega) (by decide)), c, e5, px_reach h hB hB.2.2.2.2.2.2.2.2.2.2.1 hB.2.2.2.2.2.2.2.2.2.2.2.1 t.1 t.2, Option.bind_some]
    simp only [e7]
    by_cases hp : B 7 < sR B (B 5) (M a i)
    · rw [if_neg (by rw [Int32.not_le]; exact hp), ← nI_succ, bt_t (p := fun h => decide (B 7 < sR B (B 5) (M a h))) (by simpa using hp)]
      exact ih (i + 1) n (by omega) (by omega)
    · rw [if_pos (by rw [← Int32.not_lt]; exact hp), ← nI_succ, bt_f (p := fun h => decide (B 7 < sR B (B 5) (M a h))) (by simpa using hp)]
      exact ih (i + 1) n (by omega) (by omega)
theorem px_farH {q a : Nat} {M : g_M} {B : Nat → Int32} (h : isM q M B) (hB : okB B) (hT : okT (M a)) : x_X5_tooFarHours q a 12 M = some (sFH B (B 5) (M a), M) :=
  lx_farH h hB hT 12 0 g_F (by decide) (by decide)
theorem lx_under (q : Nat) (M : g_M) : ∀ (k i fuel : Nat), i + k = 12 → k < fuel → x_X2_hoursUnder_L4 q fuel (bt (fun h => decide (M q 8 < M (q + 1) h + M q 9)) i) (nI i) M = some (sUH (M q 8) (M q 9) (M (q + 1)), M) := by
  intro k
  induction k with
  | zero =>
    intro i fuel hi hf
    obtain ⟨n, rfl⟩ : ∃ n, fuel = n + 1 := ⟨fuel - 1, by omega⟩
    obtain rfl : i = 12 := by omega
    rw [x_X2_hoursUnder_L4, if_pos (by decide)]
    rfl
  | succ k ih =>
    intro i fuel hi hf
    obtain ⟨n, rfl⟩ : ∃ n, fuel = n + 1 := ⟨fuel - 1, by omega⟩
    have c : (nI i).toNatClampNeg = i := nI_clamp (by omega)
    rw [x_X2_hoursUnder_L4, if_neg (p_n12 (by omega)), if_pos (p_inb (by omega) (by decide)), c]
    by_cases hp : M q 8 < M (q + 1) i + M q 9
    · rw [if_neg (by rw [Int32.not_le]; exact hp), ← nI_succ, bt_t (p := fun h => decide (M q 8 < M (q + 1) h + M q 9)) (by simpa using hp)]
      exact ih (i + 1) n (by omega) (by omega)
    · rw [if_pos (by rw [← Int32.not_lt]; exact hp), ← nI_succ, bt_f (p := fun h => decide (M q 8 < M (q + 1) h + M q 9)) (by simpa using hp)]
      exact ih (i + 1) n (by omega) (by omega)
theorem px_under (q : Nat) (M : g_M) : x_X2_hoursUnder q M = some (sUH (M q 8) (M q 9) (M (q + 1)), M) := lx_under q M 12 0 g_F (by decide) (by decide)
/-! the reference -/
theorem ly_hangH {M : g_M} {b : Nat} (hb : b < 5) (hR : okR M b) (hB : okB (rb M b)) (hT : okT (M 43)) (v : Int32) : ∀ (k i fuel : Nat), i + k = 12 → k < fuel → x_X9_hangHours_L5 fuel (nI b) v (bt (fun h => decide (v * v < sN (rb M b) (M 43 h))) i) (nI i) M = some (sHH (rb M b) v (M 43), M) := by
  intro k
  induction k with
  | zero =>
    intro i fuel hi hf
    obtain ⟨n, rfl⟩ : ∃ n, fuel = n + 1 := ⟨fuel - 1, by omega⟩
    obtain rfl : i = 12 := by omega
    rw [x_X9_hangHours_L5, if_pos (by decide)]
    rfl
  | succ k ih =>
    intro i fuel hi hf
    obtain ⟨n, rfl⟩ : ∃ n, fuel = n + 1 := ⟨fuel - 1, by omega⟩
    rw [x_X9_hangHours_L5, if_neg (p_n12 (by omega)), py_hangsWith hb (by omega) hR hB (hT i (by omega)), Option.bind_some]
    by_cases hp : v * v < sN (rb M b) (M 43 i)
    · simp only [if_pos hp]
      rw [if_neg (by decide), ← nI_succ, bt_t (p := fun h => decide (v * v < sN (rb M b) (M 43 h))) (by simpa using hp)]
      exact ih (i + 1) n (by omega) (by omega)
    · simp only [if_neg hp]
      rw [if_pos trivial, ← nI_succ, bt_f0 (p := fun h => decide (v * v < sN (rb M b) (M 43 h))) (by simpa using hp)]
      exact ih (i + 1) n (by omega) (by omega)
theorem py_hangH {M : g_M} {b : Nat} (hb : b < 5) (hR : okR M b) (hB : okB (rb M b)) (hT : okT (M 43)) (v : Int32) : x_X9_hangHours (nI b) v M = some (sHH (rb M b) v (M 43), M) :=
  ly_hangH hb hR hB hT v 12 0 g_F (by decide) (by decide)
theorem ly_farH {M : g_M} {b : Nat} (hb : b < 5) (hR : okR M b) (hB : okB (rb M b)) (hT : okT (M 43)) {v : Int32} (hv0 : 0 ≤ v) (hv : v ≤ 99) : ∀ (k i fuel : Nat), i + k = 12 → k < fuel → x_X9_farHours_L5 fuel (nI b) v (bt (fun h => decide (rb M b 7 < sR (rb M b) v (M 43 h))) i) (nI i) M = some (sFH (rb M b) v (M 43), M) := by
  intro k
  induction k with
  | zero =>
    intro i fuel hi hf
    obtain ⟨n, rfl⟩ : ∃ n, fuel = n + 1 := ⟨fuel - 1, by omega⟩
    obtain rfl : i = 12 := by omega
    rw [x_X9_farHours_L5, if_pos (by decide)]
    rfl
  | succ k ih =>
    intro i fuel hi hf
    obtain ⟨n, rfl⟩ : ∃ n, fuel = n + 1 := ⟨fuel - 1, by omega⟩
    have c1 : (nI b).toNatClampNeg = b := nI_clamp (by omega)
    rw [x_X9_farHours_L5, if_neg (p_n12 (by omega)), py_outWith hb (by omega) hR hB (hT i (by omega)) hv0 hv, Option.bind_some, if_pos (p_inb hb (by decide))]
    simp only [c1]
    by_cases hp : rb M b 7 < sR (rb M b) v (M 43 i)
    · rw [if_neg (by rw [Int32.not_le]; exact hp), ← nI_succ, bt_t (p := fun h => decide (rb M b 7 < sR (rb M b) v (M 43 h))) (by simpa using hp)]
      exact ih (i + 1) n (by omega) (by omega)
    · rw [if_pos (by rw [← Int32.not_lt]; exact hp), ← nI_succ, bt_f0 (p := fun h => decide (rb M b 7 < sR (rb M b) v (M 43 h))) (by simpa using hp)]
      exact ih (i + 1) n (by omega) (by omega)
theorem py_farH {M : g_M} {b : Nat} (hb : b < 5) (hR : okR M b) (hB : okB (rb M b)) (hT : okT (M 43)) {v : Int32} (hv0 : 0 ≤ v) (hv : v ≤ 99) : x_X9_farHours (nI b) v M = some (sFH (rb M b) v (M 43), M) :=
  ly_farH hb hR hB hT hv0 hv 12 0 g_F (by decide) (by decide)
theorem py_water {M : g_M} {h : Nat} (hh : h < 12) : x_X9_water (nI h) M = some (M 43 h + M 47 1, M) := by
  have b2 := p_inb hh (by decide : (12 : Nat) < 2 ^ 31)
  have c2 : (nI h).toNatClampNeg = h := nI_clamp (by omega)
  have c5 : (1 : Int32).toNatClampNeg = 1 := by decide
  simp [x_X9_water, b2, c2, c5]
theorem ly_under (M : g_M) : ∀ (k i fuel : Nat), i + k = 12 → k < fuel → x_X9_underHours_L4 fuel (bt (fun h => decide (M 47 0 < M 43 h + M 47 1)) i) (nI i) M = some (sUH (M 47 0) (M 47 1) (M 43), M) := by
  intro k
  induction k with
  | zero =>
    intro i fuel hi hf
    obtain ⟨n, rfl⟩ : ∃ n, fuel = n + 1 := ⟨fuel - 1, by omega⟩
    obtain rfl : i = 12 := by omega
    rw [x_X9_underHours_L4, if_pos (by decide)]
    rfl
  | succ k ih =>
    intro i fuel hi hf
    obtain ⟨n, rfl⟩ : ∃ n, fuel = n + 1 := ⟨fuel - 1, by omega⟩
    have c0 : (0 : Int32).toNatClampNeg = 0 := by decide
    rw [x_X9_underHours_L4, if_neg (p_n12 (by omega)), py_water (by omega), Option.bind_some]
    simp only [c0]
    by_cases hp : M 47 0 < M 43 i + M 47 1
    · rw [if_neg (by rw [Int32.not_le]; exact hp), ← nI_succ, bt_t (p := fun h => decide (M 47 0 < M 43 h + M 47 1)) (by simpa using hp)]
      exact ih (i + 1) n (by omega) (by omega)
    · rw [if_pos (by rw [← Int32.not_lt]; exact hp), ← nI_succ, bt_f0 (p := fun h => decide (M 47 0 < M 43 h + M 47 1)) (by simpa using hp)]
      exact ih (i + 1) n (by omega) (by omega)
theorem py_under (M : g_M) : x_X9_underHours M = some (sUH (M 47 0) (M 47 1) (M 43), M) := ly_under M 12 0 g_F (by decide) (by decide)
def sWH (B : Nat → Int32) (v : Int32) (T : Nat → Int32) (edge bow : Int32) : Int32 := 4095 &&& (sHH B v T ^^^ -1) &&& (sFH B v T ^^^ -1) &&& (sUH edge bow T ^^^ -1)
theorem py_wellH {M : g_M} {b : Nat} (hb : b < 5) (hR : okR M b) (hB : okB (rb M b)) (hT : okT (M 43)) {v : Int32} (hv0 : 0 ≤ v) (hv : v ≤ 99) : x_X9_wellHours (nI b) v M = some (sWH (rb M b) v (M 43) (M 47 0) (M 47 1), M) := by
  simp [x_X9_wellHours, py_hangH hb hR hB hT, py_farH hb hR hB hT hv0 hv, py_under, sWH]
