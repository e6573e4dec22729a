/-! THE PURE PART. U: what a line must have at least, may have at most -/
theorem sN_n {B : Nat → Int32} (hB : okB B) {t : Int32} (ht : 0 ≤ t ∧ t ≤ 40) : ∃ n, n ≤ 6100 ∧ sN B t = nI n := by
  have q := sN_b hB ht.1 ht.2
  obtain ⟨n, hn, e⟩ := p_in (i := sN B t) (n := 6101) (by decide) q.1 (show sN B t < 6101 by have := q.2; grind)
  exact ⟨n, by omega, e⟩
def p_ceil (n : Nat) : Nat := if p_root n * p_root n < n then p_root n + 1 else p_root n
theorem p_ceil_le {n v : Nat} (hn : n < 16384) : p_ceil n ≤ v ↔ n ≤ v * v := by
  obtain ⟨a, b, c⟩ := p_root_spec hn
  unfold p_ceil
  constructor
  · intro h
    split at h
    · exact Nat.le_of_lt (Nat.lt_of_lt_of_le b (Nat.mul_le_mul h h))
    · rename_i k
      exact Nat.le_trans (Nat.le_of_not_lt k) (Nat.mul_le_mul h h)
  · intro h
    rcases Nat.lt_or_ge v (p_root n) with q | q
    · have m := Nat.mul_le_mul (show v + 1 ≤ p_root n from q) (show v + 1 ≤ p_root n from q)
      have e : (v + 1) * (v + 1) = v * v + v + v + 1 := by rw [Nat.add_mul, Nat.mul_add]; omega
      omega
    · split
      · rename_i k
        by_cases z : v = p_root n
        · subst z; omega
        · omega
      · exact q
def sC (B : Nat → Int32) (t : Int32) : Nat := p_ceil (sN B t).toNatClampNeg
theorem sC_79 {B : Nat → Int32} (hB : okB B) {t : Int32} (ht : 0 ≤ t ∧ t ≤ 40) : sC B t ≤ 79 := by
  obtain ⟨n, hn, e⟩ := sN_n hB ht
  unfold sC
  rw [e, nI_clamp (by omega)]
  exact (p_ceil_le (by omega)).mpr (by omega)
theorem sC_hang {B : Nat → Int32} (hB : okB B) {t : Int32} (ht : 0 ≤ t ∧ t ≤ 40) {v : Nat} (hv : v ≤ 127) : nI v * nI v < sN B t ↔ v < sC B t := by
  obtain ⟨n, hn, e⟩ := sN_n hB ht
  have k := p_ceil_le (n := n) (v := v) (by omega)
  have m := Nat.mul_le_mul hv hv
  unfold sC
  rw [e, nI_clamp (by omega), p_mul, p_lt (by omega) (by omega)]
  omega
theorem px_leastAt {q : Nat} {M : g_M} {B : Nat → Int32} (h : isM q M B) (hB : okB B) {t : Int32} (ht : 0 ≤ t ∧ t ≤ 40) : x_X5_leastAt q t M = some (nI (sC B t), M) := by
  obtain ⟨n, hn, e⟩ := sN_n hB ht
  obtain ⟨a, b, c⟩ := p_root_spec (v := n) (by omega)
  rw [x_X5_leastAt]
  refine (bnd (px_need h t) _).trans ?_
  dsimp only
  rw [e]
  refine (bnd (px_root (by omega) M) _).trans ?_
  dsimp only
  unfold sC p_ceil
  rw [e, nI_clamp (by omega), p_mul]
  by_cases k : p_root n * p_root n < n
  · rw [if_neg (fun q => absurd ((p_le (by omega) (by omega)).mp q) (by omega)), if_pos k, nI_succ]
  · rw [if_pos ((p_le (by omega) (by omega)).mpr (by omega)), if_neg k]
def mxa (f : Nat → Nat) (a : Nat) : Nat → Nat
  | 0 => 0
  | k + 1 => max (mxa f a k) (f (a + k))
theorem mxa_le {f : Nat → Nat} {a v : Nat} : ∀ k, mxa f a k ≤ v ↔ ∀ i, i < k → f (a + i) ≤ v := by
  intro k
  induction k with
  | zero => exact ⟨fun _ i hi => absurd hi (by omega), fun _ => Nat.zero_le _⟩
  | succ k ih =>
    have e : mxa f a (k + 1) ≤ v ↔ mxa f a k ≤ v ∧ f (a + k) ≤ v := by
      show max _ _ ≤ v ↔ _
      omega
    rw [e, ih]
    constructor
    · rintro ⟨p, q⟩ i hi
      by_cases z : i = k
      · subst z; exact q
      · exact p i (by omega)
    · exact fun p => ⟨fun i hi => p i (by omega), p k (by omega)⟩
def mna (f : Nat → Nat) (a : Nat) : Nat → Nat
  | 0 => 99
  | k + 1 => min (mna f a k) (f (a + k))
theorem le_mna {f : Nat → Nat} {a v : Nat} : ∀ k, v ≤ mna f a k ↔ v ≤ 99 ∧ ∀ i, i < k → v ≤ f (a + i) := by
  intro k
  induction k with
  | zero => exact ⟨fun h => ⟨h, fun i hi => absurd hi (by omega)⟩, fun h => h.1⟩
  | succ k ih =>
    have e : v ≤ mna f a (k + 1) ↔ v ≤ mna f a k ∧ v ≤ f (a + k) := by
      show v ≤ min _ _ ↔ _
      omega
    rw [e, ih]
    constructor
    · rintro ⟨⟨w, p⟩, q⟩
      refine ⟨w, fun i hi => ?_⟩
      by_cases z : i = k
      · subst z; exact q
      · exact p i (by omega)
    · exact fun p => ⟨⟨p.1, fun i hi => p.2 i (by omega)⟩, p.2 k (by omega)⟩
theorem p_max {a b : Nat} (ha : a < 2 ^ 31) (hb : b < 2 ^ 31) : g_max (nI a) (nI b) = nI (max a b) := by
  unfold g_max
  by_cases h : a < b
  · rw [if_pos ((p_lt ha hb).mpr h), show max a b = b by omega]
  · rw [if_neg (fun q => h ((p_lt ha hb).mp q)), show max a b = a by omega]
theorem p_min {a b : Nat} (ha : a < 2 ^ 31) (hb : b < 2 ^ 31) : g_min (nI a) (nI b) = nI (min a b) := by
  unfold g_min
  by_cases h : b < a
  · rw [if_pos ((p_lt hb ha).mpr h), show min a b = b by omega]
  · rw [if_neg (fun q => h ((p_lt hb ha).mp q)), show min a b = a by omega]
def sL (B : Nat → Int32) (T : Nat → Int32) : Nat := mxa (fun h => sC B (T h)) 0 12
theorem sL_le {B : Nat → Int32} {T : Nat → Int32} {v : Nat} : sL B T ≤ v ↔ ∀ h, h < 12 → sC B (T h) ≤ v := by
  unfold sL
  rw [mxa_le]
  simp only [Nat.zero_add]
theorem sL_79 {B : Nat → Int32} {T : Nat → Int32} (hB : okB B) (hT : okT T) : sL B T ≤ 79 := sL_le.mpr fun h hh => sC_79 hB (hT h hh)
theorem px_leastFor {q a : Nat} {M : g_M} {B : Nat → Int32} (h : isM q M B) (hB : okB B) (hT : okT (M a)) : x_X5_leastFor q a 12 M = some (nI (sL B (M a)), M) := by
  unfold x_X5_leastFor
  have b79 : ∀ i, i ≤ 12 → mxa (fun h => sC B (M a h)) 0 i ≤ 79 := fun i hi => (mxa_le i).mpr fun j hj => by
    rw [Nat.zero_add]; exact sC_79 hB (hT j (by omega))
  refine p_loop0 (n := 12) (F := fun i fuel (_ : Unit) => x_X5_leastFor_L4 q a 12 fuel (nI (mxa (fun h => sC B (M a h)) 0 i)) (nI i) M) (I := fun _ _ => True) (R := fun r => r = some (nI (sL B (M a)), M)) (s := ()) (by decide) trivial ?_ ?_
  · intro _ fuel _
    show x_X5_leastFor_L4 q a 12 (fuel + 1) _ (nI 12) M = _
    rw [x_X5_leastFor_L4, if_pos (by decide)]
    rfl
  · intro i _ fuel hi _
    right
    refine ⟨(), trivial, ?_⟩
    show x_X5_leastFor_L4 q a 12 (fuel + 1) (nI (mxa (fun h => sC B (M a h)) 0 i)) (nI i) M = x_X5_leastFor_L4 q a 12 fuel (nI (mxa (fun h => sC B (M a h)) 0 (i + 1))) (nI (i + 1)) M
    have c : (nI i).toNatClampNeg = i := nI_clamp (by omega)
    have k1 := b79 i (by omega)
    have k2 := sC_79 hB (hT i hi)
    rw [x_X5_leastFor_L4, if_neg (show ¬ Int32.ofNat 12 ≤ nI i from p_n12 hi), if_pos (p_inb hi (by decide)), c]
    refine (bnd (px_leastAt h hB (hT i hi)) _).trans ?_
    dsimp only
    rw [p_max (by omega) (by omega), nI_succ i]
    show x_X5_leastFor_L4 q a 12 fuel (nI (max (mxa (fun h => sC B (M a h)) 0 i) (sC B (M a i)))) (nI i + 1) M = x_X5_leastFor_L4 q a 12 fuel (nI (max (mxa (fun h => sC B (M a h)) 0 i) (sC B (M a (0 + i))))) (nI i + 1) M
    rw [Nat.zero_add]
theorem sHH_0 {B : Nat → Int32} {T : Nat → Int32} (hB : okB B) (hT : okT T) {v : Nat} (hv : v ≤ 127) : sHH B (nI v) T = 0 ↔ sL B T ≤ v := by
  unfold sHH
  rw [bt_eq0, sL_le]
  constructor
  · intro h i hi
    have q := of_decide_eq_false (h i hi)
    rw [sC_hang hB (hT i hi) hv] at q
    omega
  · intro h i hi
    apply decide_eq_false
    rw [sC_hang hB (hT i hi) hv]
    have := h i hi
    omega
theorem sL_cg {B : Nat → Int32} {T T' : Nat → Int32} (h : ∀ k, k < 12 → T k = T' k) : sL B T = sL B T' := by
  apply Nat.le_antisymm
  · exact sL_le.mpr fun i hi => by rw [h i hi]; exact sL_le.mp (Nat.le_refl _) i hi
  · exact sL_le.mpr fun i hi => by rw [← h i hi]; exact sL_le.mp (Nat.le_refl _) i hi
/-- first of a row whose truth begins at L -/
theorem ff_ge {p : Nat → Bool} {r : Nat → Int32} {d : Int32} {n L : Nat} (hL : L < n) (h : ∀ i, i < n → (p i = true ↔ L ≤ i)) : ff p r d n 0 = r L := by
  rcases ff_spec p r d n with ⟨i, h1, h2, h3, h4⟩ | ⟨h1, h2⟩
  · have e : i = L := by
      have a := (h i h1).mp h2
      rcases Nat.lt_or_ge L i with z | z
      · have := h3 L z
        rw [(h L hL).mpr (Nat.le_refl _)] at this
        cases this
      · omega
    rw [h4, e]
  · have := h1 L hL
    rw [(h L hL).mpr (Nat.le_refl _)] at this
    cases this
theorem p_12 {i : Nat} (h : 12 ≤ i) (h2 : i < 2 ^ 31) : (12 : Int32) ≤ nI i := (p_le (a := 12) (by decide) h2).mpr h
theorem p_99 {i : Nat} (h : i < 100) : ¬ (99 : Int32) < nI i := fun q => by
  have := (p_lt (a := 99) (by decide) (by omega)).mp q
  omega
theorem py_least {M : g_M} {b : Nat} (hb : b < 5) (hR : okR M b) (hB : okB (rb M b)) (hT : okT (M 43)) : x_X9_leastLength (nI b) M = some (nI (sL (rb M b) (M 43)), M) := by
  have e := ff_ge (p := fun v => decide (sL (rb M b) (M 43) ≤ v)) (r := nI) (d := -9) (n := 100) (L := sL (rb M b) (M 43)) (by have := sL_79 hB hT; omega) (fun i _ => by simp)
  rw [← e]
  unfold x_X9_leastLength
  refine p_find (F := fun i fuel => x_X9_leastLength_L2 fuel (nI b) (nI i) M) (by decide) (fun fuel => ?_) (fun i fuel hi => ?_)
  · show x_X9_leastLength_L2 (fuel + 1) _ (nI 100) M = _
    rw [x_X9_leastLength_L2, if_pos (by decide)]
  · show x_X9_leastLength_L2 (fuel + 1) _ (nI i) M = (if _ then _ else x_X9_leastLength_L2 fuel _ (nI (i + 1)) M)
    rw [x_X9_leastLength_L2, if_neg (p_99 hi)]
    refine (bnd (py_hangH hb hR hB hT _) _).trans ?_
    dsimp only
    rw [nI_succ]
    have q := sHH_0 hB hT (v := i) (by omega)
    by_cases z : sL (rb M b) (M 43) ≤ i
    · rw [if_pos (q.mpr z), if_pos (by simpa using z)]
    · rw [if_neg (fun y => z (q.mp y)), if_neg (by simpa using z)]
/-! the greatest line -/
def p_sel (B : Nat → Int32) (t : Int32) (r : Nat) : Nat := if B 0 = 1 then r / 2 else if B 0 = 2 then 3 * r / 4 else if B 0 = 3 then (if (B 1).toNatClampNeg ≤ r then (B 1).toNatClampNeg else r) else if B 0 = 4 then r / 2 else if B 0 = 5 then (if B 1 < t then 3 * r / 4 else 0) else r
def sRn (B : Nat → Int32) (t : Int32) (v : Nat) : Nat := if v * v < (sN B t).toNatClampNeg then 0 else p_sel B t (p_root (v * v - (sN B t).toNatClampNeg))
theorem p_sel_mono {B : Nat → Int32} {t : Int32} {r r' : Nat} (h : r ≤ r') : p_sel B t r ≤ p_sel B t r' := by
  unfold p_sel
  repeat' split
  all_goals omega
theorem p_root_mono {m n : Nat} (h : m ≤ n) : p_root m ≤ p_root n := by
  obtain ⟨a, b, -⟩ := p_rt_spec m 127
  exact (p_rt_spec n 127).2.2 _ b (Nat.le_trans a h)
theorem sRn_mono {B : Nat → Int32} {t : Int32} {v w : Nat} (h : v ≤ w) : sRn B t v ≤ sRn B t w := by
  have m := Nat.mul_le_mul h h
  unfold sRn
  split
  · exact Nat.zero_le _
  · rw [if_neg (by omega)]
    exact p_sel_mono (p_root_mono (by omega))
theorem sRn_0 {B : Nat → Int32} {t : Int32} : sRn B t 0 = 0 := by
  unfold sRn
  split
  · rfl
  · rw [show 0 * 0 - (sN B t).toNatClampNeg = 0 by omega, show p_root 0 = 0 by decide]
    unfold p_sel
    repeat' split
    all_goals omega
theorem sR_n {B : Nat → Int32} (hB : okB B) {t : Int32} (ht : 0 ≤ t ∧ t ≤ 40) {v : Nat} (hv : v ≤ 99) : sR B (nI v) t = nI (sRn B t v) ∧ sRn B t v ≤ 127 := by
  obtain ⟨n, hn, e⟩ := sN_n hB ht
  have m := Nat.mul_le_mul hv hv
  obtain ⟨b1, hb1, e1⟩ := p_in (i := B 1) (n := 10) (by decide) hB.2.2.1 (show B 1 < 10 by have := hB.2.2.2.1; grind)
  unfold sR sRn
  rw [e, nI_clamp (by omega), p_mul]
  by_cases z : v * v < n
  · rw [if_pos ((p_lt (by omega) (by omega)).mpr z), if_pos z]
    exact ⟨rfl, by omega⟩
  · have r := (p_root_spec (v := v * v - n) (by omega)).2.2
    rw [if_neg (fun q => z ((p_lt (by omega) (by omega)).mp q)), if_neg z, p_sub (by omega)]
    simp only [show (nI (v * v - n)).toNatClampNeg = v * v - n from nI_clamp (by omega)]
    generalize p_root (v * v - n) = x at r
    have g2 : nI x / 2 = nI (x / 2) := p_div (b := 2) (by omega) (by decide)
    have g3 : 3 * nI x / 4 = nI (3 * x / 4) := by
      rw [show (3 : Int32) = nI 3 from rfl, p_mul]
      exact p_div (b := 4) (by omega) (by decide)
    unfold p_sel
    rw [g2, g3, e1, nI_clamp (show b1 < 2 ^ 31 by omega)]
    by_cases k1 : B 0 = 1
    · simp only [if_pos k1]; exact ⟨by trivial, by omega⟩
    by_cases k2 : B 0 = 2
    · simp only [if_neg k1, if_pos k2]; exact ⟨by trivial, by omega⟩
    by_cases k3 : B 0 = 3
    · simp only [if_neg k1, if_neg k2, if_pos k3]
      by_cases y : b1 ≤ x
      · rw [if_pos ((p_le (by omega) (by omega)).mpr y), if_pos y]; exact ⟨rfl, by omega⟩
      · rw [if_neg (fun q => y ((p_le (by omega) (by omega)).mp q)), if_neg y]; exact ⟨rfl, by omega⟩
    by_cases k4 : B 0 = 4
    · simp only [if_neg k1, if_neg k2, if_neg k3, if_pos k4]; exact ⟨by trivial, by omega⟩
    by_cases k5 : B 0 = 5
    · simp only [if_neg k1, if_neg k2, if_neg k3, if_neg k4, if_pos k5]
      split
      · exact ⟨rfl, by omega⟩
      · exact ⟨rfl, by omega⟩
    · simp only [if_neg k1, if_neg k2, if_neg k3, if_neg k4, if_neg k5]; exact ⟨by trivial, by omega⟩
def p_top (p : Nat → Bool) : Nat → Nat
  | 0 => 0
  | n + 1 => if p (n + 1) = true then n + 1 else p_top p n
theorem p_top_spec {p : Nat → Bool} (h0 : p 0 = true) : ∀ n, (∀ v w, v ≤ w → w ≤ n → p w = true → p v = true) → p_top p n ≤ n ∧ ∀ v, v ≤ n → (p v = true ↔ v ≤ p_top p n) := by
  intro n
  induction n with
  | zero =>
    intro _
    refine ⟨Nat.le_refl _, fun v hv => ?_⟩
    obtain rfl : v = 0 := by omega
    exact ⟨fun _ => Nat.le_refl _, fun _ => h0⟩
  | succ n ih =>
    intro hm
    by_cases z : p (n + 1) = true
    · rw [p_top, if_pos z]
      exact ⟨Nat.le_refl _, fun v hv => ⟨fun _ => hv, fun _ => hm v (n + 1) hv (Nat.le_refl _) z⟩⟩
    · obtain ⟨a, b⟩ := ih (fun v w h1 h2 => hm v w h1 (by omega))
      rw [p_top, if_neg z]
      refine ⟨by omega, fun v hv => ?_⟩
      by_cases y : v = n + 1
      · subst y
        exact ⟨fun q => absurd q z, fun q => absurd q (by omega)⟩
      · exact b v (by omega)
def sG (B : Nat → Int32) (t : Int32) : Nat := p_top (fun v => decide (sRn B t v ≤ (B 7).toNatClampNeg)) 99
theorem sG_99 (B : Nat → Int32) (t : Int32) : sG B t ≤ 99 := (p_top_spec (by simp [sRn_0]) 99 (fun v w h _ q => by
  have := of_decide_eq_true q
  have := sRn_mono (B := B) (t := t) h
  exact decide_eq_true (by omega))).1
theorem sG_far {B : Nat → Int32} (hB : okB B) {t : Int32} (ht : 0 ≤ t ∧ t ≤ 40) {v : Nat} (hv : v ≤ 99) : B 7 < sR B (nI v) t ↔ sG B t < v := by
  have s := (p_top_spec (p := fun v => decide (sRn B t v ≤ (B 7).toNatClampNeg)) (by simp [sRn_0]) 99 (fun v w h _ q => by
    have := of_decide_eq_true q
    have := sRn_mono (B := B) (t := t) h
    exact decide_eq_true (by omega))).2 v hv
  obtain ⟨f, hf, e⟩ := p_in (i := B 7) (n := 100) (by decide) hB.2.2.2.2.2.2.2.2.2.2.2.2.2.2.1 (show B 7 < 100 by have := hB.2.2.2.2.2.2.2.2.2.2.2.2.2.2.2.1; grind)
  obtain ⟨r1, r2⟩ := sR_n hB ht hv
  rw [e, nI_clamp (by omega), decide_eq_true_eq] at s
  have s' : sRn B t v ≤ f ↔ v ≤ sG B t := by
    unfold sG
    rw [e, nI_clamp (by omega)]
    exact s
  rw [r1, e, p_lt (by omega) (by omega)]
  omega
def p_st : Nat → Nat
  | 0 => 0
  | j + 1 => 2 ^ j
theorem lx_gr {q : Nat} {M : g_M} {B : Nat → Int32} (h : isM q M B) (hB : okB B) {t : Int32} (ht : 0 ≤ t ∧ t ≤ 40) : ∀ (j g fuel : Nat), j < fuel → g ≤ sG B t → sG B t < g + 2 ^ j → g + 2 ^ j ≤ 128 → x_X5_greatestAt_L5 q fuel t (nI g) (nI (p_st j)) M = some (nI (sG B t), M) := by
  intro j
  have g99 := sG_99 B t
  induction j with
  | zero =>
    intro g fuel hf h1 h2 h3
    obtain ⟨n, rfl⟩ : ∃ n, fuel = n + 1 := ⟨fuel - 1, by omega⟩
    rw [x_X5_greatestAt_L5, if_pos (by decide), show g = sG B t by omega]
  | succ j ih =>
    intro g fuel hf h1 h2 h3
    obtain ⟨n, rfl⟩ : ∃ n, fuel = n + 1 := ⟨fuel - 1, by omega⟩
    have hp2 : 2 ^ (j + 1) = 2 ^ j + 2 ^ j := by rw [Nat.pow_succ]; omega
    have hp : 1 ≤ 2 ^ j := Nat.one_le_two_pow
    have es : nI (2 ^ j) / 2 = nI (p_st j) := by
      rw [show (2 : Int32) = nI 2 from rfl, p_div (by omega) (by decide)]
      congr 1
      cases j with
      | zero => rfl
      | succ j => rw [Nat.pow_succ]; show _ = 2 ^ j; omega
    show x_X5_greatestAt_L5 q (n + 1) t (nI g) (nI (2 ^ j)) M = _
    rw [x_X5_greatestAt_L5, if_neg (nI_nle (by omega) (by omega)), p_add, es]
    by_cases z : g + 2 ^ j ≤ 99
    · rw [if_neg (p_99 (by omega))]
      have hv : nI (g + 2 ^ j) ≤ 99 := (p_le (b := 99) (by omega) (by decide)).mpr z
      refine (bnd (px_reach h hB (p_ge0 (by omega)) hv ht.1 ht.2) _).trans ?_
      dsimp only
      have f := sG_far hB ht z
      by_cases y : sG B t < g + 2 ^ j
      · rw [if_pos (by rw [h 7 (by decide)]; exact f.mpr y)]
        exact ih g n (by omega) h1 y (by omega)
      · rw [if_neg (fun k => y (f.mp (by rw [h 7 (by decide)] at k; exact k)))]
        exact ih (g + 2 ^ j) n (by omega) (by omega) (by omega) (by omega)
    · rw [if_pos (show (99 : Int32) < nI (g + 2 ^ j) from (p_lt (a := 99) (by decide) (by omega)).mpr (by omega))]
      exact ih g n (by omega) h1 (by omega) (by omega)
theorem px_greatestAt {q : Nat} {M : g_M} {B : Nat → Int32} (h : isM q M B) (hB : okB B) {t : Int32} (ht : 0 ≤ t ∧ t ≤ 40) : x_X5_greatestAt q t M = some (nI (sG B t), M) :=
  lx_gr h hB ht 7 0 g_F (by decide) (Nat.zero_le _) (by have := sG_99 B t; omega) (by decide)
