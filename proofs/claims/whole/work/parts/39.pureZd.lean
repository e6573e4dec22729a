/-! THE PURE PART. ZD: which RING for which boat: costs, ways, the class's rows -/
def zI (x : Int) : Int32 := Int32.ofInt x
theorem zI_t {x : Int} (h : -(2 ^ 31) ≤ x) (h2 : x < 2 ^ 31) : (zI x).toInt = x := by
  unfold zI
  rw [Int32.toInt_ofInt, show Int32.size = 2 ^ 32 by decide]
  exact Int.bmod_eq_of_le (by omega) (by omega)
theorem zI_add (x y : Int) : zI x + zI y = zI (x + y) := (Int32.ofInt_add x y).symm
theorem zI_n {k : Nat} (h : k < 2 ^ 31) : nI k = zI k := by
  apply Int32.toInt_inj.mp
  rw [nI_toInt h, zI_t (by omega) (by omega)]
theorem zI_lt {x y : Int} (hx : -10000000 ≤ x ∧ x ≤ 10000000) (hy : -10000000 ≤ y ∧ y ≤ 10000000) : zI x < zI y ↔ x < y := by
  rw [Int32.lt_iff_toInt_lt, zI_t (by omega) (by omega), zI_t (by omega) (by omega)]
theorem zI_eq {x y : Int} (hx : -10000000 ≤ x ∧ x ≤ 10000000) (hy : -10000000 ≤ y ∧ y ≤ 10000000) : zI x = zI y ↔ x = y := by
  rw [← Int32.toInt_inj, zI_t (by omega) (by omega), zI_t (by omega) (by omega)]
theorem zI_min {x y : Int} (hx : -10000000 ≤ x ∧ x ≤ 10000000) (hy : -10000000 ≤ y ∧ y ≤ 10000000) : g_min (zI x) (zI y) = zI (min x y) := by
  unfold g_min
  by_cases h : y < x
  · rw [if_pos ((zI_lt hy hx).mpr h), show min x y = y by omega]
  · rw [if_neg (fun q => h ((zI_lt hy hx).mp q)), show min x y = x by omega]
theorem p_msk : ∀ U, U < 64 → ∀ r, r < 6 → (nI U &&& ((1 : Int32) <<< (nI r &&& 31)) = 0 ↔ U.testBit r = false) ∧ nI U ||| ((1 : Int32) <<< (nI r &&& 31)) = nI (U ||| 2 ^ r) ∧ U ||| 2 ^ r < 64 ∧ ((nI U >>> (nI r &&& 31)) &&& 1 = 1 ↔ U.testBit r = true) := by decide +kernel
def cwf (cb D : Nat → Int) (U r : Nat) : Int := if U.testBit r = true then 1000000 else cb r + D (U ||| 2 ^ r)
def mnf (f : Nat → Int) (x : Int) : Nat → Int
  | 0 => x
  | r + 1 => min (mnf f x r) (f r)
theorem mnf_le (f : Nat → Int) (x : Int) : ∀ n, mnf f x n ≤ x ∧ ∀ r, r < n → mnf f x n ≤ f r := by
  intro n
  induction n with
  | zero => exact ⟨Int.le_refl _, fun r hr => absurd hr (by omega)⟩
  | succ n ih =>
    have e : mnf f x (n + 1) = min (mnf f x n) (f n) := rfl
    refine ⟨by have := ih.1; omega, fun r hr => ?_⟩
    by_cases z : r = n
    · subst z; omega
    · have := ih.2 r (by omega)
      omega
theorem mnf_ex (f : Nat → Int) (x : Int) : ∀ n, mnf f x n = x ∨ ∃ r, r < n ∧ mnf f x n = f r := by
  intro n
  induction n with
  | zero => exact Or.inl rfl
  | succ n ih =>
    have e : mnf f x (n + 1) = min (mnf f x n) (f n) := rfl
    by_cases z : f n ≤ mnf f x n
    · exact Or.inr ⟨n, by omega, by omega⟩
    · rcases ih with q | ⟨r, hr, q⟩
      · exact Or.inl (by omega)
      · exact Or.inr ⟨r, by omega, by omega⟩
def dp (c : Nat → Nat → Int) (nr : Nat) (no : Int) : Nat → Nat → Nat → Int
  | 0, _, _ => 0
  | k + 1, b, U => mnf (cwf (c b) (dp c nr no k (b + 1)) U) (no + dp c nr no k (b + 1) U) nr
theorem dp_b {c : Nat → Nat → Int} {nr : Nat} {no : Int} (hc : ∀ b r, -1000000 ≤ c b r ∧ c b r ≤ 1000000) (hn : -1000000 ≤ no ∧ no ≤ 1000000) : ∀ k b U, -(k * 1000000) ≤ dp c nr no k b U ∧ dp c nr no k b U ≤ k * 1000000 := by
  intro k
  induction k with
  | zero => intro b U; show -(_ : Int) ≤ 0 ∧ (0 : Int) ≤ _; omega
  | succ k ih =>
    intro b U
    have i := ih (b + 1) U
    have l := mnf_le (cwf (c b) (dp c nr no k (b + 1)) U) (no + dp c nr no k (b + 1) U) nr
    refine ⟨?_, ?_⟩
    · rcases mnf_ex (cwf (c b) (dp c nr no k (b + 1)) U) (no + dp c nr no k (b + 1) U) nr with q | ⟨r, hr, q⟩
      · show _ ≤ mnf _ _ _
        rw [q]; omega
      · show _ ≤ mnf _ _ _
        rw [q]
        have := ih (b + 1) (U ||| 2 ^ r)
        have := hc b r
        unfold cwf
        split <;> omega
    · have := l.1
      show mnf _ _ _ ≤ _
      omega
def fst (p : Nat → Bool) : Nat → Nat → Nat
  | 0, i => i
  | k + 1, i => if p i = true then i else fst p k (i + 1)
theorem fst_spec (p : Nat → Bool) (n : Nat) : fst p n 0 ≤ n ∧ (fst p n 0 < n → p (fst p n 0) = true) ∧ ∀ j, j < fst p n 0 → p j = false := by
  have key : ∀ k i, i + k = n → (∀ j, j < i → p j = false) → fst p k i ≤ n ∧ (fst p k i < n → p (fst p k i) = true) ∧ ∀ j, j < fst p k i → p j = false := by
    intro k
    induction k with
    | zero =>
      intro i hi hj
      exact ⟨by show i ≤ n; omega, fun q => absurd q (by show ¬ i < n; omega), hj⟩
    | succ k ih =>
      intro i hi hj
      by_cases z : p i = true
      · rw [fst, if_pos z]
        exact ⟨by omega, fun _ => z, hj⟩
      · rw [fst, if_neg z]
        exact ih (i + 1) (by omega) (fun j h => by
          by_cases e : j = i
          · subst e; rwa [Bool.not_eq_true] at z
          · exact hj j (by omega))
  exact key n 0 (by omega) (fun j h => absurd h (by omega))
/-- the class's choice for a boat -/
def fb (c : Nat → Nat → Int) (nr : Nat) (no : Int) (k b U : Nat) : Nat := fst (fun r => decide (cwf (c b) (dp c nr no k (b + 1)) U r = dp c nr no (k + 1) b U)) nr 0
def nx (nr U r : Nat) : Nat := if r < nr then U ||| 2 ^ r else U
/-- the class's way -/
def wy (c : Nat → Nat → Int) (nr : Nat) (no : Int) : Nat → Nat → Nat → Nat → Nat
  | 0, _, _ => fun _ => 0
  | k + 1, b, U => fun j => if j = b then fb c nr no k b U else wy c nr no k (b + 1) (nx nr U (fb c nr no k b U)) j
def FE (nr : Nat) (way : Nat → Nat) : Nat → Nat → Nat → Prop
  | 0, _, _ => True
  | k + 1, a, U => (way a < nr → U.testBit (way a) = false) ∧ FE nr way k (a + 1) (nx nr U (way a))
def SS (c : Nat → Nat → Int) (nr : Nat) (no : Int) (way : Nat → Nat) : Nat → Nat → Int
  | 0, _ => 0
  | k + 1, a => (if way a < nr then c a (way a) else no) + SS c nr no way k (a + 1)
def num (K : Nat) (way : Nat → Nat) : Nat → Nat → Nat
  | 0, _ => 0
  | k + 1, a => way a * K ^ k + num K way k (a + 1)
theorem FE_cg {nr : Nat} {w w' : Nat → Nat} : ∀ k a U, (∀ j, a ≤ j → w j = w' j) → (FE nr w k a U ↔ FE nr w' k a U) := by
  intro k
  induction k with
  | zero => intro a U _; exact Iff.rfl
  | succ k ih =>
    intro a U h
    rw [FE, FE, h a (Nat.le_refl _), ih (a + 1) _ (fun j hj => h j (by omega))]
theorem SS_cg {c : Nat → Nat → Int} {nr : Nat} {no : Int} {w w' : Nat → Nat} : ∀ k a, (∀ j, a ≤ j → w j = w' j) → SS c nr no w k a = SS c nr no w' k a := by
  intro k
  induction k with
  | zero => intro a _; rfl
  | succ k ih =>
    intro a h
    rw [SS, SS, h a (Nat.le_refl _), ih (a + 1) (fun j hj => h j (by omega))]
theorem num_cg {K : Nat} {w w' : Nat → Nat} : ∀ k a, (∀ i, i < k → w (a + i) = w' (a + i)) → num K w k a = num K w' k a := by
  intro k
  induction k with
  | zero => intro a _; rfl
  | succ k ih =>
    intro a h
    have h0 := h 0 (by omega)
    rw [Nat.add_zero] at h0
    rw [num, num, h0, ih (a + 1) (fun i hi => by have := h (i + 1) (by omega); rw [show a + 1 + i = a + (i + 1) by omega]; exact this)]
theorem num_lt {K : Nat} {w : Nat → Nat} : ∀ k a, (∀ i, i < k → w (a + i) < K) → num K w k a < K ^ k := by
  intro k
  induction k with
  | zero => intro a _; show 0 < K ^ 0; rw [Nat.pow_zero]; decide
  | succ k ih =>
    intro a h
    have h0 := h 0 (by omega)
    rw [Nat.add_zero] at h0
    have q := ih (a + 1) (fun i hi => by have := h (i + 1) (by omega); rw [show a + 1 + i = a + (i + 1) by omega]; exact this)
    have m := Nat.mul_le_mul_right (K ^ k) (show w a + 1 ≤ K by omega)
    rw [Nat.add_mul, Nat.one_mul] at m
    rw [num, Nat.pow_succ, Nat.mul_comm (K ^ k) K]
    omega
/-- no way costs less -/
theorem dp_le {c : Nat → Nat → Int} {nr : Nat} {no : Int} {way : Nat → Nat} : ∀ k a U, FE nr way k a U → dp c nr no k a U ≤ SS c nr no way k a := by
  intro k
  induction k with
  | zero => intro a U _; exact Int.le_refl _
  | succ k ih =>
    intro a U h
    have i := ih (a + 1) _ h.2
    have l := mnf_le (cwf (c a) (dp c nr no k (a + 1)) U) (no + dp c nr no k (a + 1) U) nr
    show mnf _ _ _ ≤ _
    rw [SS]
    by_cases z : way a < nr
    · rw [if_pos z]
      have q := l.2 (way a) z
      unfold nx at i
      rw [if_pos z] at i
      unfold cwf at q ⊢
      rw [if_neg (by rw [h.1 z]; decide)] at q
      omega
    · rw [if_neg z]
      unfold nx at i
      rw [if_neg z] at i
      have := l.1
      omega
/-- the class's way is a way, of that cost, and the first of them -/
theorem wy_ok {c : Nat → Nat → Int} {nr K : Nat} {no : Int} (hK : K = nr ∨ K = nr + 1) (hc : ∀ k a U r, c a r + dp c nr no k (a + 1) U < 1000000 → dp c nr no k (a + 1) U < 1000000) (hno : ∀ k a U, no + dp c nr no k (a + 1) U < 1000000 → K = nr + 1 ∧ dp c nr no k (a + 1) U < 1000000) : ∀ k a U, dp c nr no k a U < 1000000 → FE nr (wy c nr no k a U) k a U ∧ SS c nr no (wy c nr no k a U) k a = dp c nr no k a U ∧ (∀ i, i < k → wy c nr no k a U (a + i) < K) ∧ ∀ way, (∀ i, i < k → way (a + i) < K) → FE nr way k a U → SS c nr no way k a ≤ dp c nr no k a U → num K (wy c nr no k a U) k a ≤ num K way k a := by
  intro k
  induction k with
  | zero => intro a U _; exact ⟨trivial, rfl, fun i hi => absurd hi (by omega), fun _ _ _ _ => Nat.le_refl _⟩
  | succ k ih =>
    intro a U hU
    obtain ⟨f1, f2, f3⟩ := fst_spec (fun r => decide (cwf (c a) (dp c nr no k (a + 1)) U r = dp c nr no (k + 1) a U)) nr
    have fe : fst (fun r => decide (cwf (c a) (dp c nr no k (a + 1)) U r = dp c nr no (k + 1) a U)) nr 0 = fb c nr no k a U := rfl
    rw [fe] at f1 f2 f3
    have hw : ∀ j, a + 1 ≤ j → wy c nr no (k + 1) a U j = wy c nr no k (a + 1) (nx nr U (fb c nr no k a U)) j := fun j hj => if_neg (by omega)
    have h0 : wy c nr no (k + 1) a U a = fb c nr no k a U := if_pos rfl
    -- what was chosen
    have ch : (fb c nr no k a U < nr → U.testBit (fb c nr no k a U) = false) ∧ fb c nr no k a U < K ∧ dp c nr no (k + 1) a U = (if fb c nr no k a U < nr then c a (fb c nr no k a U) else no) + dp c nr no k (a + 1) (nx nr U (fb c nr no k a U)) ∧ dp c nr no k (a + 1) (nx nr U (fb c nr no k a U)) < 1000000 := by
      by_cases z : fb c nr no k a U < nr
      · have q := of_decide_eq_true (f2 z)
        have tbf : ¬ U.testBit (fb c nr no k a U) = true := fun t => by
          unfold cwf at q
          rw [if_pos t] at q
          omega
        unfold cwf at q
        rw [if_neg tbf] at q
        unfold nx
        rw [if_pos z, if_pos z]
        refine ⟨fun _ => by rwa [Bool.not_eq_true] at tbf, by omega, q.symm, hc k a _ (fb c nr no k a U) (by omega)⟩
      · have e : fb c nr no k a U = nr := by omega
        have q : dp c nr no (k + 1) a U = no + dp c nr no k (a + 1) U := by
          rcases mnf_ex (cwf (c a) (dp c nr no k (a + 1)) U) (no + dp c nr no k (a + 1) U) nr with q | ⟨r, hr, q⟩
          · exact q
          · have := f3 r (by omega)
            rw [decide_eq_false_iff_not] at this
            exact absurd q.symm this
        have := hno k a U (by omega)
        unfold nx
        rw [if_neg z, if_neg z]
        exact ⟨fun y => absurd y z, by omega, q, this.2⟩
    obtain ⟨c1, c2, c3, c4⟩ := ch
    obtain ⟨i1, i2, i3, i4⟩ := ih (a + 1) (nx nr U (fb c nr no k a U)) c4
    generalize hf : fb c nr no k a U = f at *
    have FEr := (FE_cg (nr := nr) k (a + 1) (nx nr U f) hw).mpr i1
    have SSr := SS_cg (c := c) (nr := nr) (no := no) k (a + 1) hw
    have NMr := num_cg (K := K) k (a + 1) (fun i _ => hw (a + 1 + i) (by omega))
    have dg : ∀ i, i < k + 1 → wy c nr no (k + 1) a U (a + i) < K := by
      intro i hi
      by_cases z : i = 0
      · subst z
        show wy c nr no (k + 1) a U a < K
        rw [h0]
        exact c2
      · rw [hw _ (by omega), show a + i = a + 1 + (i - 1) by omega]
        exact i3 (i - 1) (by omega)
    refine ⟨⟨by rw [h0]; exact c1, by rw [h0]; exact FEr⟩, by rw [SS, h0, SSr, i2, c3], dg, fun way hd hF hS => ?_⟩
    rw [num, num, h0, NMr]
    have w0 := hd 0 (by omega)
    rw [Nat.add_zero] at w0
    have wr : ∀ i, i < k → way (a + 1 + i) < K := fun i hi => by
      have := hd (i + 1) (by omega)
      rw [show a + 1 + i = a + (i + 1) by omega]
      exact this
    have lt := num_lt k (a + 1) i3
    rw [SS] at hS
    rcases Nat.lt_trichotomy (way a) f with z | z | z
    · have zn : way a < nr := by omega
      have nf := f3 (way a) z
      rw [decide_eq_false_iff_not] at nf
      have dl := dp_le (c := c) (no := no) k (a + 1) _ hF.2
      have l := (mnf_le (cwf (c a) (dp c nr no k (a + 1)) U) (no + dp c nr no k (a + 1) U) nr).2 (way a) zn
      have l' : dp c nr no (k + 1) a U ≤ cwf (c a) (dp c nr no k (a + 1)) U (way a) := l
      rw [if_pos zn] at hS
      unfold nx at dl
      rw [if_pos zn] at dl
      unfold cwf at nf l'
      rw [if_neg (by rw [hF.1 zn]; decide)] at nf l'
      exfalso
      omega
    · rw [z]
      rw [z] at hS
      have F2 := hF.2
      rw [z] at F2
      have := i4 way wr F2 (by omega)
      omega
    · have m := Nat.mul_le_mul_right (K ^ k) (show f + 1 ≤ way a from z)
      rw [Nat.add_mul, Nat.one_mul] at m
      omega
theorem p_modn {x K : Nat} (hK : 0 < K) (hx : x < 2 ^ 31) (hk : K < 2 ^ 31) : nI x - nI x / nI K * nI K = nI (x % K) := by
  have e : x / K * K ≤ x := Nat.div_mul_le_self x K
  rw [p_div hx hk, p_mul, p_sub e]
  congr 1
  have := Nat.div_add_mod x K
  rw [Nat.mul_comm] at this
  omega
/-- the digits of a number -/
def dgt (K nb n j : Nat) : Nat := n / K ^ (nb - 1 - j) % K
theorem num_dgt {K nb n : Nat} : ∀ k a, a + k = nb → num K (dgt K nb n) k a = n % K ^ k := by
  intro k
  induction k with
  | zero => intro a _; show 0 = _; rw [Nat.pow_zero, Nat.mod_one]
  | succ k ih =>
    intro a ha
    rw [num, ih (a + 1) (by omega), Nat.mod_pow_succ]
    unfold dgt
    rw [show nb - 1 - a = k by omega, Nat.mul_comm]
    omega
theorem num_inj {K : Nat} {w w' : Nat → Nat} : ∀ k a, (∀ i, i < k → w (a + i) < K) → (∀ i, i < k → w' (a + i) < K) → num K w k a = num K w' k a → ∀ i, i < k → w (a + i) = w' (a + i) := by
  intro k
  induction k with
  | zero => intro a _ _ _ i hi; exact absurd hi (by omega)
  | succ k ih =>
    intro a h h' e i hi
    have r : ∀ i, i < k → w (a + 1 + i) < K := fun i hi => by have := h (i + 1) (by omega); rw [show a + 1 + i = a + (i + 1) by omega]; exact this
    have r' : ∀ i, i < k → w' (a + 1 + i) < K := fun i hi => by have := h' (i + 1) (by omega); rw [show a + 1 + i = a + (i + 1) by omega]; exact this
    have l := num_lt k (a + 1) r
    have l' := num_lt k (a + 1) r'
    rw [num, num] at e
    have ea : w a = w' a := by
      rcases Nat.lt_trichotomy (w a) (w' a) with z | z | z
      · have m := Nat.mul_le_mul_right (K ^ k) (show w a + 1 ≤ w' a from z)
        rw [Nat.add_mul, Nat.one_mul] at m
        omega
      · exact z
      · have m := Nat.mul_le_mul_right (K ^ k) (show w' a + 1 ≤ w a from z)
        rw [Nat.add_mul, Nat.one_mul] at m
        omega
    by_cases z : i = 0
    · subst z; rw [Nat.add_zero]; exact ea
    · rw [ea] at e
      have := ih (a + 1) r r' (by omega) (i - 1) (by omega)
      rw [show a + 1 + (i - 1) = a + i by omega] at this
      exact this
/-! the class's rows -/
def isP (s : g_M) (c : Nat → Nat → Int) (nb nr : Nat) (no : Int) : Prop := s 34 2 = nI nb ∧ s 34 3 = nI nr ∧ s 34 4 = zI no ∧ ∀ b r, b < nb → r < nr → s 35 (6 * b + r) = zI (c b r)
def isD (s : g_M) (c : Nat → Nat → Int) (nb nr : Nat) (no : Int) (B : Nat) : Prop := ∀ b U, B ≤ b → b ≤ nb → U < 64 → s 36 (64 * b + U) = zI (dp c nr no (nb - b) b U)
theorem px_costR {s : g_M} {c : Nat → Nat → Int} {nb nr : Nat} {no : Int} (hP : isP s c nb nr no) (hnb : nb ≤ 5) (hnr : nr ≤ 6) {b U r : Nat} (hD : isD s c nb nr no (b + 1)) (hb : b < nb) (hU : U < 64) (hr : r < nr) : x_X0_costWith (nI b) (nI U) (nI r) s = some (zI (cwf (c b) (dp c nr no (nb - (b + 1)) (b + 1)) U r), s) := by
  obtain ⟨p1, p2, p3, p4⟩ := hP
  obtain ⟨m1, m2, m3, m4⟩ := p_msk U hU r (by omega)
  have e1 : nI b * 6 + nI r = nI (6 * b + r) := by rw [show (6 : Int32) = nI 6 from rfl, p_mul, p_add, Nat.mul_comm]
  have e2 : (nI b + 1) * 64 + nI (U ||| 2 ^ r) = nI (64 * (b + 1) + (U ||| 2 ^ r)) := by rw [← nI_succ, show (64 : Int32) = nI 64 from rfl, p_mul, p_add, Nat.mul_comm]
  have c1 : (nI (6 * b + r)).toNatClampNeg = 6 * b + r := nI_clamp (by omega)
  have c2 : (nI (64 * (b + 1) + (U ||| 2 ^ r))).toNatClampNeg = 64 * (b + 1) + (U ||| 2 ^ r) := nI_clamp (by omega)
  rw [x_X0_costWith, p2, if_pos ((p_lt (by omega) (by omega)).mpr hr)]
  unfold cwf
  by_cases z : U.testBit r = true
  · rw [if_pos z, if_neg (fun q => by rw [m1.mp q] at z; cases z)]
    rfl
  · rw [if_neg z, if_pos (m1.mpr (by rwa [Bool.not_eq_true] at z)), m2, e1, e2, if_pos (p_inb (show 6 * b + r < 30 by omega) (by decide)), if_pos (p_inb (show 64 * (b + 1) + (U ||| 2 ^ r) < 384 by omega) (by decide)), c1, c2, p4 b r hb hr, hD (b + 1) (U ||| 2 ^ r) (Nat.le_refl _) (by omega) m3, zI_add]
theorem px_costN {s : g_M} {c : Nat → Nat → Int} {nb nr : Nat} {no : Int} (hP : isP s c nb nr no) (hnb : nb ≤ 5) (hnr : nr ≤ 6) {b U : Nat} (hD : isD s c nb nr no (b + 1)) (hb : b < nb) (hU : U < 64) : x_X0_costWith (nI b) (nI U) (nI nr) s = some (zI (no + dp c nr no (nb - (b + 1)) (b + 1) U), s) := by
  obtain ⟨p1, p2, p3, p4⟩ := hP
  have e2 : (nI b + 1) * 64 + nI U = nI (64 * (b + 1) + U) := by rw [← nI_succ, show (64 : Int32) = nI 64 from rfl, p_mul, p_add, Nat.mul_comm]
  have c2 : (nI (64 * (b + 1) + U)).toNatClampNeg = 64 * (b + 1) + U := nI_clamp (by omega)
  rw [x_X0_costWith, p2, if_neg (fun q => absurd ((p_lt (by omega) (by omega)).mp q) (by omega)), e2, if_pos (p_inb (show 64 * (b + 1) + U < 384 by omega) (by decide)), c2, p3, hD (b + 1) U (Nat.le_refl _) (by omega) hU, zI_add]
theorem dp_s {c : Nat → Nat → Int} {nr nb b : Nat} {no : Int} (hb : b < nb) (U : Nat) : dp c nr no (nb - b) b U = mnf (cwf (c b) (dp c nr no (nb - (b + 1)) (b + 1)) U) (no + dp c nr no (nb - (b + 1)) (b + 1) U) nr := by
  rw [show nb - b = nb - (b + 1) + 1 by omega, dp]
theorem px_least0 {s : g_M} {c : Nat → Nat → Int} {nb nr : Nat} {no : Int} (hP : isP s c nb nr no) (hnb : nb ≤ 5) (hnr : nr ≤ 6) (hc : ∀ b r, -1000000 ≤ c b r ∧ c b r ≤ 1000000) (hn : -1000000 ≤ no ∧ no ≤ 1000000) {b U : Nat} (hD : isD s c nb nr no (b + 1)) (hb : b < nb) (hU : U < 64) : x_X0_leastFor (nI b) (nI U) s = some (zI (dp c nr no (nb - b) b U), s) := by
  have p2 := hP.2.1
  have bd : ∀ V, -5000000 ≤ dp c nr no (nb - (b + 1)) (b + 1) V ∧ dp c nr no (nb - (b + 1)) (b + 1) V ≤ 5000000 := fun V => by
    have := dp_b (nr := nr) hc hn (nb - (b + 1)) (b + 1) V
    omega
  have cb : ∀ r, -6000000 ≤ cwf (c b) (dp c nr no (nb - (b + 1)) (b + 1)) U r ∧ cwf (c b) (dp c nr no (nb - (b + 1)) (b + 1)) U r ≤ 6000000 := fun r => by
    have := bd (U ||| 2 ^ r)
    have := hc b r
    unfold cwf
    split <;> omega
  have mb : ∀ i, -6000000 ≤ mnf (cwf (c b) (dp c nr no (nb - (b + 1)) (b + 1)) U) (no + dp c nr no (nb - (b + 1)) (b + 1) U) i ∧ mnf (cwf (c b) (dp c nr no (nb - (b + 1)) (b + 1)) U) (no + dp c nr no (nb - (b + 1)) (b + 1) U) i ≤ 6000000 := fun i => by
    have := bd U
    have l := (mnf_le (cwf (c b) (dp c nr no (nb - (b + 1)) (b + 1)) U) (no + dp c nr no (nb - (b + 1)) (b + 1) U) i).1
    rcases mnf_ex (cwf (c b) (dp c nr no (nb - (b + 1)) (b + 1)) U) (no + dp c nr no (nb - (b + 1)) (b + 1) U) i with q | ⟨r, hr, q⟩
    · omega
    · have := cb r
      omega
  rw [x_X0_leastFor, p2]
  refine (bnd (px_costN hP hnb hnr hD hb hU) _).trans ?_
  dsimp only
  rw [dp_s hb]
  refine p_loop0 (n := nr) (F := fun i fuel (_ : Unit) => x_X0_leastFor_L14 fuel (nI b) (nI U) (zI (mnf (cwf (c b) (dp c nr no (nb - (b + 1)) (b + 1)) U) (no + dp c nr no (nb - (b + 1)) (b + 1) U) i)) (nI i) s) (I := fun _ _ => True) (R := fun r => r = some (zI (mnf (cwf (c b) (dp c nr no (nb - (b + 1)) (b + 1)) U) (no + dp c nr no (nb - (b + 1)) (b + 1) U) nr), s)) (s := ()) (by omega) trivial ?_ ?_
  · intro _ fuel _
    show x_X0_leastFor_L14 (fuel + 1) _ _ _ (nI nr) s = _
    rw [x_X0_leastFor_L14, p2, if_pos (Int32.le_refl _)]
  · intro i _ fuel hi _
    right
    refine ⟨(), trivial, ?_⟩
    show x_X0_leastFor_L14 (fuel + 1) _ _ (zI (mnf (cwf (c b) (dp c nr no (nb - (b + 1)) (b + 1)) U) (no + dp c nr no (nb - (b + 1)) (b + 1) U) i)) (nI i) s = x_X0_leastFor_L14 fuel _ _ (zI (min (mnf (cwf (c b) (dp c nr no (nb - (b + 1)) (b + 1)) U) (no + dp c nr no (nb - (b + 1)) (b + 1) U) i) (cwf (c b) (dp c nr no (nb - (b + 1)) (b + 1)) U i))) (nI (i + 1)) s
    have k1 := mb i
    have k2 := cb i
    rw [x_X0_leastFor_L14, p2, if_neg (show ¬ nI nr ≤ nI i from nI_ge hi (by omega))]
    refine (bnd (px_costR hP hnb hnr hD hb hU hi) _).trans ?_
    dsimp only
    rw [zI_min (by omega) (by omega), nI_succ i]
theorem px_solve {s : g_M} {c : Nat → Nat → Int} {nb nr : Nat} {no : Int} (h35 : ∀ b r, b < nb → r < nr → s 35 (6 * b + r) = zI (c b r)) (hnb : nb ≤ 5) (hnr : nr ≤ 6) (hc : ∀ b r, -1000000 ≤ c b r ∧ c b r ≤ 1000000) (hn : -1000000 ≤ no ∧ no ≤ 1000000) : ∃ N, x_X0_solve (nI nb) (nI nr) (zI no) s = some (0, N) ∧ (∀ q, q ≠ 34 → q ≠ 36 → N q = s q) ∧ isP N c nb nr no ∧ isD N c nb nr no 0 := by
  have mm : ∀ n m, n ≤ m → m ≤ 100 → g_max 0 (g_min (nI n) (nI m)) = nI n := fun n m h1 h2 => by
    rw [p_min (by omega) (by omega), show (0 : Int32) = nI 0 from rfl, p_max (by decide) (by omega), show max 0 (min n m) = n by omega]
  rw [x_X0_solve, show (5 : Int32) = nI 5 from rfl, show (6 : Int32) = nI 6 from rfl, mm nb 5 hnb (by decide), mm nr 6 hnr (by decide)]
  generalize hs0 : g_upd (g_upd (g_upd s 34 2 (nI nb)) 34 3 (nI nr)) 34 4 (zI no) = s0
  have P0 : isP s0 c nb nr no := by
    subst hs0
    exact ⟨by simp [g_upd_get], by simp [g_upd_get], by simp [g_upd_get], fun b r hb hr => by rw [g_upd_ne (by decide), g_upd_ne (by decide), g_upd_ne (by decide)]; exact h35 b r hb hr⟩
  have n0 : ∀ q, q ≠ 34 → s0 q = s q := fun q hq => by rw [← hs0, g_upd_ne hq, g_upd_ne hq, g_upd_ne hq]
  clear hs0
  have isP_n : ∀ t : g_M, (∀ q, q ≠ 36 → t q = s0 q) → isP t c nb nr no := fun t ht => by
    unfold isP
    rw [ht 34 (by decide), ht 35 (by decide)]
    exact P0
  have fill : ∃ t, x_X0_solve_L35 g_F 0 s0 = x_X0_solve_L72 g_F (nI nb - 1) t ∧ (∀ q, q ≠ 36 → t q = s0 q) ∧ isD t c nb nr no nb := by
    refine p_loop0 (n := 64) (F := fun i fuel t => x_X0_solve_L35 fuel (nI i) t) (I := fun i t => (∀ q, q ≠ 36 → t q = s0 q) ∧ ∀ U, U < i → t 36 (64 * nb + U) = 0) (R := fun r => ∃ t, r = x_X0_solve_L72 g_F (nI nb - 1) t ∧ (∀ q, q ≠ 36 → t q = s0 q) ∧ isD t c nb nr no nb) (s := s0) (by decide) ⟨fun _ _ => rfl, fun U hU => absurd hU (by omega)⟩ ?_ ?_
    · intro t fuel ⟨h1, h2⟩
      refine ⟨t, ?_, h1, fun b U a1 a2 hU => ?_⟩
      · show x_X0_solve_L35 (fuel + 1) (nI 64) t = _
        rw [x_X0_solve_L35, if_pos (by decide), (isP_n t h1).1]
      · obtain rfl : b = nb := by omega
        rw [h2 U hU, Nat.sub_self]
        rfl
    · intro i t fuel hi ⟨h1, h2⟩
      right
      have ei : nI nb * 64 + nI i = nI (64 * nb + i) := by rw [show (64 : Int32) = nI 64 from rfl, p_mul, p_add, Nat.mul_comm]
      have ci : (nI (64 * nb + i)).toNatClampNeg = 64 * nb + i := nI_clamp (by omega)
      refine ⟨g_upd t 36 (64 * nb + i) 0, ⟨fun q hq => by rw [g_upd_ne hq, h1 q hq], fun U hU => ?_⟩, ?_⟩
      · rw [g_upd_get]
        by_cases z : U = i
        · rw [if_pos ⟨rfl, by omega⟩]
        · rw [if_neg (fun q => z (by have := q.2; omega)), h2 U (by omega)]
      · show x_X0_solve_L35 (fuel + 1) (nI i) t = x_X0_solve_L35 fuel (nI (i + 1)) _
        rw [x_X0_solve_L35, if_neg (show ¬ (64 : Int32) ≤ nI i from nI_ge hi (by decide)), (isP_n t h1).1, ei, if_pos (p_inb (show 64 * nb + i < 384 by omega) (by decide)), ci, nI_succ]
  obtain ⟨t0, f1, f2, f3⟩ := fill
  rw [f1, show nI nb - 1 = nI (nb - 0) - 1 by rw [Nat.sub_zero]]
  refine p_loop0 (n := nb) (F := fun m fuel t => x_X0_solve_L72 fuel (nI (nb - m) - 1) t) (I := fun m t => (∀ q, q ≠ 36 → t q = s0 q) ∧ isD t c nb nr no (nb - m)) (R := fun r => ∃ N, r = some (0, N) ∧ (∀ q, q ≠ 34 → q ≠ 36 → N q = s q) ∧ isP N c nb nr no ∧ isD N c nb nr no 0) (s := t0) (by omega) ⟨f2, f3⟩ ?_ ?_
  · intro t fuel ⟨h1, h2⟩
    rw [Nat.sub_self] at h2
    refine ⟨t, ?_, fun q a b => by rw [h1 q b, n0 q a], isP_n t h1, h2⟩
    show x_X0_solve_L72 (fuel + 1) (nI (nb - nb) - 1) t = _
    rw [Nat.sub_self, x_X0_solve_L72, if_pos (by decide)]
  · intro m t fuel hm ⟨h1, h2⟩
    right
    show ∃ t', ((∀ q, q ≠ 36 → t' q = s0 q) ∧ isD t' c nb nr no (nb - (m + 1))) ∧ x_X0_solve_L72 (fuel + 1) (nI (nb - m) - 1) t = x_X0_solve_L72 fuel (nI (nb - (m + 1)) - 1) t'
    obtain ⟨b, hb⟩ : ∃ b, nb - (m + 1) = b := ⟨_, rfl⟩
    rw [show nb - m = b + 1 by omega] at h2 ⊢
    rw [hb, p_pred, x_X0_solve_L72, if_neg (nI_pos (by omega))]
    generalize x_X0_solve_L72 fuel = k72
    refine p_loop0 (n := 64) (F := fun i fuel t => x_X0_solve_L80 k72 fuel (nI b) (nI i) t) (I := fun i t => (∀ q, q ≠ 36 → t q = s0 q) ∧ isD t c nb nr no (b + 1) ∧ ∀ U, U < i → t 36 (64 * b + U) = zI (dp c nr no (nb - b) b U)) (R := fun r => ∃ t', ((∀ q, q ≠ 36 → t' q = s0 q) ∧ isD t' c nb nr no b) ∧ r = k72 (nI b - 1) t') (s := t) (by decide) ⟨h1, h2, fun U hU => absurd hU (by omega)⟩ ?_ ?_
    · intro t fuel ⟨h1, h2, h3⟩
      refine ⟨t, ⟨h1, fun b' U a1 a2 hU => ?_⟩, ?_⟩
      · by_cases z : b' = b
        · subst z; exact h3 U hU
        · exact h2 b' U (by omega) a2 hU
      · show x_X0_solve_L80 k72 (fuel + 1) _ (nI 64) t = _
        rw [x_X0_solve_L80, if_pos (by decide), show nI b + -1 = nI b - 1 by grind]
    · intro i t fuel hi ⟨h1, h2, h3⟩
      right
      have ei : nI b * 64 + nI i = nI (64 * b + i) := by rw [show (64 : Int32) = nI 64 from rfl, p_mul, p_add, Nat.mul_comm]
      have ci : (nI (64 * b + i)).toNatClampNeg = 64 * b + i := nI_clamp (by omega)
      refine ⟨g_upd t 36 (64 * b + i) (zI (dp c nr no (nb - b) b i)), ⟨fun q hq => by rw [g_upd_ne hq, h1 q hq], fun b' U a1 a2 hU => by rw [g_upd_get, if_neg (fun q => by have := q.2; omega)]; exact h2 b' U a1 a2 hU, fun U hU => ?_⟩, ?_⟩
      · rw [g_upd_get]
        by_cases z : U = i
        · subst z; rw [if_pos ⟨rfl, rfl⟩]
        · rw [if_neg (fun q => z (by have := q.2; omega)), h3 U (by omega)]
      · show x_X0_solve_L80 k72 (fuel + 1) _ (nI i) t = x_X0_solve_L80 k72 fuel _ (nI (i + 1)) _
        rw [x_X0_solve_L80, if_neg (show ¬ (64 : Int32) ≤ nI i from nI_ge hi (by decide))]
        refine (bnd (px_least0 (isP_n t h1) hnb hnr hc hn h2 (by omega) hi) _).trans ?_
        dsimp only
        rw [ei, if_pos (p_inb (show 64 * b + i < 384 by omega) (by decide)), ci, nI_succ]
/-- the way in digits -/
def rd (nr : Nat) (way : Nat → Nat) : Nat → Nat → Nat
  | 0, _ => 0
  | k + 1, a => (if way a < nr then way a else 9) + 10 * rd nr way k (a + 1)
theorem rd_cg {nr : Nat} {w w' : Nat → Nat} : ∀ k a, (∀ i, i < k → w (a + i) = w' (a + i)) → rd nr w k a = rd nr w' k a := by
  intro k
  induction k with
  | zero => intro a _; rfl
  | succ k ih =>
    intro a h
    have h0 := h 0 (by omega)
    rw [Nat.add_zero] at h0
    rw [rd, rd, h0, ih (a + 1) (fun i hi => by have := h (i + 1) (by omega); rw [show a + 1 + i = a + (i + 1) by omega]; exact this)]
theorem px_digits {s : g_M} {c : Nat → Nat → Int} {nb nr : Nat} {no : Int} (hP : isP s c nb nr no) (hD : isD s c nb nr no 0) (hnb : nb ≤ 5) (hnr : nr ≤ 6) (hc : ∀ b r, -1000000 ≤ c b r ∧ c b r ≤ 1000000) (hn : -1000000 ≤ no ∧ no ≤ 1000000) : x_X0_ringDigits s = some (nI (rd nr (wy c nr no nb 0 0) nb 0), s) := by
  obtain ⟨p1, p2, p3, p4⟩ := hP
  have fbest : ∀ b U, b < nb → U < 64 → x_X0_firstBest (nI b) (nI U) s = some (nI (fb c nr no (nb - (b + 1)) b U), s) := by
    intro b U hb hU
    have ei : nI b * 64 + nI U = nI (64 * b + U) := by rw [show (64 : Int32) = nI 64 from rfl, p_mul, p_add, Nat.mul_comm]
    have ci : (nI (64 * b + U)).toNatClampNeg = 64 * b + U := nI_clamp (by omega)
    have bi := p_inb (show 64 * b + U < 384 by omega) (by decide : (384 : Nat) < 2 ^ 31)
    have d36 := hD b U (by omega) (by omega) hU
    have bd : ∀ V, -5000000 ≤ dp c nr no (nb - (b + 1)) (b + 1) V ∧ dp c nr no (nb - (b + 1)) (b + 1) V ≤ 5000000 := fun V => by
      have := dp_b (nr := nr) hc hn (nb - (b + 1)) (b + 1) V
      omega
    have cb : ∀ r, -6000000 ≤ cwf (c b) (dp c nr no (nb - (b + 1)) (b + 1)) U r ∧ cwf (c b) (dp c nr no (nb - (b + 1)) (b + 1)) U r ≤ 6000000 := fun r => by
      have := bd (U ||| 2 ^ r)
      have := hc b r
      unfold cwf
      split <;> omega
    have bb := dp_b (nr := nr) hc hn (nb - b) b U
    have key : ∀ k i fuel, i + k = nr → k < fuel → x_X0_firstBest_L2 fuel (nI b) (nI U) (nI i) s = some (nI (fst (fun r => decide (cwf (c b) (dp c nr no (nb - (b + 1)) (b + 1)) U r = dp c nr no (nb - b) b U)) k i), s) := by
      intro k
      induction k with
      | zero =>
        intro i fuel hi hf
        obtain ⟨m, rfl⟩ : ∃ m, fuel = m + 1 := ⟨fuel - 1, by omega⟩
        obtain rfl : i = nr := by omega
        rw [x_X0_firstBest_L2, p2, if_pos (Int32.le_refl _)]
        rfl
      | succ k ih =>
        intro i fuel hi hf
        obtain ⟨m, rfl⟩ : ∃ m, fuel = m + 1 := ⟨fuel - 1, by omega⟩
        have k1 := cb i
        rw [x_X0_firstBest_L2, p2, if_neg (show ¬ nI nr ≤ nI i from nI_ge (by omega) (by omega))]
        refine (bnd (px_costR ⟨p1, p2, p3, p4⟩ hnb hnr (fun b' U' x y z => hD b' U' (by omega) y z) hb hU (by omega)) _).trans ?_
        dsimp only
        rw [ei, if_pos bi, ci, fst]
        by_cases z : cwf (c b) (dp c nr no (nb - (b + 1)) (b + 1)) U i = dp c nr no (nb - b) b U
        · have zd : decide (cwf (c b) (dp c nr no (nb - (b + 1)) (b + 1)) U i = dp c nr no (nb - b) b U) = true := decide_eq_true z
          refine Eq.trans (if_pos (by rw [d36, z])) ?_
          rw [if_pos zd]
        · have zd : ¬ decide (cwf (c b) (dp c nr no (nb - (b + 1)) (b + 1)) U i = dp c nr no (nb - b) b U) = true := by rw [decide_eq_true_eq]; exact z
          refine Eq.trans (if_neg (by rw [d36]; exact fun q => z ((zI_eq (by omega) (by omega)).mp q))) ?_
          rw [← nI_succ, if_neg zd]
          exact ih (i + 1) m (by omega) (by omega)
    have q := key nr 0 g_F (by omega) (by show nr < 20000; omega)
    unfold x_X0_firstBest fb
    rw [show nb - b = nb - (b + 1) + 1 by omega] at q
    exact q
  have main : ∀ k b U acc tens fuel, b + k = nb → U < 64 → tens = 10 ^ b → acc < tens → k < fuel → x_X0_ringDigits_L9 fuel (nI acc) (nI tens) (nI U) (nI b) s = some (nI (acc + tens * rd nr (wy c nr no k b U) k b), s) := by
    intro k
    induction k with
    | zero =>
      intro b U acc tens fuel hb hU ht ha hf
      obtain ⟨m, rfl⟩ : ∃ m, fuel = m + 1 := ⟨fuel - 1, by omega⟩
      obtain rfl : b = nb := by omega
      rw [x_X0_ringDigits_L9, p1, if_pos (Int32.le_refl _)]
      rfl
    | succ k ih =>
      intro b U acc tens fuel hb hU ht ha hf
      obtain ⟨m, rfl⟩ : ∃ m, fuel = m + 1 := ⟨fuel - 1, by omega⟩
      have fbb := fbest b U (by omega) hU
      rw [show nb - (b + 1) = k by omega] at fbb
      have f1 := (fst_spec (fun r => decide (cwf (c b) (dp c nr no k (b + 1)) U r = dp c nr no (k + 1) b U)) nr).1
      have fe : fst (fun r => decide (cwf (c b) (dp c nr no k (b + 1)) U r = dp c nr no (k + 1) b U)) nr 0 = fb c nr no k b U := rfl
      rw [fe] at f1
      have t5 : tens ≤ 10000 := by
        rw [ht]
        exact Nat.pow_le_pow_right (by decide) (show b ≤ 4 by omega)
      have h0 : wy c nr no (k + 1) b U b = fb c nr no k b U := if_pos rfl
      have hw : ∀ i, i < k → wy c nr no (k + 1) b U (b + 1 + i) = wy c nr no k (b + 1) (nx nr U (fb c nr no k b U)) (b + 1 + i) := fun i _ => if_neg (by omega)
      rw [rd, h0, rd_cg k (b + 1) hw, x_X0_ringDigits_L9, p1, if_neg (show ¬ nI nb ≤ nI b from nI_ge (by omega) (by omega))]
      refine (bnd fbb _).trans ?_
      dsimp only
      generalize fb c nr no k b U = f at f1 ⊢
      have e10 : nI tens * 10 = nI (tens * 10) := by rw [show (10 : Int32) = nI 10 from rfl, p_mul]
      have t10 : tens * 10 = 10 ^ (b + 1) := by rw [ht, Nat.pow_succ]
      by_cases z : f < nr
      · obtain ⟨m1, m2, m3, m4⟩ := p_msk U hU f (by omega)
        have acc9 : acc + tens * f < 10 ^ (b + 1) := by
          have := Nat.mul_le_mul_left tens (show f ≤ 9 by omega)
          omega
        have zl : ¬ nI nr ≤ nI f := nI_ge z (by omega)
        have q := ih (b + 1) (nx nr U f) (acc + tens * f) (tens * 10) m (by omega) (by unfold nx; rw [if_pos z]; exact m3) t10 (by omega) (by omega)
        refine Eq.trans (if_neg (by rw [p2]; exact zl)) ?_
        rw [x_X0_ringDigits_L45, p2, if_neg zl, m2, p_mul, p_add, e10, ← nI_succ, if_pos z]
        unfold nx at q ⊢
        rw [if_pos z] at q ⊢
        rw [q, Nat.mul_add, Nat.mul_assoc, Nat.add_assoc]
      · have fn : f = nr := by omega
        have acc9 : acc + tens * 9 < 10 ^ (b + 1) := by omega
        have zl : nI nr ≤ nI f := by rw [fn]; exact Int32.le_refl _
        have q := ih (b + 1) (nx nr U f) (acc + tens * 9) (tens * 10) m (by omega) (by unfold nx; rw [if_neg z]; exact hU) t10 (by omega) (by omega)
        refine Eq.trans (if_pos (by rw [p2]; exact zl)) ?_
        rw [x_X0_ringDigits_L45, p2, if_pos zl, show nI U ||| 0 = nI U by simp, show (9 : Int32) = nI 9 from rfl, p_mul, p_add, e10, ← nI_succ, if_neg z]
        unfold nx at q ⊢
        rw [if_neg z] at q ⊢
        rw [q, Nat.mul_add, Nat.mul_assoc, Nat.add_assoc]
  have q := main nb 0 0 0 1 g_F (by omega) (by decide) rfl (by decide) (by show nb < 20000; omega)
  rw [Nat.one_mul, Nat.zero_add] at q
  exact q
