/-! THE PURE PART. P: sets of HOURS -/
theorem p_or (a b : Nat) : nI a ||| nI b = nI (a ||| b) := by
  apply Int32.toBitVec_inj.mp
  show BitVec.ofNat 32 a ||| BitVec.ofNat 32 b = BitVec.ofNat 32 (a ||| b)
  exact (BitVec.ofNat_or ..).symm
/-- a set of HOURS -/
def isS (v : Int32) : Prop := ∃ k, k < 4096 ∧ v = nI k
theorem bc_of {v : Int32} (h : isS v) : bc v = pcn v 31 ∧ 0 ≤ bc v ∧ bc v ≤ 12 := by
  obtain ⟨k, hk, rfl⟩ := h
  have := bc_all (k / 64) (by omega) (k % 64) (by omega)
  rw [Nat.div_add_mod] at this
  exact this
theorem px_bits (v : Int32) (M : g_M) : x_J6_bitCount_0f7a4 v M = some (bc v, M) := rfl
theorem py_bits {v : Int32} (h : isS v) (M : g_M) : x_X9_bits v M = some (bc v, M) := by
  rw [(bc_of h).1]
  unfold x_X9_bits
  refine p_loop0 (n := 31) (F := fun i fuel (_ : Unit) => x_X9_bits_L4 fuel v (pcn v i) (nI i) M) (I := fun _ _ => True) (R := fun r => r = some (pcn v 31, M)) (s := ()) (by decide) trivial ?_ ?_
  · intro _ fuel _
    show x_X9_bits_L4 (fuel + 1) v (pcn v 31) (nI 31) M = _
    rw [x_X9_bits_L4, if_pos (by decide)]
  · intro i _ fuel hi _
    right
    refine ⟨(), trivial, ?_⟩
    show x_X9_bits_L4 (fuel + 1) v (pcn v i) (nI i) M = x_X9_bits_L4 fuel v (pcn v (i + 1)) (nI (i + 1)) M
    rw [x_X9_bits_L4, if_neg (show ¬ (31 : Int32) ≤ nI i from nI_ge hi (by decide)), nI_succ]
    rfl
theorem p_shl : ∀ n, n < 12 → (1 : Int32) <<< (nI n &&& 31) = nI (2 ^ n) := by decide +kernel
theorem bt_b (p : Nat → Bool) : ∀ n, n ≤ 12 → ∃ k, k < 2 ^ n ∧ bt p n = nI k := by
  intro n
  induction n with
  | zero => exact fun _ => ⟨0, by decide, rfl⟩
  | succ n ih =>
    intro hn
    obtain ⟨k, hk, e⟩ := ih (by omega)
    by_cases hp : p n = true
    · refine ⟨k ||| 2 ^ n, Nat.or_lt_two_pow (by have := Nat.pow_succ 2 n; omega) (Nat.pow_lt_pow_right (by decide) (by omega)), ?_⟩
      rw [← bt_t hp, e, p_shl n (by omega)]
      exact p_or k (2 ^ n)
    · exact ⟨k, by have := Nat.pow_succ 2 n; omega, by rw [← bt_f hp, e]⟩
theorem isS_bt (p : Nat → Bool) : isS (bt p 12) := by
  obtain ⟨k, hk, e⟩ := bt_b p 12 (by decide)
  exact ⟨k, hk, e⟩
/-- which bits are set -/
theorem bt_inj {p p' : Nat → Bool} : ∀ n, n ≤ 12 → bt p n = bt p' n → ∀ i, i < n → p i = p' i := by
  intro n
  induction n with
  | zero => exact fun _ _ i hi => absurd hi (by omega)
  | succ n ih =>
    intro hn e i hi
    obtain ⟨k, hk, e1⟩ := bt_b p n (by omega)
    obtain ⟨k', hk', e2⟩ := bt_b p' n (by omega)
    have h12 : 2 ^ n < 4096 := Nat.lt_of_lt_of_le (Nat.pow_lt_pow_right (by decide) (by omega : n < 12)) (by decide)
    have o : ∀ k, k < 2 ^ n → nI k ||| nI (2 ^ n) = nI (k + 2 ^ n) := fun k hk => by
      have : k ||| 2 ^ n = k + 2 ^ n := by
        have := Nat.two_pow_add_eq_or_of_lt hk 1
        rw [Nat.mul_one] at this
        rw [Nat.add_comm, this, Nat.or_comm]
      rw [← this]
      exact p_or k (2 ^ n)
    simp only [bt, e1, e2, p_shl n (by omega)] at e
    by_cases a : p n = true
    · by_cases b : p' n = true
      · rw [if_pos a, if_pos b, o k hk, o k' hk'] at e
        have := (p_eq (by omega) (by omega)).mp e
        by_cases z : i = n
        · subst z; rw [a, b]
        · exact ih (by omega) (by rw [e1, e2]; congr 1; omega) i (by omega)
      · rw [if_pos a, if_neg b, o k hk] at e
        have := (p_eq (by omega) (by omega)).mp e
        omega
    · by_cases b : p' n = true
      · rw [if_neg a, if_pos b, o k' hk'] at e
        have := (p_eq (by omega) (by omega)).mp e
        omega
      · rw [if_neg a, if_neg b] at e
        by_cases z : i = n
        · subst z
          rw [Bool.not_eq_true] at a b
          rw [a, b]
        · exact ih (by omega) (by rw [e1, e2]; exact e) i (by omega)
theorem bt_zero (n : Nat) : bt (fun _ => false) n = 0 := by
  induction n with
  | zero => rfl
  | succ n ih => simp [bt, ih]
theorem bt_eq0 {p : Nat → Bool} : bt p 12 = 0 ↔ ∀ i, i < 12 → p i = false := by
  constructor
  · intro e i hi
    rw [← bt_zero 12] at e
    exact bt_inj 12 (by decide) e i hi
  · intro h
    rw [bt_cg (p' := fun _ => false) h]
    exact bt_zero 12
