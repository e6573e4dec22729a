/-! THE PURE PART. ZG: alongside -/
def pc (m : Nat) : Nat := m % 2 + m / 2 % 2 + m / 4 % 2 + m / 8 % 2 + m / 16 % 2 + m / 32 % 2
theorem pc_t : ∀ m, m < 64 → (bc (nI m) = nI (pc m)) ∧ ∀ r, r < 6 → pc (m ||| 2 ^ r) = (if m.testBit r = true then pc m else pc m + 1) := by decide +kernel
theorem pc_full : ∀ n, n < 6 → ∀ m, m < 2 ^ n → pc m = n → ∀ x, x < n → m.testBit x = true := by decide +kernel
def mk (P : Nat → Nat) : Nat → Nat → Nat
  | 0, _ => 0
  | k + 1, a => mk P k (a + 1) ||| 2 ^ P a
theorem mk_lt {P : Nat → Nat} {n : Nat} : ∀ k a, (∀ i, i < k → P (a + i) < n) → mk P k a < 2 ^ n := by
  intro k
  induction k with
  | zero => intro a _; exact Nat.two_pow_pos n
  | succ k ih =>
    intro a h
    have h0 := h 0 (by omega)
    exact Nat.or_lt_two_pow (ih (a + 1) (fun i hi => by have := h (i + 1) (by omega); rw [show a + 1 + i = a + (i + 1) by omega]; exact this)) (Nat.pow_lt_pow_right (by decide) h0)
theorem mk_bit {P : Nat → Nat} (x : Nat) : ∀ k a, (mk P k a).testBit x = true ↔ ∃ i, i < k ∧ P (a + i) = x := by
  intro k
  induction k with
  | zero =>
    intro a
    show (0 : Nat).testBit x = true ↔ _
    rw [Nat.zero_testBit]
    exact ⟨fun q => absurd q (by decide), fun ⟨i, hi, _⟩ => absurd hi (by omega)⟩
  | succ k ih =>
    intro a
    rw [mk, Nat.testBit_or, Nat.testBit_two_pow, Bool.or_eq_true, ih (a + 1), decide_eq_true_eq]
    constructor
    · rintro (⟨i, hi, e⟩ | e)
      · exact ⟨i + 1, by omega, by rw [show a + (i + 1) = a + 1 + i by omega]; exact e⟩
      · exact ⟨0, by omega, e⟩
    · rintro ⟨i, hi, e⟩
      by_cases z : i = 0
      · subst z; exact Or.inr e
      · exact Or.inl ⟨i - 1, by omega, by rw [show a + 1 + (i - 1) = a + i by omega]; exact e⟩
theorem mk_pc {P : Nat → Nat} {n : Nat} (hn : n ≤ 5) : ∀ k a, (∀ i, i < k → P (a + i) < n) → pc (mk P k a) ≤ k ∧ (pc (mk P k a) = k ↔ ∀ i j, i < j → j < k → P (a + i) ≠ P (a + j)) := by
  intro k
  induction k with
  | zero => intro a _; exact ⟨by show pc 0 ≤ 0; decide, fun _ i j _ hj => absurd hj (by omega), fun _ => by show pc 0 = 0; decide⟩
  | succ k ih =>
    intro a h
    have h0 := h 0 (by omega)
    rw [Nat.add_zero] at h0
    have hs : ∀ i, i < k → P (a + 1 + i) < n := fun i hi => by have := h (i + 1) (by omega); rw [show a + 1 + i = a + (i + 1) by omega]; exact this
    obtain ⟨i1, i2⟩ := ih (a + 1) hs
    have lt := mk_lt k (a + 1) hs
    have l64 : mk P k (a + 1) < 64 := Nat.lt_of_lt_of_le lt (Nat.pow_le_pow_right (n := 2) (by decide) (show n ≤ 6 by omega))
    have t := (pc_t _ l64).2 (P a) (by omega)
    rw [mk, t]
    have bit := mk_bit (P := P) (P a) k (a + 1)
    by_cases z : (mk P k (a + 1)).testBit (P a) = true
    · rw [if_pos z]
      obtain ⟨i, hi, e⟩ := bit.mp z
      refine ⟨by omega, fun q => by omega, fun q => ?_⟩
      have := q 0 (i + 1) (by omega) (by omega)
      rw [Nat.add_zero, show a + (i + 1) = a + 1 + i by omega, e] at this
      exact absurd rfl this
    · rw [if_neg z]
      refine ⟨by omega, fun q => fun i j hij hj => ?_, fun q => ?_⟩
      · by_cases y : i = 0
        · subst y
          intro e
          refine z (bit.mpr ⟨j - 1, by omega, ?_⟩)
          rw [show a + 1 + (j - 1) = a + j by omega, ← e, Nat.add_zero]
        · have := i2.mp (by omega) (i - 1) (j - 1) (by omega) (by omega)
          rw [show a + 1 + (i - 1) = a + i by omega, show a + 1 + (j - 1) = a + j by omega] at this
          exact this
      · have := i2.mpr fun i j hij hj => by
          have := q (i + 1) (j + 1) (by omega) (by omega)
          rw [show a + 1 + i = a + (i + 1) by omega, show a + 1 + j = a + (j + 1) by omega]
          exact this
        omega
/-- the order by falling HOURS is the first of those without a move -/
def bef (ρ : Nat → Nat) (x y : Nat) : Prop := ρ y < ρ x ∨ (ρ y = ρ x ∧ x < y)
theorem lex_min {ρ S P : Nat → Nat} {n : Nat} (hS : ∀ i j, i < j → j < n → bef ρ (S i) (S j)) (sS : ∀ x, x < n → ∃ i, i < n ∧ S i = x) (S_lt : ∀ i, i < n → S i < n) (P_lt : ∀ i, i < n → P i < n) (sP : ∀ x, x < n → ∃ i, i < n ∧ P i = x) (iP : ∀ i j, i < j → j < n → P i ≠ P j) (mP : ∀ i j, i < j → j < n → ρ (P j) ≤ ρ (P i)) : ∀ k a, a + k = n → (∀ j, j < a → P j = S j) → num n S k a ≤ num n P k a := by
  intro k
  induction k with
  | zero => intro a _ _; exact Nat.le_refl _
  | succ k ih =>
    intro a ha hp
    rw [num, num]
    have lt := num_lt (K := n) (w := S) k (a + 1) (fun i hi => S_lt _ (by omega))
    rcases Nat.lt_trichotomy (S a) (P a) with z | z | z
    · have m := Nat.mul_le_mul_right (n ^ k) (show S a + 1 ≤ P a from z)
      rw [Nat.add_mul, Nat.one_mul] at m
      omega
    · have := ih (a + 1) (by omega) (fun j hj => by
        by_cases y : j = a
        · subst y; exact z.symm
        · exact hp j (by omega))
      rw [z]
      omega
    · exfalso
      obtain ⟨m, hm, em⟩ := sP (S a) (S_lt a (by omega))
      obtain ⟨q, hq, eq⟩ := sS (P a) (P_lt a (by omega))
      have m1 : a < m := by
        rcases Nat.lt_trichotomy a m with y | y | y
        · exact y
        · subst y; omega
        · rw [hp m y] at em
          have := hS m a y (by omega)
          rw [em] at this
          unfold bef at this
          omega
      have q1 : a < q := by
        rcases Nat.lt_trichotomy a q with y | y | y
        · exact y
        · subst y; omega
        · have := iP q a y (by omega)
          rw [hp q y, eq] at this
          exact absurd rfl this
      have b := hS a q q1 hq
      rw [eq] at b
      have c := mP a m m1 hm
      rw [em] at c
      unfold bef at b
      omega
/-- moves -/
def po (q : Nat → Nat → Bool) (nb : Nat) : Nat → Nat
  | 0 => 0
  | a + 1 => po q nb a + cnt (fun i => q a (a + 1 + i)) (nb - (a + 1))
theorem p_inn_n (p : Nat → Bool) (v : Nat) : ∀ k, p_inn p (nI v) k = nI (v + cnt p k) := by
  intro k
  induction k with
  | zero => rfl
  | succ k ih =>
    rw [p_inn, ih]
    by_cases q : p k = true
    · rw [if_pos q, cnt_t q, ← nI_succ, Nat.add_assoc]
    · rw [if_neg q, cnt_f q]
theorem p_out_n (q : Nat → Nat → Bool) (nb : Nat) : ∀ a, p_out q nb a = nI (po q nb a) := by
  intro a
  induction a with
  | zero => rfl
  | succ a ih => rw [p_out, ih, p_inn_n, po]
theorem po_b (q : Nat → Nat → Bool) {nb : Nat} (h : nb ≤ 5) : ∀ a, po q nb a ≤ 5 * a := by
  intro a
  induction a with
  | zero => exact Nat.le_refl _
  | succ a ih =>
    have := cnt_le (fun i => q a (a + 1 + i)) (nb - (a + 1))
    rw [po]
    omega
theorem po_0 (q : Nat → Nat → Bool) (nb : Nat) : ∀ a, po q nb a = 0 ↔ ∀ i j, i < a → i < j → j < nb → q i j = false := by
  intro a
  induction a with
  | zero => exact ⟨fun _ i j hi => absurd hi (by omega), fun _ => rfl⟩
  | succ a ih =>
    have e : po q nb (a + 1) = 0 ↔ po q nb a = 0 ∧ cnt (fun i => q a (a + 1 + i)) (nb - (a + 1)) = 0 := by rw [po]; omega
    rw [e, ih, cnt_0]
    constructor
    · rintro ⟨h1, h2⟩ i j hi hij hj
      by_cases z : i = a
      · subst z
        have := h2 (j - (i + 1)) (by omega)
        rw [show i + 1 + (j - (i + 1)) = j by omega] at this
        exact this
      · exact h1 i j (by omega) hij hj
    · intro h
      exact ⟨fun i j hi hij hj => h i j (by omega) hij hj, fun i hi => h a (a + 1 + i) (by omega) (by omega) (by omega)⟩
def qm (ρ O : Nat → Nat) : Nat → Nat → Bool := fun a b => decide (ρ (O a) < ρ (O b))
theorem px_moves {s : g_M} {nb n : Nat} {ρ O : Nat → Nat} (hnb : nb ≤ 5) (hn : n = nb) (e1 : s 1 6 = nI nb) (e2 : s 21 1 = nI n) (hr : ∀ i, i < nb → s 22 i = nI (ρ i) ∧ ρ i ≤ 12) (hO : ∀ i, i < nb → s 40 i = nI (O i) ∧ O i < nb) : x_X8_movesInOrder s = some (nI (po (qm ρ O) nb nb), s) := by
  subst hn
  have at' : ∀ i, i < n → x_X6_at (s 40 i) s = some (nI (ρ (O i)), s) := fun i hi => by rw [(hO i hi).1, px_at (by omega) e2 (hO i hi).2, (hr _ (hO i hi).2).1]
  unfold x_X8_movesInOrder
  rw [← p_out_n, show x_X8_movesInOrder_L4 g_F 0 0 s = x_X8_movesInOrder_L4 g_F (p_out (qm ρ O) n 0) (nI 0) s by rfl]
  refine p_loop0 (n := n) (F := fun a fuel (_ : Unit) => x_X8_movesInOrder_L4 fuel (p_out (qm ρ O) n a) (nI a) s) (I := fun _ _ => True) (R := fun r => r = some (p_out (qm ρ O) n n, s)) (s := ()) (by omega) trivial ?_ ?_
  · intro _ fuel _
    show x_X8_movesInOrder_L4 (fuel + 1) _ (nI n) s = _
    rw [x_X8_movesInOrder_L4, e1, if_pos (Int32.le_refl _)]
  · intro a _ fuel ha _
    right
    refine ⟨(), trivial, ?_⟩
    have ca : (nI a).toNatClampNeg = a := nI_clamp (by omega)
    have ra := (hr _ (hO a ha).2).2
    show x_X8_movesInOrder_L4 (fuel + 1) (p_out (qm ρ O) n a) (nI a) s = x_X8_movesInOrder_L4 fuel (p_out (qm ρ O) n (a + 1)) (nI (a + 1)) s
    rw [x_X8_movesInOrder_L4, e1, if_neg (show ¬ nI n ≤ nI a from nI_ge ha (by omega)), if_neg (show ¬ (5 : Int32) ≤ nI a from nI_ge (show a < 5 by omega) (by decide)), if_pos (p_inb (show a < 5 by omega) (by decide)), ca]
    refine (bnd (at' a ha) _).trans ?_
    dsimp only
    generalize x_X8_movesInOrder_L4 fuel = k4
    rw [show x_X8_movesInOrder_L39 k4 g_F (p_out (qm ρ O) n a) (nI a) (nI (ρ (O a))) (nI a + 1) s = x_X8_movesInOrder_L39 k4 g_F (p_inn (fun i => qm ρ O a (a + 1 + i)) (p_out (qm ρ O) n a) 0) (nI a) (nI (ρ (O a))) (nI (a + 1 + 0)) s by rw [Nat.add_zero, nI_succ]; rfl]
    refine p_loop0 (n := n - (a + 1)) (F := fun i fuel (_ : Unit) => x_X8_movesInOrder_L39 k4 fuel (p_inn (fun i => qm ρ O a (a + 1 + i)) (p_out (qm ρ O) n a) i) (nI a) (nI (ρ (O a))) (nI (a + 1 + i)) s) (I := fun _ _ => True) (R := fun r => r = k4 (p_out (qm ρ O) n (a + 1)) (nI (a + 1)) s) (s := ()) (by omega) trivial ?_ ?_
    · intro _ fuel _
      show x_X8_movesInOrder_L39 k4 (fuel + 1) _ _ _ (nI (a + 1 + (n - (a + 1)))) s = _
      rw [x_X8_movesInOrder_L39, e1, if_pos ((p_le (by omega) (by omega)).mpr (by omega)), nI_succ]
      rfl
    · intro i _ fuel hi _
      right
      refine ⟨(), trivial, ?_⟩
      show x_X8_movesInOrder_L39 k4 (fuel + 1) (p_inn (fun i => qm ρ O a (a + 1 + i)) (p_out (qm ρ O) n a) i) (nI a) (nI (ρ (O a))) (nI (a + 1 + i)) s = x_X8_movesInOrder_L39 k4 fuel (p_inn (fun i => qm ρ O a (a + 1 + i)) (p_out (qm ρ O) n a) (i + 1)) (nI a) (nI (ρ (O a))) (nI (a + 1 + i + 1)) s
      have st : p_inn (fun i => qm ρ O a (a + 1 + i)) (p_out (qm ρ O) n a) (i + 1) = if qm ρ O a (a + 1 + i) = true then p_inn (fun i => qm ρ O a (a + 1 + i)) (p_out (qm ρ O) n a) i + 1 else p_inn (fun i => qm ρ O a (a + 1 + i)) (p_out (qm ρ O) n a) i := rfl
      rw [st]
      generalize p_inn (fun i => qm ρ O a (a + 1 + i)) (p_out (qm ρ O) n a) i = acc
      have hb : a + 1 + i < n := by omega
      generalize a + 1 + i = b at hb ⊢
      have cb : (nI b).toNatClampNeg = b := nI_clamp (by omega)
      have rb' := (hr _ (hO b hb).2).2
      rw [x_X8_movesInOrder_L39, e1, if_neg (show ¬ nI n ≤ nI b from nI_ge hb (by omega)), if_neg (show ¬ (5 : Int32) ≤ nI b from nI_ge (show b < 5 by omega) (by decide)), nI_succ b]
      unfold qm
      by_cases z : ρ (O a) = 12
      · rw [if_pos (by rw [z]; rfl), if_neg (by rw [decide_eq_true_eq]; omega)]
      · rw [if_neg (show ¬ nI (ρ (O a)) = (12 : Int32) from fun q => z ((p_eq (a := ρ (O a)) (b := 12) (by omega) (by decide)).mp q)), if_pos (p_inb (show b < 5 by omega) (by decide)), cb]
        refine (bnd (at' b hb) _).trans ?_
        dsimp only
        by_cases y : ρ (O a) < ρ (O b)
        · rw [if_neg (fun q => by have := (p_le (by omega) (by omega)).mp q; omega), if_pos (decide_eq_true y)]
        · rw [if_pos ((p_le (by omega) (by omega)).mpr (by omega)), if_neg (by rw [decide_eq_true_eq]; exact y)]
theorem py_moves {s : g_M} {nb : Nat} {ρ O : Nat → Nat} (hnb : nb ≤ 5) (e1 : s 41 16 = nI nb) (hr : ∀ i, i < nb → s 64 i = nI (ρ i) ∧ ρ i ≤ 12) (hO : ∀ i, i < nb → s 65 i = nI (O i) ∧ O i < nb) : x_X9_movesBy s = some (nI (po (qm ρ O) nb nb), s) := by
  unfold x_X9_movesBy
  rw [← p_out_n, show x_X9_movesBy_L4 g_F 0 0 s = x_X9_movesBy_L4 g_F (p_out (qm ρ O) nb 0) (nI 0) s by rfl]
  refine p_loop0 (n := nb) (F := fun a fuel (_ : Unit) => x_X9_movesBy_L4 fuel (p_out (qm ρ O) nb a) (nI a) s) (I := fun _ _ => True) (R := fun r => r = some (p_out (qm ρ O) nb nb, s)) (s := ()) (by omega) trivial ?_ ?_
  · intro _ fuel _
    show x_X9_movesBy_L4 (fuel + 1) _ (nI nb) s = _
    rw [x_X9_movesBy_L4, e1, if_pos (Int32.le_refl _)]
  · intro a _ fuel ha _
    right
    refine ⟨(), trivial, ?_⟩
    show x_X9_movesBy_L4 (fuel + 1) (p_out (qm ρ O) nb a) (nI a) s = x_X9_movesBy_L4 fuel (p_out (qm ρ O) nb (a + 1)) (nI (a + 1)) s
    rw [x_X9_movesBy_L4, e1, if_neg (show ¬ nI nb ≤ nI a from nI_ge ha (by omega))]
    generalize x_X9_movesBy_L4 fuel = k4
    rw [show x_X9_movesBy_L16 k4 g_F (p_out (qm ρ O) nb a) (nI a) (nI a + 1) s = x_X9_movesBy_L16 k4 g_F (p_inn (fun i => qm ρ O a (a + 1 + i)) (p_out (qm ρ O) nb a) 0) (nI a) (nI (a + 1 + 0)) s by rw [Nat.add_zero, nI_succ]; rfl]
    refine p_loop0 (n := nb - (a + 1)) (F := fun i fuel (_ : Unit) => x_X9_movesBy_L16 k4 fuel (p_inn (fun i => qm ρ O a (a + 1 + i)) (p_out (qm ρ O) nb a) i) (nI a) (nI (a + 1 + i)) s) (I := fun _ _ => True) (R := fun r => r = k4 (p_out (qm ρ O) nb (a + 1)) (nI (a + 1)) s) (s := ()) (by omega) trivial ?_ ?_
    · intro _ fuel _
      show x_X9_movesBy_L16 k4 (fuel + 1) _ _ (nI (a + 1 + (nb - (a + 1)))) s = _
      rw [x_X9_movesBy_L16, e1, if_pos ((p_le (by omega) (by omega)).mpr (by omega)), nI_succ]
      rfl
    · intro i _ fuel hi _
      right
      refine ⟨(), trivial, ?_⟩
      show x_X9_movesBy_L16 k4 (fuel + 1) (p_inn (fun i => qm ρ O a (a + 1 + i)) (p_out (qm ρ O) nb a) i) (nI a) (nI (a + 1 + i)) s = x_X9_movesBy_L16 k4 fuel (p_inn (fun i => qm ρ O a (a + 1 + i)) (p_out (qm ρ O) nb a) (i + 1)) (nI a) (nI (a + 1 + i + 1)) s
      have st : p_inn (fun i => qm ρ O a (a + 1 + i)) (p_out (qm ρ O) nb a) (i + 1) = if qm ρ O a (a + 1 + i) = true then p_inn (fun i => qm ρ O a (a + 1 + i)) (p_out (qm ρ O) nb a) i + 1 else p_inn (fun i => qm ρ O a (a + 1 + i)) (p_out (qm ρ O) nb a) i := rfl
      rw [st]
      generalize p_inn (fun i => qm ρ O a (a + 1 + i)) (p_out (qm ρ O) nb a) i = acc
      have hb : a + 1 + i < nb := by omega
      generalize a + 1 + i = b at hb ⊢
      have ca : (nI a).toNatClampNeg = a := nI_clamp (by omega)
      have cb : (nI b).toNatClampNeg = b := nI_clamp (by omega)
      obtain ⟨oa, la⟩ := hO a ha
      obtain ⟨ob, lb⟩ := hO b hb
      have coa : (nI (O a)).toNatClampNeg = O a := nI_clamp (by omega)
      have cob : (nI (O b)).toNatClampNeg = O b := nI_clamp (by omega)
      obtain ⟨ra, la2⟩ := hr _ la
      obtain ⟨rb', lb2⟩ := hr _ lb
      rw [x_X9_movesBy_L16, e1, if_neg (show ¬ nI nb ≤ nI b from nI_ge hb (by omega)), ca, cb, oa, ob, if_pos (p_inb (show a < 5 by omega) (by decide)), if_pos (p_inb (show O a < 12 by omega) (by decide)), if_pos (p_inb (show b < 5 by omega) (by decide)), if_pos (p_inb (show O b < 12 by omega) (by decide)), coa, cob, ra, rb', nI_succ b]
      unfold qm
      by_cases y : ρ (O a) < ρ (O b)
      · rw [if_neg (fun q => by have := (p_le (by omega) (by omega)).mp q; omega), if_pos (decide_eq_true y)]
      · rw [if_pos ((p_le (by omega) (by omega)).mpr (by omega)), if_neg (by rw [decide_eq_true_eq]; exact y), show acc + 0 = acc by grind]
theorem cnt_ins {p p' : Nat → Bool} {b : Nat} (h1 : p b = false) (h2 : p' b = true) (h : ∀ x, x ≠ b → p' x = p x) : ∀ n, cnt p' n = if b < n then cnt p n + 1 else cnt p n := by
  intro n
  induction n with
  | zero => rw [if_neg (by omega)]; rfl
  | succ n ih =>
    by_cases z : n = b
    · subst z
      rw [cnt_t h2, cnt_f (by rw [h1]; decide), ih, if_neg (by omega), if_pos (by omega)]
    · by_cases q : p n = true
      · rw [cnt_t q, cnt_t (by rw [h n z]; exact q), ih]
        by_cases y : b < n
        · rw [if_pos y, if_pos (by omega)]
        · rw [if_neg y, if_neg (by omega)]
      · rw [cnt_f q, cnt_f (by rw [h n z]; exact q), ih]
        by_cases y : b < n
        · rw [if_pos y, if_pos (by omega)]
        · rw [if_neg y, if_neg (by omega)]
theorem cnt_lt {p : Nat → Bool} {b : Nat} (h : p b = false) : ∀ n, b < n → cnt p n < n := by
  intro n
  induction n with
  | zero => intro q; exact absurd q (by omega)
  | succ n ih =>
    intro hb
    have := cnt_le p n
    by_cases z : n = b
    · subst z; rw [cnt_f (by rw [h]; decide)]; omega
    · have := ih (by omega)
      rw [cnt]
      split <;> omega
def dn (ρ : Nat → Nat) (t b : Nat) : Nat → Bool := fun x => decide (12 < ρ x + t ∨ (ρ x + t = 12 ∧ x < b))
/-- the class's order so far -/
def isO (s0 s : g_M) (ρ : Nat → Nat) (n t b f : Nat) (O : Nat → Nat) : Prop := (∀ c, c ≠ 40 → s c = s0 c) ∧ f = cnt (dn ρ t b) n ∧ (∀ i, i < f → s 40 i = nI (O i) ∧ O i < n ∧ dn ρ t b (O i) = true) ∧ (∀ i j, i < j → j < f → bef ρ (O i) (O j)) ∧ ∀ x, x < n → dn ρ t b x = true → ∃ i, i < f ∧ O i = x
theorem px_latest {s0 : g_M} {n : Nat} {ρ : Nat → Nat} (hn : n ≤ 5) (e1 : s0 1 6 = nI n) (e2 : s0 21 1 = nI n) (hr : ∀ i, i < n → s0 22 i = nI (ρ i) ∧ ρ i ≤ 12) : ∃ s O, x_X8_orderLatestInmost s0 = some (0, s) ∧ isO s0 s ρ n 13 0 n O := by
  have c0 : ∀ p : Nat → Bool, (∀ x, x < n → p x = false) → cnt p n = 0 := fun p hp => (cnt_0 p n).mpr hp
  unfold x_X8_orderLatestInmost
  rw [show x_X8_orderLatestInmost_L5 g_F 0 12 s0 = x_X8_orderLatestInmost_L5 g_F (nI 0) (nI (13 - 0) - 1) s0 by rfl]
  have st0 : isO s0 s0 ρ n 0 0 0 (fun _ => 0) := ⟨fun _ _ => rfl, (c0 _ fun x hx => by have := (hr x hx).2; unfold dn; rw [decide_eq_false_iff_not]; omega).symm, fun i hi => absurd hi (by omega), fun i j _ hj => absurd hj (by omega), fun x hx q => by have := (hr x hx).2; unfold dn at q; rw [decide_eq_true_eq] at q; omega⟩
  refine p_loop0 (n := 13) (F := fun t fuel (q : Nat × (Nat → Nat) × g_M) => x_X8_orderLatestInmost_L5 fuel (nI q.1) (nI (13 - t) - 1) q.2.2) (I := fun t q => isO s0 q.2.2 ρ n t 0 q.1 q.2.1) (R := fun r => ∃ s O, r = some (0, s) ∧ isO s0 s ρ n 13 0 n O) (s := (0, (fun _ => 0), s0)) (by decide) st0 ?_ ?_
  · rintro ⟨f, O, s⟩ fuel hI
    dsimp only at hI
    have fn : f = n := by
      rw [hI.2.1]
      have e : ∀ m, cnt (dn ρ 13 0) m = m := by
        intro m
        induction m with
        | zero => rfl
        | succ m ih => rw [cnt_t (by unfold dn; rw [decide_eq_true_eq]; omega), ih]
      exact e n
    subst fn
    refine ⟨s, O, ?_, hI⟩
    show x_X8_orderLatestInmost_L5 (fuel + 1) _ (nI (13 - 13) - 1) s = _
    rw [Nat.sub_self, x_X8_orderLatestInmost_L5, if_pos (by decide)]
  · rintro t ⟨f, O, s⟩ fuel ht hI
    right
    dsimp only at hI
    show ∃ q : Nat × (Nat → Nat) × g_M, isO s0 q.2.2 ρ n (t + 1) 0 q.1 q.2.1 ∧ x_X8_orderLatestInmost_L5 (fuel + 1) (nI f) (nI (13 - t) - 1) s = x_X8_orderLatestInmost_L5 fuel (nI q.1) (nI (13 - (t + 1)) - 1) q.2.2
    rw [show 13 - t = 12 - t + 1 by omega, show 13 - (t + 1) = 12 - t by omega, p_pred, x_X8_orderLatestInmost_L5, if_neg (nI_pos (by omega))]
    generalize x_X8_orderLatestInmost_L5 fuel = k5
    refine p_loop0 (n := n) (F := fun b fuel (q : Nat × (Nat → Nat) × g_M) => x_X8_orderLatestInmost_L11 k5 fuel (nI q.1) (nI (12 - t)) (nI b) q.2.2) (I := fun b q => isO s0 q.2.2 ρ n t b q.1 q.2.1) (R := fun r => ∃ q : Nat × (Nat → Nat) × g_M, isO s0 q.2.2 ρ n (t + 1) 0 q.1 q.2.1 ∧ r = k5 (nI q.1) (nI (12 - t) - 1) q.2.2) (s := (f, O, s)) (by omega) hI ?_ ?_
    · rintro ⟨f, O, s⟩ fuel ⟨g1, g2, g3, g4, g5⟩
      dsimp only at g1 g2 g3 g4 g5
      have de : ∀ x, x < n → dn ρ (t + 1) 0 x = dn ρ t n x := fun x hx => by
        unfold dn
        rw [decide_eq_decide]
        omega
      refine ⟨(f, O, s), ⟨g1, by rw [cnt_cg n de]; exact g2, fun i hi => ⟨(g3 i hi).1, (g3 i hi).2.1, by rw [de _ (g3 i hi).2.1]; exact (g3 i hi).2.2⟩, g4, fun x hx q => g5 x hx (by rw [← de x hx]; exact q)⟩, ?_⟩
      show x_X8_orderLatestInmost_L11 k5 (fuel + 1) (nI f) _ (nI n) s = _
      rw [x_X8_orderLatestInmost_L11, g1 1 (by decide), e1, if_pos (Int32.le_refl _), show nI (12 - t) + -1 = nI (12 - t) - 1 by grind]
    · rintro b ⟨f, O, s⟩ fuel hb ⟨g1, g2, g3, g4, g5⟩
      right
      dsimp only at g1 g2 g3 g4 g5
      obtain ⟨rb1, rb2⟩ := hr b hb
      have at' : x_X6_at (nI b) s = some (nI (ρ b), s) := by rw [px_at (n := n) (by omega) (by rw [g1 21 (by decide)]; exact e2) hb, g1 22 (by decide), rb1]
      show ∃ q : Nat × (Nat → Nat) × g_M, isO s0 q.2.2 ρ n t (b + 1) q.1 q.2.1 ∧ x_X8_orderLatestInmost_L11 k5 (fuel + 1) (nI f) (nI (12 - t)) (nI b) s = x_X8_orderLatestInmost_L11 k5 fuel (nI q.1) (nI (12 - t)) (nI (b + 1)) q.2.2
      rw [x_X8_orderLatestInmost_L11, g1 1 (by decide), e1, if_neg (show ¬ nI n ≤ nI b from nI_ge hb (by omega)), nI_succ b]
      refine (show ∀ (A B : Option (Int32 × g_M)) (C : Nat × (Nat → Nat) × g_M → Option (Int32 × g_M)), A = B → (∃ q : Nat × (Nat → Nat) × g_M, isO s0 q.2.2 ρ n t (b + 1) q.1 q.2.1 ∧ B = C q) → ∃ q : Nat × (Nat → Nat) × g_M, isO s0 q.2.2 ρ n t (b + 1) q.1 q.2.1 ∧ A = C q from fun A B C e h => by rw [e]; exact h) _ _ _ (bnd at' _) ?_
      dsimp only
      by_cases z : ρ b = 12 - t
      · have nd : dn ρ t b b = false := by unfold dn; rw [decide_eq_false_iff_not]; omega
        have nd2 : dn ρ t (b + 1) b = true := by unfold dn; rw [decide_eq_true_eq]; omega
        have ndx : ∀ x, x ≠ b → dn ρ t (b + 1) x = dn ρ t b x := fun x hx => by unfold dn; rw [decide_eq_decide]; omega
        have fl := cnt_lt nd n hb
        rw [← g2] at fl
        have cf : (nI f).toNatClampNeg = f := nI_clamp (by omega)
        refine ⟨(f + 1, (fun i => if i = f then b else O i), g_upd s 40 f (nI b)), ⟨fun c hc => by show g_upd s 40 f (nI b) c = _; rw [g_upd_ne hc, g1 c hc], by show f + 1 = _; rw [cnt_ins nd nd2 ndx, if_pos hb, ← g2], fun i hi => ?_, fun i j hij hj => ?_, fun x hx q => ?_⟩, ?_⟩
        · dsimp only
          rw [g_upd_get]
          by_cases y : i = f
          · rw [if_pos ⟨rfl, y⟩, if_pos y]
            exact ⟨rfl, hb, nd2⟩
          · rw [if_neg (fun k => y k.2), if_neg y]
            obtain ⟨a1, a2, a3⟩ := g3 i (by omega)
            refine ⟨a1, a2, ?_⟩
            rw [ndx _ (fun k => by rw [k, nd] at a3; cases a3)]
            exact a3
        · dsimp only
          by_cases y : j = f
          · rw [if_pos y, if_neg (by omega)]
            obtain ⟨a1, a2, a3⟩ := g3 i (by omega)
            unfold dn at a3
            rw [decide_eq_true_eq] at a3
            unfold bef
            omega
          · rw [if_neg y, if_neg (by omega)]
            exact g4 i j hij (by omega)
        · by_cases y : x = b
          · exact ⟨f, by omega, by dsimp only; rw [if_pos rfl, y]⟩
          · obtain ⟨i, hi, e⟩ := g5 x hx (by rw [← ndx x y]; exact q)
            exact ⟨i, by omega, by dsimp only; rw [if_neg (by omega), e]⟩
        · rw [if_pos (by rw [z]), if_neg (show ¬ (5 : Int32) ≤ nI f from nI_ge (show f < 5 by omega) (by decide)), if_pos (p_inb (show f < 5 by omega) (by decide)), cf, nI_succ f]
      · have ndx : ∀ x, dn ρ t (b + 1) x = dn ρ t b x := fun x => by
          unfold dn
          rw [decide_eq_decide]
          by_cases y : x = b
          · subst y; omega
          · omega
        have ndf : dn ρ t (b + 1) = dn ρ t b := funext ndx
        refine ⟨(f, O, s), ?_, ?_⟩
        · unfold isO
          rw [ndf]
          exact ⟨g1, g2, g3, g4, g5⟩
        · rw [if_neg (fun q => z ((p_eq (by omega) (by omega)).mp q))]
theorem px_orderD {s : g_M} {n : Nat} {O : Nat → Nat} (hn : n ≤ 5) (e1 : s 1 6 = nI n) (hO : ∀ i, i < n → s 40 i = nI (O i) ∧ O i < n) : x_X8_orderDigits s = some (nI (rd n O n 0), s) := by
  unfold x_X8_orderDigits
  rw [e1, show (5 : Int32) = nI 5 from rfl, p_min (by omega) (by decide), show min n 5 = n by omega, show x_X8_orderDigits_L16 g_F 0 (nI n - 1) s = x_X8_orderDigits_L16 g_F (nI (rd n O 0 (n - 0))) (nI (n - 0) - 1) s by rw [Nat.sub_zero]; rfl]
  refine p_loop0 (n := n) (F := fun m fuel (_ : Unit) => x_X8_orderDigits_L16 fuel (nI (rd n O m (n - m))) (nI (n - m) - 1) s) (I := fun _ _ => True) (R := fun x => x = some (nI (rd n O n 0), s)) (s := ()) (by omega) trivial ?_ ?_
  · intro _ fuel _
    show x_X8_orderDigits_L16 (fuel + 1) (nI (rd n O n (n - n))) (nI (n - n) - 1) s = _
    rw [Nat.sub_self, x_X8_orderDigits_L16, if_pos (by decide)]
  · intro m _ fuel hm _
    right
    refine ⟨(), trivial, ?_⟩
    show x_X8_orderDigits_L16 (fuel + 1) (nI (rd n O m (n - m))) (nI (n - m) - 1) s = x_X8_orderDigits_L16 fuel (nI (rd n O (m + 1) (n - (m + 1)))) (nI (n - (m + 1)) - 1) s
    obtain ⟨b, hb⟩ : ∃ b, n - m = b + 1 := ⟨n - m - 1, by omega⟩
    have cb : (nI b).toNatClampNeg = b := nI_clamp (by omega)
    have ob := hO b (by omega)
    rw [hb, show n - (m + 1) = b by omega, p_pred, rd, if_pos ob.2, x_X8_orderDigits_L16, if_neg (nI_pos (by omega)), if_pos (p_inb (show b < 5 by omega) (by decide)), cb, ob.1, show (10 : Int32) = nI 10 from rfl, p_mul, p_add, show nI b + -1 = nI b - 1 by grind, Nat.add_comm, Nat.mul_comm]
theorem py_lays {s : g_M} {nb : Nat} (h1 : 1 ≤ nb) (hnb : nb ≤ 5) (e1 : s 41 16 = nI nb) {x : Nat} (hx : x < 20000) : ∃ s', x_X9_laysOrder (nI x) s = some (if pc (mk (dgt nb nb x) nb 0) = nb then 1 else 0, s') ∧ (∀ c, c ≠ 65 → s' c = s c) ∧ ∀ b, b < nb → s' 65 b = nI (dgt nb nb x b) := by
  have rz : ¬ nI nb = (0 : Int32) := fun q => absurd ((p_eq (a := nb) (b := 0) (by omega) (by decide)).mp q) (by omega)
  have dK : ∀ b, dgt nb nb x b < nb := fun b => Nat.mod_lt _ (by omega)
  have l64 : ∀ k a, mk (dgt nb nb x) k a < 64 := fun k a => Nat.lt_of_lt_of_le (mk_lt k a (fun i _ => dK _)) (Nat.pow_le_pow_right (n := 2) (by decide) (show nb ≤ 6 by omega))
  unfold x_X9_laysOrder
  rw [e1, show x_X9_laysOrder_L12 g_F (nI x) 0 (nI nb - 1) s = x_X9_laysOrder_L12 g_F (nI (x / nb ^ 0)) (nI (mk (dgt nb nb x) 0 (nb - 0))) (nI (nb - 0) - 1) s by rw [Nat.pow_zero, Nat.div_one, Nat.sub_zero]; rfl]
  refine p_loop0 (n := nb) (F := fun m fuel s => x_X9_laysOrder_L12 fuel (nI (x / nb ^ m)) (nI (mk (dgt nb nb x) m (nb - m))) (nI (nb - m) - 1) s) (I := fun m s' => (∀ c, c ≠ 65 → s' c = s c) ∧ ∀ b, b < nb → nb ≤ b + m → s' 65 b = nI (dgt nb nb x b)) (R := fun r => ∃ s', r = some (if pc (mk (dgt nb nb x) nb 0) = nb then 1 else 0, s') ∧ (∀ c, c ≠ 65 → s' c = s c) ∧ ∀ b, b < nb → s' 65 b = nI (dgt nb nb x b)) (s := s) (by omega) ⟨fun _ _ => rfl, fun b hb q => absurd q (by omega)⟩ ?_ ?_
  · intro s' fuel ⟨g1, g2⟩
    refine ⟨s', ?_, g1, fun b hb => g2 b hb (by omega)⟩
    have m64 := l64 nb 0
    have b2 := (pc_t _ m64).1
    have pb := (mk_pc (P := dgt nb nb x) hnb nb 0 (fun i _ => dK _)).1
    show x_X9_laysOrder_L12 (fuel + 1) _ (nI (mk (dgt nb nb x) nb (nb - nb))) (nI (nb - nb) - 1) s' = _
    rw [Nat.sub_self, x_X9_laysOrder_L12, if_pos (by decide)]
    refine (bnd (py_bits ⟨_, by omega, rfl⟩ s') _).trans ?_
    dsimp only
    by_cases z : pc (mk (dgt nb nb x) nb 0) = nb
    · rw [if_pos z]
      exact if_pos (by rw [b2, z, g1 41 (by decide), e1])
    · rw [if_neg z]
      exact if_neg (by rw [b2, g1 41 (by decide), e1]; exact fun q => z ((p_eq (by omega) (by omega)).mp q))
  · intro m s' fuel hm ⟨g1, g2⟩
    right
    obtain ⟨b, hb⟩ : ∃ b, nb - m = b + 1 := ⟨nb - m - 1, by omega⟩
    have cb : (nI b).toNatClampNeg = b := nI_clamp (by omega)
    have b5 := p_inb (show b < 5 by omega) (by decide : (5 : Nat) < 2 ^ 31)
    have d0 : x / nb ^ m ≤ x := Nat.div_le_self _ _
    have s16 : s' 41 16 = nI nb := by rw [g1 41 (by decide)]; exact e1
    have md := p_modn (x := x / nb ^ m) (K := nb) (by omega) (by omega) (by omega)
    have dv : nI (x / nb ^ m) / nI nb = nI (x / nb ^ (m + 1)) := by rw [p_div (by omega) (by omega), Nat.div_div_eq_div_mul, ← Nat.pow_succ]
    have dg : x / nb ^ m % nb = dgt nb nb x b := by unfold dgt; rw [show nb - 1 - b = m by omega]
    rw [dg] at md
    have db := dK b
    obtain ⟨m1, m2, m3, m4⟩ := p_msk _ (l64 m (b + 1)) (dgt nb nb x b) (by omega)
    obtain ⟨Q, hQ⟩ : ∃ Q, g_upd s' 65 b (nI (dgt nb nb x b)) = Q := ⟨_, rfl⟩
    have q65 : Q 65 b = nI (dgt nb nb x b) := by rw [← hQ, g_upd_get, if_pos ⟨rfl, rfl⟩]
    have qn : ∀ c, c ≠ 65 → Q c = s c := fun c a => by rw [← hQ, g_upd_ne a, g1 c a]
    refine ⟨Q, ⟨qn, fun b' hb' q => ?_⟩, ?_⟩
    · by_cases y : b' = b
      · subst y; exact q65
      · rw [← hQ, g_upd_get, if_neg (fun k => y k.2)]
        exact g2 b' hb' (by omega)
    · show x_X9_laysOrder_L12 (fuel + 1) (nI (x / nb ^ m)) (nI (mk (dgt nb nb x) m (nb - m))) (nI (nb - m) - 1) s' = x_X9_laysOrder_L12 fuel (nI (x / nb ^ (m + 1))) (nI (mk (dgt nb nb x) (m + 1) (nb - (m + 1)))) (nI (nb - (m + 1)) - 1) Q
      rw [hb, show nb - (m + 1) = b by omega, p_pred, mk, x_X9_laysOrder_L12, if_neg (nI_pos (by omega)), cb, s16, if_neg rz, if_pos b5, md, hQ, qn 41 (by decide), e1, if_neg rz, if_pos b5, q65, m2, dv, show nI b + -1 = nI b - 1 by grind]
theorem op_alongside (w : Int32) : opOK (x_X8_alongside w) (x_X9_alongside w) := by
  intro M h
  by_cases w2 : 0 ≤ w ∧ w < 3
  rotate_left
  · have w3 : ¬ (0 ≤ w ∧ w ≤ 2) := fun q => w2 ⟨q.1, by have := q.2; grind⟩
    exact op_ref h (k := 2) (r := -nI 2) (by decide) (by simp [x_X8_alongside, px_isOneOf, w2, n2, px_refused]) (fun M1 hc => by simp [x_X9_alongside, x_X9_alongside_L27, py_isIn, w3, n2, nz2, py_no])
  have w3 : 0 ≤ w ∧ w ≤ 2 := ⟨w2.1, by have := w2.2; grind⟩
  obtain ⟨nb, hnb, f3, f4, hB⟩ := inv_nb h
  obtain ⟨n, n12, z1, z2, z3⟩ := inv_N h
  have gr := px_greatest n12 z1
  -- the reference's look at the ROW
  have look : ∀ M1 : g_M, (∀ c, 41 ≤ c → M1 c = M c) → x_X9_isRowOfHours M1 = some (if (∀ i, i < n → M 64 i ≤ 12) ∧ n = nb ∧ 1 ≤ nb then 1 else 0, M1) := by
    intro M1 hc
    have m1 : M1 41 37 = nI n := by rw [hc 41 (by decide)]; exact z2
    have m2 : M1 41 16 = nI nb := by rw [hc 41 (by decide)]; exact f4
    unfold x_X9_isRowOfHours
    rw [show x_X9_isRowOfHours_L2 g_F 0 M1 = x_X9_isRowOfHours_L2 g_F (nI 0) M1 by rfl]
    refine p_loop0 (n := n) (F := fun i fuel (_ : Unit) => x_X9_isRowOfHours_L2 fuel (nI i) M1) (I := fun i _ => ∀ j, j < i → M 64 j ≤ 12) (R := fun x => x = some (if (∀ i, i < n → M 64 i ≤ 12) ∧ n = nb ∧ 1 ≤ nb then 1 else 0, M1)) (s := ()) (by omega) (fun j hj => absurd hj (by omega)) ?_ ?_
    · intro _ fuel hI
      show x_X9_isRowOfHours_L2 (fuel + 1) (nI n) M1 = _
      rw [x_X9_isRowOfHours_L2, m1, if_pos (Int32.le_refl _), m2]
      by_cases a : n = nb
      · rw [if_pos (by rw [a])]
        by_cases b : 1 ≤ nb
        · rw [if_neg (nI_nle (by omega) (by omega)), if_pos ⟨hI, a, b⟩]
        · obtain rfl : nb = 0 := by omega
          rw [if_pos (by decide), if_neg (fun q => b q.2.2)]
      · rw [if_neg (fun q => a ((p_eq (by omega) (by omega)).mp q)), if_neg (fun q => a q.2.1)]
    · intro i _ fuel hi hI
      have ci : (nI i).toNatClampNeg = i := nI_clamp (by omega)
      have e0 : x_X9_isRowOfHours_L2 (fuel + 1) (nI i) M1 = if M 64 i ≤ 12 then x_X9_isRowOfHours_L2 fuel (nI (i + 1)) M1 else some (0, M1) := by
        rw [x_X9_isRowOfHours_L2, m1, if_neg (show ¬ nI n ≤ nI i from nI_ge hi (by omega)), if_pos (p_inb (show i < 12 by omega) (by decide)), ci, hc 64 (by decide), nI_succ]
      show x_X9_isRowOfHours_L2 (fuel + 1) (nI i) M1 = _ ∨ ∃ _, _ ∧ x_X9_isRowOfHours_L2 (fuel + 1) (nI i) M1 = _
      rw [e0]
      by_cases q : M 64 i ≤ 12
      · right
        refine ⟨(), fun j hj => ?_, if_pos q⟩
        by_cases y : j = i
        · subst y; exact q
        · exact hI j (by omega)
      · left
        rw [if_neg q, if_neg (fun k => q (k.1 i hi))]
  have bad : ¬ ((∀ i, i < n → M 64 i ≤ 12) ∧ n = nb ∧ 1 ≤ nb) → x_X8_alongside w M = (x_X8_refused (-3) M).bind (fun u => some (u.1, u.2)) → ∃ (r : Int32) (M1 M2 : g_M), x_X8_alongside w M = some (r, M1) ∧ x_X9_alongside w M1 = some (r, M2) ∧ inv M2 := by
    intro nq hx
    refine op_ref h (k := 3) (r := -nI 3) (by decide) (by rw [hx, n3, px_refused 3 (by decide)]; rfl) (fun M1 hc => ?_)
    have lk := look M1 hc
    rw [if_neg nq] at lk
    simp [x_X9_alongside, x_X9_alongside_L27, py_isIn, w3, lk, n3, nz3, py_no]
  have g2 : x_X8_isOneOf w 3 M = some (1, M) := by rw [px_isOneOf, if_pos w2]
  by_cases b0 : nb = 0
  · refine bad (fun q => by omega) ?_
    rw [x_X8_alongside]
    refine (bnd g2 _).trans ?_
    dsimp only
    rw [if_neg (by decide)]
    exact if_pos (by rw [f3, b0]; rfl)
  have nz : ¬ nI nb = (0 : Int32) := fun q => b0 ((p_eq (a := nb) (b := 0) (by omega) (by decide)).mp q)
  by_cases nn : n = nb
  rotate_left
  · refine bad (fun q => nn q.2.1) ?_
    rw [x_X8_alongside]
    refine (bnd g2 _).trans ?_
    dsimp only
    rw [if_neg (by decide)]
    refine Eq.trans (if_neg (by rw [f3]; exact nz)) ?_
    exact if_neg (by rw [z1, f3]; exact fun q => nn ((p_eq (by omega) (by omega)).mp q))
  subst nn
  have top : x_X8_alongside w M = (if mxr (M 22) (-9) n ≤ 12 then (if w = 0 then (((x_X8_orderByNumber M).bind fun u16 => ((x_X8_movesInOrder u16.2).bind fun u18 => some (u18.1, u18.2)))) else (((x_X8_orderLatestInmost M).bind fun u9 => if w = (1 : Int32) then (((x_X8_movesInOrder u9.2).bind fun u13 => some (u13.1, u13.2))) else (((x_X8_orderDigits u9.2).bind fun u11 => some (u11.1, u11.2)))))) else (x_X8_refused (-3) M).bind (fun u => some (u.1, u.2))) := by
    rw [x_X8_alongside]
    refine (bnd g2 _).trans ?_
    dsimp only
    rw [if_neg (by decide)]
    refine Eq.trans (if_neg (by rw [f3]; exact nz)) ?_
    refine Eq.trans (if_pos (by rw [z1, f3])) ?_
    exact bnd gr _
  have all : mxr (M 22) (-9) n ≤ 12 ↔ ∀ i, i < n → M 64 i ≤ 12 := by
    have e : mxr (M 22) (-9) n ≤ 12 ↔ mxr (M 22) (-9) n < 13 := by constructor <;> intro q <;> grind
    rw [e, mxr_lt]
    constructor
    · exact fun q i hi => by have := q.2 i hi; rw [(z3 i hi).1] at this; grind
    · exact fun q => ⟨by decide, fun i hi => by rw [(z3 i hi).1]; have := q i hi; grind⟩
  by_cases hall : ∀ i, i < n → M 64 i ≤ 12
  rotate_left
  · refine bad (fun q => hall q.1) ?_
    rw [top, if_neg (fun q => hall (all.mp q))]
  rw [if_pos (all.mpr hall)] at top
  let ρ : Nat → Nat := fun i => (M 64 i).toNatClampNeg
  have ρv : ∀ i, i < n → M 64 i = nI (ρ i) ∧ ρ i ≤ 12 := fun i hi => by
    obtain ⟨k, hk, e⟩ := p_in (i := M 64 i) (n := 13) (by decide) (z3 i hi).2.1 (show M 64 i < 13 by have := hall i hi; grind)
    have : ρ i = k := by show (M 64 i).toNatClampNeg = k; rw [e, nI_clamp (by omega)]
    rw [this]
    exact ⟨e, by omega⟩
  clear_value ρ
  have r22 : ∀ i, i < n → M 22 i = nI (ρ i) ∧ ρ i ≤ 12 := fun i hi => by rw [(z3 i hi).1]; exact ρv i hi
  obtain ⟨sL', S, o0, o1, o2, o3, o4, o5⟩ := px_latest hnb f3 z1 r22
  have S_lt : ∀ i, i < n → S i < n := fun i hi => (o3 i hi).2.1
  have sS : ∀ x, x < n → ∃ i, i < n ∧ S i = x := fun x hx => o5 x hx (by have := (ρv x hx).2; unfold dn; rw [decide_eq_true_eq]; omega)
  have S0 : po (qm ρ S) n n = 0 := (po_0 _ _ _).mpr fun i j _ hij hj => by
    have := o4 i j hij hj
    unfold qm bef at *
    rw [decide_eq_false_iff_not]
    omega
  have iS : ∀ i j, i < j → j < n → S i ≠ S j := fun i j hij hj e => by
    have := o4 i j hij hj
    rw [e] at this
    unfold bef at this
    omega
  -- what the class answers
  have idO : ∃ s', x_X8_orderByNumber M = some (0, s') ∧ (∀ c, c ≠ 40 → s' c = M c) ∧ ∀ i, i < 5 → s' 40 i = nI i := by
    unfold x_X8_orderByNumber
    rw [show x_X8_orderByNumber_L2 g_F 0 M = x_X8_orderByNumber_L2 g_F (nI 0) M by rfl]
    refine p_loop0 (n := 5) (F := fun i fuel s => x_X8_orderByNumber_L2 fuel (nI i) s) (I := fun i s => (∀ c, c ≠ 40 → s c = M c) ∧ ∀ j, j < i → s 40 j = nI j) (R := fun x => ∃ s', x = some (0, s') ∧ (∀ c, c ≠ 40 → s' c = M c) ∧ ∀ i, i < 5 → s' 40 i = nI i) (s := M) (by decide) ⟨fun _ _ => rfl, fun j hj => absurd hj (by omega)⟩ ?_ ?_
    · intro s fuel ⟨g1, g2⟩
      refine ⟨s, ?_, g1, g2⟩
      show x_X8_orderByNumber_L2 (fuel + 1) (nI 5) s = _
      rw [x_X8_orderByNumber_L2, if_pos (by decide)]
    · intro i s fuel hi ⟨g1, g2⟩
      right
      have ci : (nI i).toNatClampNeg = i := nI_clamp (by omega)
      refine ⟨g_upd s 40 i (nI i), ⟨fun c hc => by rw [g_upd_ne hc, g1 c hc], fun j hj => ?_⟩, ?_⟩
      · rw [g_upd_get]
        by_cases y : j = i
        · rw [if_pos ⟨rfl, y⟩, y]
        · rw [if_neg (fun q => y q.2)]; exact g2 j (by omega)
      · show x_X8_orderByNumber_L2 (fuel + 1) (nI i) s = x_X8_orderByNumber_L2 fuel (nI (i + 1)) _
        rw [x_X8_orderByNumber_L2, if_neg (show ¬ (5 : Int32) ≤ nI i from nI_ge hi (by decide)), if_pos (p_inb hi (by decide)), ci, nI_succ]
  obtain ⟨sI, i0, i1, i2⟩ := idO
  have hx : ∃ s', x_X8_alongside w M = some (if w = 0 then nI (po (qm ρ (fun i => i)) n n) else if w = 1 then 0 else nI (rd n S n 0), s') ∧ ∀ c, c ≠ 40 → s' c = M c := by
    by_cases w0 : w = 0
    · refine ⟨sI, ?_, i1⟩
      rw [top, if_pos w0, if_pos w0]
      refine (bnd i0 _).trans ?_
      dsimp only
      refine (bnd (px_moves (ρ := ρ) (O := fun i => i) hnb rfl (by rw [i1 1 (by decide)]; exact f3) (by rw [i1 21 (by decide)]; exact z1) (fun i hi => by rw [i1 22 (by decide)]; exact r22 i hi) (fun i hi => ⟨i2 i (by omega), hi⟩)) _).trans ?_
      rfl
    · refine ⟨sL', ?_, o1⟩
      rw [top, if_neg w0, if_neg w0]
      refine (bnd o0 _).trans ?_
      dsimp only
      by_cases w1 : w = 1
      · rw [if_pos w1, if_pos w1]
        refine (bnd (px_moves (ρ := ρ) (O := S) hnb rfl (by rw [o1 1 (by decide)]; exact f3) (by rw [o1 21 (by decide)]; exact z1) (fun i hi => by rw [o1 22 (by decide)]; exact r22 i hi) (fun i hi => ⟨(o3 i hi).1, (o3 i hi).2.1⟩)) _).trans ?_
        dsimp only
        rw [S0]
        rfl
      · rw [if_neg w1, if_neg w1]
        refine (bnd (px_orderD hnb (by rw [o1 1 (by decide)]; exact f3) (fun i hi => ⟨(o3 i hi).1, (o3 i hi).2.1⟩)) _).trans ?_
        rfl
  obtain ⟨s, x1, x2⟩ := hx
  refine op_ask h x1 (fun c hc => x2 c (by omega)) fun h1 hc => ?_
  have e1 : s 41 16 = nI n := by rw [hc 41 (by decide)]; exact f4
  have r64 : ∀ i, i < n → s 64 i = nI (ρ i) ∧ ρ i ≤ 12 := fun i hi => by rw [hc 64 (by decide)]; exact ρv i hi
  have n1' : 1 ≤ n := by omega
  have nn' : n ^ n ≤ 3125 := Nat.le_trans (Nat.pow_le_pow_left hnb n) (Nat.pow_le_pow_right (by decide) hnb)
  have dK : ∀ x b, dgt n n x b < n := fun x b => Nat.mod_lt _ (by omega)
  have nst : num n S n 0 < n ^ n := num_lt n 0 (fun i hi => by rw [Nat.zero_add]; exact S_lt i hi)
  have dd : ∀ x, x < n ^ n → num n (dgt n n x) n 0 = x := fun x hx => by rw [num_dgt n 0 (by omega), Nat.mod_eq_of_lt hx]
  generalize hns : num n S n 0 = ns at *
  have ways : ∀ b, b < n → dgt n n ns b = S b := fun b hb => by
    have := num_inj (K := n) (w := dgt n n ns) (w' := S) n 0 (fun i _ => dK ns _) (fun i hi => by rw [Nat.zero_add]; exact S_lt i hi) (by rw [dd ns nst, hns]) b hb
    rw [Nat.zero_add] at this
    exact this
  have perm : ∀ x, pc (mk (dgt n n x) n 0) = n → (∀ y, y < n → ∃ i, i < n ∧ dgt n n x i = y) ∧ ∀ i j, i < j → j < n → dgt n n x i ≠ dgt n n x j := by
    intro x hp
    have m := mk_pc (P := dgt n n x) hnb n 0 (fun i _ => dK x _)
    have dis := m.2.mp hp
    simp only [Nat.zero_add] at dis
    refine ⟨fun y hy => ?_, dis⟩
    have full := pc_full n (by omega) _ (mk_lt n 0 (fun i _ => dK x _)) hp y hy
    obtain ⟨i, hi, e⟩ := (mk_bit y n 0).mp full
    rw [Nat.zero_add] at e
    exact ⟨i, hi, e⟩
  have permS : pc (mk (dgt n n ns) n 0) = n := by
    refine (mk_pc (P := dgt n n ns) hnb n 0 (fun i _ => dK ns _)).2.mpr fun i j hij hj => ?_
    rw [Nat.zero_add, Nat.zero_add, ways i (by omega), ways j hj]
    exact iS i j hij hj
  have first : ∀ x, x < n ^ n → x < ns → pc (mk (dgt n n x) n 0) = n → 1 ≤ po (qm ρ (dgt n n x)) n n := by
    intro x hx hlt hp
    rcases Nat.eq_zero_or_pos (po (qm ρ (dgt n n x)) n n) with q | q
    · have mv := (po_0 _ _ _).mp q
      obtain ⟨p1, p2⟩ := perm x hp
      have := lex_min (ρ := ρ) o4 sS S_lt (fun i _ => dK x i) p1 p2 (fun i j hij hj => by
        have := mv i j (by omega) hij hj
        unfold qm at this
        rw [decide_eq_false_iff_not] at this
        omega) n 0 (by omega) (fun j hj => absurd hj (by omega))
      rw [hns, dd x hx] at this
      omega
    · exact q
  have moveS : po (qm ρ (dgt n n ns)) n n = 0 := by
    rw [po_0] at S0 ⊢
    intro i j hi hij hj
    have := S0 i j hi hij hj
    unfold qm at *
    rw [ways i hi, ways j hj]
    exact this
  have scan : ∃ s', x_X9_findOrder_L30 g_F (nI (n ^ n)) 99 0 s = some (nI 0, s') ∧ (∀ c, c ≠ 65 → c ≠ 66 → s' c = s c) ∧ ∀ b, b < n → s' 66 b = nI (S b) := by
    refine p_loop0 (n := n ^ n) (F := fun i fuel (t : Int32 × g_M) => x_X9_findOrder_L30 fuel (nI (n ^ n)) t.1 (nI i) t.2) (I := fun i t => (∀ c, c ≠ 65 → c ≠ 66 → t.2 c = s c) ∧ (i ≤ ns → ∃ m, 1 ≤ m ∧ m ≤ 99 ∧ t.1 = nI m) ∧ (ns < i → t.1 = nI 0 ∧ ∀ b, b < n → t.2 66 b = nI (S b))) (R := fun x => ∃ s', x = some (nI 0, s') ∧ (∀ c, c ≠ 65 → c ≠ 66 → s' c = s c) ∧ ∀ b, b < n → s' 66 b = nI (S b)) (s := ((99 : Int32), s)) (by omega) ⟨fun _ _ _ => rfl, fun _ => ⟨99, by decide, by decide, rfl⟩, fun q => absurd q (by omega)⟩ ?_ ?_
    · rintro ⟨le, t⟩ fuel ⟨g1, g2, g3⟩
      obtain ⟨q1, q2⟩ := g3 (by omega)
      refine ⟨t, ?_, g1, q2⟩
      dsimp only at q1
      show x_X9_findOrder_L30 (fuel + 1) _ le (nI (n ^ n)) t = _
      rw [x_X9_findOrder_L30, if_pos (Int32.le_refl _), q1]
    · rintro i ⟨le, t⟩ fuel hi ⟨g1, g2, g3⟩
      right
      dsimp only at g1 g2 g3
      have te1 : t 41 16 = nI n := by rw [g1 41 (by decide) (by decide)]; exact e1
      obtain ⟨t1, k1, k2, k3⟩ := py_lays n1' hnb te1 (x := i) (by omega)
      have mv := py_moves (s := t1) (ρ := ρ) (O := dgt n n i) hnb (by rw [k2 41 (by decide)]; exact te1) (fun j hj => by rw [k2 64 (by decide), g1 64 (by decide) (by decide)]; exact r64 j hj) (fun j hj => ⟨k3 j hj, dK i j⟩)
      have mb := po_b (qm ρ (dgt n n i)) hnb n
      have cp : ∀ k30 : Int32 → Int32 → Int32 → g_M → Option (Int32 × g_M), ∀ v : Int32, ∃ t', (∀ c, c ≠ 65 → c ≠ 66 → t' c = s c) ∧ (∀ b, b < n → t' 66 b = nI (dgt n n i b)) ∧ x_X9_findOrder_L62 k30 g_F (nI (n ^ n)) v (nI i) 0 t1 = k30 (nI (n ^ n)) v (nI (i + 1)) t' := by
        intro k30 v
        rw [show x_X9_findOrder_L62 k30 g_F (nI (n ^ n)) v (nI i) 0 t1 = x_X9_findOrder_L62 k30 g_F (nI (n ^ n)) v (nI i) (nI 0) t1 by rfl]
        refine p_loop0 (n := n) (F := fun b fuel t => x_X9_findOrder_L62 k30 fuel (nI (n ^ n)) v (nI i) (nI b) t) (I := fun b t' => (∀ c, c ≠ 66 → t' c = t1 c) ∧ ∀ b', b' < b → t' 66 b' = nI (dgt n n i b')) (R := fun x => ∃ t', (∀ c, c ≠ 65 → c ≠ 66 → t' c = s c) ∧ (∀ b, b < n → t' 66 b = nI (dgt n n i b)) ∧ x = k30 (nI (n ^ n)) v (nI (i + 1)) t') (s := t1) (by omega) ⟨fun _ _ => rfl, fun b' hb' => absurd hb' (by omega)⟩ ?_ ?_
        · intro t' fuel ⟨a1, a2⟩
          refine ⟨t', fun c x y => by rw [a1 c y, k2 c x, g1 c x y], a2, ?_⟩
          show x_X9_findOrder_L62 k30 (fuel + 1) _ _ _ (nI n) t' = _
          rw [x_X9_findOrder_L62, a1 41 (by decide), k2 41 (by decide), te1, if_pos (Int32.le_refl _), nI_succ]
        · intro b t' fuel hb ⟨a1, a2⟩
          right
          have cb : (nI b).toNatClampNeg = b := nI_clamp (by omega)
          have b5 := p_inb (show b < 5 by omega) (by decide : (5 : Nat) < 2 ^ 31)
          refine ⟨g_upd t' 66 b (t' 65 b), ⟨fun c hc => by rw [g_upd_ne hc, a1 c hc], fun b' hb' => ?_⟩, ?_⟩
          · rw [g_upd_get]
            by_cases z : b' = b
            · rw [if_pos ⟨rfl, z⟩, a1 65 (by decide), k3 b hb, z]
            · rw [if_neg (fun q => z q.2)]; exact a2 b' (by omega)
          · show x_X9_findOrder_L62 k30 (fuel + 1) _ _ _ (nI b) t' = x_X9_findOrder_L62 k30 fuel _ _ _ (nI (b + 1)) _
            rw [x_X9_findOrder_L62, a1 41 (by decide), k2 41 (by decide), te1, if_neg (show ¬ nI n ≤ nI b from nI_ge hb (by omega)), if_pos b5, if_pos b5, cb, nI_succ b]
      have e0 : x_X9_findOrder_L30 (fuel + 1) (nI (n ^ n)) le (nI i) t = if pc (mk (dgt n n i) n 0) = n then (if nI (po (qm ρ (dgt n n i)) n n) < le then x_X9_findOrder_L62 (x_X9_findOrder_L30 fuel) g_F (nI (n ^ n)) (nI (po (qm ρ (dgt n n i)) n n)) (nI i) 0 t1 else x_X9_findOrder_L30 fuel (nI (n ^ n)) le (nI (i + 1)) t1) else x_X9_findOrder_L30 fuel (nI (n ^ n)) le (nI (i + 1)) t1 := by
        rw [x_X9_findOrder_L30, if_neg (show ¬ nI (n ^ n) ≤ nI i from nI_ge hi (by omega))]
        refine (bnd k1 _).trans ?_
        dsimp only
        rw [nI_succ i]
        by_cases z : pc (mk (dgt n n i) n 0) = n
        · rw [if_pos z, if_neg (by decide), if_pos z]
          refine (bnd mv _).trans ?_
          dsimp only
          by_cases y : nI (po (qm ρ (dgt n n i)) n n) < le
          · rw [if_pos y, if_pos y]
            exact bnd mv _
          · rw [if_neg y, if_neg y]
        · rw [if_neg z, if_pos rfl, if_neg z]
      show ∃ t' : Int32 × g_M, _ ∧ x_X9_findOrder_L30 (fuel + 1) (nI (n ^ n)) le (nI i) t = x_X9_findOrder_L30 fuel (nI (n ^ n)) t'.1 (nI (i + 1)) t'.2
      rw [e0]
      have fr : ∀ c, c ≠ 65 → c ≠ 66 → t1 c = s c := fun c x y => by rw [k2 c x, g1 c x y]
      by_cases z : pc (mk (dgt n n i) n 0) = n
      · rw [if_pos z]
        by_cases y : nI (po (qm ρ (dgt n n i)) n n) < le
        · rw [if_pos y]
          obtain ⟨t', c1, c2, c3⟩ := cp (x_X9_findOrder_L30 fuel) (nI (po (qm ρ (dgt n n i)) n n))
          refine ⟨(nI (po (qm ρ (dgt n n i)) n n), t'), ⟨c1, fun q => ⟨_, first i hi (by omega) z, by omega, rfl⟩, fun q => ?_⟩, c3⟩
          by_cases x : i = ns
          · subst x
            exact ⟨by show nI _ = _; rw [moveS], fun b hb => by show t' 66 b = _; rw [c2 b hb, ways b hb]⟩
          · have g := g3 (by omega)
            rw [g.1, p_lt (by omega) (by decide)] at y
            omega
        · rw [if_neg y]
          refine ⟨(le, t1), ⟨fr, fun q => g2 (by omega), fun q => ?_⟩, rfl⟩
          by_cases x : i = ns
          · exfalso
            subst x
            obtain ⟨m, hm, hm2, g⟩ := g2 (Nat.le_refl _)
            rw [moveS, g, p_lt (by decide) (by omega)] at y
            omega
          · have g := g3 (by omega)
            exact ⟨g.1, fun b hb => by show t1 66 b = _; rw [k2 66 (by decide)]; exact g.2 b hb⟩
      · rw [if_neg z]
        refine ⟨(le, t1), ⟨fr, fun q => g2 (by omega), fun q => ?_⟩, rfl⟩
        by_cases x : i = ns
        · subst x
          exact absurd permS z
        · have g := g3 (by omega)
          exact ⟨g.1, fun b hb => by show t1 66 b = _; rw [k2 66 (by decide)]; exact g.2 b hb⟩
  obtain ⟨s', y1, y2, y3⟩ := scan
  have fo : x_X9_findOrder s = some (nI 0, s') := by
    unfold x_X9_findOrder
    rw [show x_X9_findOrder_L4 g_F 1 0 s = x_X9_findOrder_L4 g_F (nI (n ^ 0)) (nI 0) s by rw [Nat.pow_zero]; rfl]
    refine p_loop0 (n := n) (F := fun i fuel (_ : Unit) => x_X9_findOrder_L4 fuel (nI (n ^ i)) (nI i) s) (I := fun _ _ => True) (R := fun x => x = some (nI 0, s')) (s := ()) (by omega) trivial ?_ ?_
    · intro _ fuel _
      show x_X9_findOrder_L4 (fuel + 1) _ (nI n) s = _
      rw [x_X9_findOrder_L4, e1, if_pos (Int32.le_refl _)]
      exact y1
    · intro i _ fuel hi _
      right
      refine ⟨(), trivial, ?_⟩
      show x_X9_findOrder_L4 (fuel + 1) (nI (n ^ i)) (nI i) s = x_X9_findOrder_L4 fuel (nI (n ^ (i + 1))) (nI (i + 1)) s
      rw [x_X9_findOrder_L4, e1, if_neg (show ¬ nI n ≤ nI i from nI_ge hi (by omega)), p_mul, Nat.pow_succ, nI_succ i]
  have core : ∀ N : g_M, (∀ c, c ≠ 65 → c ≠ 66 → N c = s c) → coreEq s N := fun N q => ⟨fun c a => q c (by omega) (by omega), fun c a b => q c (by omega) (by omega), fun i _ _ _ _ => by rw [q 41 (by decide) (by decide)], fun c a b => q c (by omega) (by omega), fun i _ => by rw [q 61 (by decide) (by decide)], fun c a b => q c (by omega) (by omega)⟩
  have go : ∀ r N, (if w = 1 then some (nI 0, s') else x_X9_alongside_L61 g_F w 0 (nI n - 1) s') = some (r, N) → x_X9_alongside w s = some (r, N) := by
    intro r N q
    have g3 : x_X9_isIn w 0 2 s = some (1, s) := by rw [py_isIn, if_pos w3]
    have lk := look s hc
    rw [if_pos ⟨hall, rfl, n1'⟩] at lk
    rw [x_X9_alongside]
    refine (bnd g3 _).trans ?_
    dsimp only
    rw [if_neg (by decide)]
    refine (bnd lk _).trans ?_
    dsimp only
    rw [if_neg (by decide), x_X9_alongside_L27, if_pos rfl]
    refine (bnd fo _).trans ?_
    dsimp only
    rw [y2 41 (by decide) (by decide), e1]
    exact q
  by_cases w1 : w = 1
  · refine ⟨s', go _ _ ?_, core s' y2⟩
    rw [if_pos w1, if_neg (by rw [w1]; decide), if_pos w1]
    rfl
  · have hor : ∃ N, x_X9_alongside_L61 g_F w 0 (nI n - 1) s' = some (if w = 0 then nI (po (qm ρ (fun i => i)) n n) else nI (rd n S n 0), N) ∧ ∀ c, c ≠ 65 → N c = s' c := by
      rw [show x_X9_alongside_L61 g_F w 0 (nI n - 1) s' = x_X9_alongside_L61 g_F w (nI (rd n S 0 (n - 0))) (nI (n - 0) - 1) s' by rw [Nat.sub_zero]; rfl]
      refine p_loop0 (n := n) (F := fun m fuel t => x_X9_alongside_L61 fuel w (nI (rd n S m (n - m))) (nI (n - m) - 1) t) (I := fun m t => (∀ c, c ≠ 65 → t c = s' c) ∧ ∀ b, b < n → n ≤ b + m → t 65 b = nI b) (R := fun x => ∃ N, x = some (if w = 0 then nI (po (qm ρ (fun i => i)) n n) else nI (rd n S n 0), N) ∧ ∀ c, c ≠ 65 → N c = s' c) (s := s') (by omega) ⟨fun _ _ => rfl, fun b hb q => absurd q (by omega)⟩ ?_ ?_
      · intro t fuel ⟨a1, a2⟩
        refine ⟨t, ?_, a1⟩
        show x_X9_alongside_L61 (fuel + 1) w (nI (rd n S n (n - n))) (nI (n - n) - 1) t = _
        rw [Nat.sub_self, x_X9_alongside_L61, if_pos (by decide)]
        by_cases w0 : w = 0
        · rw [if_pos w0, if_pos w0]
          refine (bnd (py_moves (ρ := ρ) (O := fun i => i) hnb (by rw [a1 41 (by decide), y2 41 (by decide) (by decide)]; exact e1) (fun j hj => by rw [a1 64 (by decide), y2 64 (by decide) (by decide)]; exact r64 j hj) (fun j hj => ⟨a2 j hj (by omega), hj⟩)) _).trans ?_
          rfl
        · rw [if_neg w0, if_neg w0]
      · intro m t fuel hm ⟨a1, a2⟩
        right
        obtain ⟨b, hb⟩ : ∃ b, n - m = b + 1 := ⟨n - m - 1, by omega⟩
        have cb : (nI b).toNatClampNeg = b := nI_clamp (by omega)
        have b5 := p_inb (show b < 5 by omega) (by decide : (5 : Nat) < 2 ^ 31)
        refine ⟨g_upd t 65 b (nI b), ⟨fun c hc => by rw [g_upd_ne hc, a1 c hc], fun b' hb' q => ?_⟩, ?_⟩
        · rw [g_upd_get]
          by_cases z : b' = b
          · rw [if_pos ⟨rfl, z⟩, z]
          · rw [if_neg (fun k => z k.2)]; exact a2 b' hb' (by omega)
        · show x_X9_alongside_L61 (fuel + 1) w (nI (rd n S m (n - m))) (nI (n - m) - 1) t = x_X9_alongside_L61 fuel w (nI (rd n S (m + 1) (n - (m + 1)))) (nI (n - (m + 1)) - 1) _
          rw [hb, show n - (m + 1) = b by omega, p_pred, rd, if_pos (S_lt b (by omega)), x_X9_alongside_L61, if_neg (nI_pos (by omega)), if_pos b5, if_pos b5, cb, a1 66 (by decide), y3 b (by omega), show (10 : Int32) = nI 10 from rfl, p_mul, p_add, show nI b + -1 = nI b - 1 by grind, Nat.add_comm]
    obtain ⟨N, q1, q2⟩ := hor
    refine ⟨N, go _ _ ?_, core N (fun c a b => by rw [q2 c a, y2 c a b])⟩
    rw [if_neg w1, if_neg w1]
    exact q1
