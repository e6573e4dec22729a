/-! THE PURE PART. ZB: skippers -/
def sm (B : Nat → Int32) (v : Int32) (T : Nat → Int32) : Nat → Int32
  | 0 => 0
  | h + 1 => sm B v T h + sR B v (T h)
theorem sm_cg {B : Nat → Int32} {v : Int32} {T T' : Nat → Int32} (h : ∀ k, k < 12 → T k = T' k) : ∀ n, n ≤ 12 → sm B v T n = sm B v T' n := by
  intro n
  induction n with
  | zero => intro _; rfl
  | succ n ih => intro hn; rw [sm, sm, ih (by omega), h n (by omega)]
def wA (B : Nat → Int32) (v : Int32) (T : Nat → Int32) : Int32 := -99 * bc (sHH B v T) + sm B v T 12
theorem wA_cg {B : Nat → Int32} {v : Int32} {T T' : Nat → Int32} (h : ∀ k, k < 12 → T k = T' k) : wA B v T = wA B v T' := by
  unfold wA
  rw [sHH_cg h, sm_cg h 12 (Nat.le_refl _)]
theorem px_worth {q : Nat} {M : g_M} {B : Nat → Int32} (h : isM q M B) (hB : okB B) (hT : okT (M 2)) {v : Int32} (hv : 0 ≤ v ∧ v ≤ 99) : x_X1_worthAlone q (1 + 1) 12 v M = some (wA B v (M 2), M) := by
  rw [x_X1_worthAlone]
  refine (bnd (px_hangW h v) _).trans ?_
  refine (bnd (px_bits _ M) _).trans ?_
  dsimp only
  rw [show x_X1_worthAlone_L16 q (1 + 1) 12 g_F v (-99 * bc (sHH B v (M (1 + 1)))) 0 M = x_X1_worthAlone_L16 q (1 + 1) 12 g_F v (-99 * bc (sHH B v (M 2)) + sm B v (M 2) 0) (nI 0) M by rw [show sm B v (M 2) 0 = 0 from rfl, Int32.add_zero]; rfl]
  refine p_loop0 (n := 12) (F := fun i fuel (_ : Unit) => x_X1_worthAlone_L16 q (1 + 1) 12 fuel v (-99 * bc (sHH B v (M 2)) + sm B v (M 2) i) (nI i) M) (I := fun _ _ => True) (R := fun r => r = some (wA B v (M 2), M)) (s := ()) (by decide) trivial ?_ ?_
  · intro _ fuel _
    show x_X1_worthAlone_L16 q (1 + 1) 12 (fuel + 1) v _ (nI 12) M = _
    rw [x_X1_worthAlone_L16, if_pos (by decide)]
    rfl
  · intro i _ fuel hi _
    right
    refine ⟨(), trivial, ?_⟩
    have c : (nI i).toNatClampNeg = i := nI_clamp (by omega)
    show x_X1_worthAlone_L16 q (1 + 1) 12 (fuel + 1) v (-99 * bc (sHH B v (M 2)) + sm B v (M 2) i) (nI i) M = x_X1_worthAlone_L16 q (1 + 1) 12 fuel v (-99 * bc (sHH B v (M 2)) + (sm B v (M 2) i + sR B v (M 2 i))) (nI (i + 1)) M
    rw [x_X1_worthAlone_L16, if_neg (show ¬ Int32.ofNat 12 ≤ nI i from p_n12 hi), if_pos (p_inb hi (by decide)), c]
    refine (bnd (px_reach h hB hv.1 hv.2 (hT i hi).1 (hT i hi).2) _).trans ?_
    dsimp only
    rw [nI_succ i, Int32.add_assoc]
theorem py_worth {M : g_M} {b : Nat} (hb : b < 5) (hR : okR M b) (hB : okB (rb M b)) (hT : okT (M 43)) (t : Int32) : x_X9_worthTo (nI b) t M = some (wA (rb M b) (rb M b 5) (M 43) - 50 * t, M) := by
  have c : (nI b).toNatClampNeg = b := nI_clamp (by omega)
  unfold x_X9_worthTo
  rw [show x_X9_worthTo_L8 g_F (nI b) (-50 * t) 0 M = x_X9_worthTo_L8 g_F (nI b) (-50 * t + sm (rb M b) (rb M b 5) (M 43) 0) (nI 0) M by rw [show sm (rb M b) (rb M b 5) (M 43) 0 = 0 from rfl, Int32.add_zero]; rfl]
  refine p_loop0 (n := 12) (F := fun i fuel (_ : Unit) => x_X9_worthTo_L8 fuel (nI b) (-50 * t + sm (rb M b) (rb M b 5) (M 43) i) (nI i) M) (I := fun _ _ => True) (R := fun r => r = some (wA (rb M b) (rb M b 5) (M 43) - 50 * t, M)) (s := ()) (by decide) trivial ?_ ?_
  · intro _ fuel _
    have hh := py_hangH hb hR hB hT (M 52 b)
    show x_X9_worthTo_L8 (fuel + 1) _ _ (nI 12) M = _
    rw [x_X9_worthTo_L8, if_pos (by decide), if_pos (p_inb hb (by decide)), c]
    refine (bnd hh _).trans ?_
    refine (bnd (py_bits (isS_bt _) M) _).trans ?_
    dsimp only
    rw [show M 52 b = rb M b 5 from rfl]
    show some (-50 * t + sm (rb M b) (rb M b 5) (M 43) 12 - 99 * bc (sHH (rb M b) (rb M b 5) (M 43)), M) = _
    unfold wA
    generalize bc (sHH (rb M b) (rb M b 5) (M 43)) = x
    generalize sm (rb M b) (rb M b 5) (M 43) 12 = y
    have : -50 * t + y - 99 * x = -99 * x + y - 50 * t := by grind
    rw [this]
  · intro i _ fuel hi _
    right
    refine ⟨(), trivial, ?_⟩
    show x_X9_worthTo_L8 (fuel + 1) _ (-50 * t + sm (rb M b) (rb M b 5) (M 43) i) (nI i) M = x_X9_worthTo_L8 fuel _ (-50 * t + (sm (rb M b) (rb M b 5) (M 43) i + sR (rb M b) (rb M b 5) (M 43 i))) (nI (i + 1)) M
    rw [x_X9_worthTo_L8, if_neg (p_n12 hi)]
    refine (bnd (py_outAt hb hi hR hB hT) _).trans ?_
    dsimp only
    rw [nI_succ i, Int32.add_assoc]
/-- worth of a pair of LENGTHS to one, to the other -/
def w1 (B B' : Nat → Int32) (T : Nat → Int32) (v v' : Nat) : Int32 := wA B (nI v) T - 50 * bc (sTH B B' (nI v) (nI v') T)
def w2 (B B' : Nat → Int32) (T : Nat → Int32) (v v' : Nat) : Int32 := wA B' (nI v') T - 50 * bc (sTH B B' (nI v) (nI v') T)
def ST (f g : Nat → Nat → Int32) (lo hi lo' hi' v v' : Nat) : Prop := (∀ u, lo ≤ u → u ≤ hi → f u v' ≤ f v v') ∧ ∀ u, lo' ≤ u → u ≤ hi' → g v u ≤ g v v'
theorem px_pair {s : g_M} {lo lo' i j : Nat} (h : s 37 2 = nI lo) (h' : s 37 4 = nI lo') (hi : i < 5) (hj : j < 5) (hl : lo ≤ 99) (hl' : lo' ≤ 99) : x_X1_pairOf (nI (lo + i)) (nI (lo' + j)) s = some (nI (5 * i + j), s) := by
  have e : (nI (lo + i) - nI lo) * 5 + nI (lo' + j) - nI lo' = nI (5 * i + j) := by
    rw [p_sub (by omega), show (5 : Int32) = nI 5 from rfl, p_mul, p_add, p_sub (by omega)]
    congr 1
    omega
  rw [x_X1_pairOf, h, h', e, if_neg (nI_pos (by omega)), if_neg (show ¬ (25 : Int32) ≤ nI (5 * i + j) from nI_ge (show 5 * i + j < 25 by omega) (by decide))]
/-- the Choices are so far weighed -/
def isW (s2 s : g_M) (f g : Nat → Nat → Int32) (lo hi lo' hi' I J : Nat) : Prop := (∀ c, c ≠ 37 → c ≠ 38 → c ≠ 39 → s c = s2 c) ∧ s 37 2 = nI lo ∧ s 37 3 = nI hi ∧ s 37 4 = nI lo' ∧ s 37 5 = nI hi' ∧ ∀ i j, i < 5 → j < 5 → lo + i ≤ hi → lo' + j ≤ hi' → (i < I ∨ (i = I ∧ j < J)) → s 38 (5 * i + j) = f (lo + i) (lo' + j) ∧ s 39 (5 * i + j) = g (lo + i) (lo' + j)
theorem px_settled {s2 s : g_M} {f g : Nat → Nat → Int32} {lo hi lo' hi' : Nat} (h : isW s2 s f g lo hi lo' hi' 5 0) (hl : hi ≤ lo + 4) (hl' : hi' ≤ lo' + 4) (h9 : hi ≤ 99) (h9' : hi' ≤ 99) {i j : Nat} (hi1 : lo + i ≤ hi) (hj1 : lo' + j ≤ hi') : (ST f g lo hi lo' hi' (lo + i) (lo' + j) ∧ x_X1_isSettled (nI (lo + i)) (nI (lo' + j)) s = some (1, s)) ∨ (¬ ST f g lo hi lo' hi' (lo + i) (lo' + j) ∧ x_X1_isSettled (nI (lo + i)) (nI (lo' + j)) s = some (0, s)) := by
  obtain ⟨-, a2, a3, a4, a5, w⟩ := h
  have W : ∀ i j, lo + i ≤ hi → lo' + j ≤ hi' → s 38 (5 * i + j) = f (lo + i) (lo' + j) ∧ s 39 (5 * i + j) = g (lo + i) (lo' + j) := fun i j x y => w i j (by omega) (by omega) x y (Or.inl (by omega))
  have bij := p_inb (show 5 * i + j < 25 by omega) (by decide : (25 : Nat) < 2 ^ 31)
  have cij : (nI (5 * i + j)).toNatClampNeg = 5 * i + j := nI_clamp (by omega)
  rw [x_X1_isSettled]
  rw [show (x_X1_pairOf (nI (lo + i)) (nI (lo' + j)) s).bind (fun u13 => x_X1_isSettled_L13 g_F (nI (lo + i)) (nI (lo' + j)) u13.1 (u13.2 37 2) u13.2) = x_X1_isSettled_L13 g_F (nI (lo + i)) (nI (lo' + j)) (nI (5 * i + j)) (nI (lo + 0)) s from (bnd (px_pair a2 a4 (show i < 5 by omega) (show j < 5 by omega) (by omega) (by omega)) _).trans (by dsimp only; rw [a2]; rfl)]
  refine p_loop0 (n := hi + 1 - lo) (F := fun t fuel (_ : Unit) => x_X1_isSettled_L13 fuel (nI (lo + i)) (nI (lo' + j)) (nI (5 * i + j)) (nI (lo + t)) s) (I := fun t _ => ∀ u, u < t → f (lo + u) (lo' + j) ≤ f (lo + i) (lo' + j)) (R := fun r => (ST f g lo hi lo' hi' (lo + i) (lo' + j) ∧ r = some (1, s)) ∨ (¬ ST f g lo hi lo' hi' (lo + i) (lo' + j) ∧ r = some (0, s))) (s := ()) (by omega) (fun u hu => absurd hu (by omega)) ?_ ?_
  · intro _ fuel h1
    have S1 : ∀ u, lo ≤ u → u ≤ hi → f u (lo' + j) ≤ f (lo + i) (lo' + j) := fun u x y => by
      have := h1 (u - lo) (by omega)
      rw [show lo + (u - lo) = u by omega] at this
      exact this
    show (_ ∧ x_X1_isSettled_L13 (fuel + 1) _ _ _ (nI (lo + (hi + 1 - lo))) s = _) ∨ (_ ∧ x_X1_isSettled_L13 (fuel + 1) _ _ _ (nI (lo + (hi + 1 - lo))) s = _)
    rw [x_X1_isSettled_L13, a3, if_pos ((p_lt (by omega) (by omega)).mpr (by omega)), a4]
    rw [show x_X1_isSettled_L57 g_F (nI (lo + i)) (nI (5 * i + j)) (nI lo') s = x_X1_isSettled_L57 g_F (nI (lo + i)) (nI (5 * i + j)) (nI (lo' + 0)) s by rfl]
    refine p_loop0 (n := hi' + 1 - lo') (F := fun t fuel (_ : Unit) => x_X1_isSettled_L57 fuel (nI (lo + i)) (nI (5 * i + j)) (nI (lo' + t)) s) (I := fun t _ => ∀ u, u < t → g (lo + i) (lo' + u) ≤ g (lo + i) (lo' + j)) (R := fun r => (ST f g lo hi lo' hi' (lo + i) (lo' + j) ∧ r = some (1, s)) ∨ (¬ ST f g lo hi lo' hi' (lo + i) (lo' + j) ∧ r = some (0, s))) (s := ()) (by omega) (fun u hu => absurd hu (by omega)) ?_ ?_
    · intro _ fuel h2
      left
      refine ⟨⟨S1, fun u x y => ?_⟩, ?_⟩
      · have := h2 (u - lo') (by omega)
        rw [show lo' + (u - lo') = u by omega] at this
        exact this
      · show x_X1_isSettled_L57 (fuel + 1) _ _ (nI (lo' + (hi' + 1 - lo'))) s = _
        rw [x_X1_isSettled_L57, a5, if_pos ((p_lt (by omega) (by omega)).mpr (by omega))]
    · intro t _ fuel ht h2
      have bt' := p_inb (show 5 * i + t < 25 by omega) (by decide : (25 : Nat) < 2 ^ 31)
      have ct : (nI (5 * i + t)).toNatClampNeg = 5 * i + t := nI_clamp (by omega)
      have e0 : x_X1_isSettled_L57 (fuel + 1) (nI (lo + i)) (nI (5 * i + j)) (nI (lo' + t)) s = if g (lo + i) (lo' + t) ≤ g (lo + i) (lo' + j) then x_X1_isSettled_L57 fuel (nI (lo + i)) (nI (5 * i + j)) (nI (lo' + (t + 1))) s else some (0, s) := by
        rw [x_X1_isSettled_L57, a5, if_neg (fun q => absurd ((p_lt (by omega) (by omega)).mp q) (by omega))]
        refine (bnd (px_pair a2 a4 (show i < 5 by omega) (show t < 5 by omega) (by omega) (by omega)) _).trans ?_
        dsimp only
        have q1 := (W i t hi1 (by omega)).2
        have q2 := (W i j hi1 hj1).2
        rw [if_pos bt', if_pos bij, ← nI_succ, ← Nat.add_assoc]
        by_cases z : g (lo + i) (lo' + t) ≤ g (lo + i) (lo' + j)
        · rw [if_pos z]
          exact if_pos (by rw [ct, cij, q1, q2]; exact z)
        · rw [if_neg z]
          exact if_neg (by rw [ct, cij, q1, q2]; exact z)
      show ((_ ∧ x_X1_isSettled_L57 (fuel + 1) _ _ (nI (lo' + t)) s = _) ∨ (_ ∧ x_X1_isSettled_L57 (fuel + 1) _ _ (nI (lo' + t)) s = _)) ∨ ∃ _, _ ∧ x_X1_isSettled_L57 (fuel + 1) _ _ (nI (lo' + t)) s = _
      rw [e0]
      by_cases z : g (lo + i) (lo' + t) ≤ g (lo + i) (lo' + j)
      · right
        refine ⟨(), fun u hu => ?_, if_pos z⟩
        by_cases y : u = t
        · subst y; exact z
        · exact h2 u (by omega)
      · left
        right
        exact ⟨fun q => z (q.2 (lo' + t) (by omega) (by omega)), if_neg z⟩
  · intro t _ fuel ht h1
    have bt' := p_inb (show 5 * t + j < 25 by omega) (by decide : (25 : Nat) < 2 ^ 31)
    have ct : (nI (5 * t + j)).toNatClampNeg = 5 * t + j := nI_clamp (by omega)
    have e0 : x_X1_isSettled_L13 (fuel + 1) (nI (lo + i)) (nI (lo' + j)) (nI (5 * i + j)) (nI (lo + t)) s = if f (lo + t) (lo' + j) ≤ f (lo + i) (lo' + j) then x_X1_isSettled_L13 fuel (nI (lo + i)) (nI (lo' + j)) (nI (5 * i + j)) (nI (lo + (t + 1))) s else some (0, s) := by
      rw [x_X1_isSettled_L13, a3, if_neg (fun q => absurd ((p_lt (by omega) (by omega)).mp q) (by omega))]
      refine (bnd (px_pair a2 a4 (show t < 5 by omega) (show j < 5 by omega) (by omega) (by omega)) _).trans ?_
      dsimp only
      have q1 := (W t j (by omega) hj1).1
      have q2 := (W i j hi1 hj1).1
      rw [if_pos bt', if_pos bij, ← nI_succ, ← Nat.add_assoc]
      by_cases z : f (lo + t) (lo' + j) ≤ f (lo + i) (lo' + j)
      · rw [if_pos z]
        exact if_pos (by rw [ct, cij, q1, q2]; exact z)
      · rw [if_neg z]
        exact if_neg (by rw [ct, cij, q1, q2]; exact z)
    show ((_ ∧ x_X1_isSettled_L13 (fuel + 1) _ _ _ (nI (lo + t)) s = _) ∨ (_ ∧ x_X1_isSettled_L13 (fuel + 1) _ _ _ (nI (lo + t)) s = _)) ∨ ∃ _, _ ∧ x_X1_isSettled_L13 (fuel + 1) _ _ _ (nI (lo + t)) s = _
    rw [e0]
    by_cases z : f (lo + t) (lo' + j) ≤ f (lo + i) (lo' + j)
    · right
      refine ⟨(), fun u hu => ?_, if_pos z⟩
      by_cases y : u = t
      · subst y; exact z
      · exact h1 u (by omega)
    · left
      right
      exact ⟨fun q => z (q.1 (lo + t) (by omega) (by omega)), if_neg z⟩
/-- the first settled pair, or none -/
def isF (f g : Nat → Nat → Int32) (lo hi lo' hi' : Nat) (r : Int32) : Prop := (∃ i j, lo + i ≤ hi ∧ lo' + j ≤ hi' ∧ ST f g lo hi lo' hi' (lo + i) (lo' + j) ∧ (∀ i', i' < i → ∀ j', lo' + j' ≤ hi' → ¬ ST f g lo hi lo' hi' (lo + i') (lo' + j')) ∧ (∀ j', j' < j → ¬ ST f g lo hi lo' hi' (lo + i) (lo' + j')) ∧ r = nI (5 * i + j)) ∨ ((∀ i j, lo + i ≤ hi → lo' + j ≤ hi' → ¬ ST f g lo hi lo' hi' (lo + i) (lo' + j)) ∧ r = -9)
theorem px_firstS {s2 s : g_M} {f g : Nat → Nat → Int32} {lo hi lo' hi' : Nat} (h : isW s2 s f g lo hi lo' hi' 5 0) (hl : hi ≤ lo + 4) (hl' : hi' ≤ lo' + 4) (h0 : lo ≤ hi) (h0' : lo' ≤ hi') (h9 : hi ≤ 99) (h9' : hi' ≤ 99) : ∃ r, x_X1_firstSettled s = some (r, s) ∧ isF f g lo hi lo' hi' r := by
  have hs := fun (i j : Nat) (hi1 : lo + i ≤ hi) (hj1 : lo' + j ≤ hi') => px_settled h hl hl' h9 h9' hi1 hj1
  obtain ⟨-, a2, a3, a4, a5, w⟩ := h
  unfold x_X1_firstSettled
  rw [a2, show x_X1_firstSettled_L5 g_F (nI lo) s = x_X1_firstSettled_L5 g_F (nI (lo + 0)) s by rfl]
  refine p_loop0 (n := hi + 1 - lo) (F := fun t fuel (_ : Unit) => x_X1_firstSettled_L5 fuel (nI (lo + t)) s) (I := fun t _ => ∀ i, i < t → ∀ j, lo' + j ≤ hi' → ¬ ST f g lo hi lo' hi' (lo + i) (lo' + j)) (R := fun x => ∃ r, x = some (r, s) ∧ isF f g lo hi lo' hi' r) (s := ()) (by omega) (fun u hu => absurd hu (by omega)) ?_ ?_
  · intro _ fuel h1
    refine ⟨-9, ?_, Or.inr ⟨fun i j x y => h1 i (by omega) j y, rfl⟩⟩
    show x_X1_firstSettled_L5 (fuel + 1) (nI (lo + (hi + 1 - lo))) s = _
    rw [x_X1_firstSettled_L5, a3, if_pos ((p_lt (by omega) (by omega)).mpr (by omega))]
  · intro i _ fuel hi2 h1
    have inner : ∀ k5 : Int32 → g_M → Option (Int32 × g_M), (∃ j, lo' + j ≤ hi' ∧ ST f g lo hi lo' hi' (lo + i) (lo' + j) ∧ (∀ j', j' < j → ¬ ST f g lo hi lo' hi' (lo + i) (lo' + j')) ∧ x_X1_firstSettled_L18 k5 g_F (nI (lo + i)) (nI lo') s = some (nI (5 * i + j), s)) ∨ ((∀ j, lo' + j ≤ hi' → ¬ ST f g lo hi lo' hi' (lo + i) (lo' + j)) ∧ x_X1_firstSettled_L18 k5 g_F (nI (lo + i)) (nI lo') s = k5 (nI (lo + (i + 1))) s) := by
      intro k5
      rw [show x_X1_firstSettled_L18 k5 g_F (nI (lo + i)) (nI lo') s = x_X1_firstSettled_L18 k5 g_F (nI (lo + i)) (nI (lo' + 0)) s by rfl]
      refine p_loop0 (n := hi' + 1 - lo') (F := fun t fuel (_ : Unit) => x_X1_firstSettled_L18 k5 fuel (nI (lo + i)) (nI (lo' + t)) s) (I := fun t _ => ∀ j, j < t → ¬ ST f g lo hi lo' hi' (lo + i) (lo' + j)) (R := fun x => (∃ j, lo' + j ≤ hi' ∧ ST f g lo hi lo' hi' (lo + i) (lo' + j) ∧ (∀ j', j' < j → ¬ ST f g lo hi lo' hi' (lo + i) (lo' + j')) ∧ x = some (nI (5 * i + j), s)) ∨ ((∀ j, lo' + j ≤ hi' → ¬ ST f g lo hi lo' hi' (lo + i) (lo' + j)) ∧ x = k5 (nI (lo + (i + 1))) s)) (s := ()) (by omega) (fun u hu => absurd hu (by omega)) ?_ ?_
      · intro _ fuel h2
        right
        refine ⟨fun j y => h2 j (by omega), ?_⟩
        show x_X1_firstSettled_L18 k5 (fuel + 1) _ (nI (lo' + (hi' + 1 - lo'))) s = _
        rw [x_X1_firstSettled_L18, a5, if_pos ((p_lt (by omega) (by omega)).mpr (by omega)), ← nI_succ, Nat.add_assoc]
      · intro j _ fuel hj h2
        have hj1 : lo' + j ≤ hi' := by omega
        have hi1 : lo + i ≤ hi := by omega
        show (((∃ j', lo' + j' ≤ hi' ∧ ST f g lo hi lo' hi' (lo + i) (lo' + j') ∧ (∀ j'', j'' < j' → ¬ ST f g lo hi lo' hi' (lo + i) (lo' + j'')) ∧ x_X1_firstSettled_L18 k5 (fuel + 1) (nI (lo + i)) (nI (lo' + j)) s = some (nI (5 * i + j'), s)) ∨ ((∀ j', lo' + j' ≤ hi' → ¬ ST f g lo hi lo' hi' (lo + i) (lo' + j')) ∧ x_X1_firstSettled_L18 k5 (fuel + 1) (nI (lo + i)) (nI (lo' + j)) s = k5 (nI (lo + (i + 1))) s)) ∨ ∃ s' : Unit, (∀ j', j' < j + 1 → ¬ ST f g lo hi lo' hi' (lo + i) (lo' + j')) ∧ x_X1_firstSettled_L18 k5 (fuel + 1) (nI (lo + i)) (nI (lo' + j)) s = x_X1_firstSettled_L18 k5 fuel (nI (lo + i)) (nI (lo' + (j + 1))) s)
        have ng : ¬ nI hi' < nI (lo' + j) := fun q => absurd ((p_lt (by omega) (by omega)).mp q) (by omega)
        rcases hs i j hi1 hj1 with ⟨q1, q2⟩ | ⟨q1, q2⟩
        · left
          left
          refine ⟨j, hj1, q1, h2, ?_⟩
          rw [x_X1_firstSettled_L18, a5, if_neg ng]
          refine (bnd q2 _).trans ?_
          dsimp only
          rw [if_neg (by decide)]
          exact bnd (px_pair a2 a4 (show i < 5 by omega) (show j < 5 by omega) (by omega) (by omega)) _
        · right
          refine ⟨(), fun u hu => ?_, ?_⟩
          · by_cases y : u = j
            · subst y; exact q1
            · exact h2 u (by omega)
          · rw [x_X1_firstSettled_L18, a5, if_neg ng]
            refine (bnd q2 _).trans ?_
            dsimp only
            rw [if_pos rfl, ← nI_succ, Nat.add_assoc]
    show (∃ r, x_X1_firstSettled_L5 (fuel + 1) (nI (lo + i)) s = some (r, s) ∧ isF f g lo hi lo' hi' r) ∨ ∃ s' : Unit, (∀ i', i' < i + 1 → ∀ j, lo' + j ≤ hi' → ¬ ST f g lo hi lo' hi' (lo + i') (lo' + j)) ∧ x_X1_firstSettled_L5 (fuel + 1) (nI (lo + i)) s = x_X1_firstSettled_L5 fuel (nI (lo + (i + 1))) s
    rw [x_X1_firstSettled_L5, a3, if_neg (fun q => absurd ((p_lt (by omega) (by omega)).mp q) (by omega)), a4]
    rcases inner (x_X1_firstSettled_L5 fuel) with ⟨j, q1, q2, q3, q4⟩ | ⟨q1, q2⟩
    · left
      exact ⟨nI (5 * i + j), q4, Or.inl ⟨i, j, by omega, q1, q2, h1, q3, rfl⟩⟩
    · right
      refine ⟨(), fun i' hi' => ?_, q2⟩
      by_cases y : i' = i
      · subst y; exact q1
      · exact h1 i' (by omega)
theorem px_weigh {s2 : g_M} {B B' : Nat → Int32} (h : isM 27 s2 B) (h' : isM 28 s2 B') (hB : okB B) (hB' : okB B') (hT : okT (s2 2)) {a c : Nat} (ea : B 5 = nI a) (ec : B' 5 = nI c) (ha : a ≤ 99) (hc : c ≤ 99) : ∃ r N, x_X1_weigh 27 28 (1 + 1) 12 s2 = some (0, N) ∧ (∀ c, c ≠ 37 → c ≠ 38 → c ≠ 39 → N c = s2 c) ∧ N 37 2 = nI (a - 2) ∧ N 37 4 = nI (c - 2) ∧ N 37 6 = r ∧ isF (w1 B B' (s2 2)) (w2 B B' (s2 2)) (a - 2) (min 99 (a + 2)) (c - 2) (min 99 (c + 2)) r := by
  have m0 : ∀ a, a < 100 → g_max 0 (nI a - 2) = nI (a - 2) := by decide +kernel
  have m9 : ∀ a, a ≤ 99 → g_min 99 (nI a + 2) = nI (min 99 (a + 2)) := fun a ha => by
    rw [show (2 : Int32) = nI 2 from rfl, p_add, show (99 : Int32) = nI 99 from rfl, p_min (by decide) (by omega)]
  have a5 : s2 27 5 = nI a := by rw [h 5 (by decide), ea]
  have c5 : s2 28 5 = nI c := by rw [h' 5 (by decide), ec]
  have hw : x_X1_weigh 27 28 (1 + 1) 12 s2 = x_X1_weigh_L64 27 28 (1 + 1) 12 g_F (nI (a - 2)) (g_upd (g_upd (g_upd (g_upd s2 37 2 (nI (a - 2))) 37 3 (nI (min 99 (a + 2)))) 37 4 (nI (c - 2))) 37 5 (nI (min 99 (c + 2)))) := by
    rw [← m0 a (by omega), ← m9 a ha, ← m0 c (by omega), ← m9 c hc, ← a5, ← c5]
    rfl
  rw [hw]
  generalize hN0 : g_upd (g_upd (g_upd (g_upd s2 37 2 (nI (a - 2))) 37 3 (nI (min 99 (a + 2)))) 37 4 (nI (c - 2))) 37 5 (nI (min 99 (c + 2))) = N0
  have W0 : isW s2 N0 (w1 B B' (s2 2)) (w2 B B' (s2 2)) (a - 2) (min 99 (a + 2)) (c - 2) (min 99 (c + 2)) 0 0 := by
    subst hN0
    exact ⟨fun q x _ _ => by rw [g_upd_ne x, g_upd_ne x, g_upd_ne x, g_upd_ne x], by simp [g_upd_get], by simp [g_upd_get], by simp [g_upd_get], by simp [g_upd_get], fun i j _ _ _ _ q => by omega⟩
  clear hN0 hw
  generalize hlo : a - 2 = lo at *
  generalize hhi : min 99 (a + 2) = hi at *
  generalize hlo' : c - 2 = lo' at *
  generalize hhi' : min 99 (c + 2) = hi' at *
  have b1 : lo ≤ hi := by omega
  have b2 : hi ≤ lo + 4 := by omega
  have b3 : hi ≤ 99 := by omega
  have b1' : lo' ≤ hi' := by omega
  have b2' : hi' ≤ lo' + 4 := by omega
  have b3' : hi' ≤ 99 := by omega
  generalize hf : w1 B B' (s2 2) = f at *
  generalize hg : w2 B B' (s2 2) = g at *
  have inner : ∀ (i : Nat) (k64 : Int32 → g_M → Option (Int32 × g_M)) (s : g_M), lo + i ≤ hi → isW s2 s f g lo hi lo' hi' i 0 → ∃ s', isW s2 s' f g lo hi lo' hi' (i + 1) 0 ∧ x_X1_weigh_L79 27 28 (1 + 1) 12 k64 g_F (nI (lo + i)) (nI (lo' + 0)) s = k64 (nI (lo + (i + 1))) s' := by
    intro i k64 s hi1 hs
    refine p_loop0 (n := hi' + 1 - lo') (F := fun j fuel s => x_X1_weigh_L79 27 28 (1 + 1) 12 k64 fuel (nI (lo + i)) (nI (lo' + j)) s) (I := fun j s => isW s2 s f g lo hi lo' hi' i j) (R := fun x => ∃ s', isW s2 s' f g lo hi lo' hi' (i + 1) 0 ∧ x = k64 (nI (lo + (i + 1))) s') (s := s) (by omega) hs ?_ ?_
    · intro s fuel hs
      refine ⟨s, ⟨hs.1, hs.2.1, hs.2.2.1, hs.2.2.2.1, hs.2.2.2.2.1, fun u t hu ht x y z => hs.2.2.2.2.2 u t hu ht x y ?_⟩, ?_⟩
      · rcases z with z | ⟨z, z2⟩
        · by_cases q : u = i
          · exact Or.inr ⟨q, by omega⟩
          · exact Or.inl (by omega)
        · omega
      · show x_X1_weigh_L79 27 28 (1 + 1) 12 k64 (fuel + 1) _ (nI (lo' + (hi' + 1 - lo'))) s = _
        rw [x_X1_weigh_L79, hs.2.2.2.2.1, if_pos ((p_lt (by omega) (by omega)).mpr (by omega)), ← nI_succ, Nat.add_assoc]
    · intro j s fuel hj hs
      right
      have hj1 : lo' + j ≤ hi' := by omega
      have n27 : s 27 = s2 27 := hs.1 27 (by decide) (by decide) (by decide)
      have n28 : s 28 = s2 28 := hs.1 28 (by decide) (by decide) (by decide)
      have n2 : s 2 = s2 2 := hs.1 2 (by decide) (by decide) (by decide)
      have i1 : isM 27 s B := fun k hk => by rw [n27]; exact h k hk
      have i2 : isM 28 s B' := fun k hk => by rw [n28]; exact h' k hk
      have T : okT (s 2) := by rw [n2]; exact hT
      have bp := p_inb (show 5 * i + j < 25 by omega) (by decide : (25 : Nat) < 2 ^ 31)
      have cp : (nI (5 * i + j)).toNatClampNeg = 5 * i + j := nI_clamp (by omega)
      have V := nI_99 (show lo + i ≤ 99 by omega)
      have V' := nI_99 (show lo' + j ≤ 99 by omega)
      have fe : wA B (nI (lo + i)) (s2 2) - 50 * bc (sTH B B' (nI (lo + i)) (nI (lo' + j)) (s2 2)) = f (lo + i) (lo' + j) := by rw [← hf]; rfl
      have ge : wA B' (nI (lo' + j)) (s2 2) - 50 * bc (sTH B B' (nI (lo + i)) (nI (lo' + j)) (s2 2)) = g (lo + i) (lo' + j) := by rw [← hg]; rfl
      refine ⟨g_upd (g_upd s 38 (5 * i + j) (f (lo + i) (lo' + j))) 39 (5 * i + j) (g (lo + i) (lo' + j)), ⟨fun q x y z => by rw [g_upd_ne z, g_upd_ne y, hs.1 q x y z], by rw [g_upd_ne (by decide), g_upd_ne (by decide)]; exact hs.2.1, by rw [g_upd_ne (by decide), g_upd_ne (by decide)]; exact hs.2.2.1, by rw [g_upd_ne (by decide), g_upd_ne (by decide)]; exact hs.2.2.2.1, by rw [g_upd_ne (by decide), g_upd_ne (by decide)]; exact hs.2.2.2.2.1, fun u t hu ht x y z => ?_⟩, ?_⟩
      · rw [g_upd_ne (show 38 ≠ 39 by decide), g_upd_get, g_upd_get, g_upd_ne (show 39 ≠ 38 by decide)]
        by_cases q : u = i ∧ t = j
        · obtain ⟨rfl, rfl⟩ := q
          rw [if_pos ⟨rfl, rfl⟩, if_pos ⟨rfl, rfl⟩]
          exact ⟨rfl, rfl⟩
        · have ne : ¬ 5 * u + t = 5 * i + j := by omega
          rw [if_neg (fun k => ne k.2), if_neg (fun k => ne k.2)]
          exact hs.2.2.2.2.2 u t hu ht x y (by omega)
      · show x_X1_weigh_L79 27 28 (1 + 1) 12 k64 (fuel + 1) _ (nI (lo' + j)) s = x_X1_weigh_L79 27 28 (1 + 1) 12 k64 fuel _ (nI (lo' + (j + 1))) _
        rw [x_X1_weigh_L79, hs.2.2.2.2.1, if_neg (fun q => absurd ((p_lt (by omega) (by omega)).mp q) (by omega))]
        refine (bnd (px_touching i1 i2 hB hB' V V' T) _).trans ?_
        refine (bnd (px_bits _ s) _).trans ?_
        refine (bnd (px_pair hs.2.1 hs.2.2.2.1 (show i < 5 by omega) (show j < 5 by omega) (by omega) (by omega)) _).trans ?_
        refine (bnd (px_worth i1 hB T V) _).trans ?_
        dsimp only
        rw [if_pos bp, cp, n2, fe]
        refine (bnd (px_worth (M := g_upd s 38 (5 * i + j) (f (lo + i) (lo' + j))) (fun k hk => by rw [g_upd_ne (by decide)]; exact i2 k hk) hB' (by rw [g_upd_ne (by decide)]; exact T) V') _).trans ?_
        dsimp only
        rw [if_pos bp, g_upd_ne (show 2 ≠ 38 by decide), n2, ge, ← nI_succ, Nat.add_assoc]
  show ∃ r N, x_X1_weigh_L64 27 28 (1 + 1) 12 g_F (nI (lo + 0)) N0 = some (0, N) ∧ _
  refine p_loop0 (n := hi + 1 - lo) (F := fun i fuel s => x_X1_weigh_L64 27 28 (1 + 1) 12 fuel (nI (lo + i)) s) (I := fun i s => isW s2 s f g lo hi lo' hi' i 0) (R := fun x => ∃ r N, x = some (0, N) ∧ (∀ c, c ≠ 37 → c ≠ 38 → c ≠ 39 → N c = s2 c) ∧ N 37 2 = nI lo ∧ N 37 4 = nI lo' ∧ N 37 6 = r ∧ isF f g lo hi lo' hi' r) (s := N0) (by omega) W0 ?_ ?_
  · intro s fuel hs
    have hs5 : isW s2 s f g lo hi lo' hi' 5 0 := ⟨hs.1, hs.2.1, hs.2.2.1, hs.2.2.2.1, hs.2.2.2.2.1, fun u t hu ht x y z => hs.2.2.2.2.2 u t hu ht x y (Or.inl (by omega))⟩
    obtain ⟨r, q1, q2⟩ := px_firstS hs5 b2 b2' b1 b1' b3 b3'
    refine ⟨r, g_upd s 37 6 r, ?_, fun c x y z => by rw [g_upd_ne x, hs.1 c x y z], by simp [g_upd_get, hs.2.1], by simp [g_upd_get, hs.2.2.2.1], by simp [g_upd_get], q2⟩
    show x_X1_weigh_L64 27 28 (1 + 1) 12 (fuel + 1) (nI (lo + (hi + 1 - lo))) s = _
    rw [x_X1_weigh_L64, hs.2.2.1, if_pos ((p_lt (by omega) (by omega)).mpr (by omega))]
    exact bnd q1 _
  · intro i s fuel hi1 hs
    right
    obtain ⟨s', x1, x2⟩ := inner i (x_X1_weigh_L64 27 28 (1 + 1) 12 fuel) s (by omega) hs
    refine ⟨s', x1, ?_⟩
    show x_X1_weigh_L64 27 28 (1 + 1) 12 (fuel + 1) (nI (lo + i)) s = _
    rw [x_X1_weigh_L64, hs.2.2.1, if_neg (fun q => absurd ((p_lt (by omega) (by omega)).mp q) (by omega)), hs.2.2.2.1]
    exact x2
/-! the reference -/
theorem rb_any {N M : g_M} {x : Nat} (h : ∀ c, 45 ≤ c → c ≤ 54 → c ≠ 52 → N c = M c) : rb N x = Bl (rb M x) (N 52 x) := by
  funext j
  unfold rb Bl
  rw [h 45 (by decide) (by decide) (by decide), h 46 (by decide) (by decide) (by decide), h 47 (by decide) (by decide) (by decide), h 48 (by decide) (by decide) (by decide), h 49 (by decide) (by decide) (by decide), h 50 (by decide) (by decide) (by decide), h 51 (by decide) (by decide) (by decide), h 53 (by decide) (by decide) (by decide), h 54 (by decide) (by decide) (by decide)]
  by_cases z : j = 5
  · subst z; rfl
  · simp [z]
theorem p_choice : ∀ f, f < 100 → ∀ t, t < 5 → (if (0 : Int32) ≤ nI f - 2 + nI t then (if nI f - 2 + nI t ≤ 99 then nI f - 2 + nI t else 99) else 0) = nI (min 99 (f + t - 2)) := by decide +kernel
theorem py_choice {f t : Nat} (hf : f ≤ 99) (ht : t < 5) (M : g_M) : x_X9_choiceOf (nI f) (nI t) M = some (nI (min 99 (f + t - 2)), M) := by
  have q := p_choice f (by omega) t ht
  rw [x_X9_choiceOf, ← q]
  split
  · split <;> rfl
  · rfl
theorem p_d5 : ∀ k, k < 25 → nI k / 5 = nI (k / 5) ∧ nI k - nI k / 5 * 5 = nI (k % 5) := by decide +kernel
def qS (f g : Nat → Nat → Int32) (a c k : Nat) : Prop := ∀ t, t < 5 → ¬ f (min 99 (a + k / 5 - 2)) (min 99 (c + k % 5 - 2)) < f (min 99 (a + t - 2)) (min 99 (c + k % 5 - 2)) ∧ g (min 99 (a + k / 5 - 2)) (min 99 (c + t - 2)) ≤ g (min 99 (a + k / 5 - 2)) (min 99 (c + k % 5 - 2))
theorem qS_ST {f g : Nat → Nat → Int32} {a c k : Nat} (ha : a ≤ 99) (hc : c ≤ 99) : qS f g a c k ↔ ST f g (a - 2) (min 99 (a + 2)) (c - 2) (min 99 (c + 2)) (min 99 (a + k / 5 - 2)) (min 99 (c + k % 5 - 2)) := by
  unfold qS ST
  constructor
  · intro h
    refine ⟨fun u x y => ?_, fun u x y => ?_⟩
    · have := (h (u + 2 - a) (by omega)).1
      rw [show min 99 (a + (u + 2 - a) - 2) = u by omega] at this
      rw [← Int32.not_lt]
      exact this
    · have := (h (u + 2 - c) (by omega)).2
      rw [show min 99 (c + (u + 2 - c) - 2) = u by omega] at this
      exact this
  · intro h t ht
    refine ⟨?_, h.2 _ (by omega) (by omega)⟩
    rw [Int32.not_lt]
    exact h.1 _ (by omega) (by omega)
theorem py_rests {N : g_M} {f g : Nat → Nat → Int32} {a c : Nat} (h : ∀ k, k < 25 → N 73 k = f (min 99 (a + k / 5 - 2)) (min 99 (c + k % 5 - 2)) ∧ N 74 k = g (min 99 (a + k / 5 - 2)) (min 99 (c + k % 5 - 2))) {k : Nat} (hk : k < 25) : (qS f g a c k ∧ x_X9_rests (nI k) N = some (1, N)) ∨ (¬ qS f g a c k ∧ x_X9_rests (nI k) N = some (0, N)) := by
  unfold x_X9_rests
  have ck : (nI k).toNatClampNeg = k := nI_clamp (by omega)
  have bk := p_inb hk (by decide : (25 : Nat) < 2 ^ 31)
  have d5 := p_d5 k hk
  refine p_loop0 (n := 5) (F := fun t fuel (_ : Unit) => x_X9_rests_L2 fuel (nI k) (nI t) N) (I := fun t _ => ∀ u, u < t → ¬ f (min 99 (a + k / 5 - 2)) (min 99 (c + k % 5 - 2)) < f (min 99 (a + u - 2)) (min 99 (c + k % 5 - 2)) ∧ g (min 99 (a + k / 5 - 2)) (min 99 (c + u - 2)) ≤ g (min 99 (a + k / 5 - 2)) (min 99 (c + k % 5 - 2))) (R := fun x => (qS f g a c k ∧ x = some (1, N)) ∨ (¬ qS f g a c k ∧ x = some (0, N))) (s := ()) (by decide) (fun u hu => absurd hu (by omega)) ?_ ?_
  · intro _ fuel hI
    left
    refine ⟨hI, ?_⟩
    show x_X9_rests_L2 (fuel + 1) _ (nI 5) N = _
    rw [x_X9_rests_L2, if_pos (by decide)]
  · intro t _ fuel ht hI
    have i1 : (5 : Int32) * nI t + (nI k - nI k / 5 * 5) = nI (5 * t + k % 5) := by rw [d5.2, show (5 : Int32) = nI 5 from rfl, p_mul, p_add]
    have i2 : nI k / 5 * 5 + nI t = nI (k / 5 * 5 + t) := by rw [d5.1, show (5 : Int32) = nI 5 from rfl, p_mul, p_add]
    have b1 := p_inb (show 5 * t + k % 5 < 25 by omega) (by decide : (25 : Nat) < 2 ^ 31)
    have b2 := p_inb (show k / 5 * 5 + t < 25 by omega) (by decide : (25 : Nat) < 2 ^ 31)
    have c1 : (nI (5 * t + k % 5)).toNatClampNeg = 5 * t + k % 5 := nI_clamp (by omega)
    have c2 : (nI (k / 5 * 5 + t)).toNatClampNeg = k / 5 * 5 + t := nI_clamp (by omega)
    have v1 := (h (5 * t + k % 5) (by omega)).1
    have v2 := (h (k / 5 * 5 + t) (by omega)).2
    rw [show (5 * t + k % 5) / 5 = t by omega, show (5 * t + k % 5) % 5 = k % 5 by omega] at v1
    rw [show (k / 5 * 5 + t) / 5 = k / 5 by omega, show (k / 5 * 5 + t) % 5 = t by omega] at v2
    have e0 : x_X9_rests_L2 (fuel + 1) (nI k) (nI t) N = if f (min 99 (a + k / 5 - 2)) (min 99 (c + k % 5 - 2)) < f (min 99 (a + t - 2)) (min 99 (c + k % 5 - 2)) then some (0, N) else if g (min 99 (a + k / 5 - 2)) (min 99 (c + t - 2)) ≤ g (min 99 (a + k / 5 - 2)) (min 99 (c + k % 5 - 2)) then x_X9_rests_L2 fuel (nI k) (nI (t + 1)) N else some (0, N) := by
      rw [x_X9_rests_L2, if_neg (show ¬ (5 : Int32) ≤ nI t from nI_ge ht (by decide)), i1, i2, if_pos b1, if_pos bk, if_pos b2, if_pos bk, c1, c2, ck, v1, v2, (h k hk).1, (h k hk).2, nI_succ]
    show ((_ ∧ x_X9_rests_L2 (fuel + 1) _ (nI t) N = _) ∨ (_ ∧ x_X9_rests_L2 (fuel + 1) _ (nI t) N = _)) ∨ ∃ _, _ ∧ x_X9_rests_L2 (fuel + 1) _ (nI t) N = _
    rw [e0]
    by_cases z : f (min 99 (a + k / 5 - 2)) (min 99 (c + k % 5 - 2)) < f (min 99 (a + t - 2)) (min 99 (c + k % 5 - 2))
    · left
      right
      exact ⟨fun q => (q t ht).1 z, if_pos z⟩
    · rw [if_neg z]
      by_cases y : g (min 99 (a + k / 5 - 2)) (min 99 (c + t - 2)) ≤ g (min 99 (a + k / 5 - 2)) (min 99 (c + k % 5 - 2))
      · right
        refine ⟨(), fun u hu => ?_, if_pos y⟩
        by_cases x : u = t
        · subst x; exact ⟨z, y⟩
        · exact hI u (by omega)
      · left
        right
        exact ⟨fun q => y (q t ht).2, if_neg y⟩
theorem op_skippers (p p2 w : Int32) : opOK (x_X8_skippers p p2 w) (x_X9_skippers p p2 w) := by
  intro M h
  by_cases hp : (0 ≤ p ∧ p < M 1 6) ∧ (0 ≤ p2 ∧ p2 < M 1 6) ∧ ¬ p = p2
  rotate_left
  · have g : x_X8_areTwoBoats p p2 M = some (0, M) := by rw [px_two, if_neg hp]
    exact op_ref h (k := 1) (r := -nI 1) (by decide) (by simp [x_X8_skippers, g, n1, px_refused]) (fun M1 hc => by simp [x_X9_skippers, x_X9_skippers_L28, no2 h hp hc, n1, nz1, py_no])
  have g0 : x_X8_areTwoBoats p p2 M = some (1, M) := by rw [px_two, if_pos hp]
  obtain ⟨nb, a, b, rfl, rfl, e1, nb5, ha, hb, hab, hRa, hRb, hBa, hBb, hy⟩ := bo2 h hp
  by_cases w2' : 0 ≤ w ∧ w < 2
  rotate_left
  · have w3 : ¬ (0 ≤ w ∧ w ≤ 1) := fun q => w2' ⟨q.1, by have := q.2; grind⟩
    exact op_ref h (k := 2) (r := -nI 2) (by decide) (by simp [x_X8_skippers, g0, px_isOneOf, w2', n2, px_refused]) (fun M1 hc => by simp [x_X9_skippers, x_X9_skippers_L28, (hy M1 hc).1, py_isIn, w3, n2, nz2, py_no])
  have w3 : 0 ≤ w ∧ w ≤ 1 := ⟨w2'.1, by have := w2'.2; grind⟩
  obtain ⟨s1, s2, l1, l2, i1, i2, hs, tt, T2⟩ := lx2 h (sc_rf M) e1 nb5 ha hb
  have T := inv_T h
  have la := okB_len hBa
  have lb := okB_len hBb
  obtain ⟨u, hu, eu⟩ := p_in (i := rb M a 5) (n := 100) (by decide) la.1 (show rb M a 5 < 100 by have := la.2; grind)
  obtain ⟨v, hv, ev⟩ := p_in (i := rb M b 5) (n := 100) (by decide) lb.1 (show rb M b 5 < 100 by have := lb.2; grind)
  obtain ⟨r, N, x1, x2, x3, x4, x5, x6⟩ := px_weigh i1 i2 hBa hBb T2 eu ev (by omega) (by omega)
  have wc1 : w1 (rb M a) (rb M b) (s2 2) = w1 (rb M a) (rb M b) (M 43) := by funext x y; unfold w1; rw [wA_cg tt, sTH_cg tt]
  have wc2 : w2 (rb M a) (rb M b) (s2 2) = w2 (rb M a) (rb M b) (M 43) := by funext x y; unfold w2; rw [wA_cg tt, sTH_cg tt]
  rw [wc1, wc2] at x6
  have g2 : x_X8_isOneOf w 2 M = some (1, M) := by rw [px_isOneOf, if_pos w2']
  have hx : x_X8_skippers (nI a) (nI b) w M = some (if r = -9 then -9 else if w = 0 then nI (u - 2) + r / 5 else nI (v - 2) + (r - r / 5 * 5), N) := by
    rw [x_X8_skippers]
    refine (bnd g0 _).trans ?_
    dsimp only
    rw [if_neg (by decide)]
    refine (bnd g2 _).trans ?_
    dsimp only
    rw [if_neg (by decide)]
    refine (bnd l1 _).trans ?_
    refine (bnd l2 _).trans ?_
    refine (bnd x1 _).trans ?_
    dsimp only
    by_cases w0 : w = 0
    · rw [if_pos w0, if_pos w0, x_X1_firstLength, x5, x3]
      by_cases z : r = -9
      · rw [if_pos z, if_pos z]; rfl
      · rw [if_neg z, if_neg z]; rfl
    · rw [if_neg w0, if_neg w0, x_X1_otherLength, x5, x4]
      by_cases z : r = -9
      · rw [if_pos z, if_pos z]; rfl
      · rw [if_neg z, if_neg z]; rfl
  refine op_ask h hx (fun c hc => by rw [x2 c (by omega) (by omega) (by omega), hs c (by omega) (by omega)]) fun h1 hc => ?_
  obtain ⟨y1, y2, y3, y4, y5, y6⟩ := hy N hc
  have ca : (nI a).toNatClampNeg = a := nI_clamp (by omega)
  have cb : (nI b).toNatClampNeg = b := nI_clamp (by omega)
  have ia := p_inb (show a < 5 by omega) (by decide : (5 : Nat) < 2 ^ 31)
  have ib := p_inb (show b < 5 by omega) (by decide : (5 : Nat) < 2 ^ 31)
  have na : N 52 a = nI u := by rw [← eu, ← y5]; rfl
  have nb' : N 52 b = nI v := by rw [← ev, ← y5]; rfl
  generalize hf : w1 (rb M a) (rb M b) (M 43) = f at x6
  generalize hg : w2 (rb M a) (rb M b) (M 43) = g at x6
  have weigh : ∃ N1, x_X9_skippers_L61 g_F (nI a) (nI b) w (nI u) (nI v) 0 N = x_X9_skippers_L162 g_F w (nI u) (nI v) 0 N1 ∧ (∀ c, c ≠ 73 → c ≠ 74 → N1 c = N c) ∧ ∀ k, k < 25 → N1 73 k = f (min 99 (u + k / 5 - 2)) (min 99 (v + k % 5 - 2)) ∧ N1 74 k = g (min 99 (u + k / 5 - 2)) (min 99 (v + k % 5 - 2)) := by
    refine p_loop0 (n := 25) (F := fun k fuel s => x_X9_skippers_L61 fuel (nI a) (nI b) w (nI u) (nI v) (nI k) s) (I := fun k s => (∀ c, c ≠ 52 → c ≠ 73 → c ≠ 74 → s c = N c) ∧ (∀ x, x ≠ a → x ≠ b → s 52 x = N 52 x) ∧ ∀ j, j < k → s 73 j = f (min 99 (u + j / 5 - 2)) (min 99 (v + j % 5 - 2)) ∧ s 74 j = g (min 99 (u + j / 5 - 2)) (min 99 (v + j % 5 - 2))) (R := fun x => ∃ N1, x = x_X9_skippers_L162 g_F w (nI u) (nI v) 0 N1 ∧ (∀ c, c ≠ 73 → c ≠ 74 → N1 c = N c) ∧ ∀ k, k < 25 → N1 73 k = f (min 99 (u + k / 5 - 2)) (min 99 (v + k % 5 - 2)) ∧ N1 74 k = g (min 99 (u + k / 5 - 2)) (min 99 (v + k % 5 - 2))) (s := N) (by decide) ⟨fun _ _ _ _ => rfl, fun _ _ _ => rfl, fun j hj => absurd hj (by omega)⟩ ?_ ?_
    · intro s fuel ⟨h1, h2, h3⟩
      refine ⟨g_upd (g_upd s 52 a (nI u)) 52 b (nI v), ?_, fun c x y => ?_, fun k hk => by rw [g_upd_ne (by decide), g_upd_ne (by decide), g_upd_ne (by decide), g_upd_ne (by decide)]; exact h3 k hk⟩
      · show x_X9_skippers_L61 (fuel + 1) _ _ _ _ _ (nI 25) s = _
        rw [x_X9_skippers_L61, if_pos (by decide), if_pos ia, if_pos ib, ca, cb]
      · by_cases z : c = 52
        · subst z
          funext j
          rw [g_upd_get, g_upd_get]
          by_cases q : j = b
          · rw [if_pos ⟨rfl, q⟩, q, nb']
          · rw [if_neg (fun k => q k.2)]
            by_cases q2 : j = a
            · rw [if_pos ⟨rfl, q2⟩, q2, na]
            · rw [if_neg (fun k => q2 k.2), h2 j q2 q]
        · rw [g_upd_ne z, g_upd_ne z, h1 c z x y]
    · intro k s fuel hk ⟨h1, h2, h3⟩
      right
      have d5 := p_d5 k hk
      have bk := p_inb hk (by decide : (25 : Nat) < 2 ^ 31)
      have ck : (nI k).toNatClampNeg = k := nI_clamp (by omega)
      generalize hU : min 99 (u + k / 5 - 2) = U
      generalize hV : min 99 (v + k % 5 - 2) = V
      have U9 := nI_99 (show U ≤ 99 by omega)
      have V9 := nI_99 (show V ≤ 99 by omega)
      have c1 := py_choice (f := u) (t := k / 5) (by omega) (by omega) s
      rw [hU] at c1
      have c2 := py_choice (f := v) (t := k % 5) (by omega) (by omega) (g_upd s 52 a (nI U))
      rw [hV] at c2
      have nc : ∀ c, c ≠ 52 → c ≠ 73 → c ≠ 74 → g_upd (g_upd s 52 a (nI U)) 52 b (nI V) c = N c := fun c x y z => by rw [g_upd_ne x, g_upd_ne x, h1 c x y z]
      have n52 : ∀ x, x ≠ a → x ≠ b → g_upd (g_upd s 52 a (nI U)) 52 b (nI V) 52 x = N 52 x := fun x y z => by rw [g_upd_get, g_upd_get, if_neg (fun q => z q.2), if_neg (fun q => y q.2), h2 x y z]
      have va : g_upd (g_upd s 52 a (nI U)) 52 b (nI V) 52 a = nI U := by rw [g_upd_get, g_upd_get, if_neg (fun q => hab q.2), if_pos ⟨rfl, rfl⟩]
      have vb : g_upd (g_upd s 52 a (nI U)) 52 b (nI V) 52 b = nI V := by rw [g_upd_get, if_pos ⟨rfl, rfl⟩]
      have s73 : g_upd (g_upd s 52 a (nI U)) 52 b (nI V) 73 = s 73 := by rw [g_upd_ne (by decide), g_upd_ne (by decide)]
      have s74 : g_upd (g_upd s 52 a (nI U)) 52 b (nI V) 74 = s 74 := by rw [g_upd_ne (by decide), g_upd_ne (by decide)]
      have red : x_X9_skippers_L61 (fuel + 1) (nI a) (nI b) w (nI u) (nI v) (nI k) s = ((x_X9_touchHours (nI a) (nI b) (g_upd (g_upd s 52 a (nI U)) 52 b (nI V))).bind fun u18 => ((x_X9_bits u18.1 u18.2).bind fun u20 => ((x_X9_worthTo (nI a) u20.1 u20.2).bind fun u22 => (if g_inb (nI k) 25 = true then (((x_X9_worthTo (nI b) u20.1 (g_upd u22.2 73 k u22.1)).bind fun u25 => (if g_inb (nI k) 25 = true then (x_X9_skippers_L61 fuel (nI a) (nI b) w (nI u) (nI v) (nI k + 1) (g_upd u25.2 74 k u25.1)) else none))) else none)))) := by
        rw [x_X9_skippers_L61, if_neg (show ¬ (25 : Int32) ≤ nI k from nI_ge hk (by decide)), d5.2, d5.1, ck]
        refine (bnd c1 _).trans ?_
        dsimp only
        rw [if_pos ia, ca]
        refine (bnd c2 _).trans ?_
        dsimp only
        rw [if_pos ib, cb]
      generalize g_upd (g_upd s 52 a (nI U)) 52 b (nI V) = Q at nc n52 va vb s73 s74 red
      have ra : rb Q a = Bl (rb M a) (nI U) := by rw [← va, ← y5]; exact rb_any (fun c x y z => nc c z (by omega) (by omega))
      have rbb : rb Q b = Bl (rb M b) (nI V) := by rw [← vb, ← y5]; exact rb_any (fun c x y z => nc c z (by omega) (by omega))
      have q43 : Q 43 = M 43 := by rw [nc 43 (by decide) (by decide) (by decide), y6]
      have Ra : okR Q a := by unfold okR; rw [nc 50 (by decide) (by decide) (by decide), nc 51 (by decide) (by decide) (by decide)]; exact y2
      have Rb : okR Q b := by unfold okR; rw [nc 50 (by decide) (by decide) (by decide), nc 51 (by decide) (by decide) (by decide)]; exact y3
      have Ba : okB (rb Q a) := by rw [ra]; exact Bl_ok hBa U9
      have Bb : okB (rb Q b) := by rw [rbb]; exact Bl_ok hBb V9
      have Tq : okT (Q 43) := by rw [q43]; exact T.2
      have th := py_touchH (M := Q) (a := a) (b := b) (by omega) (by omega) Ra Rb Ba Bb Tq
      rw [ra, rbb, q43] at th
      have th' : x_X9_touchHours (nI a) (nI b) Q = some (sTH (rb M a) (rb M b) (nI U) (nI V) (M 43), Q) := th
      have wa := py_worth (M := Q) (b := a) (by omega) Ra Ba Tq (bc (sTH (rb M a) (rb M b) (nI U) (nI V) (M 43)))
      rw [ra, q43] at wa
      have wa' : x_X9_worthTo (nI a) (bc (sTH (rb M a) (rb M b) (nI U) (nI V) (M 43))) Q = some (f U V, Q) := by rw [← hf]; exact wa
      have nq : ∀ c, c ≠ 73 → g_upd Q 73 k (f U V) c = Q c := fun c x => g_upd_ne x
      have rq : rb (g_upd Q 73 k (f U V)) b = rb Q b := by
        funext j
        unfold rb
        rw [nq 45 (by decide), nq 46 (by decide), nq 47 (by decide), nq 48 (by decide), nq 49 (by decide), nq 50 (by decide), nq 51 (by decide), nq 52 (by decide), nq 53 (by decide), nq 54 (by decide)]
      have wb := py_worth (M := g_upd Q 73 k (f U V)) (b := b) (by omega) (by unfold okR; rw [nq 50 (by decide), nq 51 (by decide)]; exact Rb) (by rw [rq]; exact Bb) (by rw [nq 43 (by decide)]; exact Tq) (bc (sTH (rb M a) (rb M b) (nI U) (nI V) (M 43)))
      rw [rq, rbb, nq 43 (by decide), q43] at wb
      have wb' : x_X9_worthTo (nI b) (bc (sTH (rb M a) (rb M b) (nI U) (nI V) (M 43))) (g_upd Q 73 k (f U V)) = some (g U V, g_upd Q 73 k (f U V)) := by rw [← hg]; exact wb
      refine ⟨g_upd (g_upd Q 73 k (f U V)) 74 k (g U V), ⟨fun c x y z => by rw [g_upd_ne z, g_upd_ne y, nc c x y z], fun x y z => by rw [g_upd_ne (by decide), g_upd_ne (by decide), n52 x y z], fun j hj => ?_⟩, ?_⟩
      · rw [g_upd_ne (show 73 ≠ 74 by decide), g_upd_get, g_upd_get, g_upd_ne (show 74 ≠ 73 by decide), s73, s74]
        by_cases z : j = k
        · subst z
          rw [if_pos ⟨rfl, rfl⟩, if_pos ⟨rfl, rfl⟩, hU, hV]
          exact ⟨rfl, rfl⟩
        · rw [if_neg (fun q => z q.2), if_neg (fun q => z q.2)]
          exact h3 j (by omega)
      · show x_X9_skippers_L61 (fuel + 1) (nI a) (nI b) w (nI u) (nI v) (nI k) s = x_X9_skippers_L61 fuel (nI a) (nI b) w (nI u) (nI v) (nI (k + 1)) _
        rw [red]
        refine (bnd th' _).trans ?_
        refine (bnd (py_bits (isS_sTH ..) Q) _).trans ?_
        refine (bnd wa' _).trans ?_
        dsimp only
        rw [if_pos bk]
        refine (bnd wb' _).trans ?_
        dsimp only
        rw [if_pos bk, nI_succ]
  obtain ⟨N1, z1, z2, z3⟩ := weigh
  have core : coreEq N N1 := ⟨fun c x => z2 c (by omega) (by omega), fun c x y => z2 c (by omega) (by omega), fun i _ _ _ _ => by rw [z2 41 (by decide) (by decide)], fun c x y => z2 c (by omega) (by omega), fun i _ => by rw [z2 61 (by decide) (by decide)], fun c x y => z2 c (by omega) (by omega)⟩
  have search : (∃ k, k < 25 ∧ qS f g u v k ∧ (∀ j, j < k → ¬ qS f g u v j) ∧ x_X9_skippers_L162 g_F w (nI u) (nI v) 0 N1 = some (if w = 0 then nI (min 99 (u + k / 5 - 2)) else nI (min 99 (v + k % 5 - 2)), N1)) ∨ ((∀ k, k < 25 → ¬ qS f g u v k) ∧ x_X9_skippers_L162 g_F w (nI u) (nI v) 0 N1 = some (-9, N1)) := by
    refine p_loop0 (n := 25) (F := fun k fuel (_ : Unit) => x_X9_skippers_L162 fuel w (nI u) (nI v) (nI k) N1) (I := fun k _ => ∀ j, j < k → ¬ qS f g u v j) (R := fun x => (∃ k, k < 25 ∧ qS f g u v k ∧ (∀ j, j < k → ¬ qS f g u v j) ∧ x = some (if w = 0 then nI (min 99 (u + k / 5 - 2)) else nI (min 99 (v + k % 5 - 2)), N1)) ∨ ((∀ k, k < 25 → ¬ qS f g u v k) ∧ x = some (-9, N1))) (s := ()) (by decide) (fun u hu => absurd hu (by omega)) ?_ ?_
    · intro _ fuel hI
      right
      refine ⟨hI, ?_⟩
      show x_X9_skippers_L162 (fuel + 1) _ _ _ (nI 25) N1 = _
      rw [x_X9_skippers_L162, if_pos (by decide)]
    · intro k _ fuel hk hI
      have d5 := p_d5 k hk
      have c1 := py_choice (f := u) (t := k / 5) (by omega) (by omega) N1
      have c2 := py_choice (f := v) (t := k % 5) (by omega) (by omega) N1
      rcases py_rests z3 hk with ⟨q1, q2⟩ | ⟨q1, q2⟩
      · left
        left
        refine ⟨k, hk, q1, hI, ?_⟩
        show x_X9_skippers_L162 (fuel + 1) _ _ _ (nI k) N1 = _
        rw [x_X9_skippers_L162, if_neg (show ¬ (25 : Int32) ≤ nI k from nI_ge hk (by decide))]
        refine (bnd q2 _).trans ?_
        dsimp only
        rw [if_neg (by decide), d5.2, d5.1]
        by_cases w0 : w = 0
        · rw [if_pos w0, if_pos w0]
          exact bnd c1 _
        · rw [if_neg w0, if_neg w0]
          exact bnd c2 _
      · right
        refine ⟨(), fun j hj => ?_, ?_⟩
        · by_cases y : j = k
          · subst y; exact q1
          · exact hI j (by omega)
        · show x_X9_skippers_L162 (fuel + 1) _ _ _ (nI k) N1 = x_X9_skippers_L162 fuel _ _ _ (nI (k + 1)) N1
          rw [x_X9_skippers_L162, if_neg (show ¬ (25 : Int32) ≤ nI k from nI_ge hk (by decide)), nI_succ]
          refine (bnd q2 _).trans ?_
          dsimp only
          rw [if_pos rfl]
  have go : ∀ r M2, x_X9_skippers_L162 g_F w (nI u) (nI v) 0 N1 = some (r, M2) → x_X9_skippers (nI a) (nI b) w N = some (r, M2) := by
    intro r M2 q
    have g3 : x_X9_isIn w 0 1 N = some (1, N) := by rw [py_isIn, if_pos w3]
    rw [x_X9_skippers]
    refine (bnd y1 _).trans ?_
    dsimp only
    rw [if_neg (by decide)]
    refine (bnd g3 _).trans ?_
    dsimp only
    rw [if_neg (by decide), x_X9_skippers_L28, if_pos rfl, if_pos ia, if_pos ib, ca, cb, na, nb', z1]
    exact q
  refine ⟨N1, go _ _ ?_, core⟩
  rcases x6 with ⟨i, j, hi, hj, st, f1, f2, er⟩ | ⟨no, er⟩
  · have d5 := p_d5 (5 * i + j) (by omega)
    have nr : ¬ r = -9 := by
      rw [er]
      exact fun q => absurd (show (nI (5 * i + j)) < 0 by rw [q]; decide) (nI_pos (by omega))
    rw [if_neg nr, er, d5.2, d5.1, p_add, p_add, show (5 * i + j) / 5 = i by omega, show (5 * i + j) % 5 = j by omega]
    have k1 : qS f g u v (5 * (u - 2 + i + 2 - u) + (v - 2 + j + 2 - v)) := by
      rw [qS_ST (by omega) (by omega), show min 99 (u + (5 * (u - 2 + i + 2 - u) + (v - 2 + j + 2 - v)) / 5 - 2) = u - 2 + i by omega, show min 99 (v + (5 * (u - 2 + i + 2 - u) + (v - 2 + j + 2 - v)) % 5 - 2) = v - 2 + j by omega]
      exact st
    rcases search with ⟨k, hk, q1, q2, q3⟩ | ⟨q1, q2⟩
    · have s1 := (qS_ST (by omega) (by omega)).mp q1
      have a1 : ¬ min 99 (u + k / 5 - 2) < u - 2 + i := fun y => f1 (min 99 (u + k / 5 - 2) - (u - 2)) (by omega) (min 99 (v + k % 5 - 2) - (v - 2)) (by omega) (by
        rw [show u - 2 + (min 99 (u + k / 5 - 2) - (u - 2)) = min 99 (u + k / 5 - 2) by omega, show v - 2 + (min 99 (v + k % 5 - 2) - (v - 2)) = min 99 (v + k % 5 - 2) by omega]
        exact s1)
      have kk : ¬ (5 * (u - 2 + i + 2 - u) + (v - 2 + j + 2 - v)) < k := fun y => q2 _ y k1
      have a2 : min 99 (u + k / 5 - 2) = u - 2 + i := by omega
      have a3 : ¬ min 99 (v + k % 5 - 2) < v - 2 + j := fun y => f2 (min 99 (v + k % 5 - 2) - (v - 2)) (by omega) (by
        rw [show v - 2 + (min 99 (v + k % 5 - 2) - (v - 2)) = min 99 (v + k % 5 - 2) by omega, ← a2]
        exact s1)
      have a4 : min 99 (v + k % 5 - 2) = v - 2 + j := by
        have k2 : qS f g u v (5 * (k / 5) + (v - 2 + j + 2 - v)) := by
          rw [qS_ST (by omega) (by omega), show (5 * (k / 5) + (v - 2 + j + 2 - v)) / 5 = k / 5 by omega, a2, show min 99 (v + (5 * (k / 5) + (v - 2 + j + 2 - v)) % 5 - 2) = v - 2 + j by omega]
          exact st
        have kk2 : ¬ (5 * (k / 5) + (v - 2 + j + 2 - v)) < k := fun y => q2 _ y k2
        omega
      rw [q3, a2, a4]
    · exact absurd k1 (q1 _ (by omega))
  · rw [if_pos er]
    rcases search with ⟨k, hk, q1, q2, q3⟩ | ⟨q1, q2⟩
    · have s1 := (qS_ST (by omega) (by omega)).mp q1
      exact absurd (by
        rw [show u - 2 + (min 99 (u + k / 5 - 2) - (u - 2)) = min 99 (u + k / 5 - 2) by omega, show v - 2 + (min 99 (v + k % 5 - 2) - (v - 2)) = min 99 (v + k % 5 - 2) by omega]
        exact s1) (no (min 99 (u + k / 5 - 2) - (u - 2)) (min 99 (v + k % 5 - 2) - (v - 2)) (by omega) (by omega))
    · exact q2
