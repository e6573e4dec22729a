/-! THE PURE PART. Y: tended, watch, seldom -/
theorem p_loop2 {σ : Type} {n : Nat} {F : Nat → Nat → σ → Option (Int32 × g_M)} {I : Nat → σ → Prop} {R : Option (Int32 × g_M) → Prop} {s : σ} (hn : n < 19000)
    (hI : I 0 s) (hend : ∀ s fuel, I n s → R (F n (fuel + 2) s))
    (hstep : ∀ i s fuel, i < n → I i s → R (F i (fuel + 2) s) ∨ ∃ s', I (i + 1) s' ∧ F i (fuel + 2) s = F (i + 1) (fuel + 1) s') : R (F 0 g_F s) := by
  have key : ∀ (k i fuel : Nat) (s : σ), i + k = n → k + 1 < fuel → I i s → R (F i fuel s) := by
    intro k
    induction k with
    | zero =>
      intro i fuel s hi hf hI
      obtain ⟨m, rfl⟩ : ∃ m, fuel = m + 2 := ⟨fuel - 2, by omega⟩
      obtain rfl : i = n := by omega
      exact hend s m hI
    | succ k ih =>
      intro i fuel s hi hf hI
      obtain ⟨m, rfl⟩ : ∃ m, fuel = m + 2 := ⟨fuel - 2, by omega⟩
      rcases hstep i s m (by omega) hI with h | ⟨s', h1, h2⟩
      · exact h
      · rw [h2]
        exact ih (i + 1) (m + 1) s' (by omega) (by omega) h1
  exact key n 0 g_F s (by omega) (by show n + 1 < 20000; omega) hI
theorem p_good {B : Nat → Int32} (hB : okB B) {t : Int32} (ht : 0 ≤ t ∧ t ≤ 40) {v : Nat} (hv : v ≤ 99) : (¬ nI v * nI v < sN B t ∧ ¬ B 7 < sR B (nI v) t) ↔ sC B t ≤ v ∧ v ≤ sG B t := by
  rw [sC_hang hB ht (show v ≤ 127 by omega), sG_far hB ht hv]
  omega
theorem py_isGood {M : g_M} {b h v : Nat} (hb : b < 5) (hh : h < 12) (hR : okR M b) (hB : okB (rb M b)) (hT : okT (M 43)) (hv : v ≤ 99) : x_X9_isGood (nI b) (nI h) (nI v) M = some (if sC (rb M b) (M 43 h) ≤ v ∧ v ≤ sG (rb M b) (M 43 h) then 1 else 0, M) := by
  have c : (nI b).toNatClampNeg = b := nI_clamp (by omega)
  have g := p_good hB (hT h hh) hv
  rw [x_X9_isGood]
  refine (bnd (py_hangsWith hb hh hR hB (hT h hh) _) _).trans ?_
  dsimp only
  by_cases a1 : nI v * nI v < sN (rb M b) (M 43 h)
  · rw [if_pos a1, if_neg (by decide), if_neg (fun q => (g.mpr q).1 a1)]
  rw [if_neg a1, if_pos rfl]
  refine (bnd (py_outWith hb hh hR hB (hT h hh) (nI_99 hv).1 (nI_99 hv).2) _).trans ?_
  dsimp only
  rw [if_pos (p_inb hb (by decide)), c]
  by_cases a2 : rb M b 7 < sR (rb M b) (nI v) (M 43 h)
  · rw [if_neg (fun q => (g.mpr q).2 a2)]
    exact if_pos a2
  · rw [if_pos (g.mp ⟨a1, a2⟩)]
    exact if_neg a2
/-- good at all HOURS from one on -/
def p_ag (lo hi : Nat → Nat) (a n v : Nat) : Bool := decide (mxa lo a n ≤ v ∧ v ≤ mna hi a n)
theorem p_ag_iff {lo hi : Nat → Nat} {a n v : Nat} (hv : v ≤ 99) : p_ag lo hi a n v = true ↔ ∀ i, i < n → lo (a + i) ≤ v ∧ v ≤ hi (a + i) := by
  unfold p_ag
  rw [decide_eq_true_eq, mxa_le, le_mna]
  exact ⟨fun q i hi => ⟨q.1 i hi, q.2.2 i hi⟩, fun q => ⟨fun i hi => (q i hi).1, hv, fun i hi => (q i hi).2⟩⟩
theorem ff_ag {lo hi : Nat → Nat} {a n : Nat} (r : Nat → Int32) (d : Int32) : ff (p_ag lo hi a n) r d 100 0 = if mxa lo a n ≤ mna hi a n then r (mxa lo a n) else d := by
  have m99 : mna hi a n ≤ 99 := ((le_mna n).mp (Nat.le_refl _)).1
  rcases ff_spec (p_ag lo hi a n) r d 100 with ⟨i, h1, h2, h3, h4⟩ | ⟨h1, h2⟩
  · have q := of_decide_eq_true h2
    rw [if_pos (by omega), h4]
    congr 1
    rcases Nat.lt_or_ge (mxa lo a n) i with z | z
    · have := h3 _ z
      unfold p_ag at this
      rw [decide_eq_false_iff_not] at this
      omega
    · omega
  · rw [h2, if_neg]
    intro q
    have := h1 (mxa lo a n) (by omega)
    unfold p_ag at this
    rw [decide_eq_false_iff_not] at this
    omega
theorem py_isTended {M : g_M} {b a t : Nat} (hb : b < 5) (hat : a ≤ t) (ht : t < 12) (hR : okR M b) (hB : okB (rb M b)) (hT : okT (M 43)) : x_X9_isTended (nI b) (nI a) (nI t) M = some (if mxa (fun k => sC (rb M b) (M 43 k)) a (t + 1 - a) ≤ mna (fun k => sG (rb M b) (M 43 k)) a (t + 1 - a) then 1 else 0, M) := by
  let pp : Nat → Bool := p_ag (fun k => sC (rb M b) (M 43 k)) (fun k => sG (rb M b) (M 43 k)) a (t + 1 - a)
  have pv : ∀ v, v ≤ 99 → (pp v = true ↔ ∀ i, i < t + 1 - a → sC (rb M b) (M 43 (a + i)) ≤ v ∧ v ≤ sG (rb M b) (M 43 (a + i))) := fun v hv => p_ag_iff hv
  rw [← ff_ag (lo := fun k => sC (rb M b) (M 43 k)) (hi := fun k => sG (rb M b) (M 43 k)) (fun _ => 1) 0]
  show _ = some (ff pp _ _ 100 0, M)
  clear_value pp
  have cb : (nI b).toNatClampNeg = b := nI_clamp (by omega)
  unfold x_X9_isTended
  refine p_find (F := fun i fuel => x_X9_isTended_L3 fuel (nI b) (nI a) (nI t) (nI i) M) (by decide) (fun fuel => ?_) (fun v fuel hv => ?_)
  · show x_X9_isTended_L3 (fuel + 1) _ _ _ (nI 100) M = _
    rw [x_X9_isTended_L3, if_pos (by decide)]
  · show x_X9_isTended_L3 (fuel + 1) _ _ _ (nI v) M = (if pp v = true then some ((1 : Int32), M) else x_X9_isTended_L3 fuel (nI b) (nI a) (nI t) (nI (v + 1)) M)
    rw [x_X9_isTended_L3, if_neg (p_99 hv)]
    generalize x_X9_isTended_L3 fuel = k3
    refine p_loop2 (n := t + 1 - a) (F := fun i fuel (_ : Unit) => x_X9_isTended_L16 k3 fuel (nI b) (nI a) (nI t) (nI v) 1 (nI (a + i)) M) (I := fun i _ => ∀ j, j < i → sC (rb M b) (M 43 (a + j)) ≤ v ∧ v ≤ sG (rb M b) (M 43 (a + j))) (R := fun r => r = (if pp v = true then some ((1 : Int32), M) else k3 (nI b) (nI a) (nI t) (nI (v + 1)) M)) (s := ()) (by omega) (fun j hj => absurd hj (by omega)) ?_ ?_
    · intro _ fuel hI
      show x_X9_isTended_L16 k3 (fuel + 2) _ _ _ _ _ (nI (a + (t + 1 - a))) M = _
      rw [x_X9_isTended_L16, if_pos ((p_lt (by omega) (by omega)).mpr (by omega)), if_neg (by decide), if_pos ((pv v (by omega)).mpr hI)]
    · intro i _ fuel hi hI
      show x_X9_isTended_L16 k3 (fuel + 2) _ _ _ _ _ (nI (a + i)) M = _ ∨ ∃ _, _ ∧ x_X9_isTended_L16 k3 (fuel + 2) _ _ _ _ _ (nI (a + i)) M = _
      have hh : a + i < 12 := by omega
      have g := p_good hB (hT (a + i) hh) (show v ≤ 99 by omega)
      have e0 : x_X9_isTended_L16 k3 (fuel + 2) (nI b) (nI a) (nI t) (nI v) 1 (nI (a + i)) M = if sC (rb M b) (M 43 (a + i)) ≤ v ∧ v ≤ sG (rb M b) (M 43 (a + i)) then x_X9_isTended_L16 k3 (fuel + 1) (nI b) (nI a) (nI t) (nI v) 1 (nI (a + (i + 1))) M else x_X9_isTended_L16 k3 (fuel + 1) (nI b) (nI a) (nI t) (nI v) 0 (nI (a + (i + 1))) M := by
        rw [x_X9_isTended_L16, if_neg (fun q => absurd ((p_lt (by omega) (by omega)).mp q) (by omega)), if_neg (by decide)]
        refine (bnd (py_hangsWith hb hh hR hB (hT _ hh) _) _).trans ?_
        dsimp only
        rw [← nI_succ, ← Nat.add_assoc]
        by_cases a1 : nI v * nI v < sN (rb M b) (M 43 (a + i))
        · rw [if_pos a1, if_neg (by decide), if_neg (fun q => (g.mpr q).1 a1)]
        rw [if_neg a1, if_pos rfl]
        refine (bnd (py_outWith hb hh hR hB (hT _ hh) (nI_99 (by omega)).1 (nI_99 (by omega)).2) _).trans ?_
        dsimp only
        rw [if_pos (p_inb hb (by decide)), cb]
        by_cases a2 : rb M b 7 < sR (rb M b) (nI v) (M 43 (a + i))
        · rw [if_neg (fun q => (g.mpr q).2 a2)]
          exact if_pos a2
        · rw [if_pos (g.mp ⟨a1, a2⟩)]
          exact if_neg a2
      rw [e0]
      by_cases z : sC (rb M b) (M 43 (a + i)) ≤ v ∧ v ≤ sG (rb M b) (M 43 (a + i))
      · right
        refine ⟨(), fun j hj => ?_, if_pos z⟩
        by_cases y : j = i
        · subst y; exact z
        · exact hI j (by omega)
      · left
        rw [if_neg z, if_neg (fun q => z ((pv v (by omega)).mp q i hi)), x_X9_isTended_L16]
        rw [nI_succ v]
        split
        · rw [if_pos rfl]
        · rw [if_pos rfl, if_pos rfl]
theorem py_leastGood {M : g_M} {b a e : Nat} (hb : b < 5) (ha : a ≤ 12) (he : e ≤ 1000) (hR : okR M b) (hB : okB (rb M b)) (hT : okT (M 43)) : x_X9_leastGood (nI b) (nI a) (nI e) M = some (if mxa (fun k => sC (rb M b) (M 43 k)) a (min e 12 - a) ≤ mna (fun k => sG (rb M b) (M 43 k)) a (min e 12 - a) then nI (mxa (fun k => sC (rb M b) (M 43 k)) a (min e 12 - a)) else -9, M) := by
  let pp : Nat → Bool := p_ag (fun k => sC (rb M b) (M 43 k)) (fun k => sG (rb M b) (M 43 k)) a (min e 12 - a)
  have pv : ∀ v, v ≤ 99 → (pp v = true ↔ ∀ i, i < min e 12 - a → sC (rb M b) (M 43 (a + i)) ≤ v ∧ v ≤ sG (rb M b) (M 43 (a + i))) := fun v hv => p_ag_iff hv
  rw [← ff_ag (lo := fun k => sC (rb M b) (M 43 k)) (hi := fun k => sG (rb M b) (M 43 k)) nI (-9)]
  show _ = some (ff pp _ _ 100 0, M)
  clear_value pp
  unfold x_X9_leastGood
  refine p_find (F := fun i fuel => x_X9_leastGood_L3 fuel (nI b) (nI a) (nI e) (nI i) M) (by decide) (fun fuel => ?_) (fun v fuel hv => ?_)
  · show x_X9_leastGood_L3 (fuel + 1) _ _ _ (nI 100) M = _
    rw [x_X9_leastGood_L3, if_pos (by decide)]
  · show x_X9_leastGood_L3 (fuel + 1) _ _ _ (nI v) M = (if pp v = true then some (nI v, M) else x_X9_leastGood_L3 fuel (nI b) (nI a) (nI e) (nI (v + 1)) M)
    rw [x_X9_leastGood_L3, if_neg (p_99 hv)]
    generalize x_X9_leastGood_L3 fuel = k3
    refine p_loop2 (n := min e 12 - a) (F := fun i fuel (_ : Unit) => x_X9_leastGood_L16 k3 fuel (nI b) (nI a) (nI e) (nI v) 1 (nI (a + i)) M) (I := fun i _ => ∀ j, j < i → sC (rb M b) (M 43 (a + j)) ≤ v ∧ v ≤ sG (rb M b) (M 43 (a + j))) (R := fun r => r = (if pp v = true then some (nI v, M) else k3 (nI b) (nI a) (nI e) (nI (v + 1)) M)) (s := ()) (by omega) (fun j hj => absurd hj (by omega)) ?_ ?_
    · intro _ fuel hI
      show x_X9_leastGood_L16 k3 (fuel + 2) _ _ _ _ _ (nI (a + (min e 12 - a))) M = _
      rw [x_X9_leastGood_L16, if_pos ((pv v (by omega)).mpr hI)]
      by_cases z : e ≤ a + (min e 12 - a)
      · rw [if_pos ((p_le (by omega) (by omega)).mpr z), if_neg (by decide)]
      · rw [if_neg (fun q => z ((p_le (by omega) (by omega)).mp q)), if_pos (p_12 (by omega) (by omega)), if_neg (by decide)]
    · intro i _ fuel hi hI
      show x_X9_leastGood_L16 k3 (fuel + 2) _ _ _ _ _ (nI (a + i)) M = _ ∨ ∃ _, _ ∧ x_X9_leastGood_L16 k3 (fuel + 2) _ _ _ _ _ (nI (a + i)) M = _
      have hh : a + i < 12 := by omega
      have e0 : x_X9_leastGood_L16 k3 (fuel + 2) (nI b) (nI a) (nI e) (nI v) 1 (nI (a + i)) M = x_X9_leastGood_L16 k3 (fuel + 1) (nI b) (nI a) (nI e) (nI v) (if sC (rb M b) (M 43 (a + i)) ≤ v ∧ v ≤ sG (rb M b) (M 43 (a + i)) then 1 else 0) (nI (a + (i + 1))) M := by
        rw [x_X9_leastGood_L16, if_neg (fun q => absurd ((p_le (by omega) (by omega)).mp q) (by omega)), if_neg (p_n12 hh), if_neg (by decide)]
        refine (bnd (py_isGood hb hh hR hB hT (show v ≤ 99 by omega)) _).trans ?_
        dsimp only
        rw [← nI_succ, ← Nat.add_assoc]
      rw [e0]
      by_cases z : sC (rb M b) (M 43 (a + i)) ≤ v ∧ v ≤ sG (rb M b) (M 43 (a + i))
      · right
        refine ⟨(), fun j hj => ?_, by rw [if_pos z]⟩
        by_cases y : j = i
        · subst y; exact z
        · exact hI j (by omega)
      · left
        rw [if_neg z, if_neg (fun q => z ((pv v (by omega)).mp q i hi)), x_X9_leastGood_L16]
        rw [nI_succ v]
        split
        · rw [if_pos rfl]
        · split
          · rw [if_pos rfl]
          · rw [if_pos rfl, if_pos rfl]
/-! tended -/
def td (lo hi : Nat → Nat) : Nat → Nat → Nat → Int32 → Int32
  | 0, _, _, b => b
  | k + 1, h, s, b => if lo h ≤ hi h then (if mxa lo s (h + 1 - s) ≤ mna hi s (h + 1 - s) then td lo hi k (h + 1) s b else td lo hi k (h + 1) h (b ||| ((1 : Int32) <<< (nI h &&& 31)))) else -9
theorem isS_or {b : Int32} (hb : isS b) {h : Nat} (hh : h < 12) : isS (b ||| ((1 : Int32) <<< (nI h &&& 31))) := by
  obtain ⟨k, hk, rfl⟩ := hb
  rw [p_shl h hh, p_or]
  exact ⟨_, Nat.or_lt_two_pow (n := 12) hk (Nat.pow_lt_pow_right (by decide) hh), rfl⟩
theorem td_S (lo hi : Nat → Nat) : ∀ k h s b, h + k = 12 → isS b → td lo hi k h s b = -9 ∨ isS (td lo hi k h s b) := by
  intro k
  induction k with
  | zero => intro h s b _ hb; exact Or.inr hb
  | succ k ih =>
    intro h s b hk hb
    rw [td]
    split
    · split
      · exact ih (h + 1) s b (by omega) hb
      · exact ih (h + 1) h _ (by omega) (isS_or hb (by omega))
    · exact Or.inl rfl
theorem px_changed {N : g_M} {lo hi : Nat → Nat} (h : Lm N lo hi) : x_X4_hoursChanged N = some (td lo hi 12 0 0 0, N) := by
  have key : ∀ k t s b fuel, t + k = 12 → s ≤ t → k < fuel → x_X4_hoursChanged_L6 fuel b (nI s) (nI t) N = some (td lo hi k t s b, N) := by
    intro k
    induction k with
    | zero =>
      intro t s b fuel ht hs hf
      obtain ⟨m, rfl⟩ : ∃ m, fuel = m + 1 := ⟨fuel - 1, by omega⟩
      obtain rfl : t = 12 := by omega
      rw [x_X4_hoursChanged_L6, if_pos (by decide)]
      rfl
    | succ k ih =>
      intro t s b fuel ht hs hf
      obtain ⟨m, rfl⟩ : ∃ m, fuel = m + 1 := ⟨fuel - 1, by omega⟩
      have bt := p_inb (show t < 12 by omega) (by decide : (12 : Nat) < 2 ^ 31)
      have c : (nI t).toNatClampNeg = t := nI_clamp (by omega)
      obtain ⟨q1, q2, q3, q4⟩ := h t (by omega)
      obtain ⟨l1, l2⟩ := px_leastFrom h (a := s) (e := t + 1) (by omega) (by omega)
      obtain ⟨g1, g2⟩ := px_greatestFrom h (a := s) (e := t + 1) (by omega) (by omega)
      rw [show min (t + 1) 12 - s = t + 1 - s by omega] at l1 l2 g1 g2
      rw [x_X4_hoursChanged_L6, if_neg (p_n12 (by omega)), if_pos bt, if_pos bt, c, q1, q2, td]
      by_cases z : lo t ≤ hi t
      · rw [if_pos ((p_le (by omega) (by omega)).mpr z), if_pos z, ← nI_succ]
        refine (bnd l1 _).trans ?_
        refine (bnd g1 _).trans ?_
        dsimp only
        by_cases y : mxa lo s (t + 1 - s) ≤ mna hi s (t + 1 - s)
        · rw [if_pos ((p_le (by omega) (by omega)).mpr y), if_pos y]
          exact ih (t + 1) s b m (by omega) (by omega) (by omega)
        · rw [if_neg (fun q => y ((p_le (by omega) (by omega)).mp q)), if_neg y]
          exact ih (t + 1) t _ m (by omega) (by omega) (by omega)
      · rw [if_neg (fun q => z ((p_le (by omega) (by omega)).mp q)), if_neg z]
  exact key 12 0 0 0 g_F (by omega) (by omega) (by decide)
theorem py_tendedH {M : g_M} {b : Nat} (hb : b < 5) (hR : okR M b) (hB : okB (rb M b)) (hT : okT (M 43)) : x_X9_tendedHours (nI b) M = some (td (fun k => sC (rb M b) (M 43 k)) (fun k => sG (rb M b) (M 43 k)) 12 0 0 0, M) := by
  have key : ∀ k t s w fuel, t + k = 12 → s ≤ t → k < fuel → x_X9_tendedHours_L7 fuel (nI b) (nI s) w (nI t) M = some (td (fun k => sC (rb M b) (M 43 k)) (fun k => sG (rb M b) (M 43 k)) k t s w, M) := by
    intro k
    induction k with
    | zero =>
      intro t s w fuel ht hs hf
      obtain ⟨m, rfl⟩ : ∃ m, fuel = m + 1 := ⟨fuel - 1, by omega⟩
      obtain rfl : t = 12 := by omega
      rw [x_X9_tendedHours_L7, if_pos (by decide)]
      rfl
    | succ k ih =>
      intro t s w fuel ht hs hf
      obtain ⟨m, rfl⟩ : ∃ m, fuel = m + 1 := ⟨fuel - 1, by omega⟩
      have t1 := py_isTended (a := t) (t := t) hb (Nat.le_refl _) (by omega) hR hB hT
      have t2 := py_isTended (a := s) (t := t) hb hs (by omega) hR hB hT
      have e1 : mxa (fun k => sC (rb M b) (M 43 k)) t (t + 1 - t) ≤ mna (fun k => sG (rb M b) (M 43 k)) t (t + 1 - t) ↔ sC (rb M b) (M 43 t) ≤ sG (rb M b) (M 43 t) := by
        rw [show t + 1 - t = 1 by omega]
        show max 0 (sC (rb M b) (M 43 (t + 0))) ≤ min 99 (sG (rb M b) (M 43 (t + 0))) ↔ _
        rw [Nat.add_zero]
        have := sG_99 (rb M b) (M 43 t)
        omega
      rw [x_X9_tendedHours_L7, if_neg (p_n12 (by omega)), td]
      refine (bnd t1 _).trans ?_
      dsimp only
      by_cases z : sC (rb M b) (M 43 t) ≤ sG (rb M b) (M 43 t)
      · rw [if_pos (e1.mpr z), if_neg (by decide), if_pos z]
        refine (bnd t2 _).trans ?_
        dsimp only
        rw [← nI_succ]
        by_cases y : mxa (fun k => sC (rb M b) (M 43 k)) s (t + 1 - s) ≤ mna (fun k => sG (rb M b) (M 43 k)) s (t + 1 - s)
        · rw [if_pos y, if_neg (by decide), if_pos y]
          exact ih (t + 1) s w m (by omega) (by omega) (by omega)
        · rw [if_neg y, if_pos rfl, if_neg y]
          exact ih (t + 1) t _ m (by omega) (by omega) (by omega)
      · rw [if_neg (fun q => z (e1.mp q)), if_pos rfl, if_neg z]
  exact key 12 0 0 0 g_F (by omega) (by omega) (by decide)
theorem op_tended (p w : Int32) : opOK (x_X8_tended p w) (x_X9_tended p w) := by
  intro M h
  by_cases hp : 0 ≤ p ∧ p < M 1 6
  rotate_left
  · exact op_ref h (k := 1) (r := -nI 1) (by decide) (by simp [x_X8_tended, px_hasBoat, hp, n1, px_refused]) (fun M1 hc => by simp [x_X9_tended, noB h hp hc, n1, py_no])
  by_cases w2 : 0 ≤ w ∧ w < 2
  rotate_left
  · have w3 : ¬ (0 ≤ w ∧ w ≤ 1) := fun q => w2 ⟨q.1, by have := q.2; grind⟩
    exact op_ref h (k := 2) (r := -nI 2) (by decide) (by simp [x_X8_tended, px_hasBoat, hp, px_isOneOf, w2, n2, px_refused]) (fun M1 hc => by simp [x_X9_tended, yesB h hp hc, py_isIn, w3, n2, py_no])
  have w3 : 0 ≤ w ∧ w ≤ 1 := ⟨w2.1, by have := w2.2; grind⟩
  obtain ⟨b, rfl, hb, hb1, hb2, hR, hB⟩ := bo h hp
  obtain ⟨M', N, e1, m1, hs, hN, hL⟩ := lxm h hb1 hb hB
  have g1 : x_X2_hasBoat 1 (nI b) M = some (1, M) := by rw [px_hasBoat, if_pos hp]
  have g2 : x_X8_isOneOf w 2 M = some (1, M) := by rw [px_isOneOf, if_pos w2]
  have ch := px_changed hL
  have yt : ∀ N : g_M, (∀ c, 41 ≤ c → N c = M c) → x_X9_tendedHours (nI b) N = some (td (fun k => sC (rb M b) (M 43 k)) (fun k => sG (rb M b) (M 43 k)) 12 0 0 0, N) := fun N hc => by
    obtain ⟨r1, r2, r3, r4, r5, r6⟩ := rby h hc hb2 hb hR hB
    have y := py_tendedH hb r1 r2 r3
    rw [r4, r5] at y
    exact y
  have tS := td_S (fun k => sC (rb M b) (M 43 k)) (fun k => sG (rb M b) (M 43 k)) 12 0 0 0 (by omega) ⟨0, by decide, rfl⟩
  generalize td (fun k => sC (rb M b) (M 43 k)) (fun k => sG (rb M b) (M 43 k)) 12 0 0 0 = v at ch yt tS
  have hx : x_X8_tended (nI b) w M = some (if w = 0 then (if v = -9 then v else bc v) else v, N) := by
    rw [x_X8_tended]
    refine (bnd g1 _).trans ?_
    dsimp only
    rw [if_neg (by decide)]
    refine (bnd g2 _).trans ?_
    dsimp only
    rw [if_neg (by decide)]
    refine (bnd e1 _).trans ?_
    refine (bnd m1 _).trans ?_
    refine (bnd ch _).trans ?_
    dsimp only
    by_cases w0 : w = 0
    · rw [if_pos w0, if_pos w0]
      by_cases z : v = -9
      · rw [if_pos z, if_pos z]
      · rw [if_neg z, if_neg z]
        rfl
    · rw [if_neg w0, if_neg w0]
  refine op_ask h hx hs fun h1 hc => ⟨N, ?_, coreEq_rf _⟩
  have g3 : x_X9_isIn w 0 1 N = some (1, N) := by rw [py_isIn, if_pos w3]
  rw [x_X9_tended]
  refine (bnd (yesB h hp hc) _).trans ?_
  dsimp only
  rw [if_neg (by decide)]
  refine (bnd g3 _).trans ?_
  dsimp only
  rw [if_neg (by decide)]
  refine (bnd (yt N hc) _).trans ?_
  dsimp only
  rcases tS with z | z
  · rw [z, if_pos (by decide), if_pos rfl]
    split <;> rfl
  · have n0 : ¬ v < 0 := by
      obtain ⟨k, hk, rfl⟩ := z
      exact nI_pos (by omega)
    have n9 : ¬ v = -9 := by rintro rfl; exact n0 (by decide)
    rw [if_neg n0, if_neg n9]
    by_cases w0 : w = 0
    · rw [if_neg (by rw [w0]; decide), if_pos w0]
      refine (bnd (py_bits z N) _).trans ?_
      rfl
    · have w1 : w = 1 := by have := w3.1; have := w3.2; grind
      rw [if_pos w1, if_neg w0]
/-! watch, seldom -/
def wc (lo hi : Nat → Nat) (k : Nat) : Nat → Nat → Nat → Nat → Int32
  | 0, _, n, _ => nI n
  | r + 1, j, n, held => if mxa lo (j * k) (min (j * k + k) 12 - j * k) ≤ mna hi (j * k) (min (j * k + k) 12 - j * k) then wc lo hi k r (j + 1) (if 0 < j ∧ ¬ mxa lo (j * k) (min (j * k + k) 12 - j * k) = held then n + 1 else n) (mxa lo (j * k) (min (j * k + k) 12 - j * k)) else -9
theorem wc_b (lo hi : Nat → Nat) (k : Nat) : ∀ r j n held, wc lo hi k r j n held = -9 ∨ ∃ m, m ≤ n + r ∧ wc lo hi k r j n held = nI m := by
  intro r
  induction r with
  | zero => intro j n held; exact Or.inr ⟨n, by omega, rfl⟩
  | succ r ih =>
    intro j n held
    rw [wc]
    split
    · rcases ih (j + 1) (if 0 < j ∧ ¬ mxa lo (j * k) (min (j * k + k) 12 - j * k) = held then n + 1 else n) (mxa lo (j * k) (min (j * k + k) 12 - j * k)) with q | ⟨m, hm, q⟩
      · exact Or.inl q
      · refine Or.inr ⟨m, ?_, q⟩
        split at hm <;> omega
    · exact Or.inl rfl
theorem p_blk : ∀ k, k < 7 → 1 ≤ k → 12 ≤ (11 + k) / k * k ∧ (11 + k) / k ≤ 12 ∧ 1 ≤ (11 + k) / k ∧ (11 + k) / k * k ≤ 20 ∧ ∀ j, j < 12 → j < (11 + k) / k → j * k < 12 := by decide
theorem px_each {N : g_M} {lo hi : Nat → Nat} (h : Lm N lo hi) {k : Nat} (h1 : 1 ≤ k) (h6 : k ≤ 6) : x_X4_changesEach (nI k) N = some (wc lo hi k ((11 + k) / k) 0 0 0, N) := by
  obtain ⟨b1, b2, b3, b4, b5⟩ := p_blk k (by omega) h1
  generalize (11 + k) / k = nb at *
  have key : ∀ r j n held fuel, j + r = nb → n ≤ j → held ≤ 99 → r < fuel → x_X4_changesEach_L7 fuel (nI k) (nI n) (nI held) (nI (j * k)) N = some (wc lo hi k r j n held, N) := by
    intro r
    induction r with
    | zero =>
      intro j n held fuel hj hn hh hf
      obtain ⟨m, rfl⟩ : ∃ m, fuel = m + 1 := ⟨fuel - 1, by omega⟩
      obtain rfl : j = nb := by omega
      rw [x_X4_changesEach_L7, if_pos (p_12 b1 (by omega))]
      rfl
    | succ r ih =>
      intro j n held fuel hj hn hh hf
      obtain ⟨m, rfl⟩ : ∃ m, fuel = m + 1 := ⟨fuel - 1, by omega⟩
      have jk := b5 j (by omega) (by omega)
      have sj : j * k + k = (j + 1) * k := by rw [Nat.add_mul, Nat.one_mul]
      obtain ⟨l1, l2⟩ := px_leastFrom h (a := j * k) (e := j * k + k) (by omega) (by omega)
      obtain ⟨g1, g2⟩ := px_greatestFrom h (a := j * k) (e := j * k + k) (by omega) (by omega)
      have mk : g_max 1 (nI k) = nI k := by rw [show (1 : Int32) = nI 1 from rfl, p_max (by decide) (by omega), Nat.max_eq_right h1]
      rw [x_X4_changesEach_L7, if_neg (p_n12 jk), p_add, wc]
      refine (bnd l1 _).trans ?_
      refine (bnd g1 _).trans ?_
      dsimp only
      generalize mxa lo (j * k) (min (j * k + k) 12 - j * k) = A at l2 ⊢
      generalize mna hi (j * k) (min (j * k + k) 12 - j * k) = G at g2 ⊢
      by_cases z : A ≤ G
      · rw [if_pos ((p_le (by omega) (by omega)).mpr z), if_pos z]
        by_cases j0 : j = 0
        · subst j0
          rw [if_pos (by rw [Nat.zero_mul]; decide), if_neg (fun q => absurd q.1 (by decide)), x_X4_changesEach_L58, mk, p_add, sj]
          exact ih (0 + 1) n A m (by omega) (by omega) (by omega) (by omega)
        · have p1 : 1 ≤ j * k := Nat.mul_pos (by omega) h1
          rw [if_neg (nI_nle (by omega) (by omega))]
          by_cases y : A = held
          · rw [if_pos (by rw [y]), if_neg (fun q => q.2 y), x_X4_changesEach_L58, mk, p_add, sj]
            exact ih (j + 1) n A m (by omega) (by omega) (by omega) (by omega)
          · rw [if_neg (fun q => y ((p_eq (by omega) (by omega)).mp q)), if_pos ⟨by omega, y⟩, x_X4_changesEach_L58, mk, p_add, sj, ← nI_succ]
            exact ih (j + 1) (n + 1) A m (by omega) (by omega) (by omega) (by omega)
      · rw [if_neg (fun q => z ((p_le (by omega) (by omega)).mp q)), if_neg z]
  unfold x_X4_changesEach
  have q := key nb 0 0 0 g_F (by omega) (by omega) (by omega) (by show nb < 20000; omega)
  rw [Nat.zero_mul] at q
  exact q
theorem py_watchBy {M : g_M} {b : Nat} (hb : b < 5) (hR : okR M b) (hB : okB (rb M b)) (hT : okT (M 43)) {k : Nat} (h1 : 1 ≤ k) (h6 : k ≤ 6) : x_X9_watchBy (nI b) (nI k) M = some (wc (fun k => sC (rb M b) (M 43 k)) (fun k => sG (rb M b) (M 43 k)) k ((11 + k) / k) 0 0 0, M) := by
  obtain ⟨b1, b2, b3, b4, b5⟩ := p_blk k (by omega) h1
  have lo99 : ∀ a n, a + n ≤ 12 → mxa (fun k => sC (rb M b) (M 43 k)) a n ≤ 99 := fun a n han => (mxa_le n).mpr fun i hi => by
    have := sC_79 hB (hT (a + i) (by omega))
    show sC (rb M b) (M 43 (a + i)) ≤ 99
    omega
  have lg := fun (a e : Nat) (ha : a ≤ 12) (he : e ≤ 1000) => py_leastGood (a := a) (e := e) hb ha he hR hB hT
  generalize (fun k => sC (rb M b) (M 43 k)) = lo at *
  generalize (fun k => sG (rb M b) (M 43 k)) = hi at *
  generalize (11 + k) / k = nb at *
  have bad : ∀ n t fuel, x_X9_watchBy_L14 (fuel + 1) (nI b) (nI k) (-9) n t M = some (-9, M) := by
    intro n t fuel
    rw [x_X9_watchBy_L14]
    split
    · rw [if_neg (by decide)]
    · rw [if_pos (by decide), if_neg (by decide)]
  have key : ∀ r j n held fuel, j + r = nb → 1 ≤ j → n ≤ j → held ≤ 99 → r + 1 < fuel → x_X9_watchBy_L14 fuel (nI b) (nI k) (nI held) (nI n) (nI (j * k)) M = some (wc lo hi k r j n held, M) := by
    intro r
    induction r with
    | zero =>
      intro j n held fuel hj h1' hn hh hf
      obtain ⟨m, rfl⟩ : ∃ m, fuel = m + 1 := ⟨fuel - 1, by omega⟩
      obtain rfl : j = nb := by omega
      rw [x_X9_watchBy_L14, if_pos (p_12 b1 (by omega)), if_pos (p_ge0 (by omega))]
      rfl
    | succ r ih =>
      intro j n held fuel hj h1' hn hh hf
      obtain ⟨m, rfl⟩ : ∃ m, fuel = m + 2 := ⟨fuel - 2, by omega⟩
      have jk := b5 j (by omega) (by omega)
      have sj : j * k + k = (j + 1) * k := by rw [Nat.add_mul, Nat.one_mul]
      have l := lg (j * k) (j * k + k) (by omega) (by omega)
      have l99 := lo99 (j * k) (min (j * k + k) 12 - j * k) (by omega)
      rw [x_X9_watchBy_L14, if_neg (p_n12 jk), if_neg (nI_pos (by omega)), p_add, wc]
      refine (bnd l _).trans ?_
      dsimp only
      generalize mxa lo (j * k) (min (j * k + k) 12 - j * k) = A at l99 ⊢
      generalize mna hi (j * k) (min (j * k + k) 12 - j * k) = G
      by_cases z : A ≤ G
      · rw [if_pos z, if_pos z]
        by_cases y : A = held
        · rw [if_pos (by rw [y]), if_neg (fun q => q.2 y), x_X9_watchBy_L51, p_add, sj, show nI n + 0 = nI n by grind]
          exact ih (j + 1) n A (m + 1) (by omega) (by omega) (by omega) (by omega) (by omega)
        · rw [if_neg (fun q => y ((p_eq (by omega) (by omega)).mp q)), if_pos ⟨by omega, y⟩, x_X9_watchBy_L51, p_add, sj, ← nI_succ]
          exact ih (j + 1) (n + 1) A (m + 1) (by omega) (by omega) (by omega) (by omega) (by omega)
      · have ne : ¬ (-9 : Int32) = nI held := fun q => by
          have : 0 ≤ nI held := p_ge0 (by omega)
          rw [← q] at this
          exact absurd this (by decide)
        rw [if_neg z, if_neg z, if_neg ne, x_X9_watchBy_L51]
        exact bad _ _ m
  unfold x_X9_watchBy
  have l := lg 0 k (by omega) (by omega)
  have l99 := lo99 0 (min k 12 - 0) (by omega)
  refine (bnd l _).trans ?_
  dsimp only
  obtain ⟨r, hr⟩ : ∃ r, nb = r + 1 := ⟨nb - 1, by omega⟩
  rw [hr, wc, Nat.zero_mul, Nat.zero_add]
  generalize mxa lo 0 (min k 12 - 0) = A at l99 ⊢
  generalize mna hi 0 (min k 12 - 0) = G
  by_cases z : A ≤ G
  · rw [if_pos z, if_pos z, if_neg (fun q => absurd q.1 (by decide))]
    have q := key r 1 0 A g_F (by omega) (by omega) (by omega) l99 (by show r + 1 < 20000; omega)
    rw [Nat.one_mul] at q
    exact q
  · rw [if_neg z, if_neg z]
    exact bad _ _ 19999
theorem op_watch (p k : Int32) : opOK (x_X8_watch p k) (x_X9_watch p k) := by
  intro M h
  by_cases hp : 0 ≤ p ∧ p < M 1 6
  rotate_left
  · exact op_ref h (k := 1) (r := -nI 1) (by decide) (by simp [x_X8_watch, px_hasBoat, hp, n1, px_refused]) (fun M1 hc => by simp [x_X9_watch, x_X9_watch_L19, noB h hp hc, n1, nz1, py_no])
  by_cases k1 : 1 ≤ k
  rotate_left
  · have hv : k < 1 := by rw [← Int32.not_le]; exact k1
    exact op_ref h (k := 4) (r := -nI 4) (by decide) (by simp [x_X8_watch, px_hasBoat, hp, k1, n4, px_refused]) (fun M1 hc => by simp [x_X9_watch, x_X9_watch_L19, yesB h hp hc, py_bound, hv, n4, nz4, py_no])
  have hv : ¬ k < 1 := by rw [Int32.not_lt]; exact k1
  by_cases k6 : k ≤ 6
  rotate_left
  · have hv2 : 6 < k := by rw [← Int32.not_le]; exact k6
    exact op_ref h (k := 6) (r := -nI 6) (by decide) (by simp [x_X8_watch, px_hasBoat, hp, k1, k6, n6, px_refused]) (fun M1 hc => by simp [x_X9_watch, x_X9_watch_L19, yesB h hp hc, py_bound, hv, hv2, n6, nz6, py_no])
  have hv2 : ¬ 6 < k := by rw [Int32.not_lt]; exact k6
  obtain ⟨j, hj, rfl⟩ := p_in (i := k) (n := 7) (by decide) (by grind) (show k < 7 by grind)
  have j1 : 1 ≤ j := (p_le (a := 1) (by decide) (by omega)).mp k1
  obtain ⟨b, rfl, hb, hb1, hb2, hR, hB⟩ := bo h hp
  obtain ⟨M', N, e1, m1, hs, hN, hL⟩ := lxm h hb1 hb hB
  have g1 : x_X2_hasBoat 1 (nI b) M = some (1, M) := by rw [px_hasBoat, if_pos hp]
  have hx : x_X8_watch (nI b) (nI j) M = some (wc (fun k => sC (rb M b) (M 43 k)) (fun k => sG (rb M b) (M 43 k)) j ((11 + j) / j) 0 0 0, N) := by
    rw [x_X8_watch]
    refine (bnd g1 _).trans ?_
    dsimp only
    rw [if_neg (by decide), if_pos k1, if_pos k6]
    refine (bnd e1 _).trans ?_
    refine (bnd m1 _).trans ?_
    refine (bnd (px_each hL j1 (by omega)) _).trans ?_
    rfl
  refine op_ask h hx hs fun h1 hc => ⟨N, ?_, coreEq_rf _⟩
  obtain ⟨r1, r2, r3, r4, r5, r6⟩ := rby h hc hb2 hb hR hB
  have y := py_watchBy hb r1 r2 r3 j1 (show j ≤ 6 by omega)
  rw [r4, r5] at y
  have g3 : x_X9_bound (nI j) 1 6 N = some (0, N) := by rw [py_bound, if_neg hv, if_neg hv2]
  rw [x_X9_watch]
  refine (bnd r6 _).trans ?_
  dsimp only
  rw [if_neg (by decide)]
  refine (bnd g3 _).trans ?_
  dsimp only
  rw [x_X9_watch_L19, if_pos rfl]
  refine (bnd y _).trans ?_
  rfl
theorem op_seldom (p : Int32) : opOK (x_X8_seldom p) (x_X9_seldom p) := by
  intro M h
  by_cases hp : 0 ≤ p ∧ p < M 1 6
  rotate_left
  · exact op_ref h (k := 1) (r := -nI 1) (by decide) (by simp [x_X8_seldom, px_hasBoat, hp, n1, px_refused]) (fun M1 hc => by simp [x_X9_seldom, noB h hp hc, n1, py_no])
  obtain ⟨b, rfl, hb, hb1, hb2, hR, hB⟩ := bo h hp
  obtain ⟨M', N, e1, m1, hs, hN, hL⟩ := lxm h hb1 hb hB
  have g1 : x_X2_hasBoat 1 (nI b) M = some (1, M) := by rw [px_hasBoat, if_pos hp]
  let pp : Nat → Bool := fun m => decide (¬ wc (fun k => sC (rb M b) (M 43 k)) (fun k => sG (rb M b) (M 43 k)) (6 - m) ((11 + (6 - m)) / (6 - m)) 0 0 0 = -9)
  have pv : ∀ m, pp m = decide (¬ wc (fun k => sC (rb M b) (M 43 k)) (fun k => sG (rb M b) (M 43 k)) (6 - m) ((11 + (6 - m)) / (6 - m)) 0 0 0 = -9) := fun _ => rfl
  clear_value pp
  have lx : x_X8_seldom_L50 g_F 6 N = some (ff pp (fun m => nI (6 - m)) (-9) 6 0, N) := by
    rw [show x_X8_seldom_L50 g_F 6 N = x_X8_seldom_L50 g_F (nI (6 - 0)) N by rfl]
    refine p_find (F := fun m fuel => x_X8_seldom_L50 fuel (nI (6 - m)) N) (by decide) (fun fuel => ?_) (fun m fuel hm => ?_)
    · show x_X8_seldom_L50 (fuel + 1) (nI (6 - 6)) N = _
      rw [x_X8_seldom_L50, if_pos (by decide)]
    · show x_X8_seldom_L50 (fuel + 1) (nI (6 - m)) N = (if pp m = true then some (nI (6 - m), N) else x_X8_seldom_L50 fuel (nI (6 - (m + 1))) N)
      have pe := pv m
      rw [show 6 - (m + 1) = 6 - m - 1 by omega]
      generalize hk : 6 - m = k at pe
      obtain ⟨k', rfl⟩ : ∃ k', k = k' + 1 := ⟨k - 1, by omega⟩
      rw [x_X8_seldom_L50, if_neg (show ¬ nI (k' + 1) < (1 : Int32) from fun q => absurd ((p_lt (b := 1) (by omega) (by decide)).mp q) (by omega))]
      refine (bnd (px_each hL (show 1 ≤ k' + 1 by omega) (by omega)) _).trans ?_
      dsimp only
      rw [p_predn, Nat.add_sub_cancel]
      by_cases z : wc (fun k => sC (rb M b) (M 43 k)) (fun k => sG (rb M b) (M 43 k)) (k' + 1) ((11 + (k' + 1)) / (k' + 1)) 0 0 0 = -9
      · rw [if_pos z, if_neg (by rw [pe]; simpa using z)]
      · rw [if_neg z, if_pos (by rw [pe]; simpa using z)]
  have hx : x_X8_seldom (nI b) M = some (ff pp (fun m => nI (6 - m)) (-9) 6 0, N) := by
    rw [x_X8_seldom]
    refine (bnd g1 _).trans ?_
    dsimp only
    rw [if_neg (by decide)]
    refine (bnd e1 _).trans ?_
    refine (bnd m1 _).trans ?_
    exact lx
  refine op_ask h hx hs fun h1 hc => ⟨N, ?_, coreEq_rf _⟩
  obtain ⟨r1, r2, r3, r4, r5, r6⟩ := rby h hc hb2 hb hR hB
  rw [x_X9_seldom]
  refine (bnd r6 _).trans ?_
  dsimp only
  rw [if_neg (by decide)]
  rw [show x_X9_seldom_L17 g_F (nI b) 6 N = x_X9_seldom_L17 g_F (nI b) (nI (6 - 0)) N by rfl]
  refine p_find (F := fun m fuel => x_X9_seldom_L17 fuel (nI b) (nI (6 - m)) N) (by decide) (fun fuel => ?_) (fun m fuel hm => ?_)
  · show x_X9_seldom_L17 (fuel + 1) _ (nI (6 - 6)) N = _
    rw [x_X9_seldom_L17, if_pos (by decide)]
  · show x_X9_seldom_L17 (fuel + 1) _ (nI (6 - m)) N = (if pp m = true then some (nI (6 - m), N) else x_X9_seldom_L17 fuel _ (nI (6 - (m + 1))) N)
    have pe := pv m
    rw [show 6 - (m + 1) = 6 - m - 1 by omega]
    generalize hk : 6 - m = k at pe
    obtain ⟨k', rfl⟩ : ∃ k', k = k' + 1 := ⟨k - 1, by omega⟩
    have y := py_watchBy hb r1 r2 r3 (show 1 ≤ k' + 1 by omega) (show k' + 1 ≤ 6 by omega)
    rw [r4, r5] at y
    have wb := wc_b (fun k => sC (rb M b) (M 43 k)) (fun k => sG (rb M b) (M 43 k)) (k' + 1) ((11 + (k' + 1)) / (k' + 1)) 0 0 0
    have b12 := (p_blk (k' + 1) (by omega) (by omega)).2.1
    rw [x_X9_seldom_L17, if_neg (nI_nle (by omega) (by omega))]
    refine (bnd y _).trans ?_
    dsimp only
    rw [p_predn, Nat.add_sub_cancel]
    rcases wb with z | ⟨w, hw, z⟩
    · rw [z, if_pos (by decide), if_neg (by rw [pe]; simpa using z)]
    · have nz : ¬ nI w < 0 := nI_pos (by omega)
      have nz9 : ¬ nI w = -9 := fun q => nz (by rw [q]; decide)
      rw [z, if_neg nz, if_pos (by rw [pe, z]; simpa using nz9)]
