/-! THE PURE PART. ZC: wake -/
def gd (lo hi : Nat → Nat) (v h : Nat) : Nat := if lo h ≤ v ∧ v ≤ hi h then 1 else 0
def cn (lo hi : Nat → Nat) (a : Nat) : Nat → Nat → Nat
  | 0, _ => 0
  | k + 1, v => cn lo hi a k v + gd lo hi v (a + k)
def gm (lo hi : Nat → Nat) (a k : Nat) : Nat := mxa (cn lo hi a k) 0 100
def Kf (lo hi : Nat → Nat) (W : Nat → Nat) : Nat → Nat → Nat
  | 0, _ => 0
  | t + 1, v => max (Kf lo hi W t v) (W t) + gd lo hi v t
def bst (lo hi : Nat → Nat) : Nat → Nat → Nat
  | 0 => fun t => mxa (Kf lo hi (fun _ => 0) t) 0 100
  | u + 1 => fun t => mxa (Kf lo hi (bst lo hi u) t) 0 100
def Wf (lo hi : Nat → Nat) : Nat → Nat → Nat
  | 0 => fun _ => 0
  | u + 1 => bst lo hi u
theorem bst_e (lo hi : Nat → Nat) (u t : Nat) : bst lo hi u t = mxa (Kf lo hi (Wf lo hi u) t) 0 100 := by
  cases u <;> rfl
theorem gd_1 (lo hi : Nat → Nat) (v h : Nat) : gd lo hi v h ≤ 1 := by
  unfold gd
  split <;> omega
theorem Kf_b {lo hi W : Nat → Nat} (hW : ∀ t, W t ≤ t) (v : Nat) : ∀ t, Kf lo hi W t v ≤ t := by
  intro t
  induction t with
  | zero => exact Nat.le_refl _
  | succ t ih =>
    have := hW t
    have := gd_1 lo hi v t
    show max _ _ + _ ≤ t + 1
    omega
theorem bst_b (lo hi : Nat → Nat) : ∀ u t, bst lo hi u t ≤ t := by
  intro u
  induction u with
  | zero =>
    intro t
    exact (mxa_le 100).mpr fun i _ => Kf_b (fun t => Nat.zero_le _) _ t
  | succ u ih =>
    intro t
    exact (mxa_le 100).mpr fun i _ => Kf_b ih _ t
theorem Wf_b (lo hi : Nat → Nat) : ∀ u t, Wf lo hi u t ≤ t := by
  intro u t
  cases u with
  | zero => exact Nat.zero_le _
  | succ u => exact bst_b lo hi u t
theorem cn_b (lo hi : Nat → Nat) (a v : Nat) : ∀ k, cn lo hi a k v ≤ k := by
  intro k
  induction k with
  | zero => exact Nat.le_refl _
  | succ k ih =>
    have := gd_1 lo hi v (a + k)
    show _ + _ ≤ k + 1
    omega
theorem gm_b (lo hi : Nat → Nat) (a k : Nat) : gm lo hi a k ≤ k := (mxa_le 100).mpr fun i _ => cn_b lo hi a _ k
theorem Kf_le {lo hi W : Nat → Nat} {v : Nat} : ∀ t x, Kf lo hi W t v ≤ x ↔ ∀ f, f < t → W f + cn lo hi f (t - f) v ≤ x := by
  intro t
  induction t with
  | zero => intro x; exact ⟨fun _ f hf => absurd hf (by omega), fun _ => Nat.zero_le _⟩
  | succ t ih =>
    intro x
    have e : ∀ f, f < t → cn lo hi f (t + 1 - f) v = cn lo hi f (t - f) v + gd lo hi v t := fun f hf => by
      rw [show t + 1 - f = t - f + 1 by omega, cn, show f + (t - f) = t by omega]
    have e0 : cn lo hi t (t + 1 - t) v = gd lo hi v t := by
      rw [show t + 1 - t = 0 + 1 by omega, cn, Nat.add_zero]
      show 0 + _ = _
      omega
    show max (Kf lo hi W t v) (W t) + gd lo hi v t ≤ x ↔ _
    constructor
    · intro h f hf
      by_cases z : f = t
      · subst z; rw [e0]; omega
      · have q := (ih (x - gd lo hi v t)).mp (by omega) f (by omega)
        rw [e f (by omega)]
        have := h
        omega
    · intro h
      have h1 := h t (by omega)
      rw [e0] at h1
      have q := (ih (x - gd lo hi v t)).mpr fun f hf => by
        have := h f (by omega)
        rw [e f hf] at this
        omega
      omega
theorem cn_sp (lo hi : Nat → Nat) (v a : Nat) : ∀ k, cn lo hi 0 (a + k) v = cn lo hi 0 a v + cn lo hi a k v := by
  intro k
  induction k with
  | zero => rfl
  | succ k ih =>
    rw [← Nat.add_assoc, cn, cn, ih, Nat.zero_add]
    omega
/-- the reference's -/
def wF (lo hi : Nat → Nat) (wp : Nat → Nat) (z : Bool) (t f : Nat) : Nat := if f = 0 then gm lo hi 0 t else if z = true then 0 else wp f + gm lo hi f (t - f)
def wk (lo hi : Nat → Nat) : Nat → Nat → Nat
  | 0 => fun t => mxa (wF lo hi (fun _ => 0) true t) 0 t
  | u + 1 => fun t => mxa (wF lo hi (wk lo hi u) false t) 0 t
theorem wk_b (lo hi : Nat → Nat) : ∀ u t, wk lo hi u t ≤ t := by
  intro u
  induction u with
  | zero =>
    intro t
    refine (mxa_le t).mpr fun i hj => ?_
    have := gm_b lo hi 0 t
    unfold wF
    split
    · omega
    · rw [if_pos rfl]; exact Nat.zero_le _
  | succ u ih =>
    intro t
    refine (mxa_le t).mpr fun i hj => ?_
    have := gm_b lo hi 0 t
    have := gm_b lo hi (0 + i) (t - (0 + i))
    have := ih (0 + i)
    unfold wF
    split
    · omega
    · rw [if_neg (by decide)]; omega
theorem gm_le {lo hi : Nat → Nat} {a k x : Nat} : gm lo hi a k ≤ x ↔ ∀ v, v < 100 → cn lo hi a k v ≤ x := by
  unfold gm
  rw [mxa_le]
  simp only [Nat.zero_add]
theorem bst_wk (lo hi : Nat → Nat) : ∀ u t, bst lo hi u t = wk lo hi u t := by
  have ext : ∀ a b : Nat, (∀ x, a ≤ x ↔ b ≤ x) → a = b := fun a b h => by
    have := (h a).mp (Nat.le_refl _)
    have := (h b).mpr (Nat.le_refl _)
    omega
  intro u
  induction u with
  | zero =>
    intro t
    apply ext
    intro x
    show mxa (Kf lo hi (fun _ => 0) t) 0 100 ≤ x ↔ mxa (wF lo hi (fun _ => 0) true t) 0 t ≤ x
    rw [mxa_le, mxa_le]
    constructor
    · intro h i hj
      rw [Nat.zero_add]
      unfold wF
      by_cases z : i = 0
      · rw [if_pos z, gm_le]
        intro v hv
        have q := (Kf_le t x).mp (by have := h v hv; rw [Nat.zero_add] at this; exact this) 0 (by omega)
        rw [Nat.zero_add] at q
        exact q
      · rw [if_neg z, if_pos rfl]; exact Nat.zero_le _
    · intro h v hv
      rw [Nat.zero_add, Kf_le]
      intro f hf
      have q := h 0 (by omega)
      unfold wF at q
      rw [if_pos rfl, gm_le] at q
      have q := q v hv
      have s := cn_sp lo hi v f (t - f)
      rw [show f + (t - f) = t by omega] at s
      omega
  | succ u ih =>
    intro t
    apply ext
    intro x
    show mxa (Kf lo hi (bst lo hi u) t) 0 100 ≤ x ↔ mxa (wF lo hi (wk lo hi u) false t) 0 t ≤ x
    have b0 := bst_b lo hi u 0
    rw [mxa_le, mxa_le]
    constructor
    · intro h i hj
      rw [Nat.zero_add]
      unfold wF
      have q := fun v (hv : v < 100) => (Kf_le t x).mp (by have := h v hv; rw [Nat.zero_add] at this; exact this) i hj
      by_cases z : i = 0
      · rw [if_pos z, gm_le]
        intro v hv
        have q := q v hv
        subst z
        rw [Nat.sub_zero] at q
        omega
      · rw [if_neg z, if_neg (by decide)]
        have g := (gm_le (lo := lo) (hi := hi) (a := i) (k := t - i) (x := x - wk lo hi u i)).mpr fun v hv => by
          have q := q v hv
          rw [ih] at q
          omega
        have q0 := q 0 (by omega)
        rw [ih] at q0
        omega
    · intro h v hv
      rw [Nat.zero_add, Kf_le]
      intro f hf
      have q := h f hf
      rw [Nat.zero_add] at q
      unfold wF at q
      by_cases z : f = 0
      · subst z
        rw [if_pos rfl, gm_le] at q
        have q := q v hv
        rw [Nat.sub_zero]
        omega
      · rw [if_neg z, if_neg (by decide)] at q
        have g := (gm_le (lo := lo) (hi := hi) (a := f) (k := t - f)).mp (Nat.le_refl _) v hv
        rw [ih]
        omega
/-! the class -/
theorem px_fill {a n : Nat} (hn : n < 1000) (s : g_M) : ∃ s', x_J7_fill_53178 a n 0 s = some (0, s') ∧ (∀ c, c ≠ a → s' c = s c) ∧ ∀ i, i < n → s' a i = 0 := by
  unfold x_J7_fill_53178
  refine p_loop0 (n := n) (F := fun i fuel s => x_J7_fill_53178_L5 a n fuel 0 (nI i) (Int32.ofNat n) s) (I := fun i s' => (∀ c, c ≠ a → s' c = s c) ∧ ∀ j, j < i → s' a j = 0) (R := fun r => ∃ s', r = some (0, s') ∧ (∀ c, c ≠ a → s' c = s c) ∧ ∀ i, i < n → s' a i = 0) (s := s) (by omega) ⟨fun _ _ => rfl, fun j hj => absurd hj (by omega)⟩ ?_ ?_
  · intro s' fuel ⟨h1, h2⟩
    refine ⟨s', ?_, h1, h2⟩
    show x_J7_fill_53178_L5 a n (fuel + 1) 0 (nI n) (Int32.ofNat n) s' = _
    rw [x_J7_fill_53178_L5, if_pos (show Int32.ofNat n ≤ nI n from Int32.le_refl _)]
  · intro i s' fuel hi ⟨h1, h2⟩
    right
    have ci : (nI i).toNatClampNeg = i := nI_clamp (by omega)
    refine ⟨g_upd s' a i 0, ⟨fun c hc => by rw [g_upd_ne hc, h1 c hc], fun j hj => ?_⟩, ?_⟩
    · rw [g_upd_get]
      by_cases z : j = i
      · rw [if_pos ⟨rfl, z⟩]
      · rw [if_neg (fun q => z q.2)]; exact h2 j (by omega)
    · show x_J7_fill_53178_L5 a n (fuel + 1) 0 (nI i) (Int32.ofNat n) s' = x_J7_fill_53178_L5 a n fuel 0 (nI (i + 1)) (Int32.ofNat n) _
      rw [x_J7_fill_53178_L5, if_neg (show ¬ Int32.ofNat n ≤ nI i from nI_ge hi (by omega)), if_pos (p_inb hi (by omega)), ci, nI_succ]
theorem px_keepHour {s : g_M} {lo hi : Nat → Nat} (hL : Lm s lo hi) {h u wv : Nat} (hh : h < 12) (hu : u < 4) {A : Nat → Nat} (hA : ∀ v, v < 100 → s 32 (100 * u + v) = nI (A v) ∧ A v ≤ 100) (hw : wv ≤ 100) : ∃ s', x_X4_keepHour (nI h) (nI u) (nI wv) s = some (0, s') ∧ (∀ c, c ≠ 32 → s' c = s c) ∧ (∀ v, v < 100 → s' 32 (100 * u + v) = nI (max (A v) wv + gd lo hi v h)) ∧ ∀ i, (i < 100 * u ∨ 100 * u + 100 ≤ i) → s' 32 i = s 32 i := by
  unfold x_X4_keepHour
  have bh := p_inb hh (by decide : (12 : Nat) < 2 ^ 31)
  have ch : (nI h).toNatClampNeg = h := nI_clamp (by omega)
  obtain ⟨l1, l2, l3, l4⟩ := hL h hh
  refine p_loop0 (n := 100) (F := fun i fuel s' => x_X4_keepHour_L3 fuel (nI h) (nI u) (nI wv) (nI i) s') (I := fun i s' => (∀ c, c ≠ 32 → s' c = s c) ∧ (∀ v, v < 100 → s' 32 (100 * u + v) = if v < i then nI (max (A v) wv + gd lo hi v h) else nI (A v)) ∧ ∀ i, (i < 100 * u ∨ 100 * u + 100 ≤ i) → s' 32 i = s 32 i) (R := fun r => ∃ s', r = some (0, s') ∧ (∀ c, c ≠ 32 → s' c = s c) ∧ (∀ v, v < 100 → s' 32 (100 * u + v) = nI (max (A v) wv + gd lo hi v h)) ∧ ∀ i, (i < 100 * u ∨ 100 * u + 100 ≤ i) → s' 32 i = s 32 i) (s := s) (by decide) ⟨fun _ _ => rfl, fun v hv => by rw [if_neg (by omega)]; exact (hA v hv).1, fun _ _ => rfl⟩ ?_ ?_
  · intro s' fuel ⟨h1, h2, h3⟩
    refine ⟨s', ?_, h1, fun v hv => by rw [h2 v hv, if_pos hv], h3⟩
    show x_X4_keepHour_L3 (fuel + 1) _ _ _ (nI 100) s' = _
    rw [x_X4_keepHour_L3, if_pos (by decide)]
  · intro i s' fuel hi2 ⟨h1, h2, h3⟩
    right
    have ec : nI u * 100 + nI i = nI (100 * u + i) := by rw [show (100 : Int32) = nI 100 from rfl, p_mul, p_add, Nat.mul_comm]
    have bc' := p_inb (show 100 * u + i < 400 by omega) (by decide : (400 : Nat) < 2 ^ 31)
    have cc : (nI (100 * u + i)).toNatClampNeg = 100 * u + i := nI_clamp (by omega)
    have s30 : s' 30 h = nI (lo h) := by rw [h1 30 (by decide)]; exact l1
    have s31 : s' 31 h = nI (hi h) := by rw [h1 31 (by decide)]; exact l2
    have v0 : s' 32 (100 * u + i) = nI (A i) := by rw [h2 i hi2, if_neg (by omega)]
    have a100 := (hA i hi2).2
    refine ⟨g_upd s' 32 (100 * u + i) (nI (max (A i) wv + gd lo hi i h)), ⟨fun c hc => by rw [g_upd_ne hc, h1 c hc], fun v hv => ?_, fun j hj => by rw [g_upd_get, if_neg (fun q => by have := q.2; omega), h3 j hj]⟩, ?_⟩
    · rw [g_upd_get]
      by_cases z : v = i
      · subst z; rw [if_pos ⟨rfl, rfl⟩, if_pos (by omega)]
      · rw [if_neg (fun q => z (by have := q.2; omega)), h2 v hv]
        by_cases y : v < i
        · rw [if_pos y, if_pos (by omega)]
        · rw [if_neg y, if_neg (by omega)]
    · show x_X4_keepHour_L3 (fuel + 1) _ _ _ (nI i) s' = x_X4_keepHour_L3 fuel _ _ _ (nI (i + 1)) _
      rw [x_X4_keepHour_L3, if_neg (p_99 hi2), if_pos bh, ch, s30, if_pos bh, s31, ec]
      have l46 : ∀ g : Nat, g ≤ 1 → x_X4_keepHour_L46 (x_X4_keepHour_L3 fuel) (nI h) (nI u) (nI wv) (nI i) (nI (100 * u + i)) (nI g) s' = x_X4_keepHour_L3 fuel (nI h) (nI u) (nI wv) (nI (i + 1)) (g_upd s' 32 (100 * u + i) (nI (max (A i) wv + g))) := fun g _ => by
        rw [x_X4_keepHour_L46, if_pos bc', if_pos bc', cc, v0, p_max (by omega) (by omega), p_add, nI_succ]
      unfold gd
      by_cases z : i < lo h
      · rw [if_pos ((p_lt (by omega) (by omega)).mpr z), if_neg (fun q => by omega)]
        exact l46 0 (by decide)
      · rw [if_neg (fun q => z ((p_lt (by omega) (by omega)).mp q))]
        by_cases y : hi h < i
        · rw [if_pos ((p_lt (by omega) (by omega)).mpr y), if_neg (fun q => by omega)]
          exact l46 0 (by decide)
        · rw [if_neg (fun q => y ((p_lt (by omega) (by omega)).mp q)), if_pos ⟨by omega, by omega⟩]
          exact l46 1 (by decide)
theorem px_bestKept {s : g_M} {u : Nat} (hu : u < 4) {A : Nat → Nat} (hA : ∀ v, v < 100 → s 32 (100 * u + v) = nI (A v) ∧ A v ≤ 100) : x_X4_bestKept (nI u) s = some (nI (mxa A 0 100), s) := by
  unfold x_X4_bestKept
  have b100 : ∀ i, i ≤ 100 → mxa A 0 i ≤ 100 := fun i hi => (mxa_le i).mpr fun j hj => by rw [Nat.zero_add]; exact (hA j (by omega)).2
  refine p_loop0 (n := 100) (F := fun i fuel (_ : Unit) => x_X4_bestKept_L4 fuel (nI u) (nI (mxa A 0 i)) (nI i) s) (I := fun _ _ => True) (R := fun r => r = some (nI (mxa A 0 100), s)) (s := ()) (by decide) trivial ?_ ?_
  · intro _ fuel _
    show x_X4_bestKept_L4 (fuel + 1) _ _ (nI 100) s = _
    rw [x_X4_bestKept_L4, if_pos (by decide)]
  · intro i _ fuel hi _
    right
    refine ⟨(), trivial, ?_⟩
    have ec : nI u * 100 + nI i = nI (100 * u + i) := by rw [show (100 : Int32) = nI 100 from rfl, p_mul, p_add, Nat.mul_comm]
    have cc : (nI (100 * u + i)).toNatClampNeg = 100 * u + i := nI_clamp (by omega)
    have k1 := b100 i (by omega)
    have k2 := hA i hi
    show x_X4_bestKept_L4 (fuel + 1) _ (nI (mxa A 0 i)) (nI i) s = x_X4_bestKept_L4 fuel _ (nI (max (mxa A 0 i) (A (0 + i)))) (nI (i + 1)) s
    rw [x_X4_bestKept_L4, if_neg (p_99 hi), ec, if_pos (p_inb (show 100 * u + i < 400 by omega) (by decide)), cc, k2.1, p_max (by omega) (by omega), nI_succ i, Nat.zero_add]
/-- kept and best behind t HOURS -/
def isKB (lo hi : Nat → Nat) (most : Nat) (s0 s : g_M) (tk tb : Nat → Nat) : Prop := (∀ c, c ≠ 32 → c ≠ 33 → s c = s0 c) ∧ (∀ u, u ≤ most → ∀ v, v < 100 → s 32 (100 * u + v) = nI (Kf lo hi (Wf lo hi u) (tk u) v)) ∧ ∀ u, u ≤ most → s 33 u = nI (bst lo hi u (tb u))
theorem px_mostGood {s0 : g_M} {lo hi : Nat → Nat} (hL : Lm s0 lo hi) {m : Nat} (hm : m ≤ 3) : ∃ N, x_X4_mostGoodHours (nI m) s0 = some (nI (bst lo hi m 12), N) ∧ ∀ c, c ≠ 32 → c ≠ 33 → N c = s0 c := by
  obtain ⟨sa, a1, a2, a3⟩ := px_fill (a := 32) (n := 400) (by decide) s0
  obtain ⟨sb, b1, b2, b3⟩ := px_fill (a := 33) (n := 4) (by decide) sa
  have mm : g_max 0 (g_min (nI m) 3) = nI m := by
    rw [show (3 : Int32) = nI 3 from rfl, p_min (by omega) (by decide), show (0 : Int32) = nI 0 from rfl, p_max (by decide) (by omega)]
    rw [show max 0 (min m 3) = m by omega]
  have KB : ∀ u t v, t ≤ 12 → Kf lo hi (Wf lo hi u) t v ≤ 12 := fun u t v ht => Nat.le_trans (Kf_b (Wf_b lo hi u) v t) ht
  have BB : ∀ u t, t ≤ 12 → bst lo hi u t ≤ 12 := fun u t ht => Nat.le_trans (bst_b lo hi u t) ht
  suffices hs : ∃ N, x_X4_mostGoodHours_L28 g_F (nI m) 0 sb = some (nI (bst lo hi m 12), N) ∧ ∀ c, c ≠ 32 → c ≠ 33 → N c = s0 c by
    obtain ⟨N, q1, q2⟩ := hs
    refine ⟨N, ?_, q2⟩
    rw [x_X4_mostGoodHours]
    refine (bnd a1 _).trans ?_
    refine (bnd b1 _).trans ?_
    dsimp only
    rw [mm]
    exact q1
  have I0 : isKB lo hi m s0 sb (fun _ => 0) (fun _ => 0) := by
    refine ⟨fun c x y => by rw [b2 c y, a2 c x], fun u hu v hv => ?_, fun u hu => ?_⟩
    · rw [b2 32 (by decide), a3 _ (by omega)]; rfl
    · rw [b3 u (by omega)]
      have := bst_b lo hi u 0
      rw [show bst lo hi u 0 = 0 by omega]
      rfl
  refine p_loop0 (n := 12) (F := fun t fuel s => x_X4_mostGoodHours_L28 fuel (nI m) (nI t) s) (I := fun t s => isKB lo hi m s0 s (fun _ => t) (fun _ => t)) (R := fun r => ∃ N, r = some (nI (bst lo hi m 12), N) ∧ ∀ c, c ≠ 32 → c ≠ 33 → N c = s0 c) (s := sb) (by decide) I0 ?_ ?_
  · intro s fuel hs
    refine ⟨s, ?_, hs.1⟩
    have cm : (nI m).toNatClampNeg = m := nI_clamp (by omega)
    show x_X4_mostGoodHours_L28 (fuel + 1) _ (nI 12) s = _
    rw [x_X4_mostGoodHours_L28, if_pos (by decide), if_pos (p_inb (show m < 4 by omega) (by decide)), cm, hs.2.2 m (Nat.le_refl _)]
  · intro t s fuel ht hs
    right
    show ∃ s', isKB lo hi m s0 s' (fun _ => t + 1) (fun _ => t + 1) ∧ x_X4_mostGoodHours_L28 (fuel + 1) (nI m) (nI t) s = x_X4_mostGoodHours_L28 fuel (nI m) (nI (t + 1)) s'
    rw [x_X4_mostGoodHours_L28, if_neg (p_n12 ht)]
    generalize x_X4_mostGoodHours_L28 fuel = k28
    -- the wakings, falling
    have down : ∃ s', isKB lo hi m s0 s' (fun _ => t + 1) (fun _ => t) ∧ x_X4_mostGoodHours_L37 k28 g_F (nI m) (nI t) (nI m) s = x_X4_mostGoodHours_L76 k28 g_F (nI m) (nI t) 0 s' := by
      rw [show x_X4_mostGoodHours_L37 k28 g_F (nI m) (nI t) (nI m) s = x_X4_mostGoodHours_L37 k28 g_F (nI m) (nI t) (nI (m + 1 - 0) - 1) s by rw [Nat.sub_zero, p_pred]]
      refine p_loop0 (n := m + 1) (F := fun j fuel s => x_X4_mostGoodHours_L37 k28 fuel (nI m) (nI t) (nI (m + 1 - j) - 1) s) (I := fun j s => isKB lo hi m s0 s (fun u => if m < u + j then t + 1 else t) (fun _ => t)) (R := fun r => ∃ s', isKB lo hi m s0 s' (fun _ => t + 1) (fun _ => t) ∧ r = x_X4_mostGoodHours_L76 k28 g_F (nI m) (nI t) 0 s') (s := s) (by omega) ⟨hs.1, fun u hu v hv => by dsimp only; rw [if_neg (by omega)]; exact hs.2.1 u hu v hv, hs.2.2⟩ ?_ ?_
      · intro s fuel hs
        refine ⟨s, ⟨hs.1, fun u hu v hv => ?_, hs.2.2⟩, ?_⟩
        · have := hs.2.1 u hu v hv
          dsimp only at this
          rw [if_pos (by omega)] at this
          exact this
        · show x_X4_mostGoodHours_L37 k28 (fuel + 1) _ _ (nI (m + 1 - (m + 1)) - 1) s = _
          rw [Nat.sub_self, x_X4_mostGoodHours_L37, if_pos (by decide)]
      · intro j s fuel hj hs
        right
        show ∃ s', _ ∧ x_X4_mostGoodHours_L37 k28 (fuel + 1) (nI m) (nI t) (nI (m + 1 - j) - 1) s = x_X4_mostGoodHours_L37 k28 fuel (nI m) (nI t) (nI (m + 1 - (j + 1)) - 1) s'
        obtain ⟨u, hu⟩ : ∃ u, u = m - j := ⟨_, rfl⟩
        rw [show m + 1 - j = u + 1 by omega, show m + 1 - (j + 1) = u by omega, p_pred]
        have sL : Lm s lo hi := fun k hk => by rw [hs.1 30 (by decide) (by decide), hs.1 31 (by decide) (by decide)]; exact hL k hk
        have cur : ∀ v, v < 100 → s 32 (100 * u + v) = nI (Kf lo hi (Wf lo hi u) t v) ∧ Kf lo hi (Wf lo hi u) t v ≤ 100 := fun v hv => by
          have := hs.2.1 u (by omega) v hv
          dsimp only at this
          rw [if_neg (by omega)] at this
          have k := KB u t v (by omega)
          exact ⟨this, by omega⟩
        have wb := Wf_b lo hi u t
        obtain ⟨s', e1, e2, e3, e4⟩ := px_keepHour sL ht (show u < 4 by omega) cur (wv := Wf lo hi u t) (by omega)
        refine ⟨s', ⟨fun c x y => by rw [e2 c x, hs.1 c x y], fun u' hu' v hv => ?_, fun u' hu' => by rw [e2 33 (by decide)]; exact hs.2.2 u' hu'⟩, ?_⟩
        · by_cases z : u' = u
          · subst z
            dsimp only
            rw [if_pos (by omega), e3 v hv]
            rfl
          · rw [e4 _ (by omega), hs.2.1 u' hu' v hv]
            dsimp only
            by_cases y : m < u' + j
            · rw [if_pos y, if_pos (by omega)]
            · rw [if_neg y, if_neg (by omega)]
        · rw [x_X4_mostGoodHours_L37, if_neg (nI_pos (by omega)), show nI u + -1 = nI u - 1 by grind]
          by_cases z : u = 0
          · rw [if_pos (by rw [z]; decide)]
            have e1' : x_X4_keepHour (nI t) (nI u) 0 s = some (0, s') := by rw [← e1, z]; rfl
            exact bnd e1' _
          · obtain ⟨u1, rfl⟩ : ∃ u1, u = u1 + 1 := ⟨u - 1, by omega⟩
            have c1 : (nI u1).toNatClampNeg = u1 := nI_clamp (by omega)
            have b33 := hs.2.2 u1 (by omega)
            rw [if_neg (nI_nle (by omega) (by omega)), p_pred, if_pos (p_inb (show u1 < 4 by omega) (by decide)), c1, b33]
            exact bnd e1 _
    obtain ⟨s1, d1, d2⟩ := down
    rw [d2]
    refine p_loop0 (n := m + 1) (F := fun u fuel s => x_X4_mostGoodHours_L76 k28 fuel (nI m) (nI t) (nI u) s) (I := fun j s => isKB lo hi m s0 s (fun _ => t + 1) (fun u => if u < j then t + 1 else t)) (R := fun r => ∃ s', isKB lo hi m s0 s' (fun _ => t + 1) (fun _ => t + 1) ∧ r = k28 (nI m) (nI (t + 1)) s') (s := s1) (by omega) ⟨d1.1, d1.2.1, fun u hu => by dsimp only; rw [if_neg (by omega)]; exact d1.2.2 u hu⟩ ?_ ?_
    · intro s fuel hs
      refine ⟨s, ⟨hs.1, hs.2.1, fun u hu => ?_⟩, ?_⟩
      · have := hs.2.2 u hu
        dsimp only at this
        rw [if_pos (by omega)] at this
        exact this
      · show x_X4_mostGoodHours_L76 k28 (fuel + 1) _ _ (nI (m + 1)) s = _
        rw [x_X4_mostGoodHours_L76, if_pos ((p_lt (by omega) (by omega)).mpr (by omega)), nI_succ t]
    · intro u s fuel hu hs
      right
      have cu : (nI u).toNatClampNeg = u := nI_clamp (by omega)
      have cur : ∀ v, v < 100 → s 32 (100 * u + v) = nI (Kf lo hi (Wf lo hi u) (t + 1) v) ∧ Kf lo hi (Wf lo hi u) (t + 1) v ≤ 100 := fun v hv => by
        have k := KB u (t + 1) v (by omega)
        exact ⟨hs.2.1 u (by omega) v hv, by omega⟩
      refine ⟨g_upd s 33 u (nI (bst lo hi u (t + 1))), ⟨fun c x y => by rw [g_upd_ne y, hs.1 c x y], fun u' hu' v hv => by rw [g_upd_ne (by decide)]; exact hs.2.1 u' hu' v hv, fun u' hu' => ?_⟩, ?_⟩
      · rw [g_upd_get]
        by_cases z : u' = u
        · subst z
          dsimp only
          rw [if_pos ⟨rfl, rfl⟩, if_pos (by omega)]
        · rw [if_neg (fun q => z q.2), hs.2.2 u' hu']
          dsimp only
          by_cases y : u' < u
          · rw [if_pos y, if_pos (by omega)]
          · rw [if_neg y, if_neg (by omega)]
      · show x_X4_mostGoodHours_L76 k28 (fuel + 1) _ _ (nI u) s = x_X4_mostGoodHours_L76 k28 fuel _ _ (nI (u + 1)) _
        rw [x_X4_mostGoodHours_L76, if_neg (fun q => absurd ((p_lt (by omega) (by omega)).mp q) (by omega))]
        refine (bnd (px_bestKept (show u < 4 by omega) cur) _).trans ?_
        dsimp only
        rw [if_pos (p_inb (show u < 4 by omega) (by decide)), cu, ← bst_e, nI_succ u]
/-! the reference -/
theorem py_findGood {M : g_M} {b : Nat} (hb : b < 5) (hR : okR M b) (hB : okB (rb M b)) (hT : okT (M 43)) : ∃ N, x_X9_findGoodMost (nI b) M = some (0, N) ∧ (∀ c, c ≠ 71 → N c = M c) ∧ ∀ f h, f ≤ h → h < 12 → N 71 (12 * f + h) = nI (gm (fun k => sC (rb M b) (M 43 k)) (fun k => sG (rb M b) (M 43 k)) f (h + 1 - f)) := by
  have good : ∀ (h v : Nat) (N : g_M), h < 12 → v ≤ 99 → (∀ c, c ≠ 71 → N c = M c) → x_X9_isGood (nI b) (nI h) (nI v) N = some (nI (gd (fun k => sC (rb M b) (M 43 k)) (fun k => sG (rb M b) (M 43 k)) v h), N) := by
    intro h v N hh hv hN
    have rN : rb N b = rb M b := by
      funext j
      unfold rb
      rw [hN 45 (by decide), hN 46 (by decide), hN 47 (by decide), hN 48 (by decide), hN 49 (by decide), hN 50 (by decide), hN 51 (by decide), hN 52 (by decide), hN 53 (by decide), hN 54 (by decide)]
    have y := py_isGood (M := N) hb hh (by unfold okR; rw [hN 50 (by decide), hN 51 (by decide)]; exact hR) (by rw [rN]; exact hB) (by rw [hN 43 (by decide)]; exact hT) hv
    rw [rN, hN 43 (by decide)] at y
    rw [y]
    unfold gd
    by_cases z : sC (rb M b) (M 43 h) ≤ v ∧ v ≤ sG (rb M b) (M 43 h)
    · rw [if_pos z, if_pos z]; rfl
    · rw [if_neg z, if_neg z]; rfl
  generalize (fun k => sC (rb M b) (M 43 k)) = lo at *
  generalize (fun k => sG (rb M b) (M 43 k)) = hi at *
  have cb : ∀ f k n, mxa (cn lo hi f k) 0 n ≤ k := fun f k n => (mxa_le n).mpr fun i _ => cn_b lo hi f _ k
  have d12 : ∀ k, k < 1200 → nI k / 12 = nI (k / 12) ∧ nI k - nI k / 12 * 12 = nI (k % 12) := by decide +kernel
  unfold x_X9_findGoodMost
  have z0 : ∃ N, x_X9_findGoodMost_L2 g_F (nI b) 0 M = x_X9_findGoodMost_L26 g_F (nI b) 0 N ∧ (∀ c, c ≠ 71 → N c = M c) ∧ ∀ i, i < 144 → N 71 i = 0 := by
    refine p_loop0 (n := 144) (F := fun i fuel s => x_X9_findGoodMost_L2 fuel (nI b) (nI i) s) (I := fun i s => (∀ c, c ≠ 71 → s c = M c) ∧ ∀ j, j < i → s 71 j = 0) (R := fun r => ∃ N, r = x_X9_findGoodMost_L26 g_F (nI b) 0 N ∧ (∀ c, c ≠ 71 → N c = M c) ∧ ∀ i, i < 144 → N 71 i = 0) (s := M) (by decide) ⟨fun _ _ => rfl, fun j hj => absurd hj (by omega)⟩ ?_ ?_
    · intro s fuel ⟨h1, h2⟩
      refine ⟨s, ?_, h1, h2⟩
      show x_X9_findGoodMost_L2 (fuel + 1) _ (nI 144) s = _
      rw [x_X9_findGoodMost_L2, if_pos (by decide)]
    · intro i s fuel hi2 ⟨h1, h2⟩
      right
      have ci : (nI i).toNatClampNeg = i := nI_clamp (by omega)
      refine ⟨g_upd s 71 i 0, ⟨fun c hc => by rw [g_upd_ne hc, h1 c hc], fun j hj => ?_⟩, ?_⟩
      · rw [g_upd_get]
        by_cases z : j = i
        · rw [if_pos ⟨rfl, z⟩]
        · rw [if_neg (fun q => z q.2)]; exact h2 j (by omega)
      · show x_X9_findGoodMost_L2 (fuel + 1) _ (nI i) s = x_X9_findGoodMost_L2 fuel _ (nI (i + 1)) _
        rw [x_X9_findGoodMost_L2, if_neg (show ¬ (144 : Int32) ≤ nI i from nI_ge hi2 (by decide)), if_pos (p_inb hi2 (by decide)), ci, nI_succ]
  obtain ⟨N0, e0, n1', n2'⟩ := z0
  rw [e0]
  refine p_loop0 (n := 1200) (F := fun k fuel s => x_X9_findGoodMost_L26 fuel (nI b) (nI k) s) (I := fun k s => (∀ c, c ≠ 71 → s c = M c) ∧ ∀ f h, f ≤ h → h < 12 → s 71 (12 * f + h) = nI (mxa (cn lo hi f (h + 1 - f)) 0 ((k + 11 - f) / 12))) (R := fun r => ∃ N, r = some (0, N) ∧ (∀ c, c ≠ 71 → N c = M c) ∧ ∀ f h, f ≤ h → h < 12 → N 71 (12 * f + h) = nI (gm lo hi f (h + 1 - f))) (s := N0) (by decide) ⟨n1', fun f h a b => by rw [n2' _ (by omega), show (0 + 11 - f) / 12 = 0 by omega]; rfl⟩ ?_ ?_
  · intro s fuel ⟨h1, h2⟩
    refine ⟨s, ?_, h1, fun f h a b => ?_⟩
    · show x_X9_findGoodMost_L26 (fuel + 1) _ (nI 1200) s = _
      rw [x_X9_findGoodMost_L26, if_pos (by decide)]
    · rw [h2 f h a b, show (1200 + 11 - f) / 12 = 100 by omega]
      rfl
  · intro k s fuel hk ⟨h1, h2⟩
    right
    show ∃ s', ((∀ c, c ≠ 71 → s' c = M c) ∧ ∀ f h, f ≤ h → h < 12 → s' 71 (12 * f + h) = nI (mxa (cn lo hi f (h + 1 - f)) 0 ((k + 1 + 11 - f) / 12))) ∧ x_X9_findGoodMost_L26 (fuel + 1) (nI b) (nI k) s = x_X9_findGoodMost_L26 fuel (nI b) (nI (k + 1)) s'
    have d := d12 k hk
    rw [x_X9_findGoodMost_L26, if_neg (show ¬ (1200 : Int32) ≤ nI k from nI_ge hk (by decide)), d.2]
    generalize x_X9_findGoodMost_L26 fuel = k26
    obtain ⟨f0, hf0⟩ : ∃ f0, f0 = k % 12 := ⟨_, rfl⟩
    obtain ⟨v, hv⟩ : ∃ v, v = k / 12 := ⟨_, rfl⟩
    rw [← hf0]
    rw [show x_X9_findGoodMost_L44 k26 g_F (nI b) (nI k) (nI f0) 0 (nI f0) s = x_X9_findGoodMost_L44 k26 g_F (nI b) (nI k) (nI f0) (nI (cn lo hi f0 0 v)) (nI (f0 + 0)) s by rfl]
    refine p_loop0 (n := 12 - f0) (F := fun i fuel s => x_X9_findGoodMost_L44 k26 fuel (nI b) (nI k) (nI f0) (nI (cn lo hi f0 i v)) (nI (f0 + i)) s) (I := fun i s => (∀ c, c ≠ 71 → s c = M c) ∧ ∀ f h, f ≤ h → h < 12 → s 71 (12 * f + h) = nI (mxa (cn lo hi f (h + 1 - f)) 0 (if f = f0 ∧ h < f0 + i then v + 1 else (k + 11 - f) / 12))) (R := fun r => ∃ s', ((∀ c, c ≠ 71 → s' c = M c) ∧ ∀ f h, f ≤ h → h < 12 → s' 71 (12 * f + h) = nI (mxa (cn lo hi f (h + 1 - f)) 0 ((k + 1 + 11 - f) / 12))) ∧ r = k26 (nI b) (nI (k + 1)) s') (s := s) (by omega) ⟨h1, fun f h a b => by rw [if_neg (by omega)]; exact h2 f h a b⟩ ?_ ?_
    · intro s fuel ⟨h1, h2⟩
      refine ⟨s, ⟨h1, fun f h a b => ?_⟩, ?_⟩
      · rw [h2 f h a b]
        by_cases z : f = f0
        · rw [if_pos ⟨z, by omega⟩, show (k + 1 + 11 - f) / 12 = v + 1 by omega]
        · rw [if_neg (fun q => z q.1), show (k + 1 + 11 - f) / 12 = (k + 11 - f) / 12 by omega]
      · show x_X9_findGoodMost_L44 k26 (fuel + 1) _ _ _ _ (nI (f0 + (12 - f0))) s = _
        rw [x_X9_findGoodMost_L44, if_pos (p_12 (by omega) (by omega)), nI_succ]
    · intro i s fuel hi2 ⟨h1, h2⟩
      right
      have hh : f0 + i < 12 := by omega
      have gg := good (f0 + i) v s hh (by omega) h1
      have g1 := gd_1 lo hi v (f0 + i)
      have cu := cn_b lo hi f0 v i
      have ei : (12 : Int32) * nI f0 + nI (f0 + i) = nI (12 * f0 + (f0 + i)) := by rw [show (12 : Int32) = nI 12 from rfl, p_mul, p_add]
      have bi := p_inb (show 12 * f0 + (f0 + i) < 144 by omega) (by decide : (144 : Nat) < 2 ^ 31)
      have ci : (nI (12 * f0 + (f0 + i))).toNatClampNeg = 12 * f0 + (f0 + i) := nI_clamp (by omega)
      have old := h2 f0 (f0 + i) (by omega) hh
      rw [if_neg (by omega), show (k + 11 - f0) / 12 = v by omega, show f0 + i + 1 - f0 = i + 1 by omega] at old
      have ob := cb f0 (i + 1) v
      have new : mxa (cn lo hi f0 (i + 1)) 0 (v + 1) = max (mxa (cn lo hi f0 (i + 1)) 0 v) (cn lo hi f0 i v + gd lo hi v (f0 + i)) := by
        show max _ (cn lo hi f0 (i + 1) (0 + v)) = _
        rw [Nat.zero_add]
        rfl
      refine ⟨g_upd s 71 (12 * f0 + (f0 + i)) (nI (mxa (cn lo hi f0 (i + 1)) 0 (v + 1))), ⟨fun c hc => by rw [g_upd_ne hc, h1 c hc], fun f h a b => ?_⟩, ?_⟩
      · rw [g_upd_get]
        by_cases z : f = f0 ∧ h = f0 + i
        · obtain ⟨rfl, rfl⟩ := z
          rw [if_pos ⟨rfl, rfl⟩, if_pos ⟨rfl, by omega⟩, show f + i + 1 - f = i + 1 by omega]
        · rw [if_neg (fun q => z (by have := q.2; omega)), h2 f h a b]
          by_cases y : f = f0 ∧ h < f0 + i
          · rw [if_pos y, if_pos ⟨y.1, by omega⟩]
          · rw [if_neg y, if_neg (by omega)]
      · show x_X9_findGoodMost_L44 k26 (fuel + 1) (nI b) (nI k) (nI f0) (nI (cn lo hi f0 i v)) (nI (f0 + i)) s = x_X9_findGoodMost_L44 k26 fuel (nI b) (nI k) (nI f0) (nI (cn lo hi f0 i v + gd lo hi v (f0 + i))) (nI (f0 + i + 1)) _
        have l72 : x_X9_findGoodMost_L72 k26 (x_X9_findGoodMost_L44 k26 fuel) (nI b) (nI k) (nI f0) (nI (f0 + i)) (nI (gd lo hi v (f0 + i))) (nI (cn lo hi f0 i v)) s = x_X9_findGoodMost_L44 k26 fuel (nI b) (nI k) (nI f0) (nI (cn lo hi f0 i v + gd lo hi v (f0 + i))) (nI (f0 + i + 1)) (g_upd s 71 (12 * f0 + (f0 + i)) (nI (mxa (cn lo hi f0 (i + 1)) 0 (v + 1)))) := by
          rw [x_X9_findGoodMost_L72, ei, if_pos bi, if_pos bi, if_pos bi, if_pos bi, ci, old, p_add, new, nI_succ (f0 + i)]
          generalize mxa (cn lo hi f0 (i + 1)) 0 v = A at ob
          generalize hC : cn lo hi f0 i v + gd lo hi v (f0 + i) = C
          have C13 : C ≤ 13 := by omega
          by_cases z : C ≤ A
          · rw [if_pos ((p_le (by omega) (by omega)).mpr z), show max A C = A by omega]
          · rw [if_neg (fun q => z ((p_le (by omega) (by omega)).mp q)), show max A C = C by omega]
        rw [x_X9_findGoodMost_L44, if_neg (p_n12 hh), d.1, ← hv]
        refine (bnd gg _).trans ?_
        dsimp only
        by_cases z : gd lo hi v (f0 + i) = 0
        · rw [z] at l72 ⊢
          rw [if_pos (show nI 0 = (0 : Int32) from rfl)]
          exact l72
        · have z1 : gd lo hi v (f0 + i) = 1 := by omega
          rw [z1] at l72 ⊢
          rw [if_neg (show ¬ nI 1 = (0 : Int32) by decide)]
          exact l72
theorem py_L43 {N : g_M} {lo hi : Nat → Nat} (hG : ∀ f h, f ≤ h → h < 12 → N 71 (12 * f + h) = nI (gm lo hi f (h + 1 - f))) (k5 : Int32 → Int32 → Int32 → Int32 → g_M → Option (Int32 × g_M)) (v2 : Int32) {t i : Nat} (hi1 : i < t) (ht : t ≤ 12) : (∀ m s0, m ≤ 100 → s0 ≤ 100 → x_X9_mostTill_L43 k5 (nI t) v2 (nI m) (nI i) (nI s0) N = k5 (nI t) v2 (nI (max m (s0 + gm lo hi i (t - i)))) (nI (i + 1)) N) ∧ ∀ m, m ≤ 12 → x_X9_mostTill_L43 k5 (nI t) v2 (nI m) (nI i) (-99) N = k5 (nI t) v2 (nI m) (nI (i + 1)) N := by
  have ei : (12 : Int32) * nI i + nI t - 1 = nI (12 * i + (t - 1)) := by
    rw [show (12 : Int32) = nI 12 from rfl, p_mul, p_add, show (1 : Int32) = nI 1 from rfl, p_sub (by omega)]
    congr 1; omega
  have bi := p_inb (show 12 * i + (t - 1) < 144 by omega) (by decide : (144 : Nat) < 2 ^ 31)
  have ci : (nI (12 * i + (t - 1))).toNatClampNeg = 12 * i + (t - 1) := nI_clamp (by omega)
  have g := hG i (t - 1) (by omega) (by omega)
  rw [show t - 1 + 1 - i = t - i by omega] at g
  have gb := gm_b lo hi i (t - i)
  constructor
  · intro m s0 hm hs
    rw [x_X9_mostTill_L43, ei, if_pos bi, ci, g, p_add, nI_succ]
    by_cases z : s0 + gm lo hi i (t - i) ≤ m
    · rw [if_pos ((p_le (by omega) (by omega)).mpr z), show max m (s0 + gm lo hi i (t - i)) = m by omega]
    · rw [if_neg (fun q => z ((p_le (by omega) (by omega)).mp q)), show max m (s0 + gm lo hi i (t - i)) = s0 + gm lo hi i (t - i) by omega]
  · intro m hm
    have d : ∀ g, g < 13 → ∀ m, m < 13 → (-99 : Int32) + nI g ≤ nI m := by decide
    rw [x_X9_mostTill_L43, ei, if_pos bi, ci, g, if_pos (d _ (by omega) m (by omega)), nI_succ]
theorem py_mostTill {N : g_M} {lo hi : Nat → Nat} (hG : ∀ f h, f ≤ h → h < 12 → N 71 (12 * f + h) = nI (gm lo hi f (h + 1 - f))) {u t : Nat} (hu : u ≤ 3) (ht : t ≤ 12) (hW : ∀ u', u = u' + 1 → ∀ t, t ≤ 12 → N 72 (13 * u' + t) = nI (wk lo hi u' t)) : x_X9_mostTill (nI t) (nI u) N = some (nI (wk lo hi u t), N) := by
  have fin : ∀ (wp : Nat → Nat) (z : Bool), (∀ i, i < t → ¬ i = 0 → ∀ fuel m, m ≤ 12 → x_X9_mostTill_L5 (fuel + 1) (nI t) (nI u) (nI m) (nI i) N = x_X9_mostTill_L5 fuel (nI t) (nI u) (nI (max m (wF lo hi wp z t i))) (nI (i + 1)) N) → (∀ i, wp i ≤ i) → x_X9_mostTill (nI t) (nI u) N = some (nI (mxa (wF lo hi wp z t) 0 t), N) := by
    intro wp z hs hwp
    have wb : ∀ i, i < t → wF lo hi wp z t i ≤ 12 := fun i hi2 => by
      have := gm_b lo hi 0 t
      have := gm_b lo hi i (t - i)
      have := hwp i
      unfold wF
      split
      · omega
      · split <;> omega
    have mb : ∀ i, i ≤ t → mxa (wF lo hi wp z t) 0 i ≤ 12 := fun i hi2 => (mxa_le i).mpr fun j hj => by rw [Nat.zero_add]; exact wb j (by omega)
    unfold x_X9_mostTill
    refine p_loop0 (n := t) (F := fun i fuel (_ : Unit) => x_X9_mostTill_L5 fuel (nI t) (nI u) (nI (mxa (wF lo hi wp z t) 0 i)) (nI i) N) (I := fun _ _ => True) (R := fun r => r = some (nI (mxa (wF lo hi wp z t) 0 t), N)) (s := ()) (by omega) trivial ?_ ?_
    · intro _ fuel _
      show x_X9_mostTill_L5 (fuel + 1) _ _ _ (nI t) N = _
      rw [x_X9_mostTill_L5, if_pos (Int32.le_refl _)]
    · intro i _ fuel hi2 _
      right
      refine ⟨(), trivial, ?_⟩
      show x_X9_mostTill_L5 (fuel + 1) _ _ (nI (mxa (wF lo hi wp z t) 0 i)) (nI i) N = x_X9_mostTill_L5 fuel _ _ (nI (max (mxa (wF lo hi wp z t) 0 i) (wF lo hi wp z t (0 + i)))) (nI (i + 1)) N
      have k := mb i (by omega)
      rw [Nat.zero_add]
      by_cases y : i = 0
      · subst y
        have q := (py_L43 hG (x_X9_mostTill_L5 fuel) (nI u) hi2 ht).1 (mxa (wF lo hi wp z t) 0 0) 0 (by omega) (by decide)
        rw [x_X9_mostTill_L5, if_neg (show ¬ nI t ≤ nI 0 from nI_ge hi2 (by omega)), if_pos (show nI 0 = (0 : Int32) from rfl)]
        have e2 : 0 + gm lo hi 0 (t - 0) = wF lo hi wp z t 0 := by
          unfold wF
          rw [if_pos rfl, Nat.sub_zero, Nat.zero_add]
        rw [e2] at q
        exact q
      · exact hs i hi2 y fuel _ k
  cases u with
  | zero =>
    refine fin (fun _ => 0) true (fun i hi2 y fuel m hm => ?_) (fun _ => Nat.zero_le _)
    rw [x_X9_mostTill_L5, if_neg (show ¬ nI t ≤ nI i from nI_ge hi2 (by omega)), if_neg (show ¬ nI i = (0 : Int32) from fun q => y ((p_eq (a := i) (b := 0) (by omega) (by decide)).mp q)), if_pos (show nI 0 = (0 : Int32) from rfl), (py_L43 hG _ _ hi2 ht).2 m hm]
    unfold wF
    rw [if_neg y, if_pos rfl, Nat.max_zero]
  | succ u =>
    refine fin (wk lo hi u) false (fun i hi2 y fuel m hm => ?_) (wk_b lo hi u)
    have wb := wk_b lo hi u i
    have ej : (13 : Int32) * (nI (u + 1) - 1) + nI i = nI (13 * u + i) := by rw [p_pred, show (13 : Int32) = nI 13 from rfl, p_mul, p_add]
    have cj : (nI (13 * u + i)).toNatClampNeg = 13 * u + i := nI_clamp (by omega)
    rw [x_X9_mostTill_L5, if_neg (show ¬ nI t ≤ nI i from nI_ge hi2 (by omega)), if_neg (show ¬ nI i = (0 : Int32) from fun q => y ((p_eq (a := i) (b := 0) (by omega) (by decide)).mp q)), if_neg (show ¬ nI (u + 1) = (0 : Int32) from fun q => absurd ((p_eq (a := u + 1) (b := 0) (by omega) (by decide)).mp q) (by omega)), ej, if_pos (p_inb (show 13 * u + i < 52 by omega) (by decide)), cj, hW u rfl i (by omega), (py_L43 hG _ _ hi2 ht).1 m _ (by omega) (by omega)]
    unfold wF
    rw [if_neg y, if_neg (by decide)]
theorem py_wakeL {N0 : g_M} {lo hi : Nat → Nat} (hG : ∀ f h, f ≤ h → h < 12 → N0 71 (12 * f + h) = nI (gm lo hi f (h + 1 - f))) {n : Nat} (hn : n ≤ 3) : ∃ N, x_X9_wake_L37 g_F (nI n) 0 N0 = some (nI (wk lo hi n 12), N) ∧ ∀ c, c ≠ 72 → N c = N0 c := by
  refine p_loop0 (n := n + 1) (F := fun w fuel s => x_X9_wake_L37 fuel (nI n) (nI w) s) (I := fun w s => (∀ c, c ≠ 72 → s c = N0 c) ∧ ∀ u t, u < w → t ≤ 12 → s 72 (13 * u + t) = nI (wk lo hi u t)) (R := fun r => ∃ N, r = some (nI (wk lo hi n 12), N) ∧ ∀ c, c ≠ 72 → N c = N0 c) (s := N0) (by omega) ⟨fun _ _ => rfl, fun u t hu _ => absurd hu (by omega)⟩ ?_ ?_
  · intro s fuel ⟨h1, h2⟩
    refine ⟨s, ?_, h1⟩
    have ei : (13 : Int32) * nI n + 12 = nI (13 * n + 12) := by rw [show (13 : Int32) = nI 13 from rfl, show (12 : Int32) = nI 12 from rfl, p_mul, p_add]
    have ci : (nI (13 * n + 12)).toNatClampNeg = 13 * n + 12 := nI_clamp (by omega)
    show x_X9_wake_L37 (fuel + 1) _ (nI (n + 1)) s = _
    rw [x_X9_wake_L37, if_pos ((p_lt (by omega) (by omega)).mpr (by omega)), ei, if_pos (p_inb (show 13 * n + 12 < 52 by omega) (by decide)), ci, h2 n 12 (by omega) (by decide)]
  · intro w s fuel hw ⟨h1, h2⟩
    right
    show ∃ s', ((∀ c, c ≠ 72 → s' c = N0 c) ∧ ∀ u t, u < w + 1 → t ≤ 12 → s' 72 (13 * u + t) = nI (wk lo hi u t)) ∧ x_X9_wake_L37 (fuel + 1) (nI n) (nI w) s = x_X9_wake_L37 fuel (nI n) (nI (w + 1)) s'
    rw [x_X9_wake_L37, if_neg (fun q => absurd ((p_lt (by omega) (by omega)).mp q) (by omega))]
    generalize x_X9_wake_L37 fuel = k37
    refine p_loop0 (n := 13) (F := fun i fuel s => x_X9_wake_L46 k37 fuel (nI n) (nI w) (nI i) s) (I := fun i s => (∀ c, c ≠ 72 → s c = N0 c) ∧ ∀ u t, (u < w ∨ (u = w ∧ t < i)) → t ≤ 12 → s 72 (13 * u + t) = nI (wk lo hi u t)) (R := fun r => ∃ s', ((∀ c, c ≠ 72 → s' c = N0 c) ∧ ∀ u t, u < w + 1 → t ≤ 12 → s' 72 (13 * u + t) = nI (wk lo hi u t)) ∧ r = k37 (nI n) (nI (w + 1)) s') (s := s) (by decide) ⟨h1, fun u t hu ht => h2 u t (by omega) ht⟩ ?_ ?_
    · intro s fuel ⟨h1, h2⟩
      refine ⟨s, ⟨h1, fun u t hu ht => h2 u t (by omega) ht⟩, ?_⟩
      show x_X9_wake_L46 k37 (fuel + 1) _ _ (nI 13) s = _
      rw [x_X9_wake_L46, if_pos (by decide), nI_succ w]
    · intro i s fuel hi2 ⟨h1, h2⟩
      right
      have ei : (13 : Int32) * nI w + nI i = nI (13 * w + i) := by rw [show (13 : Int32) = nI 13 from rfl, p_mul, p_add]
      have ci : (nI (13 * w + i)).toNatClampNeg = 13 * w + i := nI_clamp (by omega)
      have mt := py_mostTill (N := s) (lo := lo) (hi := hi) (fun f h a b => by rw [h1 71 (by decide)]; exact hG f h a b) (u := w) (t := i) (by omega) (by omega) (fun u' e t ht => h2 u' t (by omega) ht)
      have g12 : ¬ (12 : Int32) < nI i := fun q => by
        have := (p_lt (a := 12) (by decide) (by omega)).mp q
        omega
      refine ⟨g_upd s 72 (13 * w + i) (nI (wk lo hi w i)), ⟨fun c hc => by rw [g_upd_ne hc, h1 c hc], fun u t hu ht => ?_⟩, ?_⟩
      · rw [g_upd_get]
        by_cases z : u = w ∧ t = i
        · rw [if_pos ⟨rfl, by rw [z.1, z.2]⟩, z.1, z.2]
        · rw [if_neg (fun q => z (by have := q.2; omega)), h2 u t (by omega) ht]
      · show x_X9_wake_L46 k37 (fuel + 1) _ _ (nI i) s = x_X9_wake_L46 k37 fuel _ _ (nI (i + 1)) _
        rw [x_X9_wake_L46, if_neg g12]
        refine (bnd mt _).trans ?_
        dsimp only
        rw [ei, if_pos (p_inb (show 13 * w + i < 52 by omega) (by decide)), ci, nI_succ i]
theorem op_wake (p k : Int32) : opOK (x_X8_wake p k) (x_X9_wake p k) := by
  intro M h
  by_cases hp : 0 ≤ p ∧ p < M 1 6
  rotate_left
  · exact op_ref h (k := 1) (r := -nI 1) (by decide) (by simp [x_X8_wake, px_hasBoat, hp, n1, px_refused]) (fun M1 hc => by simp [x_X9_wake, x_X9_wake_L18, noB h hp hc, n1, nz1, py_no])
  by_cases k1 : 0 ≤ k
  rotate_left
  · have hv : k < 0 := by rw [← Int32.not_le]; exact k1
    exact op_ref h (k := 4) (r := -nI 4) (by decide) (by simp [x_X8_wake, px_hasBoat, hp, k1, n4, px_refused]) (fun M1 hc => by simp [x_X9_wake, x_X9_wake_L18, yesB h hp hc, py_bound, hv, n4, nz4, py_no])
  have hv : ¬ k < 0 := by rw [Int32.not_lt]; exact k1
  by_cases k6 : k ≤ 3
  rotate_left
  · have hv2 : 3 < k := by rw [← Int32.not_le]; exact k6
    exact op_ref h (k := 6) (r := -nI 6) (by decide) (by simp [x_X8_wake, px_hasBoat, hp, k1, k6, n6, px_refused]) (fun M1 hc => by simp [x_X9_wake, x_X9_wake_L18, yesB h hp hc, py_bound, hv, hv2, n6, nz6, py_no])
  have hv2 : ¬ 3 < k := by rw [Int32.not_lt]; exact k6
  obtain ⟨j, hj, rfl⟩ := p_in (i := k) (n := 4) (by decide) k1 (show k < 4 by grind)
  obtain ⟨b, rfl, hb, hb1, hb2, hR, hB⟩ := bo h hp
  obtain ⟨M', N, e1, m1, hs, hN, hL⟩ := lxm h hb1 hb hB
  obtain ⟨N2, x1, x2⟩ := px_mostGood hL (m := j) (by omega)
  have g1 : x_X2_hasBoat 1 (nI b) M = some (1, M) := by rw [px_hasBoat, if_pos hp]
  have hx : x_X8_wake (nI b) (nI j) M = some (nI (bst (fun k => sC (rb M b) (M 43 k)) (fun k => sG (rb M b) (M 43 k)) j 12), N2) := by
    rw [x_X8_wake]
    refine (bnd g1 _).trans ?_
    dsimp only
    rw [if_neg (by decide), if_pos k1, if_pos k6]
    refine (bnd e1 _).trans ?_
    refine (bnd m1 _).trans ?_
    refine (bnd x1 _).trans ?_
    rfl
  refine op_ask h hx (fun c hc => by rw [x2 c (by omega) (by omega), hs c hc]) fun h1 hc => ?_
  obtain ⟨r1, r2, r3, r4, r5, r6⟩ := rby h hc hb2 hb hR hB
  obtain ⟨Na, a1, a2, a3⟩ := py_findGood (M := N2) hb r1 r2 r3
  rw [r4, r5] at a3
  obtain ⟨Nb, b1, b2⟩ := py_wakeL a3 (show j ≤ 3 by omega)
  rw [← bst_wk] at b1
  have q : ∀ c, c ≠ 71 → c ≠ 72 → Nb c = N2 c := fun c x y => by rw [b2 c y, a2 c x]
  refine ⟨Nb, ?_, fun c a => q c (by omega) (by omega), fun c a b => q c (by omega) (by omega), fun i _ _ _ _ => by rw [q 41 (by decide) (by decide)], fun c a b => q c (by omega) (by omega), fun i _ => by rw [q 61 (by decide) (by decide)], fun c a b => q c (by omega) (by omega)⟩
  have g3 : x_X9_bound (nI j) 0 3 N2 = some (0, N2) := by rw [py_bound, if_neg hv, if_neg hv2]
  rw [x_X9_wake]
  refine (bnd r6 _).trans ?_
  dsimp only
  rw [if_neg (by decide)]
  refine (bnd g3 _).trans ?_
  dsimp only
  rw [x_X9_wake_L18, if_pos rfl]
  refine (bnd a1 _).trans ?_
  exact b1
