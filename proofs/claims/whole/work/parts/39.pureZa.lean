/-! THE PURE PART. ZA: fortnight -/
theorem p_shl14 : ∀ n, n < 14 → (1 : Int32) <<< (nI n &&& 31) = nI (2 ^ n) := by decide +kernel
theorem p_bit14 : ∀ i, i < 14 → ∀ k, k < 14 → (nI (2 ^ i)).toBitVec.getLsbD k = decide (k = i) := by decide +kernel
theorem bt_bit (p : Nat → Bool) {k : Nat} (hk : k < 14) : ∀ n, n ≤ 14 → (bt p n).toBitVec.getLsbD k = (decide (k < n) && p k) := by
  intro n
  induction n with
  | zero =>
    intro _
    have : ∀ k, k < 14 → (0 : Int32).toBitVec.getLsbD k = false := by decide
    show (0 : Int32).toBitVec.getLsbD k = _
    rw [this k hk]
    simp
  | succ n ih =>
    intro hn
    by_cases hp : p n = true
    · rw [← bt_t hp, p_shl14 n (by omega), Int32.toBitVec_or, BitVec.getLsbD_or, ih (by omega), p_bit14 n (by omega) k hk]
      by_cases z : k = n
      · subst z; simp [hp]
      · by_cases y : k < n
        · have : k < n + 1 := by omega
          simp [y, this, z]
        · have : ¬ k < n + 1 := by omega
          simp [y, this, z]
    · rw [← bt_f hp, ih (by omega)]
      by_cases z : k = n
      · subst z
        rw [Bool.not_eq_true] at hp
        simp [hp]
      · by_cases y : k < n
        · have : k < n + 1 := by omega
          simp [y, this]
        · have : ¬ k < n + 1 := by omega
          simp [y, this]
theorem bt_z14 {p : Nat → Bool} : bt p 14 = 0 ↔ ∀ i, i < 14 → p i = false := by
  constructor
  · intro e i hi
    have q := bt_bit p hi 14 (by decide)
    rw [e] at q
    have : ∀ k, k < 14 → (0 : Int32).toBitVec.getLsbD k = false := by decide
    rw [this i hi] at q
    simpa [hi] using q.symm
  · intro h
    rw [bt_cg (p' := fun _ => false) h]
    exact bt_zero 14
theorem p_shr1 : ∀ k, k < 14 → ∀ x : BitVec 32, (x.sshiftRight k &&& 1#32 = 1#32 ↔ x.getLsbD k = true) := by
  intro k hk x
  have g : (x.sshiftRight k).getLsbD 0 = x.getLsbD k := by
    rw [BitVec.getLsbD_sshiftRight]
    have : 0 + k < 32 := by omega
    simp [this]
    omega
  constructor
  · intro e
    have := congrArg (fun y : BitVec 32 => y.getLsbD 0) e
    simp only [BitVec.getLsbD_and] at this
    rw [g] at this
    simpa using this
  · intro e
    apply BitVec.eq_of_getLsbD_eq
    intro i hi
    rw [BitVec.getLsbD_and]
    by_cases z : i = 0
    · subst z
      rw [g, e]
      rfl
    · have : (1#32).getLsbD i = false := by
        have : ∀ i, i < 32 → ¬ i = 0 → (1#32).getLsbD i = false := by decide
        exact this i hi z
      rw [this, Bool.and_false]
theorem p_shr : ∀ k, k < 14 → ∀ x : Int32, ((x >>> (nI k &&& 31)) &&& 1 = 1 ↔ x.toBitVec.getLsbD k = true) := by
  intro k hk x
  rw [← p_shr1 k hk, ← Int32.toBitVec_inj, Int32.toBitVec_and, Int32.toBitVec_shiftRight]
  have : ∀ k, k < 14 → ((nI k &&& 31).toBitVec.smod 32).toNat = k := by decide
  show BitVec.sshiftRight x.toBitVec ((nI k &&& 31).toBitVec.smod 32).toNat &&& 1#32 = 1#32 ↔ _
  rw [this k hk]
theorem ff_last (p : Nat → Bool) (r : Nat → Int32) (d : Int32) : ∀ k i, ff p r d (k + 1) i = ff p r (if p (i + k) = true then r (i + k) else d) k i := by
  intro k
  induction k with
  | zero => intro i; rfl
  | succ k ih =>
    intro i
    rw [ff, ih (i + 1), ff, show i + 1 + k = i + (k + 1) by omega]
/-- the tides on a day -/
def Dt (T : Nat → Int32) (s : Int32) (d : Nat) : Nat → Int32 := fun h => sD (T h) s (nI d)
theorem Dt_ok {T : Nat → Int32} (hT : okT T) {s : Int32} (hs : 0 ≤ s ∧ s ≤ 9) {d : Nat} (hd : d < 14) : okT (Dt T s d) := fun h hh => sD_b (hT h hh) hs ⟨p_ge0 (by omega), (p_lt (b := 14) (by omega) (by decide)).mpr hd⟩
theorem px_onDay {M : g_M} {B : Nat → Int32} (h : isM 27 M B) (hB : okB B) (hT : okT (M 2)) (hs : 0 ≤ M 1 11 ∧ M 1 11 ≤ 9) {d : Nat} (hd : d < 14) : x_X8_leastOnDay (nI d) M = some (nI (sL B (Dt (M 2) (M 1 11) d)), M) := by
  have dk := Dt_ok hT hs hd
  unfold x_X8_leastOnDay
  have b79 : ∀ i, i ≤ 12 → mxa (fun h => sC B (Dt (M 2) (M 1 11) d h)) 0 i ≤ 79 := fun i hi => (mxa_le i).mpr fun j hj => by
    rw [Nat.zero_add]; exact sC_79 hB (dk j (by omega))
  refine p_loop0 (n := 12) (F := fun i fuel (_ : Unit) => x_X8_leastOnDay_L4 fuel (nI d) (nI (mxa (fun h => sC B (Dt (M 2) (M 1 11) d h)) 0 i)) (nI i) M) (I := fun _ _ => True) (R := fun r => r = some (nI (sL B (Dt (M 2) (M 1 11) d)), M)) (s := ()) (by decide) trivial ?_ ?_
  · intro _ fuel _
    show x_X8_leastOnDay_L4 (fuel + 1) _ _ (nI 12) M = _
    rw [x_X8_leastOnDay_L4, if_pos (by decide)]
    rfl
  · intro i _ fuel hi _
    right
    refine ⟨(), trivial, ?_⟩
    show x_X8_leastOnDay_L4 (fuel + 1) _ (nI (mxa (fun h => sC B (Dt (M 2) (M 1 11) d h)) 0 i)) (nI i) M = x_X8_leastOnDay_L4 fuel _ (nI (max (mxa (fun h => sC B (Dt (M 2) (M 1 11) d h)) 0 i) (sC B (Dt (M 2) (M 1 11) d (0 + i))))) (nI (i + 1)) M
    have k1 := b79 i (by omega)
    have k2 := sC_79 hB (dk i hi)
    rw [x_X8_leastOnDay_L4, if_neg (p_n12 hi)]
    refine (bnd (px_tideOn (q := 1) hi _ M) _).trans ?_
    dsimp only
    refine (bnd (px_leastAt h hB (dk i hi)) _).trans ?_
    dsimp only
    rw [p_max (by omega) (by omega), nI_succ i, Nat.zero_add]
theorem lx_fort {M : g_M} {B : Nat → Int32} (h : isM 27 M B) (hB : okB B) (hT : okT (M 2)) (hs : 0 ≤ M 1 11 ∧ M 1 11 ≤ 9) (w : Int32) : ∀ k acc f l fuel, k ≤ 14 → l ≤ 79 → k < fuel → x_X8_fortnight_L57 fuel w acc f (nI l) (nI k - 1) M = some (if w = 0 then acc ||| bt (fun d => decide (¬ nI (sL B (Dt (M 2) (M 1 11) d)) ≤ B 5)) k else if w = 1 then ff (fun d => decide (¬ nI (sL B (Dt (M 2) (M 1 11) d)) ≤ B 5)) nI f k 0 else nI (max l (mxa (fun d => sL B (Dt (M 2) (M 1 11) d)) 0 k)), M) := by
  intro k
  induction k with
  | zero =>
    intro acc f l fuel hk hl hf
    obtain ⟨m, rfl⟩ : ∃ m, fuel = m + 1 := ⟨fuel - 1, by omega⟩
    rw [x_X8_fortnight_L57, if_pos (by decide)]
    by_cases w0 : w = 0
    · rw [if_pos w0, if_pos w0]
      show _ = some (acc ||| 0, M)
      rw [show acc ||| 0 = acc by simp]
    · rw [if_neg w0, if_neg w0]
      by_cases w1 : w = 1
      · rw [if_pos w1, if_pos w1]
        rfl
      · rw [if_neg w1, if_neg w1, x_X8_lengthOrNone, if_pos (nI_99 (by omega)).2]
        show _ = some (nI (max l 0), M)
        rw [Nat.max_zero]
        rfl
  | succ k ih =>
    intro acc f l fuel hk hl hf
    obtain ⟨m, rfl⟩ : ∃ m, fuel = m + 1 := ⟨fuel - 1, by omega⟩
    have L := sL_79 hB (Dt_ok hT hs (show k < 14 by omega))
    have pe : ∀ v : Nat, mxa (fun d => sL B (Dt (M 2) (M 1 11) d)) 0 (k + 1) = max (mxa (fun d => sL B (Dt (M 2) (M 1 11) d)) 0 k) (sL B (Dt (M 2) (M 1 11) k)) := fun _ => by
      show max _ (sL B (Dt (M 2) (M 1 11) (0 + k))) = _
      rw [Nat.zero_add]
    rw [p_pred, x_X8_fortnight_L57, if_neg (nI_pos (by omega))]
    refine (bnd (px_onDay h hB hT hs (by omega)) _).trans ?_
    dsimp only
    have h5 := h 5 (by decide)
    rw [p_max (by omega) (by omega), show nI k + -1 = nI k - 1 by grind, ff_last, Nat.zero_add, pe 0, show max l (max (mxa (fun d => sL B (Dt (M 2) (M 1 11) d)) 0 k) (sL B (Dt (M 2) (M 1 11) k))) = max (max l (sL B (Dt (M 2) (M 1 11) k))) (mxa (fun d => sL B (Dt (M 2) (M 1 11) d)) 0 k) by omega]
    by_cases z : nI (sL B (Dt (M 2) (M 1 11) k)) ≤ B 5
    · rw [if_pos (by rw [h5]; exact z), ih acc f _ m (by omega) (by omega) (by omega), ← bt_f (p := fun d => decide (¬ nI (sL B (Dt (M 2) (M 1 11) d)) ≤ B 5)) (by simpa using z), if_neg (show ¬ decide (¬ nI (sL B (Dt (M 2) (M 1 11) k)) ≤ B 5) = true by simpa using z)]
    · rw [if_neg (by rw [h5]; exact z), ih _ _ _ m (by omega) (by omega) (by omega), ← bt_t (p := fun d => decide (¬ nI (sL B (Dt (M 2) (M 1 11) d)) ≤ B 5)) (by simpa using z), if_pos (show decide (¬ nI (sL B (Dt (M 2) (M 1 11) k)) ≤ B 5) = true by simpa using z)]
      congr 2
      split
      · generalize bt _ k = y
        generalize (1 : Int32) <<< (nI k &&& 31) = x
        rw [Int32.or_assoc, Int32.or_comm x y]
      · rfl
/-- days on which a boat hangs -/
def hD (B : Nat → Int32) (v : Int32) (T : Nat → Int32) (s : Int32) : Nat → Bool := fun d => decide (¬ sHH B v (Dt T s d) = 0)
theorem py_days {M : g_M} {b : Nat} (hb : b < 5) (hR : okR M b) (hB : okB (rb M b)) (hT : okT (M 43)) (hs : 0 ≤ M 41 18 ∧ M 41 18 ≤ 9) (v : Int32) : ∃ M2, x_X9_hangDays (nI b) v M = some (bt (hD (rb M b) v (M 43) (M 41 18)) 14, M2) ∧ ∀ c, c ≠ 70 → M2 c = M c := by
  unfold x_X9_hangDays
  have l1 : ∃ N, x_X9_hangDays_L5 g_F (nI b) v 0 0 M = x_X9_hangDays_L35 g_F (nI b) v 0 0 N ∧ (∀ c, c ≠ 70 → N c = M c) ∧ ∀ j, j < 12 → N 70 j = M 43 j := by
    refine p_loop0 (n := 12) (F := fun i fuel s => x_X9_hangDays_L5 fuel (nI b) v 0 (nI i) s) (I := fun i s => (∀ c, c ≠ 70 → s c = M c) ∧ ∀ j, j < i → s 70 j = M 43 j) (R := fun r => ∃ N, r = x_X9_hangDays_L35 g_F (nI b) v 0 0 N ∧ (∀ c, c ≠ 70 → N c = M c) ∧ ∀ j, j < 12 → N 70 j = M 43 j) (s := M) (by decide) ⟨fun _ _ => rfl, fun j hj => absurd hj (by omega)⟩ ?_ ?_
    · intro s fuel ⟨h1, h2⟩
      refine ⟨s, ?_, h1, h2⟩
      show x_X9_hangDays_L5 (fuel + 1) _ _ _ (nI 12) s = _
      rw [x_X9_hangDays_L5, if_pos (by decide)]
    · intro i s fuel hi ⟨h1, h2⟩
      right
      have ci : (nI i).toNatClampNeg = i := nI_clamp (by omega)
      have bi := p_inb hi (by decide : (12 : Nat) < 2 ^ 31)
      refine ⟨g_upd s 70 i (s 43 i), ⟨fun c hc => by rw [g_upd_ne hc, h1 c hc], fun j hj => ?_⟩, ?_⟩
      · rw [g_upd_get]
        by_cases z : j = i
        · subst z; rw [if_pos ⟨rfl, rfl⟩, h1 43 (by decide)]
        · rw [if_neg (fun q => z q.2)]; exact h2 j (by omega)
      · show x_X9_hangDays_L5 (fuel + 1) _ _ _ (nI i) s = x_X9_hangDays_L5 fuel _ _ _ (nI (i + 1)) _
        rw [x_X9_hangDays_L5, if_neg (p_n12 hi), if_pos bi, if_pos bi, ci, nI_succ]
  obtain ⟨N, e1, n1', n2'⟩ := l1
  rw [e1]
  -- a day
  have day : ∀ (d : Nat) (k35 : Int32 → Int32 → Int32 → Int32 → g_M → Option (Int32 × g_M)) (acc : Int32) (s : g_M), d < 14 → (∀ c, c ≠ 43 → s c = N c) → (∀ j, 12 ≤ j → s 43 j = M 43 j) → ∃ s', (∀ c, c ≠ 43 → s' c = N c) ∧ (∀ j, 12 ≤ j → s' 43 j = M 43 j) ∧ x_X9_hangDays_L45 k35 g_F (nI b) v acc (nI d) 0 s = k35 (nI b) v (if hD (rb M b) v (M 43) (M 41 18) d = true then acc ||| ((1 : Int32) <<< (nI d &&& 31)) else acc ||| 0) (nI (d + 1)) s' := by
    intro d k35 acc s hd hs1 hs2
    refine p_loop0 (n := 12) (F := fun i fuel s => x_X9_hangDays_L45 k35 fuel (nI b) v acc (nI d) (nI i) s) (I := fun i s => (∀ c, c ≠ 43 → s c = N c) ∧ (∀ j, 12 ≤ j → s 43 j = M 43 j) ∧ ∀ j, j < i → s 43 j = M 43 j) (R := fun r => ∃ s', (∀ c, c ≠ 43 → s' c = N c) ∧ (∀ j, 12 ≤ j → s' 43 j = M 43 j) ∧ r = k35 (nI b) v (if hD (rb M b) v (M 43) (M 41 18) d = true then acc ||| ((1 : Int32) <<< (nI d &&& 31)) else acc ||| 0) (nI (d + 1)) s') (s := s) (by decide) ⟨hs1, hs2, fun j hj => absurd hj (by omega)⟩ ?_ ?_
    · intro s fuel ⟨h1, h2, h3⟩
      have lay : ∃ s', x_X9_laysDay (nI d) s = some (0, s') ∧ (∀ c, c ≠ 43 → s' c = N c) ∧ (∀ j, 12 ≤ j → s' 43 j = M 43 j) ∧ ∀ j, j < 12 → s' 43 j = Dt (M 43) (M 41 18) d j := by
        unfold x_X9_laysDay
        refine p_loop0 (n := 12) (F := fun i fuel s => x_X9_laysDay_L2 fuel (nI d) (nI i) s) (I := fun i s => (∀ c, c ≠ 43 → s c = N c) ∧ (∀ j, 12 ≤ j → s 43 j = M 43 j) ∧ (∀ j, j < i → s 43 j = Dt (M 43) (M 41 18) d j) ∧ ∀ j, i ≤ j → s 43 j = M 43 j) (R := fun r => ∃ s', r = some (0, s') ∧ (∀ c, c ≠ 43 → s' c = N c) ∧ (∀ j, 12 ≤ j → s' 43 j = M 43 j) ∧ ∀ j, j < 12 → s' 43 j = Dt (M 43) (M 41 18) d j) (s := s) (by decide) ⟨h1, h2, fun j hj => absurd hj (by omega), fun j _ => by
          by_cases z : j < 12
          · exact h3 j z
          · exact h2 j (by omega)⟩ ?_ ?_
        · intro s fuel ⟨a1, a2, a3, _⟩
          refine ⟨s, ?_, a1, a2, a3⟩
          show x_X9_laysDay_L2 (fuel + 1) _ (nI 12) s = _
          rw [x_X9_laysDay_L2, if_pos (by decide)]
        · intro i s fuel hi ⟨a1, a2, a3, a4⟩
          right
          have ci : (nI i).toNatClampNeg = i := nI_clamp (by omega)
          have s18 : s 41 18 = M 41 18 := by rw [a1 41 (by decide), n1' 41 (by decide)]
          have si := a4 i (Nat.le_refl _)
          have ti := py_tideOn (M := s) hi (d := nI d) (by rw [si]; exact hT i hi) (by rw [s18]; exact hs) ⟨p_ge0 (by omega), (p_lt (b := 14) (by omega) (by decide)).mpr hd⟩
          rw [si, s18] at ti
          refine ⟨g_upd s 43 i (Dt (M 43) (M 41 18) d i), ⟨fun c hc => by rw [g_upd_ne hc, a1 c hc], fun j hj => by rw [g_upd_get, if_neg (fun q => by have := q.2; omega), a2 j hj], fun j hj => ?_, fun j hj => by rw [g_upd_get, if_neg (fun q => by have := q.2; omega), a4 j (by omega)]⟩, ?_⟩
          · rw [g_upd_get]
            by_cases z : j = i
            · subst z; rw [if_pos ⟨rfl, rfl⟩]
            · rw [if_neg (fun q => z q.2)]; exact a3 j (by omega)
          · show x_X9_laysDay_L2 (fuel + 1) _ (nI i) s = x_X9_laysDay_L2 fuel _ (nI (i + 1)) _
            rw [x_X9_laysDay_L2, if_neg (p_n12 hi)]
            refine (bnd ti _).trans ?_
            dsimp only
            rw [if_pos (p_inb hi (by decide)), ci, nI_succ]
            rfl
      obtain ⟨s', b0, b1, b2, b3⟩ := lay
      refine ⟨s', b1, b2, ?_⟩
      have nc : ∀ c, 43 < c → c < 61 → s' c = M c := fun c x y => by rw [b1 c (by omega), n1' c (by omega)]
      have rN : rb s' b = rb M b := by
        funext j
        unfold rb
        rw [nc 45 (by decide) (by decide), nc 46 (by decide) (by decide), nc 47 (by decide) (by decide), nc 48 (by decide) (by decide), nc 49 (by decide) (by decide), nc 50 (by decide) (by decide), nc 51 (by decide) (by decide), nc 52 (by decide) (by decide), nc 53 (by decide) (by decide), nc 54 (by decide) (by decide)]
      have RN : okR s' b := by unfold okR; rw [nc 50 (by decide) (by decide), nc 51 (by decide) (by decide)]; exact hR
      have hh := py_hangH (M := s') hb RN (by rw [rN]; exact hB) (okT_cg b3 (Dt_ok hT hs hd)) v
      rw [rN, sHH_cg b3] at hh
      show x_X9_hangDays_L45 k35 (fuel + 1) _ _ _ _ (nI 12) s = _
      rw [x_X9_hangDays_L45, if_pos (by decide)]
      refine (bnd b0 _).trans ?_
      refine (bnd hh _).trans ?_
      dsimp only
      unfold hD
      rw [nI_succ d]
      by_cases z : sHH (rb M b) v (Dt (M 43) (M 41 18) d) = 0
      · rw [if_pos z, if_neg (by simpa using z)]
      · rw [if_neg z, if_pos (by simpa using z)]
    · intro i s fuel hi ⟨h1, h2, h3⟩
      right
      have ci : (nI i).toNatClampNeg = i := nI_clamp (by omega)
      have bi := p_inb hi (by decide : (12 : Nat) < 2 ^ 31)
      have s70 : s 70 i = M 43 i := by rw [h1 70 (by decide), n2' i hi]
      refine ⟨g_upd s 43 i (s 70 i), ⟨fun c hc => by rw [g_upd_ne hc, h1 c hc], fun j hj => by rw [g_upd_get, if_neg (fun q => by have := q.2; omega), h2 j hj], fun j hj => ?_⟩, ?_⟩
      · rw [g_upd_get]
        by_cases z : j = i
        · subst z; rw [if_pos ⟨rfl, rfl⟩, s70]
        · rw [if_neg (fun q => z q.2)]; exact h3 j (by omega)
      · show x_X9_hangDays_L45 k35 (fuel + 1) _ _ _ _ (nI i) s = x_X9_hangDays_L45 k35 fuel _ _ _ _ (nI (i + 1)) _
        rw [x_X9_hangDays_L45, if_neg (p_n12 hi), if_pos bi, if_pos bi, ci, nI_succ]
  have all : ∃ s', (∀ c, c ≠ 43 → s' c = N c) ∧ (∀ j, 12 ≤ j → s' 43 j = M 43 j) ∧ x_X9_hangDays_L35 g_F (nI b) v 0 0 N = x_X9_hangDays_L107 g_F (bt (hD (rb M b) v (M 43) (M 41 18)) 14) 0 s' := by
    refine p_loop0 (n := 14) (F := fun d fuel s => x_X9_hangDays_L35 fuel (nI b) v (bt (hD (rb M b) v (M 43) (M 41 18)) d) (nI d) s) (I := fun _ s => (∀ c, c ≠ 43 → s c = N c) ∧ ∀ j, 12 ≤ j → s 43 j = M 43 j) (R := fun r => ∃ s', (∀ c, c ≠ 43 → s' c = N c) ∧ (∀ j, 12 ≤ j → s' 43 j = M 43 j) ∧ r = x_X9_hangDays_L107 g_F (bt (hD (rb M b) v (M 43) (M 41 18)) 14) 0 s') (s := N) (by decide) ⟨fun _ _ => rfl, fun j _ => by rw [n1' 43 (by decide)]⟩ ?_ ?_
    · intro s fuel ⟨h1, h2⟩
      refine ⟨s, h1, h2, ?_⟩
      show x_X9_hangDays_L35 (fuel + 1) _ _ _ (nI 14) s = _
      rw [x_X9_hangDays_L35, if_pos (by decide)]
    · intro d s fuel hd ⟨h1, h2⟩
      right
      obtain ⟨s', a1, a2, a3⟩ := day d (x_X9_hangDays_L35 fuel) (bt (hD (rb M b) v (M 43) (M 41 18)) d) s hd h1 h2
      refine ⟨s', ⟨a1, a2⟩, ?_⟩
      show x_X9_hangDays_L35 (fuel + 1) _ _ (bt (hD (rb M b) v (M 43) (M 41 18)) d) (nI d) s = x_X9_hangDays_L35 fuel _ _ (bt (hD (rb M b) v (M 43) (M 41 18)) (d + 1)) (nI (d + 1)) s'
      rw [x_X9_hangDays_L35, if_neg (show ¬ (14 : Int32) ≤ nI d from nI_ge hd (by decide)), a3]
      by_cases z : hD (rb M b) v (M 43) (M 41 18) d = true
      · rw [if_pos z, bt_t z]
      · rw [if_neg z, bt_f0 z]
  obtain ⟨s0, a1, a2, a3⟩ := all
  rw [a3]
  refine p_loop0 (n := 12) (F := fun i fuel s => x_X9_hangDays_L107 fuel (bt (hD (rb M b) v (M 43) (M 41 18)) 14) (nI i) s) (I := fun i s => (∀ c, c ≠ 43 → s c = N c) ∧ (∀ j, 12 ≤ j → s 43 j = M 43 j) ∧ ∀ j, j < i → s 43 j = M 43 j) (R := fun r => ∃ M2, r = some (bt (hD (rb M b) v (M 43) (M 41 18)) 14, M2) ∧ ∀ c, c ≠ 70 → M2 c = M c) (s := s0) (by decide) ⟨a1, a2, fun j hj => absurd hj (by omega)⟩ ?_ ?_
  · intro s fuel ⟨h1, h2, h3⟩
    refine ⟨s, ?_, fun c hc => ?_⟩
    · show x_X9_hangDays_L107 (fuel + 1) _ (nI 12) s = _
      rw [x_X9_hangDays_L107, if_pos (by decide)]
    · by_cases z : c = 43
      · subst z
        funext j
        by_cases y : j < 12
        · exact h3 j y
        · exact h2 j (by omega)
      · rw [h1 c z, n1' c hc]
  · intro i s fuel hi ⟨h1, h2, h3⟩
    right
    have ci : (nI i).toNatClampNeg = i := nI_clamp (by omega)
    have bi := p_inb hi (by decide : (12 : Nat) < 2 ^ 31)
    have s70 : s 70 i = M 43 i := by rw [h1 70 (by decide), n2' i hi]
    refine ⟨g_upd s 43 i (s 70 i), ⟨fun c hc => by rw [g_upd_ne hc, h1 c hc], fun j hj => by rw [g_upd_get, if_neg (fun q => by have := q.2; omega), h2 j hj], fun j hj => ?_⟩, ?_⟩
    · rw [g_upd_get]
      by_cases z : j = i
      · subst z; rw [if_pos ⟨rfl, rfl⟩, s70]
      · rw [if_neg (fun q => z q.2)]; exact h3 j (by omega)
    · show x_X9_hangDays_L107 (fuel + 1) _ (nI i) s = x_X9_hangDays_L107 fuel _ (nI (i + 1)) _
      rw [x_X9_hangDays_L107, if_neg (p_n12 hi), if_pos bi, if_pos bi, ci, nI_succ]
theorem py_firstOf (p : Nat → Bool) (M : g_M) : x_X9_firstOf (bt p 14) M = some (ff p nI (-9) 14 0, M) := by
  unfold x_X9_firstOf
  rw [show (0 : Int32) = nI 0 from rfl]
  refine p_find (F := fun i fuel => x_X9_firstOf_L2 fuel (bt p 14) (nI i) M) (by decide) (fun fuel => ?_) (fun i fuel hi => ?_)
  · show x_X9_firstOf_L2 (fuel + 1) _ (nI 14) M = _
    rw [x_X9_firstOf_L2, if_pos (by decide)]
  · show x_X9_firstOf_L2 (fuel + 1) _ (nI i) M = (if p i = true then _ else x_X9_firstOf_L2 fuel _ (nI (i + 1)) M)
    have q := p_shr i hi (bt p 14)
    rw [bt_bit p hi 14 (by decide)] at q
    have q2 : (bt p 14 >>> (nI i &&& 31)) &&& 1 = 1 ↔ p i = true := by rw [q]; simp [hi]
    rw [x_X9_firstOf_L2, if_neg (show ¬ (14 : Int32) ≤ nI i from nI_ge hi (by decide)), nI_succ]
    by_cases z : p i = true
    · rw [if_pos (q2.mpr z), if_pos z]
    · rw [if_neg (fun y => z (q2.mp y)), if_neg z]
theorem op_fortnight (p w : Int32) : opOK (x_X8_fortnight p w) (x_X9_fortnight p w) := by
  intro M h
  by_cases hp : 0 ≤ p ∧ p < M 1 6
  rotate_left
  · exact op_ref h (k := 1) (r := -nI 1) (by decide) (by simp [x_X8_fortnight, px_hasBoat, hp, n1, px_refused]) (fun M1 hc => by simp [x_X9_fortnight, x_X9_fortnight_L27, noB h hp hc, n1, nz1, py_no])
  by_cases w2 : 0 ≤ w ∧ w < 3
  rotate_left
  · have w3 : ¬ (0 ≤ w ∧ w ≤ 2) := fun q => w2 ⟨q.1, by have := q.2; grind⟩
    exact op_ref h (k := 2) (r := -nI 2) (by decide) (by simp [x_X8_fortnight, px_hasBoat, hp, px_isOneOf, w2, n2, px_refused]) (fun M1 hc => by simp [x_X9_fortnight, x_X9_fortnight_L27, yesB h hp hc, py_isIn, w3, n2, nz2, py_no])
  have w3 : 0 ≤ w ∧ w ≤ 2 := ⟨w2.1, by have := w2.2; grind⟩
  obtain ⟨b, rfl, hb, hb1, hb2, hR, hB⟩ := bo h hp
  obtain ⟨M', e1, e2, e3, tt, T2⟩ := lxd h (q := 27) (by decide) hb1 hb
  have T := inv_T h
  have S := inv_S h
  have g1 : x_X2_hasBoat 1 (nI b) M = some (1, M) := by rw [px_hasBoat, if_pos hp]
  have g2 : x_X8_isOneOf w 3 M = some (1, M) := by rw [px_isOneOf, if_pos w2]
  have s11 : M' 1 11 = M 41 18 := by rw [e3 1 (by decide)]; exact S.1
  have lf := lx_fort e2 hB T2 (by rw [s11]; exact S.2) w 14 0 (-9) 0 g_F (by decide) (by decide) (by decide)
  rw [s11] at lf
  have dc : ∀ d, sL (rb M b) (Dt (M' 2) (M 41 18) d) = sL (rb M b) (Dt (M 43) (M 41 18) d) := fun d => sL_cg fun k hk => by unfold Dt; rw [tt k hk]
  simp only [dc] at lf
  have pp : ∀ d, d < 14 → decide (¬ nI (sL (rb M b) (Dt (M 43) (M 41 18) d)) ≤ rb M b 5) = hD (rb M b) (rb M b 5) (M 43) (M 41 18) d := by
    intro d hd
    have dk := Dt_ok T.2 S.2 hd
    have hl := okB_len hB
    obtain ⟨v, hv, ev⟩ := p_in (i := rb M b 5) (n := 100) (by decide) hl.1 (show rb M b 5 < 100 by have := hl.2; grind)
    unfold hD
    rw [ev, decide_eq_decide, sHH_0 hB dk (by omega), p_le (by have := sL_79 hB dk; omega) (by omega)]
  rw [bt_cg pp, ff_cg pp (fun _ _ => rfl)] at lf
  have f79 : mxa (fun d => sL (rb M b) (Dt (M 43) (M 41 18) d)) 0 14 ≤ 79 := (mxa_le 14).mpr fun i hi => by rw [Nat.zero_add]; exact sL_79 hB (Dt_ok T.2 S.2 hi)
  have hx : x_X8_fortnight (nI b) w M = some (if w = 0 then bt (hD (rb M b) (rb M b 5) (M 43) (M 41 18)) 14 else if w = 1 then ff (hD (rb M b) (rb M b 5) (M 43) (M 41 18)) nI (-9) 14 0 else nI (mxa (fun d => sL (rb M b) (Dt (M 43) (M 41 18) d)) 0 14), M') := by
    rw [x_X8_fortnight]
    refine (bnd g1 _).trans ?_
    dsimp only
    rw [if_neg (by decide)]
    refine (bnd g2 _).trans ?_
    dsimp only
    rw [if_neg (by decide)]
    refine (bnd e1 _).trans ?_
    refine Eq.trans lf ?_
    rw [Nat.zero_max, show (0 : Int32) ||| bt (hD (rb M b) (rb M b 5) (M 43) (M 41 18)) 14 = bt (hD (rb M b) (rb M b 5) (M 43) (M 41 18)) 14 by simp]
  refine op_ask h hx (ld_scr (Or.inl rfl) e3) fun h1 hc => ?_
  obtain ⟨r1, r2, r3, r4, r5, r6⟩ := rby h hc hb2 hb hR hB
  have S' := inv_S h1
  have y18 : M' 41 18 = M 41 18 := by rw [hc 41 (by decide)]
  have cb : (nI b).toNatClampNeg = b := nI_clamp (by omega)
  have core : ∀ M2 : g_M, (∀ c, c ≠ 70 → M2 c = M' c) → coreEq M' M2 := fun M2 q => ⟨fun c a => q c (by omega), fun c a b => q c (by omega), fun i _ _ _ _ => by rw [q 41 (by decide)], fun c a b => q c (by omega), fun i _ => by rw [q 61 (by decide)], fun c a b => q c (by omega)⟩
  have g3 : x_X9_isIn w 0 2 M' = some (1, M') := by rw [py_isIn, if_pos w3]
  have go : ∀ r M2, x_X9_fortnight_L27 (nI b) w 0 M' = some (r, M2) → x_X9_fortnight (nI b) w M' = some (r, M2) := by
    intro r M2 q
    rw [x_X9_fortnight]
    refine (bnd r6 _).trans ?_
    dsimp only
    rw [if_neg (by decide)]
    refine (bnd g3 _).trans ?_
    dsimp only
    rw [if_neg (by decide)]
    exact q
  have e5 : M' 52 b = rb M b 5 := by rw [← r4]; rfl
  obtain ⟨D2, d1, d2⟩ := py_days (M := M') hb r1 r2 r3 S'.2 (rb M b 5)
  rw [r4, r5, y18] at d1
  by_cases w0 : w = 0
  · rw [if_pos w0]
    refine ⟨D2, go _ _ ?_, core D2 d2⟩
    rw [x_X9_fortnight_L27, if_pos rfl, if_pos w0, if_pos (p_inb hb (by decide)), cb, e5]
    exact bnd d1 _
  by_cases w1 : w = 1
  · rw [if_neg w0, if_pos w1]
    refine ⟨D2, go _ _ ?_, core D2 d2⟩
    rw [x_X9_fortnight_L27, if_pos rfl, if_neg w0, if_pos w1, if_pos (p_inb hb (by decide)), cb, e5]
    refine (bnd d1 _).trans ?_
    refine (bnd (py_firstOf _ D2) _).trans ?_
    rfl
  rw [if_neg w0, if_neg w1]
  have fin : ∃ M2, x_X9_fortnight_L77 g_F (nI b) 0 M' = some (nI (mxa (fun d => sL (rb M b) (Dt (M 43) (M 41 18) d)) 0 14), M2) ∧ ∀ c, c ≠ 70 → M2 c = M' c := by
    refine p_loop0 (n := mxa (fun d => sL (rb M b) (Dt (M 43) (M 41 18) d)) 0 14) (F := fun i fuel s => x_X9_fortnight_L77 fuel (nI b) (nI i) s) (I := fun _ s => ∀ c, c ≠ 70 → s c = M' c) (R := fun r => ∃ M2, r = some (nI (mxa (fun d => sL (rb M b) (Dt (M 43) (M 41 18) d)) 0 14), M2) ∧ ∀ c, c ≠ 70 → M2 c = M' c) (s := M') (by omega) (fun _ _ => rfl) ?_ ?_
    all_goals
      have one : ∀ (v : Nat) (s : g_M), v ≤ 99 → (∀ c, c ≠ 70 → s c = M' c) → ∃ s', x_X9_hangDays (nI b) (nI v) s = some (bt (hD (rb M b) (nI v) (M 43) (M 41 18)) 14, s') ∧ (∀ c, c ≠ 70 → s' c = M' c) ∧ (bt (hD (rb M b) (nI v) (M 43) (M 41 18)) 14 = 0 ↔ mxa (fun d => sL (rb M b) (Dt (M 43) (M 41 18) d)) 0 14 ≤ v) := by
        intro v s hv hs
        have rs : rb s b = rb M b := by
          rw [← r4]
          funext j
          unfold rb
          rw [hs 45 (by decide), hs 46 (by decide), hs 47 (by decide), hs 48 (by decide), hs 49 (by decide), hs 50 (by decide), hs 51 (by decide), hs 52 (by decide), hs 53 (by decide), hs 54 (by decide)]
        obtain ⟨D3, d3, d4⟩ := py_days (M := s) hb (by unfold okR; rw [hs 50 (by decide), hs 51 (by decide)]; exact r1) (by rw [rs]; exact hB) (by rw [hs 43 (by decide)]; exact r3) (by rw [hs 41 (by decide)]; exact S'.2) (nI v)
        rw [rs, hs 43 (by decide), hs 41 (by decide), r5, y18] at d3
        refine ⟨D3, d3, fun c hc => by rw [d4 c hc, hs c hc], ?_⟩
        rw [bt_z14, mxa_le]
        constructor
        · intro q i hi
          have q := q i hi
          unfold hD at q
          rw [decide_eq_false_iff_not, Decidable.not_not, sHH_0 hB (Dt_ok T.2 S.2 hi) (by omega)] at q
          rw [Nat.zero_add]
          exact q
        · intro q i hi
          have q := q i hi
          rw [Nat.zero_add] at q
          unfold hD
          rw [decide_eq_false_iff_not, Decidable.not_not, sHH_0 hB (Dt_ok T.2 S.2 hi) (by omega)]
          exact q
    · intro s fuel hs
      obtain ⟨s', a1, a2, a3⟩ := one (mxa (fun d => sL (rb M b) (Dt (M 43) (M 41 18) d)) 0 14) s (by omega) hs
      refine ⟨s', ?_, a2⟩
      show x_X9_fortnight_L77 (fuel + 1) _ (nI (mxa (fun d => sL (rb M b) (Dt (M 43) (M 41 18) d)) 0 14)) s = _
      rw [x_X9_fortnight_L77, if_neg (p_99 (by omega))]
      refine (bnd a1 _).trans ?_
      exact if_pos (a3.mpr (Nat.le_refl _))
    · intro v s fuel hv hs
      right
      obtain ⟨s', a1, a2, a3⟩ := one v s (by omega) hs
      refine ⟨s', a2, ?_⟩
      show x_X9_fortnight_L77 (fuel + 1) _ (nI v) s = x_X9_fortnight_L77 fuel _ (nI (v + 1)) s'
      rw [x_X9_fortnight_L77, if_neg (p_99 (by omega)), nI_succ]
      refine (bnd a1 _).trans ?_
      exact if_neg (fun q => absurd (a3.mp q) (by omega))
  obtain ⟨M2, y1, y2⟩ := fin
  refine ⟨M2, go _ _ ?_, core M2 y2⟩
  rw [x_X9_fortnight_L27, if_pos rfl, if_neg w0, if_neg w1]
  exact y1
