/-! THE PURE PART. V: Limits; length, slack, saves -/
/-- Limits hold these -/
def Lm (M : g_M) (lo hi : Nat → Nat) : Prop := ∀ h, h < 12 → M 30 h = nI (lo h) ∧ M 31 h = nI (hi h) ∧ lo h ≤ 99 ∧ hi h ≤ 99
theorem px_measure {M : g_M} {B : Nat → Int32} (h : isM 27 M B) (hB : okB B) (hT : okT (M 2)) : ∃ M', x_X4_measure 27 2 12 M = some (0, M') ∧ (∀ c, c ≠ 30 → c ≠ 31 → M' c = M c) ∧ Lm M' (fun k => sC B (M 2 k)) (fun k => sG B (M 2 k)) := by
  unfold x_X4_measure
  refine p_loop0 (n := 12) (F := fun i fuel s => x_X4_measure_L2 27 2 12 fuel (nI i) s) (I := fun i s => (∀ c, c ≠ 30 → c ≠ 31 → s c = M c) ∧ ∀ j, j < i → s 30 j = nI (sC B (M 2 j)) ∧ s 31 j = nI (sG B (M 2 j))) (R := fun r => ∃ M', r = some (0, M') ∧ (∀ c, c ≠ 30 → c ≠ 31 → M' c = M c) ∧ Lm M' (fun k => sC B (M 2 k)) (fun k => sG B (M 2 k))) (s := M) (by decide) ⟨fun _ _ _ => rfl, fun j hj => absurd hj (by omega)⟩ ?_ ?_
  · intro s fuel ⟨h1, h2⟩
    refine ⟨s, ?_, h1, fun j hj => ⟨(h2 j hj).1, (h2 j hj).2, ?_, sG_99 _ _⟩⟩
    · show x_X4_measure_L2 27 2 12 (fuel + 1) (nI 12) s = _
      rw [x_X4_measure_L2, if_pos (by decide)]
    · have := sC_79 hB (hT j hj)
      show sC B (M 2 j) ≤ 99
      omega
  · intro i s fuel hi ⟨h1, h2⟩
    right
    have c : (nI i).toNatClampNeg = i := nI_clamp (by omega)
    have bi := p_inb hi (by decide : (12 : Nat) < 2 ^ 31)
    have hs : isM 27 s B := fun j hj => by rw [h1 27 (by decide) (by decide)]; exact h j hj
    have s2 : s 2 = M 2 := h1 2 (by decide) (by decide)
    have hs2 : isM 27 (g_upd s 30 i (nI (sC B (M 2 i)))) B := fun j hj => by rw [g_upd_ne (by decide)]; exact hs j hj
    refine ⟨g_upd (g_upd s 30 i (nI (sC B (M 2 i)))) 31 i (nI (sG B (M 2 i))), ⟨fun c a b => by rw [g_upd_ne b, g_upd_ne a, h1 c a b], fun j hj => ?_⟩, ?_⟩
    · by_cases z : j = i
      · subst z
        simp [g_upd_get]
      · have q := h2 j (by omega)
        simp [g_upd_get, z, q.1, q.2]
    · show x_X4_measure_L2 27 2 12 (fuel + 1) (nI i) s = x_X4_measure_L2 27 2 12 fuel (nI (i + 1)) _
      rw [x_X4_measure_L2, if_neg (p_n12 hi), if_neg (show ¬ Int32.ofNat 12 ≤ nI i from p_n12 hi), if_pos bi, c, s2]
      refine (bnd (px_leastAt hs hB (hT i hi)) _).trans ?_
      dsimp only
      rw [if_pos bi, if_pos bi, g_upd_ne (show 2 ≠ 30 by decide), s2]
      refine (bnd (px_greatestAt hs2 hB (hT i hi)) _).trans ?_
      dsimp only
      rw [if_pos bi, nI_succ]
theorem px_leastFrom {N : g_M} {lo hi : Nat → Nat} (h : Lm N lo hi) {a e : Nat} (ha : a ≤ 12) (he : e ≤ 1000) : x_X4_leastFrom (nI a) (nI e) N = some (nI (mxa lo a (min e 12 - a)), N) ∧ mxa lo a (min e 12 - a) ≤ 99 := by
  have b99 : ∀ i, i ≤ min e 12 - a → mxa lo a i ≤ 99 := fun i hi => (mxa_le i).mpr fun j hj => (h (a + j) (by omega)).2.2.1
  refine ⟨?_, b99 _ (Nat.le_refl _)⟩
  unfold x_X4_leastFrom
  have m0 : g_max 0 (nI a) = nI a := by rw [show (0 : Int32) = nI 0 from rfl, p_max (by decide) (by omega), Nat.zero_max]
  rw [m0]
  refine p_loop0 (n := min e 12 - a) (F := fun i fuel (_ : Unit) => x_X4_leastFrom_L9 fuel (nI e) (nI (mxa lo a i)) (nI (a + i)) N) (I := fun _ _ => True) (R := fun r => r = some (nI (mxa lo a (min e 12 - a)), N)) (s := ()) (by omega) trivial ?_ ?_
  · intro _ fuel _
    show x_X4_leastFrom_L9 (fuel + 1) _ _ (nI (a + (min e 12 - a))) N = _
    rw [x_X4_leastFrom_L9]
    by_cases z : e ≤ a + (min e 12 - a)
    · rw [if_pos ((p_le (by omega) (by omega)).mpr z)]
    · rw [if_neg (fun q => z ((p_le (by omega) (by omega)).mp q)), if_pos (p_12 (by omega) (by omega))]
  · intro i _ fuel hi _
    right
    refine ⟨(), trivial, ?_⟩
    show x_X4_leastFrom_L9 (fuel + 1) _ (nI (mxa lo a i)) (nI (a + i)) N = x_X4_leastFrom_L9 fuel _ (nI (max (mxa lo a i) (lo (a + i)))) (nI (a + i + 1)) N
    have q := h (a + i) (by omega)
    have q2 := b99 i (by omega)
    have c : (nI (a + i)).toNatClampNeg = a + i := nI_clamp (by omega)
    rw [x_X4_leastFrom_L9, if_neg (fun z => absurd ((p_le (by omega) (by omega)).mp z) (by omega)), if_neg (p_n12 (by omega)), if_pos (p_inb (show a + i < 12 by omega) (by decide)), c, q.1, p_max (by omega) (by omega), nI_succ]
theorem px_greatestFrom {N : g_M} {lo hi : Nat → Nat} (h : Lm N lo hi) {a e : Nat} (ha : a ≤ 12) (he : e ≤ 1000) : x_X4_greatestFrom (nI a) (nI e) N = some (nI (mna hi a (min e 12 - a)), N) ∧ mna hi a (min e 12 - a) ≤ 99 := by
  have b99 : ∀ i, mna hi a i ≤ 99 := fun i => ((le_mna i).mp (Nat.le_refl _)).1
  refine ⟨?_, b99 _⟩
  unfold x_X4_greatestFrom
  have m0 : g_max 0 (nI a) = nI a := by rw [show (0 : Int32) = nI 0 from rfl, p_max (by decide) (by omega), Nat.zero_max]
  rw [m0]
  refine p_loop0 (n := min e 12 - a) (F := fun i fuel (_ : Unit) => x_X4_greatestFrom_L10 fuel (nI e) (nI (mna hi a i)) (nI (a + i)) N) (I := fun _ _ => True) (R := fun r => r = some (nI (mna hi a (min e 12 - a)), N)) (s := ()) (by omega) trivial ?_ ?_
  · intro _ fuel _
    show x_X4_greatestFrom_L10 (fuel + 1) _ _ (nI (a + (min e 12 - a))) N = _
    rw [x_X4_greatestFrom_L10]
    by_cases z : e ≤ a + (min e 12 - a)
    · rw [if_pos ((p_le (by omega) (by omega)).mpr z)]
    · rw [if_neg (fun q => z ((p_le (by omega) (by omega)).mp q)), if_pos (p_12 (by omega) (by omega))]
  · intro i _ fuel hi2 _
    right
    refine ⟨(), trivial, ?_⟩
    show x_X4_greatestFrom_L10 (fuel + 1) _ (nI (mna hi a i)) (nI (a + i)) N = x_X4_greatestFrom_L10 fuel _ (nI (min (mna hi a i) (hi (a + i)))) (nI (a + i + 1)) N
    have q := h (a + i) (by omega)
    have q2 := b99 i
    have c : (nI (a + i)).toNatClampNeg = a + i := nI_clamp (by omega)
    rw [x_X4_greatestFrom_L10, if_neg (fun z => absurd ((p_le (by omega) (by omega)).mp z) (by omega)), if_neg (p_n12 (by omega)), if_pos (p_inb (show a + i < 12 by omega) (by decide)), c, q.2.1, p_min (by omega) (by omega), nI_succ]
def sH (B : Nat → Int32) (T : Nat → Int32) : Nat := mna (fun h => sG B (T h)) 0 12
theorem le_sH {B : Nat → Int32} {T : Nat → Int32} {v : Nat} : v ≤ sH B T ↔ v ≤ 99 ∧ ∀ h, h < 12 → v ≤ sG B (T h) := by
  unfold sH
  rw [le_mna]
  simp only [Nat.zero_add]
theorem sH_99 (B : Nat → Int32) (T : Nat → Int32) : sH B T ≤ 99 := (le_sH.mp (Nat.le_refl _)).1
theorem sH_cg {B : Nat → Int32} {T T' : Nat → Int32} (h : ∀ k, k < 12 → T k = T' k) : sH B T = sH B T' := by
  apply Nat.le_antisymm
  · exact le_sH.mpr ⟨sH_99 _ _, fun i hi => by rw [← h i hi]; exact (le_sH.mp (Nat.le_refl _)).2 i hi⟩
  · exact le_sH.mpr ⟨sH_99 _ _, fun i hi => by rw [h i hi]; exact (le_sH.mp (Nat.le_refl _)).2 i hi⟩
theorem sFH_0 {B : Nat → Int32} {T : Nat → Int32} (hB : okB B) (hT : okT T) {v : Nat} (hv : v ≤ 99) : sFH B (nI v) T = 0 ↔ v ≤ sH B T := by
  unfold sFH
  rw [bt_eq0, le_sH]
  constructor
  · intro h
    refine ⟨hv, fun i hi => ?_⟩
    have q := of_decide_eq_false (h i hi)
    rw [sG_far hB (hT i hi) hv] at q
    omega
  · intro h i hi
    apply decide_eq_false
    rw [sG_far hB (hT i hi) hv]
    have := h.2 i hi
    omega
theorem nI_99 {v : Nat} (hv : v ≤ 99) : 0 ≤ nI v ∧ nI v ≤ 99 := ⟨p_ge0 (by omega), (p_le (b := 99) (by omega) (by decide)).mpr hv⟩
theorem py_greatest {M : g_M} {b : Nat} (hb : b < 5) (hR : okR M b) (hB : okB (rb M b)) (hT : okT (M 43)) : x_X9_greatestLength (nI b) M = some (nI (sH (rb M b) (M 43)), M) := by
  have g99 := sH_99 (rb M b) (M 43)
  have e := ff_ge (p := fun m => decide (99 - m ≤ sH (rb M b) (M 43))) (r := fun m => nI (99 - m)) (d := -9) (n := 100) (L := 99 - sH (rb M b) (M 43)) (by omega) (fun i _ => by rw [decide_eq_true_eq]; omega)
  rw [show 99 - (99 - sH (rb M b) (M 43)) = sH (rb M b) (M 43) by omega] at e
  rw [← e]
  unfold x_X9_greatestLength
  rw [show x_X9_greatestLength_L3 g_F (nI b) 99 M = x_X9_greatestLength_L3 g_F (nI b) (nI (100 - 0) - 1) M by rw [Nat.sub_zero, e99]]
  refine p_find (F := fun m fuel => x_X9_greatestLength_L3 fuel (nI b) (nI (100 - m) - 1) M) (by decide) (fun fuel => ?_) (fun m fuel hm => ?_)
  · show x_X9_greatestLength_L3 (fuel + 1) _ (nI (100 - 100) - 1) M = _
    rw [x_X9_greatestLength_L3, if_pos (by decide)]
  · show x_X9_greatestLength_L3 (fuel + 1) _ (nI (100 - m) - 1) M = (if decide (99 - m ≤ sH (rb M b) (M 43)) = true then some (nI (99 - m), M) else x_X9_greatestLength_L3 fuel _ (nI (100 - (m + 1)) - 1) M)
    rw [show 100 - (m + 1) = 99 - m by omega, show 100 - m = 99 - m + 1 by omega, p_pred]
    generalize hi : 99 - m = i
    have i99 : i ≤ 99 := by omega
    rw [x_X9_greatestLength_L3, if_neg (nI_pos (by omega))]
    refine (bnd (py_farH hb hR hB hT (nI_99 i99).1 (nI_99 i99).2) _).trans ?_
    dsimp only
    rw [show nI i + -1 = nI i - 1 by grind]
    have q := sFH_0 hB hT i99
    by_cases z : i ≤ sH (rb M b) (M 43)
    · rw [if_pos (q.mpr z), if_pos (by simpa using z)]
    · rw [if_neg (fun y => z (q.mp y)), if_neg (by simpa using z)]
theorem p_all : ∀ a, a < 64 → ∀ b, b < 64 → (4095 &&& ~~~ nI (64 * a + b) = 4095 ↔ 64 * a + b = 0) := by decide +kernel
theorem sWH_all {B : Nat → Int32} {T : Nat → Int32} (hB : okB B) (hT : okT T) {v : Nat} (hv : v ≤ 99) {e w : Int32} : sWH B (nI v) T e w = 4095 ↔ sUH e w T = 0 ∧ sL B T ≤ v ∧ v ≤ sH B T := by
  unfold sWH
  rw [← p_and3]
  rw [← sHH_0 hB hT (show v ≤ 127 by omega), ← sFH_0 hB hT hv]
  obtain ⟨a, ha, e1⟩ : isS (sHH B (nI v) T) := isS_bt _
  obtain ⟨b, hb, e2⟩ : isS (sFH B (nI v) T) := isS_bt _
  obtain ⟨c, hc, e3⟩ : isS (sUH e w T) := isS_bt _
  rw [e1, e2, e3, p_or, p_or]
  have lt : a ||| b ||| c < 4096 := Nat.or_lt_two_pow (n := 12) (Nat.or_lt_two_pow (n := 12) ha hb) hc
  have q := p_all ((a ||| b ||| c) / 64) (by omega) ((a ||| b ||| c) % 64) (by omega)
  rw [Nat.div_add_mod] at q
  have q' : 4095 &&& (nI (a ||| b ||| c) ^^^ -1) = 4095 ↔ a ||| b ||| c = 0 := by simpa using q
  rw [q']
  have z : ∀ k, k < 4096 → (nI k = 0 ↔ k = 0) := fun k hk => p_eq (a := k) (b := 0) (by omega) (by decide)
  rw [z a ha, z b hb, z c hc, Nat.or_eq_zero_iff, Nat.or_eq_zero_iff]
  constructor
  · rintro ⟨⟨x, y⟩, t⟩; exact ⟨t, x, y⟩
  · rintro ⟨t, x, y⟩; exact ⟨⟨x, y⟩, t⟩
theorem cnt_iv {p : Nat → Bool} {L G : Nat} (h : ∀ i, p i = true ↔ L ≤ i ∧ i ≤ G) : ∀ n, cnt p n = min n (G + 1) - L := by
  intro n
  induction n with
  | zero => show 0 = _; omega
  | succ n ih =>
    by_cases q : p n = true
    · have := (h n).mp q
      rw [cnt_t q, ih]; omega
    · rw [cnt_f q, ih]
      have q2 : ¬ (L ≤ n ∧ n ≤ G) := fun z => q ((h n).mpr z)
      omega
theorem cnt_cg {p p' : Nat → Bool} : ∀ n, (∀ i, i < n → p i = p' i) → cnt p n = cnt p' n := by
  intro n
  induction n with
  | zero => intro _; rfl
  | succ n ih => intro h; rw [cnt, cnt, h n (by omega), ih fun i hi => h i (by omega)]
theorem py_both {M : g_M} {b : Nat} (hb : b < 5) (hR : okR M b) (hB : okB (rb M b)) (hT : okT (M 43)) : x_X9_bothLengths (nI b) M = some (if sUH (M 47 0) (M 47 1) (M 43) = 0 then nI (sH (rb M b) (M 43) + 1 - sL (rb M b) (M 43)) else 0, M) := by
  have g99 := sH_99 (rb M b) (M 43)
  let pp : Nat → Bool := fun i => decide (sWH (rb M b) (nI i) (M 43) (M 47 0) (M 47 1) = 4095)
  have pv : ∀ i, pp i = decide (sWH (rb M b) (nI i) (M 43) (M 47 0) (M 47 1) = 4095) := fun _ => rfl
  clear_value pp
  have key : x_X9_bothLengths (nI b) M = some (nI (cnt pp 100), M) := by
    unfold x_X9_bothLengths
    refine p_loop0 (n := 100) (F := fun i fuel (_ : Unit) => x_X9_bothLengths_L4 fuel (nI b) (nI (cnt pp i)) (nI i) M) (I := fun _ _ => True) (R := fun r => r = some (nI (cnt pp 100), M)) (s := ()) (by decide) trivial ?_ ?_
    · intro _ fuel _
      show x_X9_bothLengths_L4 (fuel + 1) _ _ (nI 100) M = _
      rw [x_X9_bothLengths_L4, if_pos (by decide)]
    · intro i _ fuel hi _
      right
      refine ⟨(), trivial, ?_⟩
      show x_X9_bothLengths_L4 (fuel + 1) _ (nI (cnt pp i)) (nI i) M = x_X9_bothLengths_L4 fuel _ (nI (cnt pp (i + 1))) (nI (i + 1)) M
      rw [x_X9_bothLengths_L4, if_neg (p_99 hi)]
      refine (bnd (py_wellH hb hR hB hT (nI_99 (by omega)).1 (nI_99 (by omega)).2) _).trans ?_
      dsimp only
      by_cases q : sWH (rb M b) (nI i) (M 43) (M 47 0) (M 47 1) = 4095
      · rw [if_pos q, cnt_t (by rw [pv]; simpa using q), nI_succ, nI_succ]
      · rw [if_neg q, cnt_f (by rw [pv]; simpa using q), nI_succ, show nI (cnt pp i) + 0 = nI (cnt pp i) by grind]
  rw [key]
  by_cases u : sUH (M 47 0) (M 47 1) (M 43) = 0
  · rw [if_pos u]
    have ce : cnt pp 100 = sH (rb M b) (M 43) + 1 - sL (rb M b) (M 43) := by
     rw [cnt_cg (p' := fun i => decide (sL (rb M b) (M 43) ≤ i ∧ i ≤ sH (rb M b) (M 43))) 100 (fun i hi => by
      rw [pv, decide_eq_decide, sWH_all hB hT (show i ≤ 99 by omega)]
      exact ⟨fun q => q.2, fun q => ⟨u, q⟩⟩), cnt_iv (L := sL (rb M b) (M 43)) (G := sH (rb M b) (M 43)) (fun i => by rw [decide_eq_true_eq]) 100]
     omega
    rw [ce]
  · have c0 : cnt pp 100 = 0 := (cnt_0 pp 100).mpr fun i hi => by
      rw [pv]
      exact decide_eq_false fun q => u ((sWH_all hB hT (show i ≤ 99 by omega)).mp q).1
    rw [if_neg u, c0]
    rfl
theorem p_span {G L : Nat} (hG : G ≤ 99) (hL : L ≤ 99) : g_max 0 (nI G - nI L + 1) = nI (G + 1 - L) := by
  by_cases z : L ≤ G
  · rw [p_sub z, ← nI_succ, show (0 : Int32) = nI 0 from rfl, p_max (by decide) (by omega)]
    congr 1; omega
  · obtain ⟨k, rfl⟩ : ∃ k, L = G + (k + 1) := ⟨L - G - 1, by omega⟩
    have d : ∀ k, k < 100 → g_max 0 (-nI k) = 0 := by decide
    have e : nI G - nI (G + (k + 1)) + 1 = -nI k := by rw [← p_add, nI_succ]; grind
    rw [e, d k (by omega), show G + 1 - (G + (k + 1)) = 0 by omega]
    rfl
/-- loaded and measured -/
theorem lxm {M : g_M} (h : inv M) {b : Nat} (hb : nI b < M 1 6) (hb5 : b < 5) (hB : okB (rb M b)) : ∃ M' N, x_X5_load 27 1 (nI b) M = some (0, M') ∧ x_X4_measure 27 (1 + 1) 12 M' = some (0, N) ∧ scr M N ∧ (∀ c, c ≠ 27 → c ≠ 30 → c ≠ 31 → N c = M c) ∧ Lm N (fun k => sC (rb M b) (M 43 k)) (fun k => sG (rb M b) (M 43 k)) := by
  obtain ⟨M', e1, e2, e3, tt, T2⟩ := lxd h (q := 27) (by decide) hb hb5
  obtain ⟨N, m1, m2, m3⟩ := px_measure e2 hB T2
  refine ⟨M', N, e1, m1, fun c hc => by rw [m2 c (by omega) (by omega), e3 c (by omega)], fun c a b d => by rw [m2 c b d, e3 c a], fun k hk => ?_⟩
  have q := m3 k hk
  dsimp only at q
  rw [tt k hk] at q
  exact q
theorem op_length (p w : Int32) : opOK (x_X8_length p w) (x_X9_length p w) := by
  intro M h
  by_cases hp : 0 ≤ p ∧ p < M 1 6
  rotate_left
  · exact op_ref h (k := 1) (r := -nI 1) (by decide) (by simp [x_X8_length, px_hasBoat, hp, n1, px_refused]) (fun M1 hc => by simp [x_X9_length, noB h hp hc, n1, py_no])
  by_cases w2 : 0 ≤ w ∧ w < 3
  rotate_left
  · have z0 : w ≠ 0 := by rintro rfl; exact w2 (by decide)
    have z1 : w ≠ 1 := by rintro rfl; exact w2 (by decide)
    have z2 : w ≠ 2 := by rintro rfl; exact w2 (by decide)
    exact op_ref h (k := 2) (r := -nI 2) (by decide) (by simp [x_X8_length, px_hasBoat, hp, px_isOneOf, w2, n2, px_refused]) (fun M1 hc => by simp [x_X9_length, yesB h hp hc, z0, z1, z2, n2, py_no])
  obtain ⟨b, rfl, hb, hb1, hb2, hR, hB⟩ := bo h hp
  obtain ⟨M', N, e1, m1, hs, hN, hL⟩ := lxm h hb1 hb hB
  have T := inv_T h
  have E := inv_E h
  have g1 : x_X2_hasBoat 1 (nI b) M = some (1, M) := by rw [px_hasBoat, if_pos hp]
  have g2 : x_X8_isOneOf w 3 M = some (1, M) := by rw [px_isOneOf, if_pos w2]
  have lo : x_X4_leastAllDay N = some (nI (sL (rb M b) (M 43)), N) := by
    unfold x_X4_leastAllDay
    refine (bnd (px_leastFrom hL (a := 0) (e := 12) (by decide) (by decide)).1 _).trans ?_
    rfl
  have hi : x_X4_greatestAllDay N = some (nI (sH (rb M b) (M 43)), N) := by
    unfold x_X4_greatestAllDay
    refine (bnd (px_greatestFrom hL (a := 0) (e := 12) (by decide) (by decide)).1 _).trans ?_
    rfl
  have un : x_X2_hoursUnder 1 N = some (sUH (M 47 0) (M 47 1) (M 43), N) := by
    rw [px_under, hN 1 (by decide) (by decide) (by decide), hN 2 (by decide) (by decide) (by decide), E.1, E.2.1, sUH_cg T.1]
  have L79 := sL_79 hB T.2
  have H99 := sH_99 (rb M b) (M 43)
  have hx : x_X8_length (nI b) w M = some (if w = 0 then nI (sL (rb M b) (M 43)) else if w = 1 then nI (sH (rb M b) (M 43)) else if sUH (M 47 0) (M 47 1) (M 43) = 0 then nI (sH (rb M b) (M 43) + 1 - sL (rb M b) (M 43)) else 0, N) := by
    rw [x_X8_length]
    refine (bnd g1 _).trans ?_
    dsimp only
    rw [if_neg (by decide)]
    refine (bnd g2 _).trans ?_
    dsimp only
    rw [if_neg (by decide)]
    refine (bnd e1 _).trans ?_
    refine (bnd m1 _).trans ?_
    dsimp only
    by_cases w0 : w = 0
    · rw [if_pos w0, if_pos w0]
      refine (bnd lo _).trans ?_
      dsimp only
      rw [x_X8_lengthOrNone, if_pos (nI_99 (by omega)).2]
      rfl
    · rw [if_neg w0, if_neg w0]
      by_cases w1 : w = 1
      · rw [if_pos w1, if_pos w1]
        refine (bnd hi _).trans ?_
        rfl
      · rw [if_neg w1, if_neg w1]
        refine (bnd un _).trans ?_
        dsimp only
        by_cases u : sUH (M 47 0) (M 47 1) (M 43) = 0
        · rw [if_pos u, if_pos u]
          refine (bnd hi _).trans ?_
          refine (bnd lo _).trans ?_
          dsimp only
          rw [p_span H99 (by omega)]
        · rw [if_neg u, if_neg u]
  refine op_ask h hx hs fun h1 hc => ⟨N, ?_, coreEq_rf _⟩
  obtain ⟨r1, r2, r3, r4, r5, r6⟩ := rby h hc hb2 hb hR hB
  have y1 := py_least hb r1 r2 r3
  have y2 := py_greatest hb r1 r2 r3
  have y3 := py_both hb r1 r2 r3
  rw [r4, r5] at y1 y2 y3
  rw [hc 47 (by decide)] at y3
  rw [x_X9_length]
  refine (bnd r6 _).trans ?_
  dsimp only
  rw [if_neg (by decide)]
  obtain ⟨j, hj, rfl⟩ := p_in (n := 3) (by decide) w2.1 w2.2
  rcases (show j = 0 ∨ j = 1 ∨ j = 2 by omega) with rfl | rfl | rfl
  · rw [if_pos (show nI 0 = (0 : Int32) from rfl), if_pos (show nI 0 = (0 : Int32) from rfl)]
    exact bnd y1 _
  · rw [if_neg (by decide), if_pos (show nI 1 = (1 : Int32) from rfl), if_neg (by decide), if_pos (show nI 1 = (1 : Int32) from rfl)]
    exact bnd y2 _
  · rw [if_neg (by decide), if_neg (by decide), if_pos (show nI 2 = (2 : Int32) from rfl), if_neg (by decide), if_neg (by decide)]
    exact bnd y3 _
theorem op_slack (p : Int32) : opOK (x_X8_slack p) (x_X9_slack p) := by
  intro M h
  by_cases hp : 0 ≤ p ∧ p < M 1 6
  rotate_left
  · exact op_ref h (k := 1) (r := 1000000000 - -nI 1) (by decide) (by simp [x_X8_slack, px_hasBoat, hp, n1, px_refusedFar]) (fun M1 hc => by simp [x_X9_slack, noB h hp hc, n1, py_lower])
  obtain ⟨b, rfl, hb, hb1, hb2, hR, hB⟩ := bo h hp
  obtain ⟨M', e1, e2, e3, tt, T2⟩ := lxd h (q := 27) (by decide) hb1 hb
  have T := inv_T h
  have g1 : x_X2_hasBoat 1 (nI b) M = some (1, M) := by rw [px_hasBoat, if_pos hp]
  have hx : x_X8_slack (nI b) M = some (rb M b 5 - nI (sL (rb M b) (M 43)), M') := by
    rw [x_X8_slack]
    refine (bnd g1 _).trans ?_
    dsimp only
    rw [if_neg (by decide)]
    refine (bnd e1 _).trans ?_
    refine (bnd (px_leastFor e2 hB T2) _).trans ?_
    dsimp only
    rw [e2 5 (by decide), sL_cg tt]
  refine op_ask h hx (ld_scr (Or.inl rfl) e3) fun h1 hc => ⟨M', ?_, coreEq_rf _⟩
  obtain ⟨r1, r2, r3, r4, r5, r6⟩ := rby h hc hb2 hb hR hB
  rw [x_X9_slack]
  refine (bnd r6 _).trans ?_
  dsimp only
  rw [if_neg (by decide), ← r4, ← r5]
  have nd : ∀ k, k < 12 → ∃ n, n ≤ 6100 ∧ sN (rb M' b) (M' 43 k) = nI n := fun k hk => sN_n r2 (r3 k hk)
  let f : Nat → Nat := fun k => (sN (rb M' b) (M' 43 k)).toNatClampNeg
  have fv : ∀ k, f k = (sN (rb M' b) (M' 43 k)).toNatClampNeg := fun _ => rfl
  clear_value f
  have f1 : ∀ k, k < 12 → sN (rb M' b) (M' 43 k) = nI (f k) ∧ f k ≤ 6100 := fun k hk => by
    obtain ⟨n, hn, e⟩ := nd k hk
    have : f k = n := by rw [fv, e, nI_clamp (by omega)]
    rw [this]
    exact ⟨e, hn⟩
  have fm : ∀ i, i ≤ 12 → mxa f 0 i ≤ 6100 := fun i hi => (mxa_le i).mpr fun j hj => by rw [Nat.zero_add]; exact (f1 j (by omega)).2
  have ce : p_ceil (mxa f 0 12) = sL (rb M' b) (M' 43) := by
    have m12 := fm 12 (by decide)
    have sc1 : ∀ k, sC (rb M' b) (M' 43 k) = p_ceil (f k) := fun k => by rw [fv]; rfl
    apply Nat.le_antisymm
    · rw [p_ceil_le (by omega), mxa_le]
      intro i hi
      rw [Nat.zero_add, ← p_ceil_le (by have := (f1 i hi).2; omega), ← sc1]
      exact sL_le.mp (Nat.le_refl _) i hi
    · rw [sL_le]
      intro i hi
      rw [sc1, p_ceil_le (by have := (f1 i hi).2; omega)]
      have q := (p_ceil_le (n := mxa f 0 12) (v := p_ceil (mxa f 0 12)) (by omega)).mp (Nat.le_refl _)
      have q2 := (mxa_le 12).mp (Nat.le_refl (mxa f 0 12)) i hi
      rw [Nat.zero_add] at q2
      omega
  have c1 : (nI b).toNatClampNeg = b := nI_clamp (by omega)
  rw [show x_X9_slack_L18 g_F (nI b) 0 0 M' = x_X9_slack_L18 g_F (nI b) (nI (mxa f 0 0)) (nI 0) M' by rfl]
  refine p_loop0 (n := 12) (F := fun i fuel (_ : Unit) => x_X9_slack_L18 fuel (nI b) (nI (mxa f 0 i)) (nI i) M') (I := fun _ _ => True) (R := fun r => r = some (rb M' b 5 - nI (sL (rb M' b) (M' 43)), M')) (s := ()) (by decide) trivial ?_ ?_
  · intro _ fuel _
    have m12 := fm 12 (by decide)
    obtain ⟨s1, s2, s3⟩ := p_root_spec (v := mxa f 0 12) (by omega)
    show x_X9_slack_L18 (fuel + 1) _ (nI (mxa f 0 12)) (nI 12) M' = _
    rw [x_X9_slack_L18, if_pos (by decide)]
    refine (bnd (py_root (by omega) M') _).trans ?_
    dsimp only
    rw [if_pos (p_inb hb (by decide)), c1, p_mul, ← ce]
    unfold p_ceil
    by_cases z : p_root (mxa f 0 12) * p_root (mxa f 0 12) < mxa f 0 12
    · rw [if_neg (fun q => absurd ((p_le (by omega) (by omega)).mp q) (by omega)), if_pos z, nI_succ]
      rfl
    · rw [if_pos ((p_le (by omega) (by omega)).mpr (by omega)), if_neg z]
      rfl
  · intro i _ fuel hi _
    right
    refine ⟨(), trivial, ?_⟩
    show x_X9_slack_L18 (fuel + 1) _ (nI (mxa f 0 i)) (nI i) M' = x_X9_slack_L18 fuel _ (nI (max (mxa f 0 i) (f (0 + i)))) (nI (i + 1)) M'
    have k1 := fm i (by omega)
    obtain ⟨k2, k3⟩ := f1 i hi
    rw [x_X9_slack_L18, if_neg (p_n12 hi)]
    refine (bnd (py_need hb hi r1 r2 (r3 i hi)) _).trans ?_
    dsimp only
    rw [Nat.zero_add, nI_succ, k2]
    by_cases z : f i ≤ mxa f 0 i
    · rw [if_pos ((p_le (by omega) (by omega)).mpr z), show max (mxa f 0 i) (f i) = mxa f 0 i by omega]
    · rw [if_neg (fun q => z ((p_le (by omega) (by omega)).mp q))]
      refine (bnd (py_need hb hi r1 r2 (r3 i hi)) _).trans ?_
      dsimp only
      rw [k2, show max (mxa f 0 i) (f i) = f i by omega]
/-! a boat of another KIND -/
def Bk (B : Nat → Int32) (k : Int32) : Nat → Int32 := fun j => if j = 0 then k else B j
theorem Bk_ok {B : Nat → Int32} (hB : okB B) {k : Int32} (hk : 0 ≤ k ∧ k ≤ 5) : okB (Bk B k) := ⟨hk.1, hk.2, hB.2.2⟩
theorem isM_kind {M : g_M} {B : Nat → Int32} (h : isM 27 M B) (k : Int32) : isM 27 (g_upd M 27 0 k) (Bk B k) := by
  intro j hj
  rw [g_upd_get]
  unfold Bk
  by_cases z : j = 0
  · rw [if_pos ⟨rfl, z⟩, if_pos z]
  · rw [if_neg (fun q => z q.2), if_neg z]
    exact h j hj
theorem rb_kind (M : g_M) (b : Nat) (k : Int32) : rb (g_upd M 48 b k) b = Bk (rb M b) k := by
  funext j
  unfold rb Bk
  by_cases z : j = 0
  · subst z
    simp [g_upd_get]
  · simp [z, g_upd_get]
theorem py_leastOr {M : g_M} {b : Nat} (hb : b < 5) (hR : okR M b) (hB : okB (rb M b)) (hT : okT (M 43)) : x_X9_leastOr (nI b) M = some (nI (sL (rb M b) (M 43)), M) := by
  have L79 := sL_79 hB hT
  rw [x_X9_leastOr]
  refine (bnd (py_least hb hR hB hT) _).trans ?_
  dsimp only
  rw [if_pos (p_ge0 (by omega))]
theorem op_saves (p w : Int32) : opOK (x_X8_saves p w) (x_X9_saves p w) := by
  intro M h
  by_cases hp : 0 ≤ p ∧ p < M 1 6
  rotate_left
  · exact op_ref h (k := 1) (r := 1000000000 - -nI 1) (by decide) (by simp [x_X8_saves, px_hasBoat, hp, n1, px_refusedFar]) (fun M1 hc => by simp [x_X9_saves, noB h hp hc, n1, py_lower])
  by_cases w2 : 0 ≤ w ∧ w < 6
  rotate_left
  · have w3 : ¬ (0 ≤ w ∧ w ≤ 5) := fun q => w2 ⟨q.1, by have := q.2; grind⟩
    exact op_ref h (k := 2) (r := 1000000000 - -nI 2) (by decide) (by simp [x_X8_saves, px_hasBoat, hp, px_isOneOf, w2, n2, px_refusedFar]) (fun M1 hc => by simp [x_X9_saves, yesB h hp hc, py_isIn, w3, n2, py_lower])
  have w3 : 0 ≤ w ∧ w ≤ 5 := ⟨w2.1, by have := w2.2; grind⟩
  obtain ⟨b, rfl, hb, hb1, hb2, hR, hB⟩ := bo h hp
  obtain ⟨M', e1, e2, e3, tt, T2⟩ := lxd h (q := 27) (by decide) hb1 hb
  have T := inv_T h
  have g1 : x_X2_hasBoat 1 (nI b) M = some (1, M) := by rw [px_hasBoat, if_pos hp]
  have g2 : x_X8_isOneOf w 6 M = some (1, M) := by rw [px_isOneOf, if_pos w2]
  have ok0 : okB (Bk (rb M b) 0) := Bk_ok hB (by decide)
  have okw : okB (Bk (rb M b) w) := Bk_ok hB w3
  have L0 := sL_79 ok0 T.2
  have Lw := sL_79 okw T.2
  have i0 := isM_kind e2 0
  have iw : isM 27 (g_upd (g_upd M' 27 0 0) 27 0 w) (Bk (rb M b) w) := by rw [upd_twice]; exact isM_kind e2 w
  have t0 : g_upd M' 27 0 0 2 = M' 2 := g_upd_ne (by decide)
  have tw : g_upd (g_upd M' 27 0 0) 27 0 w 2 = M' 2 := by rw [g_upd_ne (by decide), t0]
  have x0 : x_X5_leastFor 27 (1 + 1) 12 (g_upd M' 27 0 0) = some (nI (sL (Bk (rb M b) 0) (M 43)), g_upd M' 27 0 0) := by
    have := px_leastFor i0 ok0 (a := 2) (by rw [t0]; exact T2)
    rw [t0, sL_cg tt] at this
    exact this
  have xw : x_X5_leastFor 27 (1 + 1) 12 (g_upd (g_upd M' 27 0 0) 27 0 w) = some (nI (sL (Bk (rb M b) w) (M 43)), g_upd (g_upd M' 27 0 0) 27 0 w) := by
    have := px_leastFor iw okw (a := 2) (by rw [tw]; exact T2)
    rw [tw, sL_cg tt] at this
    exact this
  have hx : x_X8_saves (nI b) w M = some (nI (sL (Bk (rb M b) 0) (M 43)) - nI (sL (Bk (rb M b) w) (M 43)), g_upd (g_upd M' 27 0 0) 27 0 w) := by
    rw [x_X8_saves]
    refine (bnd g1 _).trans ?_
    dsimp only
    rw [if_neg (by decide)]
    refine (bnd g2 _).trans ?_
    dsimp only
    rw [if_neg (by decide)]
    refine (bnd e1 _).trans ?_
    refine (bnd x0 _).trans ?_
    refine (bnd xw _).trans ?_
    dsimp only
    rw [show (99 : Int32) = nI 99 from rfl, p_min (by decide) (by omega), p_min (by decide) (by omega), Nat.min_eq_right (by omega), Nat.min_eq_right (by omega)]
  refine op_ask h hx (ld_scr (q := 27) (Or.inl rfl) (fun c hc => by rw [g_upd_ne hc, g_upd_ne hc, e3 c hc])) fun h1 hc => ?_
  generalize g_upd (g_upd M' 27 0 0) 27 0 w = N at h1 hc
  refine ⟨N, ?_, coreEq_rf _⟩
  obtain ⟨r1, r2, r3, r4, r5, r6⟩ := rby h hc hb2 hb hR hB
  have c1 : (nI b).toNatClampNeg = b := nI_clamp (by omega)
  have bi := p_inb hb (by decide : (5 : Nat) < 2 ^ 31)
  have g3 : x_X9_isIn w 0 5 N = some (1, N) := by rw [py_isIn, if_pos w3]
  have rk : ∀ k, okR (g_upd N 48 b k) b := fun k => by unfold okR; rw [g_upd_ne (by decide), g_upd_ne (by decide)]; exact r1
  have y0 := py_leastOr (M := g_upd N 48 b 0) hb (rk 0) (by rw [rb_kind, r4]; exact ok0) (by rw [g_upd_ne (by decide)]; exact r3)
  have yw := py_leastOr (M := g_upd N 48 b w) hb (rk w) (by rw [rb_kind, r4]; exact okw) (by rw [g_upd_ne (by decide)]; exact r3)
  rw [rb_kind, r4, g_upd_ne (show 43 ≠ 48 by decide), r5] at y0 yw
  rw [x_X9_saves]
  refine (bnd r6 _).trans ?_
  dsimp only
  rw [if_neg (by decide)]
  refine (bnd g3 _).trans ?_
  dsimp only
  rw [if_neg (by decide), if_pos bi, if_pos bi, c1]
  refine (bnd y0 _).trans ?_
  dsimp only
  rw [if_pos bi, upd_twice]
  refine (bnd yw _).trans ?_
  dsimp only
  rw [if_pos bi, upd_twice, upd_same rfl]
