/-! THE PURE PART. X: crossed -/
def p_cmp (a b : Int32) : Int32 := if b ≤ a then (if a = b then 0 else 1) else -1
theorem px_cmp (a b : Int32) (M : g_M) : x_J6_compare_7cf53 a b M = some (p_cmp a b, M) := by
  unfold x_J6_compare_7cf53 p_cmp
  split
  · split <;> rfl
  · rfl
theorem p_cmp_lt {a b : Int32} (h : a < b) : p_cmp a b = -1 := by
  unfold p_cmp
  rw [if_neg (by rw [Int32.not_le]; exact h)]
theorem p_cmp_gt {a b : Int32} (h : b < a) : p_cmp a b = 1 := by
  unfold p_cmp
  rw [if_pos (by grind), if_neg (by grind)]
theorem p_cmp_eq {a b : Int32} (h : a = b) : p_cmp a b = 0 := by
  unfold p_cmp
  rw [if_pos (by grind), if_pos h]
theorem p_tri (a b : Int32) : (a < b ∧ ¬ b < a) ∨ (b < a ∧ ¬ a < b) ∨ (a = b ∧ ¬ a < b ∧ ¬ b < a) := by grind
theorem p_cross (a b c d : Int32) (M : g_M) : (if 0 ≤ p_cmp a b then x_X8_areCrossed_L100 (p_cmp a b) (p_cmp c d) M else (if 0 < p_cmp c d then some ((1 : Int32), M) else x_X8_areCrossed_L100 (p_cmp a b) (p_cmp c d) M)) = some (if (a < b ∧ d < c) ∨ (b < a ∧ c < d) then 1 else 0, M) := by
  unfold x_X8_areCrossed_L100
  rcases p_tri a b with ⟨h1, h1'⟩ | ⟨h1, h1'⟩ | ⟨h1, h1', h1''⟩
  · rw [p_cmp_lt h1, if_neg (by decide)]
    rcases p_tri c d with ⟨h2, h2'⟩ | ⟨h2, h2'⟩ | ⟨h2, h2', h2''⟩
    · rw [p_cmp_lt h2, if_neg (by decide), if_pos (by decide), if_neg (by rintro (q | q); exact h2' q.2; exact h1' q.1)]
    · rw [p_cmp_gt h2, if_pos (by decide), if_pos (Or.inl ⟨h1, h2⟩)]
    · rw [p_cmp_eq h2, if_neg (by decide), if_pos (by decide), if_neg (by rintro (q | q); exact h2'' q.2; exact h1' q.1)]
  · rw [p_cmp_gt h1, if_pos (by decide), if_neg (by decide)]
    rcases p_tri c d with ⟨h2, h2'⟩ | ⟨h2, h2'⟩ | ⟨h2, h2', h2''⟩
    · rw [p_cmp_lt h2, if_neg (by decide), if_pos (Or.inr ⟨h1, h2⟩)]
    · rw [p_cmp_gt h2, if_pos (by decide), if_neg (by rintro (q | q); exact h1' q.1; exact h2' q.2)]
    · rw [p_cmp_eq h2, if_pos (by decide), if_neg (by rintro (q | q); exact h1' q.1; exact h2' q.2)]
  · rw [p_cmp_eq h1, if_pos (by decide), if_pos (by decide), if_neg (by rintro (q | q); exact h1' q.1; exact h1'' q.1)]
theorem p_negl {k : Nat} (h : 1 ≤ k) (h2 : k < 2 ^ 31) : -nI k < 0 := by
  rw [Int32.lt_iff_toInt_lt, Int32.toInt_neg, nI_toInt h2, Int32.toInt_zero]
  have : (-(k : Int)).bmod (2 ^ 32) = -(k : Int) := Int.bmod_eq_of_le (by omega) (by omega)
  rw [this]
  omega
theorem p_pm {x : Int32} {m : Nat} (hm : m < 2 ^ 30) (h0 : -nI m ≤ x) (h1 : x ≤ nI m) : (∃ k, k ≤ m ∧ x = nI k) ∨ ∃ k, 1 ≤ k ∧ k ≤ m ∧ x = -nI k := by
  by_cases hx : 0 ≤ x
  · obtain ⟨k, hk, rfl⟩ := p_in (n := m + 1) (by omega) hx (by rw [Int32.lt_iff_toInt_lt, nI_toInt (by omega)]; rw [Int32.le_iff_toInt_le, nI_toInt (by omega)] at h1; omega)
    exact Or.inl ⟨k, by omega, rfl⟩
  · rw [Int32.not_le] at hx
    have tm : (-nI m).toInt = -(m : Int) := by
      rw [Int32.toInt_neg, nI_toInt (by omega)]
      exact Int.bmod_eq_of_le (by omega) (by omega)
    rw [Int32.le_iff_toInt_le, tm] at h0
    rw [Int32.lt_iff_toInt_lt, Int32.toInt_zero] at hx
    have tn : (-x).toInt = -x.toInt := by
      rw [Int32.toInt_neg]
      exact Int.bmod_eq_of_le (by omega) (by omega)
    obtain ⟨k, hk, e⟩ := p_in (i := -x) (n := m + 1) (by omega) (by rw [Int32.le_iff_toInt_le, tn, Int32.toInt_zero]; omega) (by rw [Int32.lt_iff_toInt_lt, tn, nI_toInt (by omega)]; omega)
    refine Or.inr ⟨k, ?_, by omega, by rw [← e]; grind⟩
    rcases Nat.eq_zero_or_pos k with rfl | q
    · rw [e, nI_0, Int32.toInt_zero] at tn
      omega
    · exact q
theorem p_sgn {x y : Int32} (hx : -nI 99 ≤ x ∧ x ≤ nI 99) (hy : -nI 200 ≤ y ∧ y ≤ nI 200) : 0 ≤ x * y ↔ ¬ ((x < 0 ∧ 0 < y) ∨ (0 < x ∧ y < 0)) := by
  have z : ∀ k, k < 2 ^ 31 → ¬ nI k < 0 := fun k hk => nI_pos hk
  have w : ∀ k, k < 2 ^ 31 → (0 < nI k ↔ 1 ≤ k) := fun k hk => p_lt (a := 0) (by decide) hk
  have nn : ∀ k, 1 ≤ k → k < 2 ^ 31 → ¬ 0 < -nI k := fun k h1 h2 q => by have := p_negl h1 h2; grind
  rcases p_pm (by decide) hx.1 hx.2 with ⟨k, hk, rfl⟩ | ⟨k, hk1, hk, rfl⟩
  · rcases p_pm (by decide) hy.1 hy.2 with ⟨m, hm, rfl⟩ | ⟨m, hm1, hm, rfl⟩
    · have b := Nat.mul_le_mul hk hm
      rw [p_mul]
      exact ⟨fun _ q => by rcases q with q | q; exact z k (by omega) q.1; exact z m (by omega) q.2, fun _ => p_ge0 (by omega)⟩
    · have b := Nat.mul_le_mul hk hm
      have e : nI k * -nI m = -nI (k * m) := by rw [← p_mul]; grind
      rw [e]
      rcases Nat.eq_zero_or_pos k with rfl | k1
      · rw [Nat.zero_mul]
        exact ⟨fun _ q => by rcases q with q | q; exact z 0 (by decide) q.1; exact absurd q.1 (by decide), fun _ => by decide⟩
      · have p1 : 1 ≤ k * m := Nat.mul_pos k1 hm1
        have ng := p_negl p1 (by omega)
        exact ⟨fun q => absurd q (by rw [Int32.not_le]; exact ng), fun q => absurd (Or.inr ⟨(w k (by omega)).mpr k1, p_negl hm1 (by omega)⟩) q⟩
  · rcases p_pm (by decide) hy.1 hy.2 with ⟨m, hm, rfl⟩ | ⟨m, hm1, hm, rfl⟩
    · have b := Nat.mul_le_mul hk hm
      have e : -nI k * nI m = -nI (k * m) := by rw [← p_mul]; grind
      rw [e]
      rcases Nat.eq_zero_or_pos m with rfl | m1
      · rw [Nat.mul_zero]
        exact ⟨fun _ q => by rcases q with q | q; exact absurd q.2 (by decide); exact z 0 (by decide) q.2, fun _ => by decide⟩
      · have p1 : 1 ≤ k * m := Nat.mul_pos hk1 m1
        have ng := p_negl p1 (by omega)
        exact ⟨fun q => absurd q (by rw [Int32.not_le]; exact ng), fun q => absurd (Or.inl ⟨p_negl hk1 (by omega), (w m (by omega)).mpr m1⟩) q⟩
    · have b := Nat.mul_le_mul hk hm
      have e : -nI k * -nI m = nI (k * m) := by rw [← p_mul]; grind
      rw [e]
      exact ⟨fun _ q => by rcases q with q | q; exact nn m hm1 (by omega) q.2; exact nn k hk1 (by omega) q.1, fun _ => p_ge0 (by omega)⟩
theorem sM_b {B : Nat → Int32} (hB : okB B) : 0 ≤ sM B ∧ sM B ≤ 99 := by
  obtain ⟨-, -, -, -, a5, a6, -, -, a9, a10, -⟩ := hB
  obtain ⟨x, hx, ex⟩ := p_in (i := B 2) (n := 100) (by decide) a5 (show B 2 < 100 by grind)
  obtain ⟨y, hy, ey⟩ := p_in (i := B 4) (n := 100) (by decide) a9 (show B 4 < 100 by grind)
  unfold sM
  rw [ex, ey, p_add, show (2 : Int32) = nI 2 from rfl, p_div (by omega) (by decide)]
  split
  · exact nI_99 (by omega)
  · exact nI_99 (by omega)
theorem sB_b {B : Nat → Int32} (hB : okB B) {o w : Int32} (ho : 0 ≤ o ∧ o ≤ 127) (hw : p_bd (-9) w 9) : -9 ≤ sB B o w ∧ sB B o w ≤ 108 := by
  obtain ⟨m1, m2⟩ := sM_b hB
  obtain ⟨o1, o2⟩ := ho
  obtain ⟨w1, w2⟩ := hw
  unfold sB g_max g_min
  generalize sM B = m at *
  by_cases k1 : w < o
  · rw [if_pos k1]
    by_cases k2 : -o < w
    · rw [if_pos k2]
      constructor <;> grind
    · rw [if_neg k2]
      constructor <;> grind
  · rw [if_neg k1]
    by_cases k2 : -o < o
    · rw [if_pos k2]
      constructor <;> grind
    · rw [if_neg k2]
      constructor <;> grind
def sX (B B' : Nat → Int32) (t w : Int32) : Bool := decide ((B 2 < B' 2 ∧ sB B' (sR B' (B' 5) t) w < sB B (sR B (B 5) t) w) ∨ (B' 2 < B 2 ∧ sB B (sR B (B 5) t) w < sB B' (sR B' (B' 5) t) w))
theorem px_blown {q : Nat} {M : g_M} {B : Nat → Int32} (h : isM q M B) (hB : okB B) {t : Int32} (ht : 0 ≤ t ∧ t ≤ 40) (w : Int32) : x_X5_blownMiddle q t w M = some (sB B (sR B (B 5) t) w, M) := by
  have hl := okB_len hB
  have hr := px_reach (t := t) h hB hl.1 hl.2 ht.1 ht.2
  simp [x_X5_blownMiddle, h 5 (by decide), hr, px_mid h, sB]
def p_inn (p : Nat → Bool) (v : Int32) : Nat → Int32
  | 0 => v
  | k + 1 => if p k = true then p_inn p v k + 1 else p_inn p v k
def p_out (q : Nat → Nat → Bool) (nb : Nat) : Nat → Int32
  | 0 => 0
  | a + 1 => p_inn (fun i => q a (a + 1 + i)) (p_out q nb a) (nb - (a + 1))
theorem op_crossed (p : Int32) : opOK (x_X8_crossed p) (x_X9_crossed p) := by
  intro M h
  by_cases hp : 0 ≤ p ∧ p < 12
  rotate_left
  · exact op_ref h (k := 1) (r := -nI 1) (by decide) (by simp [x_X8_crossed, px_isHour, hp, n1, px_refused]) (fun M1 _ => by simp [x_X9_crossed, py_isHour, hp, n1, py_no])
  obtain ⟨t, ht, rfl⟩ := p_in (n := 12) (by decide) hp.1 hp.2
  obtain ⟨nb, nb5, e1, e2, hB⟩ := inv_nb h
  have T := inv_T h
  have W := inv_W h ht
  let qq : Nat → Nat → Bool := fun a b => sX (rb M a) (rb M b) (M 43 t) (M 44 t)
  have qv : ∀ a b, qq a b = sX (rb M a) (rb M b) (M 43 t) (M 44 t) := fun _ _ => rfl
  clear_value qq
  have one : ∀ (a b : Nat) (s : g_M), a < nb → b < nb → sc M s → ∃ s', sc M s' ∧ x_X8_areCrossed (nI a) (nI b) (nI t) s = some (if qq a b = true then 1 else 0, s') := by
    intro a b s ha hb hs
    obtain ⟨s1, s2, l1, l2, i1, i2, hs2, tt, T2⟩ := lx2 h hs e1 nb5 ha hb
    refine ⟨s2, hs2, ?_⟩
    rw [x_X8_areCrossed]
    refine (bnd l1 _).trans ?_
    refine (bnd l2 _).trans ?_
    refine (bnd (px_tideAt 1 t ht s2) _).trans ?_
    refine (bnd (px_windAt 1 t ht s2) _).trans ?_
    refine (bnd (px_cmp _ _ s2) _).trans ?_
    dsimp only
    rw [show s2 (1 + 1) t = M 43 t from tt t ht, show s2 (1 + 2) t = M 44 t by rw [hs2 3 (by decide) (by decide)]; exact W.1]
    refine (bnd (px_blown i1 (hB a ha).2 (T.2 t ht) _) _).trans ?_
    refine (bnd (px_blown i2 (hB b hb).2 (T.2 t ht) _) _).trans ?_
    refine (bnd (px_cmp _ _ s2) _).trans ?_
    dsimp only
    have pc := p_cross (s2 27 2) (s2 28 2) (sB (rb M a) (sR (rb M a) (rb M a 5) (M 43 t)) (M 44 t)) (sB (rb M b) (sR (rb M b) (rb M b 5) (M 43 t)) (M 44 t)) s2
    have fin : (if (s2 27 2 < s2 28 2 ∧ sB (rb M b) (sR (rb M b) (rb M b 5) (M 43 t)) (M 44 t) < sB (rb M a) (sR (rb M a) (rb M a 5) (M 43 t)) (M 44 t)) ∨ (s2 28 2 < s2 27 2 ∧ sB (rb M a) (sR (rb M a) (rb M a 5) (M 43 t)) (M 44 t) < sB (rb M b) (sR (rb M b) (rb M b 5) (M 43 t)) (M 44 t)) then (1 : Int32) else 0) = if qq a b = true then 1 else 0 := by
      rw [i1 2 (by decide), i2 2 (by decide), qv]
      unfold sX
      simp only [decide_eq_true_eq]
    rw [fin] at pc
    by_cases h1 : 0 ≤ p_cmp (s2 27 2) (s2 28 2)
    · rw [if_pos h1] at pc ⊢
      exact pc
    · rw [if_neg h1] at pc ⊢
      by_cases h2 : 0 < p_cmp (sB (rb M a) (sR (rb M a) (rb M a 5) (M 43 t)) (M 44 t)) (sB (rb M b) (sR (rb M b) (rb M b 5) (M 43 t)) (M 44 t))
      · rw [if_pos h2] at pc ⊢
        exact pc
      · rw [if_neg h2] at pc ⊢
        exact pc
  have lx : ∃ s', sc M s' ∧ x_X8_crossed_L17 g_F (nI t) 0 0 M = some (p_out qq nb nb, s') := by
    rw [show x_X8_crossed_L17 g_F (nI t) 0 0 M = x_X8_crossed_L17 g_F (nI t) (p_out qq nb 0) (nI 0) M by rfl]
    refine p_loop0 (n := nb) (F := fun a fuel s => x_X8_crossed_L17 fuel (nI t) (p_out qq nb a) (nI a) s) (I := fun _ s => sc M s) (R := fun r => ∃ s', sc M s' ∧ r = some (p_out qq nb nb, s')) (s := M) (by omega) (sc_rf M) ?_ ?_
    · intro s fuel hs
      refine ⟨s, hs, ?_⟩
      show x_X8_crossed_L17 (fuel + 1) _ _ (nI nb) s = _
      rw [x_X8_crossed_L17, hs 1 (by decide) (by decide), e1, if_pos (Int32.le_refl _)]
    · intro a s fuel ha hs
      right
      show ∃ s', sc M s' ∧ x_X8_crossed_L17 (fuel + 1) (nI t) (p_out qq nb a) (nI a) s = x_X8_crossed_L17 fuel (nI t) (p_out qq nb (a + 1)) (nI (a + 1)) s'
      rw [x_X8_crossed_L17, hs 1 (by decide) (by decide), e1, if_neg (show ¬ nI nb ≤ nI a from nI_ge ha (by omega))]
      generalize x_X8_crossed_L17 fuel = k17
      rw [show x_X8_crossed_L33 k17 g_F (nI t) (p_out qq nb a) (nI a) (nI a + 1) s = x_X8_crossed_L33 k17 g_F (nI t) (p_inn (fun i => qq a (a + 1 + i)) (p_out qq nb a) 0) (nI a) (nI (a + 1 + 0)) s by rw [Nat.add_zero, nI_succ]; rfl]
      refine p_loop0 (n := nb - (a + 1)) (F := fun i fuel s => x_X8_crossed_L33 k17 fuel (nI t) (p_inn (fun i => qq a (a + 1 + i)) (p_out qq nb a) i) (nI a) (nI (a + 1 + i)) s) (I := fun _ s => sc M s) (R := fun r => ∃ s', sc M s' ∧ r = k17 (nI t) (p_out qq nb (a + 1)) (nI (a + 1)) s') (s := s) (by omega) hs ?_ ?_
      · intro s fuel hs
        refine ⟨s, hs, ?_⟩
        show x_X8_crossed_L33 k17 (fuel + 1) _ _ _ (nI (a + 1 + (nb - (a + 1)))) s = _
        rw [x_X8_crossed_L33, hs 1 (by decide) (by decide), e1, if_pos ((p_le (by omega) (by omega)).mpr (by omega)), nI_succ]
        rfl
      · intro i s fuel hi hs
        right
        obtain ⟨s', hs', ex⟩ := one a (a + 1 + i) s ha (by omega) hs
        refine ⟨s', hs', ?_⟩
        show x_X8_crossed_L33 k17 (fuel + 1) _ (p_inn (fun i => qq a (a + 1 + i)) (p_out qq nb a) i) _ (nI (a + 1 + i)) s = x_X8_crossed_L33 k17 fuel _ (p_inn (fun i => qq a (a + 1 + i)) (p_out qq nb a) (i + 1)) _ (nI (a + 1 + i + 1)) s'
        rw [x_X8_crossed_L33, hs 1 (by decide) (by decide), e1, if_neg (show ¬ nI nb ≤ nI (a + 1 + i) from nI_ge (by omega) (by omega))]
        refine (bnd ex _).trans ?_
        dsimp only
        rw [p_inn, nI_succ (a + 1 + i)]
        by_cases q : qq a (a + 1 + i) = true
        · rw [if_pos q, if_pos q, if_neg (by decide)]
        · rw [if_neg q, if_neg q, if_pos rfl]
  obtain ⟨s', x1, x2⟩ := lx
  have hx : x_X8_crossed (nI t) M = some (p_out qq nb nb, s') := by
    have g : x_X8_isHour (nI t) M = some (1, M) := by rw [px_isHour, if_pos hp]
    rw [x_X8_crossed]
    refine (bnd g _).trans ?_
    dsimp only
    rw [if_neg (by decide)]
    exact x2
  refine op_ask h hx (sc_scr x1) fun h1 hc => ⟨s', ?_, coreEq_rf _⟩
  have r := rb_eq hc
  have e2' : s' 41 16 = nI nb := by rw [hc 41 (by decide)]; exact e2
  have T' := inv_T h1
  have W' := inv_W h1 ht
  obtain ⟨nb', nb5', e1', e2'', hB'⟩ := inv_nb h1
  have en : nb' = nb := (p_eq (by omega) (by omega)).mp (by rw [← e2'', e2'])
  subst en
  have g : x_X9_isHour (nI t) s' = some (1, s') := by rw [py_isHour, if_pos hp]
  have yone : ∀ a b, a < nb' → b < nb' → (0 ≤ (rb M a 2 - rb M b 2) * (sB (rb M a) (sR (rb M a) (rb M a 5) (M 43 t)) (M 44 t) - sB (rb M b) (sR (rb M b) (rb M b 5) (M 43 t)) (M 44 t)) ↔ ¬ qq a b = true) := by
    intro a b ha hb
    have Ba := (hB a ha).2
    have Bb := (hB b hb).2
    have la := okB_len Ba
    have lb := okB_len Bb
    have ma := sB_b Ba (sR_b (t := M 43 t) Ba la.1 la.2 (T.2 t ht).1 (T.2 t ht).2) W.2
    have mb := sB_b Bb (sR_b (t := M 43 t) Bb lb.1 lb.2 (T.2 t ht).1 (T.2 t ht).2) W.2
    rw [qv]
    unfold sX
    obtain ⟨-, -, -, -, a5, a6, -⟩ := Ba
    obtain ⟨-, -, -, -, b5, b6, -⟩ := Bb
    generalize sB (rb M a) (sR (rb M a) (rb M a 5) (M 43 t)) (M 44 t) = x at *
    generalize sB (rb M b) (sR (rb M b) (rb M b 5) (M 43 t)) (M 44 t) = y at *
    generalize rb M a 2 = u at *
    generalize rb M b 2 = v at *
    rw [p_sgn (x := u - v) (y := x - y) (by show (-99 ≤ _ ∧ _ ≤ 99); constructor <;> grind) (by show (-200 ≤ _ ∧ _ ≤ 200); obtain ⟨m1, m2⟩ := ma; obtain ⟨m3, m4⟩ := mb; constructor <;> grind)]
    have s1 : u - v < 0 ↔ u < v := by constructor <;> grind
    have s2 : 0 < u - v ↔ v < u := by constructor <;> grind
    have s3 : x - y < 0 ↔ x < y := by obtain ⟨m1, m2⟩ := ma; obtain ⟨m3, m4⟩ := mb; constructor <;> grind
    have s4 : 0 < x - y ↔ y < x := by obtain ⟨m1, m2⟩ := ma; obtain ⟨m3, m4⟩ := mb; constructor <;> grind
    rw [s1, s2, s3, s4, decide_eq_true_eq]
  rw [x_X9_crossed]
  refine (bnd g _).trans ?_
  dsimp only
  rw [if_neg (by decide)]
  rw [show x_X9_crossed_L17 g_F (nI t) 0 0 s' = x_X9_crossed_L17 g_F (nI t) (p_out qq nb' 0) (nI 0) s' by rfl]
  refine p_loop0 (n := nb') (F := fun a fuel (_ : Unit) => x_X9_crossed_L17 fuel (nI t) (p_out qq nb' a) (nI a) s') (I := fun _ _ => True) (R := fun r => r = some (p_out qq nb' nb', s')) (s := ()) (by omega) trivial ?_ ?_
  · intro _ fuel _
    show x_X9_crossed_L17 (fuel + 1) _ _ (nI nb') s' = _
    rw [x_X9_crossed_L17, e2', if_pos (Int32.le_refl _)]
  · intro a _ fuel ha _
    right
    refine ⟨(), trivial, ?_⟩
    show x_X9_crossed_L17 (fuel + 1) (nI t) (p_out qq nb' a) (nI a) s' = x_X9_crossed_L17 fuel (nI t) (p_out qq nb' (a + 1)) (nI (a + 1)) s'
    rw [x_X9_crossed_L17, e2', if_neg (show ¬ nI nb' ≤ nI a from nI_ge ha (by omega))]
    generalize x_X9_crossed_L17 fuel = k17
    rw [show x_X9_crossed_L30 k17 g_F (nI t) (p_out qq nb' a) (nI a) (nI a + 1) s' = x_X9_crossed_L30 k17 g_F (nI t) (p_inn (fun i => qq a (a + 1 + i)) (p_out qq nb' a) 0) (nI a) (nI (a + 1 + 0)) s' by rw [Nat.add_zero, nI_succ]; rfl]
    refine p_loop0 (n := nb' - (a + 1)) (F := fun i fuel (_ : Unit) => x_X9_crossed_L30 k17 fuel (nI t) (p_inn (fun i => qq a (a + 1 + i)) (p_out qq nb' a) i) (nI a) (nI (a + 1 + i)) s') (I := fun _ _ => True) (R := fun r => r = k17 (nI t) (p_out qq nb' (a + 1)) (nI (a + 1)) s') (s := ()) (by omega) trivial ?_ ?_
    · intro _ fuel _
      show x_X9_crossed_L30 k17 (fuel + 1) _ _ _ (nI (a + 1 + (nb' - (a + 1)))) s' = _
      rw [x_X9_crossed_L30, e2', if_pos ((p_le (by omega) (by omega)).mpr (by omega)), nI_succ]
      rfl
    · intro i _ fuel hi _
      right
      refine ⟨(), trivial, ?_⟩
      show x_X9_crossed_L30 k17 (fuel + 1) (nI t) (p_inn (fun i => qq a (a + 1 + i)) (p_out qq nb' a) i) (nI a) (nI (a + 1 + i)) s' = x_X9_crossed_L30 k17 fuel (nI t) (p_inn (fun i => qq a (a + 1 + i)) (p_out qq nb' a) (i + 1)) (nI a) (nI (a + 1 + i + 1)) s'
      have hb : a + 1 + i < nb' := by omega
      have st : p_inn (fun i => qq a (a + 1 + i)) (p_out qq nb' a) (i + 1) = if qq a (a + 1 + i) = true then p_inn (fun i => qq a (a + 1 + i)) (p_out qq nb' a) i + 1 else p_inn (fun i => qq a (a + 1 + i)) (p_out qq nb' a) i := rfl
      rw [st]
      generalize p_inn (fun i => qq a (a + 1 + i)) (p_out qq nb' a) i = acc
      generalize a + 1 + i = b at hb ⊢
      obtain ⟨⟨ra, hra, fa⟩, -⟩ := (hB' a ha).1
      obtain ⟨⟨rc, hrc, fb⟩, -⟩ := (hB' b hb).1
      have ca : (nI a).toNatClampNeg = a := nI_clamp (by omega)
      have cb : (nI b).toNatClampNeg = b := nI_clamp (by omega)
      have cra : (nI ra).toNatClampNeg = ra := nI_clamp (by omega)
      have crb : (nI rc).toNatClampNeg = rc := nI_clamp (by omega)
      have p1 : s' 45 ra = rb M a 2 := by rw [← r]; show _ = s' 45 (s' 50 a).toNatClampNeg; rw [fa, cra]
      have p2 : s' 45 rc = rb M b 2 := by rw [← r]; show _ = s' 45 (s' 50 b).toNatClampNeg; rw [fb, crb]
      have ya := py_midBy (M := s') (b := a) (by omega) ht (hB' a ha).1 (hB' a ha).2 T'.2 W'.2
      have yb := py_midBy (M := s') (b := b) (by omega) ht (hB' b hb).1 (hB' b hb).2 T'.2 W'.2
      rw [r, hc 43 (by decide), hc 44 (by decide)] at ya yb
      rw [x_X9_crossed_L30, e2', if_neg (show ¬ nI nb' ≤ nI b from nI_ge (by omega) (by omega)), ca, cb, fa, fb, if_pos (p_inb (show a < 5 by omega) (by decide)), if_pos (p_inb hra (by decide)), if_pos (p_inb (show b < 5 by omega) (by decide)), if_pos (p_inb hrc (by decide)), cra, crb, p1, p2]
      refine (bnd ya _).trans ?_
      refine (bnd yb _).trans ?_
      dsimp only
      rw [nI_succ b]
      by_cases q : qq a b = true
      · rw [if_pos q]
        exact if_neg (fun z => (yone a b ha hb).mp z q)
      · rw [if_neg q]
        refine (if_pos ((yone a b ha hb).mpr q)).trans ?_
        rw [show acc + 0 = acc by grind]
