/-! THE PURE PART. ZH: the letters of a QUAY, on the class's side -/
def shp (l : Nat) : Nat := if l = 98 then 2 else if l = 101 then 4 else if l = 108 then 3 else if l = 114 then 0 else if l = 116 then 0 else if l = 119 then 1 else 5
theorem shp_5 (l : Nat) : shp l < 6 := by
  unfold shp
  repeat' split
  all_goals omega
theorem shp_v {l : Nat} (h : shp l ≠ 5) : l = 98 ∨ l = 101 ∨ l = 108 ∨ l = 114 ∨ l = 116 ∨ l = 119 := by
  unfold shp at h
  by_cases a : l = 98; · exact Or.inl a
  by_cases b : l = 101; · exact Or.inr (Or.inl b)
  by_cases c : l = 108; · exact Or.inr (Or.inr (Or.inl c))
  by_cases d : l = 114; · exact Or.inr (Or.inr (Or.inr (Or.inl d)))
  by_cases e : l = 116; · exact Or.inr (Or.inr (Or.inr (Or.inr (Or.inl e))))
  by_cases f : l = 119; · exact Or.inr (Or.inr (Or.inr (Or.inr (Or.inr f))))
  rw [if_neg a, if_neg b, if_neg c, if_neg d, if_neg e, if_neg f] at h
  exact absurd rfl h
theorem sl_t : ∀ w, w < 6 → g_sl w ≤ 11 ∧ (w ≠ 5 → 3 ≤ g_sl w) ∧ (w = 5 → g_sl w = 0) ∧ (g_se w = 0 ↔ w ≠ 5) ∧ ∀ j, j < g_sl w → g_sc w j = (if j + 1 = g_sl w then 59 else if w = 1 ∧ j = 2 then 43 else 35) := by decide +kernel
def fitN (w j c : Nat) : Bool := if j + 1 = g_sl w then decide (c = 59) else if w = 1 ∧ j = 2 then decide (c = 43 ∨ c = 45) else decide (48 ≤ c ∧ c ≤ 57)
theorem px_fits {w j c : Nat} (hw : w < 6) (hj : j ≤ 200) (hc : c ≤ 255) (s : g_M) : x_X3_fits w (nI j) (nI c) s = some (if j < g_sl w ∧ fitN w j c = true then 1 else 0, s) := by
  have hw' : decide (w < 6) = true := decide_eq_true hw
  obtain ⟨t1, -, -, -, t5⟩ := sl_t w hw
  rw [x_X3_fits, if_neg (nI_pos (by omega)), if_pos hw']
  by_cases z : j < g_sl w
  rotate_left
  · rw [if_neg (fun q => z ((p_lt (by omega) (by omega)).mp q)), if_neg (fun q => z q.1)]
  have cj : (nI j).toNatClampNeg = j := nI_clamp (by omega)
  rw [if_pos ((p_lt (by omega) (by omega)).mpr z), if_pos hw', if_pos (p_inb z (by omega)), cj, t5 j z]
  unfold fitN
  have ec : ∀ k : Nat, k < 300 → (nI c = nI k ↔ c = k) := fun k hk => p_eq (by omega) (by omega)
  by_cases a : j + 1 = g_sl w
  · simp only [if_pos a]
    rw [if_neg (by decide), if_neg (by decide)]
    by_cases y : c = 59
    · rw [if_pos (show nI c = (59 : Int32) from (ec 59 (by decide)).mpr y), if_pos ⟨z, decide_eq_true y⟩]
    · rw [if_neg (show ¬ nI c = (59 : Int32) from fun q => y ((ec 59 (by decide)).mp q)), if_neg (fun q => y (of_decide_eq_true q.2))]
  · simp only [if_neg a]
    by_cases b : w = 1 ∧ j = 2
    · simp only [if_pos b]
      rw [if_neg (by decide), if_pos trivial]
      by_cases y : c = 43
      · rw [if_pos (show nI c = (43 : Int32) from (ec 43 (by decide)).mpr y), if_pos ⟨z, decide_eq_true (Or.inl y)⟩]
      · rw [if_neg (show ¬ nI c = (43 : Int32) from fun q => y ((ec 43 (by decide)).mp q))]
        by_cases x : c = 45
        · rw [if_pos (show nI c = (45 : Int32) from (ec 45 (by decide)).mpr x), if_pos ⟨z, decide_eq_true (Or.inr x)⟩]
        · rw [if_neg (show ¬ nI c = (45 : Int32) from fun q => x ((ec 45 (by decide)).mp q)), if_neg (fun q => by have := of_decide_eq_true q.2; omega)]
    · simp only [if_neg b]
      rw [if_pos trivial]
      by_cases y : 48 ≤ c
      · rw [if_neg (show ¬ nI c < (48 : Int32) from fun q => by have := (p_lt (b := 48) (by omega) (by decide)).mp q; omega)]
        by_cases x : c ≤ 57
        · rw [if_neg (show ¬ (57 : Int32) < nI c from fun q => by have := (p_lt (a := 57) (by decide) (by omega)).mp q; omega), if_pos ⟨z, decide_eq_true ⟨y, x⟩⟩]
        · rw [if_pos (show (57 : Int32) < nI c from (p_lt (a := 57) (by decide) (by omega)).mpr (by omega)), if_neg (fun q => by have := of_decide_eq_true q.2; omega)]
      · rw [if_pos (show nI c < (48 : Int32) from (p_lt (b := 48) (by omega) (by decide)).mpr (by omega)), if_neg (fun q => by have := of_decide_eq_true q.2; omega)]
theorem px_shape {l : Nat} (hl : l ≤ 255) (s : g_M) : x_X3_shapeOf (nI l) s = some (nI (shp l), s) := by
  have ec : ∀ k : Nat, k < 300 → (nI l = nI k ↔ l = k) := fun k hk => p_eq (by omega) (by omega)
  have e1 : nI l = (98 : Int32) ↔ l = 98 := ec 98 (by decide)
  have e2 : nI l = (101 : Int32) ↔ l = 101 := ec 101 (by decide)
  have e3 : nI l = (108 : Int32) ↔ l = 108 := ec 108 (by decide)
  have e4 : nI l = (114 : Int32) ↔ l = 114 := ec 114 (by decide)
  have e5 : nI l = (116 : Int32) ↔ l = 116 := ec 116 (by decide)
  have e6 : nI l = (119 : Int32) ↔ l = 119 := ec 119 (by decide)
  unfold x_X3_shapeOf shp
  simp only [e1, e2, e3, e4, e5, e6]
  repeat' split
  all_goals rfl
/-- the letters that were fed -/
def isL (s : g_M) (L : Nat → Nat) (n : Nat) : Prop := n ≤ 96 ∧ s 19 1 = nI n ∧ ∀ i, i < n → s 20 i = nI (L i) ∧ L i ≤ 255
theorem px_letter {s : g_M} {L : Nat → Nat} {n : Nat} (h : isL s L n) {i : Nat} (hi : i ≤ 1000) : x_X3_letterAt (nI i) s = some (nI (if i < n then L i else 0), s) := by
  obtain ⟨h1, h2, h3⟩ := h
  rw [x_X3_letterAt, if_neg (nI_pos (by omega)), h2]
  by_cases z : i < n
  · have ci : (nI i).toNatClampNeg = i := nI_clamp (by omega)
    rw [if_neg (show ¬ nI n ≤ nI i from nI_ge z (by omega)), if_neg (show ¬ (96 : Int32) ≤ nI i from nI_ge (show i < 96 by omega) (by decide)), if_pos (p_inb (show i < 96 by omega) (by decide)), ci, (h3 i z).1, if_pos z]
  · rw [if_pos ((p_le (by omega) (by omega)).mpr (by omega)), if_neg z]
    rfl
/-- where the statement of a letter starts -/
def st (L : Nat → Nat) : Nat → Nat
  | 0 => 0
  | a + 1 => if a - st L a = g_sl (shp (L (st L a))) then a + 1 else st L a
def okA (L : Nat → Nat) (a : Nat) : Bool := if a = st L a then decide (shp (L a) ≠ 5) else fitN (shp (L (st L a))) (a - st L a - 1) (L a)
theorem st_le (L : Nat → Nat) : ∀ a, st L a ≤ a := by
  intro a
  induction a with
  | zero => exact Nat.le_refl _
  | succ a ih => rw [st]; split <;> omega
theorem st_in (L : Nat → Nat) : ∀ a, (∀ b, b < a → okA L b = true) → (a = st L a ∨ (shp (L (st L a)) ≠ 5 ∧ a - st L a ≤ g_sl (shp (L (st L a))))) := by
  intro a
  induction a with
  | zero => intro _; exact Or.inl rfl
  | succ a ih =>
    intro h
    have i := ih (fun b hb => h b (by omega))
    have le := st_le L a
    have ok := h a (by omega)
    rw [st]
    by_cases z : a - st L a = g_sl (shp (L (st L a)))
    · rw [if_pos z]; exact Or.inl rfl
    · rw [if_neg z]
      right
      rcases i with i | ⟨i1, i2⟩
      · unfold okA at ok
        rw [if_pos i, decide_eq_true_eq] at ok
        rw [← i]
        have := (sl_t _ (shp_5 (L a))).2.1 ok
        exact ⟨ok, by omega⟩
      · exact ⟨i1, by omega⟩
def sgp (L : Nat → Nat) (n : Nat) : Int32 := ff (fun a => decide (¬ okA L a = true)) nI (if n = 0 ∨ st L n < n then nI n else -9) n 0
theorem px_strange {s : g_M} {L : Nat → Nat} {n : Nat} (h : isL s L n) : x_X3_strangePlace s = some (sgp L n, s) := by
  have h2 := h.2.1
  have h3 := h.2.2
  have n96 := h.1
  unfold x_X3_strangePlace
  have key : ∀ k a fuel, a + k = n → k < fuel → (∀ b, b < a → okA L b = true) → x_X3_strangePlace_L4 fuel (nI (st L a)) (nI a) s = some (ff (fun a => decide (¬ okA L a = true)) nI (if n = 0 ∨ st L n < n then nI n else -9) k a, s) := by
    intro k
    induction k with
    | zero =>
      intro a fuel ha hf _
      obtain ⟨m, rfl⟩ : ∃ m, fuel = m + 1 := ⟨fuel - 1, by omega⟩
      obtain rfl : a = n := by omega
      have le := st_le L a
      rw [x_X3_strangePlace_L4, h2, if_pos (Int32.le_refl _), ff]
      by_cases z : a = 0
      · rw [if_pos (by rw [z]; rfl), if_pos (Or.inl z)]
      · rw [if_neg (show ¬ nI a = (0 : Int32) from fun q => z ((p_eq (a := a) (b := 0) (by omega) (by decide)).mp q))]
        by_cases y : st L a < a
        · rw [if_neg (fun q => by have := (p_le (by omega) (by omega)).mp q; omega), if_pos (Or.inr y)]
        · rw [if_pos ((p_le (by omega) (by omega)).mpr (by omega)), if_neg (by omega)]
    | succ k ih =>
      intro a fuel ha hf hok
      obtain ⟨m, rfl⟩ : ∃ m, fuel = m + 1 := ⟨fuel - 1, by omega⟩
      have le := st_le L a
      have la : a < n := by omega
      have lst : st L a < n := by omega
      have w5 := shp_5 (L (st L a))
      have cw : (nI (shp (L (st L a)))).toNatClampNeg = shp (L (st L a)) := nI_clamp (by omega)
      have tab := sl_t _ w5
      have dw : decide (shp (L (st L a)) < 6) = true := decide_eq_true w5
      have q1 := px_letter h (i := st L a) (by omega)
      rw [if_pos lst] at q1
      have q2 := px_letter h (i := a) (by omega)
      rw [if_pos la] at q2
      have inn := st_in L a hok
      have e55 : ∀ v : Int32, (v = if okA L a = true then 1 else 0) → x_X3_strangePlace_L55 (x_X3_strangePlace_L4 m) (nI (st L a)) (nI a) (shp (L (st L a))) v s = some (ff (fun a => decide (¬ okA L a = true)) nI (if n = 0 ∨ st L n < n then nI n else -9) (k + 1) a, s) := by
        intro v hv
        rw [x_X3_strangePlace_L55, ff]
        by_cases z : okA L a = true
        · rw [if_pos z] at hv
          have zd : ¬ decide (¬ okA L a = true) = true := by simpa using z
          rw [hv, if_neg (show ¬ (1 : Int32) = 0 by decide), if_pos dw, if_neg zd, p_sub le, ← nI_succ]
          have i2 := ih (a + 1) m (by omega) (by omega) (fun b hb => by
            by_cases y : b = a
            · subst y; exact z
            · exact hok b (by omega))
          rw [st] at i2
          by_cases y : a - st L a = g_sl (shp (L (st L a)))
          · rw [if_pos (by rw [y])]
            rw [if_pos y] at i2
            exact i2
          · rw [if_neg (fun q => y ((p_eq (by omega) (by omega)).mp q))]
            rw [if_neg y] at i2
            exact i2
        · rw [if_neg z] at hv
          rw [hv, if_pos rfl, if_pos (by simpa using z)]
      rw [x_X3_strangePlace_L4, h2, if_neg (show ¬ nI n ≤ nI a from nI_ge la (by omega))]
      refine (bnd q1 _).trans ?_
      refine (bnd (px_shape (h3 _ lst).2 s) _).trans ?_
      dsimp only
      rw [cw]
      by_cases z : a = st L a
      · rw [if_pos (show nI a = nI (st L a) by rw [← z]), if_pos dw]
        by_cases y : g_se (shp (L (st L a))) = 0
        · rw [if_pos y]
          refine e55 1 ?_
          unfold okA
          rw [if_pos z, if_pos (decide_eq_true (by have := tab.2.2.2.1.mp y; rw [← z] at this; exact this))]
        · rw [if_neg y]
          refine e55 0 ?_
          unfold okA
          rw [if_pos z, if_neg (fun q => y (tab.2.2.2.1.mpr (by have := of_decide_eq_true q; rw [← z]; exact this)))]
      · rw [if_neg (show ¬ nI a = nI (st L a) from fun q => z ((p_eq (by omega) (by omega)).mp q))]
        refine (bnd q2 _).trans ?_
        have ea : nI a - nI (st L a) - 1 = nI (a - st L a - 1) := by rw [p_sub le, show (1 : Int32) = nI 1 from rfl, p_sub (by omega)]
        rw [ea]
        refine (bnd (px_fits w5 (by omega) (h3 a la).2 s) _).trans ?_
        refine e55 _ ?_
        unfold okA
        rw [if_neg z]
        rcases inn with i | ⟨i1, i2⟩
        · exact absurd i z
        · by_cases y : fitN (shp (L (st L a))) (a - st L a - 1) (L a) = true
          · rw [if_pos y]
            exact if_pos ⟨by omega, y⟩
          · rw [if_neg y]
            exact if_neg (fun q => y q.2)
  have q := key n 0 g_F (by omega) (by show n < 20000; omega) (fun b hb => absurd hb (by omega))
  exact q
/-- numbers that were told -/
def nv1 (L : Nat → Nat) (i : Nat) : Nat := L i - 48
def nv2 (L : Nat → Nat) (i : Nat) : Nat := 10 * (L i - 48) + (L (i + 1) - 48)
def isD9 (L : Nat → Nat) (n i : Nat) : Prop := i < n ∧ 48 ≤ L i ∧ L i ≤ 57
theorem px_num1 {s : g_M} {L : Nat → Nat} {n i : Nat} (h : isL s L n) (hi : isD9 L n i) : x_X3_numberAt (nI i) 1 s = some (nI (nv1 L i), s) := by
  have n96 := h.1
  obtain ⟨d1, d2, d3⟩ := hi
  have q1 := px_letter h (i := i + 0) (by omega)
  rw [Nat.add_zero, if_pos d1] at q1
  show x_X3_numberAt_L5 (19998 + 1 + 1) (nI i) (nI 1) 0 (nI 0) s = _
  rw [x_X3_numberAt_L5, if_neg (by decide), p_add, Nat.add_zero]
  refine (bnd q1 _).trans ?_
  dsimp only
  rw [x_X3_numberAt_L5, if_pos (by decide), show (0 : Int32) * 10 + nI (L i) - 48 = nI (L i) - nI 48 by rw [show (0 : Int32) * 10 = 0 by decide, Int32.zero_add]; rfl, p_sub d2]
  rfl
theorem px_num2 {s : g_M} {L : Nat → Nat} {n i : Nat} (h : isL s L n) (hi : isD9 L n i) (hi2 : isD9 L n (i + 1)) : x_X3_numberAt (nI i) 2 s = some (nI (nv2 L i), s) := by
  have n96 := h.1
  obtain ⟨d1, d2, d3⟩ := hi
  obtain ⟨d4, d5, d6⟩ := hi2
  have q1 := px_letter h (i := i + 0) (by omega)
  rw [Nat.add_zero, if_pos d1] at q1
  have q2 := px_letter h (i := i + 1) (by omega)
  rw [if_pos d4] at q2
  show x_X3_numberAt_L5 (19997 + 1 + 1 + 1) (nI i) (nI 2) 0 (nI 0) s = _
  rw [x_X3_numberAt_L5, if_neg (by decide), p_add, Nat.add_zero]
  refine (bnd q1 _).trans ?_
  dsimp only
  rw [x_X3_numberAt_L5, if_neg (by decide), show nI 0 + 1 = nI 1 from rfl, p_add]
  refine (bnd q2 _).trans ?_
  dsimp only
  rw [x_X3_numberAt_L5, if_pos (by decide), show (0 : Int32) * 10 + nI (L i) - 48 = nI (L i) - nI 48 by rw [show (0 : Int32) * 10 = 0 by decide, Int32.zero_add]; rfl, p_sub d2, show (10 : Int32) = nI 10 from rfl, show (48 : Int32) = nI 48 from rfl, p_mul, p_add, p_sub (by omega), show (L i - 48) * 10 + L (i + 1) - 48 = nv2 L i by unfold nv2; omega]
theorem nv1_9 {L : Nat → Nat} {n i : Nat} (h : isD9 L n i) : nv1 L i ≤ 9 := by unfold nv1; have := h.2; omega
theorem nv2_99 {L : Nat → Nat} {n i : Nat} (h : isD9 L n i) (h2 : isD9 L n (i + 1)) : nv2 L i ≤ 99 := by unfold nv2; have := h.2; have := h2.2; omega
