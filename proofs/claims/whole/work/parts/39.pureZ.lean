/-! THE PURE PART. Z: seeds -/
theorem keep_rest {M M1 Ml M2 : g_M} (k : kI M 90 84 M1) (h1 : ∀ c, (c < 43 ∨ 57 ≤ c) → c ≠ 41 → Ml c = M1 c) (h2 : ∀ f, (f < 15 ∨ 19 < f) → f ≠ 29 → f ≠ 30 → f ≠ 25 → f ≠ 26 → Ml 41 f = M1 41 f) (h3 : ∀ c k, 43 ≤ c → c ≤ 56 → p_sz c ≤ k → Ml c k = M1 c k)
    (r1 : ∀ c, (c < 43 ∨ 57 ≤ c) → c ≠ 41 → M2 c = Ml c) (r2 : ∀ f, f ≠ 29 → f ≠ 30 → (f < 15 ∨ 19 < f) → M2 41 f = Ml 41 f) (r3 : ∀ c k, 43 ≤ c → c ≤ 56 → M2 c k = if k < p_sz c then Ml 61 (90 * 1 + p_of c + k) else Ml c k) (f1 : M2 41 18 = Ml 61 (90 * 1 + 79)) (f2 : M2 41 19 = Ml 61 (90 * 1 + 80)) (f3 : M2 41 15 = Ml 61 (90 * 1 + 81)) (f4 : M2 41 16 = Ml 61 (90 * 1 + 82)) (f5 : M2 41 17 = Ml 61 (90 * 1 + 83)) : coreEq M M2 := by
  obtain ⟨k1, k2, k3, k4, k5, k6⟩ := k
  have e61 : Ml 61 = M1 61 := h1 61 (by decide) (by decide)
  have out : ∀ c, (c < 43 ∨ 57 ≤ c) → c ≠ 41 → c ≠ 61 → M2 c = M c := fun c a b d => by rw [r1 c a b, h1 c a b, k3 c d b]
  have mid : ∀ c, 43 ≤ c → c ≤ 56 → M2 c = M c := by
    intro c a b
    funext j
    rw [r3 c j a b]
    by_cases z : j < p_sz c
    · have s := p_of_s c (by omega) a
      rw [if_pos z, e61, show 90 * 1 + p_of c + j = 90 + (p_of c + j) by omega, k5 (p_of c + j) (by omega), lv_of a b z]
    · rw [if_neg z, h3 c j a b (by omega), k3 c (by omega) (by omega)]
  refine ⟨fun c a => out c (by omega) (by omega) (by omega), fun c a b => out c (by omega) (by omega) (by omega), fun f a b d e => ?_, fun c a b => ?_, fun i hi => ?_, fun c a b => out c (by omega) (by omega) (by omega)⟩
  · by_cases z : f < 15 ∨ 19 < f
    · rw [r2 f d e z, h2 f z d e a b, k4 f d e]
    · rcases (show f = 15 ∨ f = 16 ∨ f = 17 ∨ f = 18 ∨ f = 19 by omega) with rfl | rfl | rfl | rfl | rfl
      · rw [f3, e61]; exact k5 81 (by decide)
      · rw [f4, e61]; exact k5 82 (by decide)
      · rw [f5, e61]; exact k5 83 (by decide)
      · rw [f1, e61]; exact k5 79 (by decide)
      · rw [f2, e61]; exact k5 80 (by decide)
  · rcases (show c = 42 ∨ (43 ≤ c ∧ c ≤ 56) ∨ c = 57 by omega) with rfl | ⟨z, y⟩ | rfl
    · exact out 42 (by decide) (by decide) (by decide)
    · exact mid c z y
    · exact out 57 (by decide) (by decide) (by decide)
  · rw [r1 61 (by decide) (by decide), e61, k6 i (Or.inl hi)]
theorem bc_bit : ∀ n, n < 12 → ∀ k, k < 2 ^ n → bc (nI k ||| nI (2 ^ n)) = bc (nI k) + 1 := by decide +kernel
theorem bc_bt (p : Nat → Bool) : ∀ n, n ≤ 12 → bc (bt p n) = nI (cnt p n) := by
  intro n
  induction n with
  | zero =>
    intro _
    show bc (0 : Int32) = nI 0
    decide
  | succ n ih =>
    intro hn
    obtain ⟨k, hk, e⟩ := bt_b p n (by omega)
    have ih := ih (by omega)
    rw [e] at ih
    by_cases hp : p n = true
    · rw [← bt_t hp, e, p_shl n (by omega), bc_bit n (by omega) k hk, ih, cnt_t hp, nI_succ]
    · rw [← bt_f hp, e, ih, cnt_f hp]
theorem bt_cnt0 {p : Nat → Bool} : bt p 12 = 0 ↔ cnt p 12 = 0 := by rw [bt_eq0, cnt_0]
def gS (s : Int32) : Int32 := s * 1103515245 + 12345
def gs (s : Int32) : Nat → Int32
  | 0 => s
  | h + 1 => gS (gs s h)
def dR (s : Int32) : Int32 := (s &&& 2147483647) / 65536 - (s &&& 2147483647) / 65536 / 41 * 41
theorem dR_n (s : Int32) : ∃ m, m ≤ 40 ∧ dR s = nI m := by
  have e : s &&& 2147483647 = nI (s.toBitVec.toNat % 2 ^ 31) := by
    apply Int32.toBitVec_inj.mp
    apply BitVec.eq_of_toNat_eq
    show (s.toBitVec &&& 2147483647#32).toNat = (BitVec.ofNat 32 (s.toBitVec.toNat % 2 ^ 31)).toNat
    rw [BitVec.toNat_and, BitVec.toNat_ofNat]
    have : 2147483647 % 2 ^ 32 = 2 ^ 31 - 1 := by decide
    rw [this, Nat.and_two_pow_sub_one_eq_mod, BitVec.toNat_ofNat]
    omega
  have lt : s.toBitVec.toNat % 2 ^ 31 < 2 ^ 31 := Nat.mod_lt _ (by decide)
  unfold dR
  rw [e]
  generalize s.toBitVec.toNat % 2 ^ 31 = m at lt
  rw [show (65536 : Int32) = nI 65536 from rfl, show (41 : Int32) = nI 41 from rfl, p_div lt (by decide), p_div (by omega) (by decide), p_mul, p_sub (by omega)]
  exact ⟨_, by omega, rfl⟩
theorem dR_b (s : Int32) : 0 ≤ dR s ∧ dR s ≤ 40 := by
  obtain ⟨m, hm, e⟩ := dR_n s
  rw [e]
  exact ⟨p_ge0 (by omega), (p_le (b := 40) (by omega) (by decide)).mpr hm⟩
def pT (B : Nat → Int32) (s : Int32) : Nat → Bool := fun h => decide (B 5 * B 5 < sN B (dR (gs s (h + 1))))
def se (B : Nat → Int32) : Nat → Int32 → Nat → Nat → Nat × Nat
  | 0, _, a, c => (a, c)
  | k + 1, s, a, c => se B k (gs s 12) (a + cnt (pT B s) 12) (if cnt (pT B s) 12 = 0 then c + 1 else c)
theorem px_draw (s : Int32) (M : g_M) : x_X8_drawBelow s 41 M = some (dR s, M) := by
  rw [x_X8_drawBelow, if_pos (by decide), if_neg (by decide)]
  rfl
theorem lx_seeds {M : g_M} {B : Nat → Int32} (h : isM 27 M B) (n : Nat) (w : Int32) (hn : n ≤ 20) : ∀ k t s a c fuel, t + k = n → a ≤ 12 * t → k < fuel → x_X8_seeds_L82 fuel (nI n) w s (nI a) (nI c) (nI t) M = some (if w = 0 then nI (se B k s a c).1 else nI (se B k s a c).2, M) := by
  intro k
  induction k with
  | zero =>
    intro t s a c fuel ht ha hf
    obtain ⟨m, rfl⟩ : ∃ m, fuel = m + 1 := ⟨fuel - 1, by omega⟩
    obtain rfl : t = n := by omega
    rw [x_X8_seeds_L82, if_pos (Int32.le_refl _)]
    split <;> rfl
  | succ k ih =>
    intro t s a c fuel ht ha hf
    obtain ⟨m, rfl⟩ : ∃ m, fuel = m + 1 := ⟨fuel - 1, by omega⟩
    have c12 := cnt_le (pT B s) 12
    rw [x_X8_seeds_L82, if_neg (show ¬ nI n ≤ nI t from nI_ge (by omega) (by omega)), se]
    rw [← ih (t + 1) (gs s 12) (a + cnt (pT B s) 12) (if cnt (pT B s) 12 = 0 then c + 1 else c) m (by omega) (by omega) (by omega)]
    generalize x_X8_seeds_L82 m = k82
    refine p_loop0 (n := 12) (F := fun i fuel (_ : Unit) => x_X8_seeds_L95 k82 fuel (nI n) w (gs s i) (nI (a + cnt (pT B s) i)) (nI c) (nI t) (nI a) (nI i) M) (I := fun _ _ => True) (R := fun r => r = k82 (nI n) w (gs s 12) (nI (a + cnt (pT B s) 12)) (nI (if cnt (pT B s) 12 = 0 then c + 1 else c)) (nI (t + 1)) M) (s := ()) (by decide) trivial ?_ ?_
    · intro _ fuel _
      show x_X8_seeds_L95 k82 (fuel + 1) _ _ (gs s 12) (nI (a + cnt (pT B s) 12)) _ _ _ (nI 12) M = _
      rw [x_X8_seeds_L95, if_pos (by decide), ← nI_succ, ← nI_succ]
      by_cases z : cnt (pT B s) 12 = 0
      · rw [if_pos (by rw [z, Nat.add_zero]), if_pos z]
      · rw [if_neg (fun q => z (by have := (p_eq (by omega) (by omega)).mp q; omega)), if_neg z]
    · intro i _ fuel hi _
      right
      refine ⟨(), trivial, ?_⟩
      show x_X8_seeds_L95 k82 (fuel + 1) _ _ (gs s i) (nI (a + cnt (pT B s) i)) _ _ _ (nI i) M = x_X8_seeds_L95 k82 fuel _ _ (gs s (i + 1)) (nI (a + cnt (pT B s) (i + 1))) _ _ _ (nI (i + 1)) M
      rw [x_X8_seeds_L95, if_neg (p_n12 hi)]
      refine (bnd (px_draw _ M) _).trans ?_
      dsimp only
      rw [h 5 (by decide)]
      refine (bnd (px_hangs h _ _) _).trans ?_
      dsimp only
      have eg : gs s i * 1103515245 + 12345 = gs s (i + 1) := rfl
      rw [eg, nI_succ i]
      by_cases q : B 5 * B 5 < sN B (dR (gs s (i + 1)))
      · have q2 : pT B s i = true := decide_eq_true q
        rw [if_pos q, if_neg (by decide), cnt_t q2, ← nI_succ, Nat.add_assoc]
      · have q2 : ¬ pT B s i = true := by
          unfold pT
          rw [decide_eq_true_eq]
          exact q
        rw [if_neg q, if_pos rfl, cnt_f q2]
theorem ly_seeds {M M1 : g_M} {b : Nat} (k1 : kI M 90 84 M1) (hb : b < 5) (hR : okR M b) (hB : okB (rb M b)) (n : Nat) (w : Int32) (hn : n ≤ 20) : ∀ k t s a c fuel (N : g_M), t + k = n → a ≤ 12 * t → k < fuel → (∀ c, c ≠ 43 → N c = M1 c) → (∀ j, 12 ≤ j → N 43 j = M1 43 j) → ∃ M2, x_X9_seeds_L70 fuel (nI b) (nI n) w s (nI a) (nI c) (nI t) N = some (if w = 0 then nI (se (rb M b) k s a c).1 else nI (se (rb M b) k s a c).2, M2) ∧ coreEq M M2 := by
  intro k
  induction k with
  | zero =>
    intro t s a c fuel N ht ha hf hN1 hN2
    obtain ⟨m, rfl⟩ : ∃ m, fuel = m + 1 := ⟨fuel - 1, by omega⟩
    obtain rfl : t = n := by omega
    obtain ⟨M2, r0, r1, r2, r3, f1, f2, f3, f4, f5⟩ := py_rest (w := 1) (by decide) N
    refine ⟨M2, ?_, keep_rest k1 (fun c a b => hN1 c (by omega)) (fun f _ _ _ _ _ => by rw [hN1 41 (by decide)]) (fun c j a b d => ?_) r1 r2 r3 f1 f2 f3 f4 f5⟩
    · rw [x_X9_seeds_L70, if_pos (Int32.le_refl _)]
      refine (bnd r0 _).trans ?_
      dsimp only
      split <;> rfl
    · by_cases z : c = 43
      · subst z; exact hN2 j d
      · rw [hN1 c z]
  | succ k ih =>
    intro t s a c fuel N ht ha hf hN1 hN2
    obtain ⟨m, rfl⟩ : ∃ m, fuel = m + 1 := ⟨fuel - 1, by omega⟩
    have c12 := cnt_le (pT (rb M b) s) 12
    rw [x_X9_seeds_L70, if_neg (show ¬ nI n ≤ nI t from nI_ge (by omega) (by omega)), se]
    have key : ∃ N', (∀ c, c ≠ 43 → N' c = M1 c) ∧ (∀ j, 12 ≤ j → N' 43 j = M1 43 j) ∧ x_X9_seeds_L79 (x_X9_seeds_L70 m) g_F (nI b) (nI n) w s (nI a) (nI c) (nI t) 0 N = x_X9_seeds_L70 m (nI b) (nI n) w (gs s 12) (nI (a + cnt (pT (rb M b) s) 12)) (nI (if cnt (pT (rb M b) s) 12 = 0 then c + 1 else c)) (nI (t + 1)) N' := by
      generalize x_X9_seeds_L70 m = k70
      refine p_loop0 (n := 12) (F := fun i fuel N => x_X9_seeds_L79 k70 fuel (nI b) (nI n) w (gs s i) (nI a) (nI c) (nI t) (nI i) N) (I := fun i N => (∀ c, c ≠ 43 → N c = M1 c) ∧ (∀ j, 12 ≤ j → N 43 j = M1 43 j) ∧ ∀ j, j < i → N 43 j = dR (gs s (j + 1))) (R := fun r => ∃ N', (∀ c, c ≠ 43 → N' c = M1 c) ∧ (∀ j, 12 ≤ j → N' 43 j = M1 43 j) ∧ r = k70 (nI b) (nI n) w (gs s 12) (nI (a + cnt (pT (rb M b) s) 12)) (nI (if cnt (pT (rb M b) s) 12 = 0 then c + 1 else c)) (nI (t + 1)) N') (s := N) (by decide) ⟨hN1, hN2, fun j hj => absurd hj (by omega)⟩ ?_ ?_
      · intro N fuel ⟨h1, h2, h3⟩
        refine ⟨N, h1, h2, ?_⟩
        have nc : ∀ c, 43 < c → c < 61 → N c = M c := fun c x y => by rw [h1 c (by omega), k1.2.2.1 c (by omega) (by omega)]
        have rN : rb N b = rb M b := by
          funext j
          unfold rb
          rw [nc 45 (by decide) (by decide), nc 46 (by decide) (by decide), nc 47 (by decide) (by decide), nc 48 (by decide) (by decide), nc 49 (by decide) (by decide), nc 50 (by decide) (by decide), nc 51 (by decide) (by decide), nc 52 (by decide) (by decide), nc 53 (by decide) (by decide), nc 54 (by decide) (by decide)]
        have RN : okR N b := by unfold okR; rw [nc 50 (by decide) (by decide), nc 51 (by decide) (by decide)]; exact hR
        have TN : okT (N 43) := fun j hj => by rw [h3 j hj]; exact dR_b _
        have cb : (nI b).toNatClampNeg = b := nI_clamp (by omega)
        have hh := py_hangH (M := N) hb RN (by rw [rN]; exact hB) TN (N 52 b)
        have sv : sHH (rb N b) (N 52 b) (N 43) = bt (pT (rb M b) s) 12 := by
          unfold sHH
          refine bt_cg fun j hj => ?_
          rw [h3 j hj, rN, show N 52 b = rb M b 5 by rw [← rN]; rfl]
          rfl
        rw [sv] at hh
        show x_X9_seeds_L79 k70 (fuel + 1) _ _ _ (gs s 12) _ _ _ (nI 12) N = _
        rw [x_X9_seeds_L79, if_pos (by decide), if_pos (p_inb hb (by decide)), cb]
        refine (bnd hh _).trans ?_
        refine (bnd (py_bits (isS_bt _) N) _).trans ?_
        dsimp only
        rw [bc_bt _ 12 (by decide), p_add, ← nI_succ, ← nI_succ]
        by_cases z : cnt (pT (rb M b) s) 12 = 0
        · rw [if_pos (bt_cnt0.mpr z), if_pos z]
        · rw [if_neg (fun q => z (bt_cnt0.mp q)), if_neg z, show nI c + 0 = nI c by grind]
      · intro i N fuel hi ⟨h1, h2, h3⟩
        right
        have ci : (nI i).toNatClampNeg = i := nI_clamp (by omega)
        refine ⟨g_upd N 43 i (dR (gs s (i + 1))), ⟨fun c hc => by rw [g_upd_ne hc, h1 c hc], fun j hj => by rw [g_upd_get, if_neg (fun q => by have := q.2; omega), h2 j hj], fun j hj => ?_⟩, ?_⟩
        · rw [g_upd_get]
          by_cases z : j = i
          · subst z; rw [if_pos ⟨rfl, rfl⟩]
          · rw [if_neg (fun q => z q.2)]; exact h3 j (by omega)
        · show x_X9_seeds_L79 k70 (fuel + 1) _ _ _ (gs s i) _ _ _ (nI i) N = x_X9_seeds_L79 k70 fuel _ _ _ (gs s (i + 1)) _ _ _ (nI (i + 1)) _
          rw [x_X9_seeds_L79, if_neg (p_n12 hi), if_pos (p_inb hi (by decide)), ci, nI_succ]
          rfl
    obtain ⟨N', a1, a2, a3⟩ := key
    rw [a3]
    exact ih (t + 1) (gs s 12) _ _ m N' (by omega) (by omega) (by omega) a1 a2
theorem op_seeds (p n z w : Int32) : opOK (x_X8_seeds p n z w) (x_X9_seeds p n z w) := by
  intro M h
  by_cases hp : 0 ≤ p ∧ p < M 1 6
  rotate_left
  · exact op_ref h (k := 1) (r := -nI 1) (by decide) (by simp [x_X8_seeds, px_hasBoat, hp, n1, px_refused]) (fun M1 hc => by simp [x_X9_seeds, x_X9_seeds_L19, x_X9_seeds_L40, noB h hp hc, n1, nz1, py_no])
  by_cases k1 : 1 ≤ n
  rotate_left
  · have hv : n < 1 := by rw [← Int32.not_le]; exact k1
    exact op_ref h (k := 4) (r := -nI 4) (by decide) (by simp [x_X8_seeds, px_hasBoat, hp, k1, n4, px_refused]) (fun M1 hc => by simp [x_X9_seeds, x_X9_seeds_L19, x_X9_seeds_L40, yesB h hp hc, py_bound, hv, n4, nz4, py_no])
  have hv : ¬ n < 1 := by rw [Int32.not_lt]; exact k1
  by_cases k6 : n ≤ 20
  rotate_left
  · have hv2 : 20 < n := by rw [← Int32.not_le]; exact k6
    exact op_ref h (k := 6) (r := -nI 6) (by decide) (by simp [x_X8_seeds, px_hasBoat, hp, k1, k6, n6, px_refused]) (fun M1 hc => by simp [x_X9_seeds, x_X9_seeds_L19, x_X9_seeds_L40, yesB h hp hc, py_bound, hv, hv2, n6, nz6, py_no])
  have hv2 : ¬ 20 < n := by rw [Int32.not_lt]; exact k6
  by_cases w2 : 0 ≤ w ∧ w < 2
  rotate_left
  · have w3 : ¬ (0 ≤ w ∧ w ≤ 1) := fun q => w2 ⟨q.1, by have := q.2; grind⟩
    exact op_ref h (k := 2) (r := -nI 2) (by decide) (by simp [x_X8_seeds, px_hasBoat, hp, k1, k6, px_isOneOf, w2, n2, px_refused]) (fun M1 hc => by simp [x_X9_seeds, x_X9_seeds_L19, x_X9_seeds_L40, yesB h hp hc, py_bound, hv, hv2, py_isIn, w3, n2, nz2, py_no])
  have w3 : 0 ≤ w ∧ w ≤ 1 := ⟨w2.1, by have := w2.2; grind⟩
  obtain ⟨j, hj, rfl⟩ := p_in (i := n) (n := 21) (by decide) (by grind) (show n < 21 by grind)
  obtain ⟨b, rfl, hb, hb1, hb2, hR, hB⟩ := bo h hp
  obtain ⟨M', e1, e2, e3, tt, T2⟩ := lxd h (q := 27) (by decide) hb1 hb
  have g1 : x_X2_hasBoat 1 (nI b) M = some (1, M) := by rw [px_hasBoat, if_pos hp]
  have g2 : x_X8_isOneOf w 2 M = some (1, M) := by rw [px_isOneOf, if_pos w2]
  have hx : x_X8_seeds (nI b) (nI j) z w M = some (if w = 0 then nI (se (rb M b) j z 0 0).1 else nI (se (rb M b) j z 0 0).2, M') := by
    rw [x_X8_seeds]
    refine (bnd g1 _).trans ?_
    dsimp only
    rw [if_neg (by decide), if_pos k1, if_pos k6]
    refine (bnd g2 _).trans ?_
    dsimp only
    rw [if_neg (by decide)]
    refine (bnd e1 _).trans ?_
    exact lx_seeds e2 j w (by omega) j 0 z 0 0 g_F (by omega) (by omega) (by show j < 20000; omega)
  refine op_ask h hx (ld_scr (Or.inl rfl) e3) fun h1 hc => ?_
  obtain ⟨r1, r2, r3, r4, r5, r6⟩ := rby h hc hb2 hb hR hB
  obtain ⟨M1, a1, a2⟩ := py_keep (w := 1) (by decide) M'
  obtain ⟨M2, y1, y2⟩ := ly_seeds (M := M') a2 hb r1 r2 j w (by omega) j 0 z 0 0 g_F M1 (by omega) (by omega) (by show j < 20000; omega) (fun _ _ => rfl) (fun _ _ => rfl)
  rw [r4] at y1
  refine ⟨M2, ?_, y2⟩
  have g3 : x_X9_bound (nI j) 1 20 M' = some (0, M') := by rw [py_bound, if_neg hv, if_neg hv2]
  have g4 : x_X9_isIn w 0 1 M' = some (1, M') := by rw [py_isIn, if_pos w3]
  rw [x_X9_seeds]
  refine (bnd r6 _).trans ?_
  dsimp only
  rw [if_neg (by decide)]
  refine (bnd g3 _).trans ?_
  dsimp only
  rw [x_X9_seeds_L19, if_pos rfl]
  refine (bnd g4 _).trans ?_
  dsimp only
  rw [if_neg (by decide), x_X9_seeds_L40, if_pos rfl]
  refine (bnd a1 _).trans ?_
  exact y1
