/-! THE PURE PART. M: copies: Harbour to Harbour, the reference's kept numbers -/
theorem px_copyCells (a b n : Nat) (hn : n < 2 ^ 31) (M : g_M) : ∃ M', x_X2_copyCells a n b n M = some (0, M') ∧ (∀ c, c ≠ b → M' c = M c) ∧ ∀ k, k < n → M' b k = M a k := by
  have c : (Int32.ofNat n).toNatClampNeg = n := nI_clamp hn
  have g : g_min (Int32.ofNat n) (Int32.ofNat n) = Int32.ofNat n := by unfold g_min; split <;> rfl
  have c0 : (0 : Int32).toNatClampNeg = 0 := by decide
  have cb : g_cpb 0 0 (Int32.ofNat n) n n = true := by
    unfold g_cpb
    rw [c, c0]
    have : (0 : Int32) ≤ Int32.ofNat n := p_ge0 hn
    simp [this]
  refine ⟨g_cpy M a b 0 0 (Int32.ofNat n), by simp [x_X2_copyCells, g, cb], fun c' hc => by simp [g_cpy, hc], fun k hk => ?_⟩
  simp [g_cpy, va_cpy, c0, c, hk]
theorem px_copyFrom {q q1 : Nat} (hd : q + 5 < q1 ∨ q1 + 5 < q) (M : g_M) : ∃ M', x_X2_copyFrom q q1 M = some (0, M') ∧ (∀ c, (c < q ∨ q + 5 < c) → M' c = M c) ∧ (∀ i, 5 ≤ i → i ≤ 11 → M' q i = M q1 i) ∧ (∀ k, k < 12 → M' (q + 1) k = M (q1 + 1) k) ∧ (∀ k, k < 12 → M' (q + 2) k = M (q1 + 2) k) ∧ (∀ k, k < 12 → M' (q + 3) k = M (q1 + 3) k) ∧ (∀ k, k < 35 → M' (q + 4) k = M (q1 + 4) k) ∧ ∀ k, k < 6 → M' (q + 5) k = M (q1 + 5) k := by
  obtain ⟨Ma, a1, a2, a3⟩ := px_copyCells (q1 + 1) (q + 1) 12 (by decide) M
  obtain ⟨Mb, b1, b2, b3⟩ := px_copyCells (q1 + 2) (q + 2) 12 (by decide) Ma
  obtain ⟨Mc, c1, c2, c3⟩ := px_copyCells (q1 + 3) (q + 3) 12 (by decide) Mb
  obtain ⟨Md, d1, d2, d3⟩ := px_copyCells (q1 + 4) (q + 4) 35 (by decide) Mc
  obtain ⟨Me, e1, e2, e3⟩ := px_copyCells (q1 + 5) (q + 5) 6 (by decide) Md
  have hne : q1 ≠ q := by omega
  have eq1 : Me q1 = M q1 := by rw [e2 _ (by omega), d2 _ (by omega), c2 _ (by omega), b2 _ (by omega), a2 _ (by omega)]
  have up : ∀ (N : g_M) (i : Nat) (v : Int32), g_upd N q i v q1 = N q1 := fun N i v => g_upd_ne hne
  refine ⟨g_upd (g_upd (g_upd (g_upd (g_upd (g_upd (g_upd Me q 5 (M q1 5)) q 6 (M q1 6)) q 7 (M q1 7)) q 8 (M q1 8)) q 9 (M q1 9)) q 10 (M q1 10)) q 11 (M q1 11), ?_, fun c hc => ?_, fun i h5 h11 => ?_, fun k hk => ?_, fun k hk => ?_, fun k hk => ?_, fun k hk => ?_, fun k hk => ?_⟩
  · unfold x_X2_copyFrom
    simp only [a1, b1, c1, d1, e1, Option.bind_some, up, eq1]
  · have : c ≠ q := by omega
    simp only [g_upd_ne this]
    rw [e2 _ (by omega), d2 _ (by omega), c2 _ (by omega), b2 _ (by omega), a2 _ (by omega)]
  · rcases (show i = 5 ∨ i = 6 ∨ i = 7 ∨ i = 8 ∨ i = 9 ∨ i = 10 ∨ i = 11 by omega) with rfl | rfl | rfl | rfl | rfl | rfl | rfl <;> simp [g_upd_get]
  · simp only [g_upd_ne (show q + 1 ≠ q by omega)]
    rw [e2 _ (by omega), d2 _ (by omega), c2 _ (by omega), b2 _ (by omega), a3 k hk]
  · simp only [g_upd_ne (show q + 2 ≠ q by omega)]
    rw [e2 _ (by omega), d2 _ (by omega), c2 _ (by omega), b3 k hk, a2 _ (by omega)]
  · simp only [g_upd_ne (show q + 3 ≠ q by omega)]
    rw [e2 _ (by omega), d2 _ (by omega), c3 k hk, b2 _ (by omega), a2 _ (by omega)]
  · simp only [g_upd_ne (show q + 4 ≠ q by omega)]
    rw [e2 _ (by omega), d3 k hk, c2 _ (by omega), b2 _ (by omega), a2 _ (by omega)]
  · simp only [g_upd_ne (show q + 5 ≠ q by omega)]
    rw [e3 k hk, d2 _ (by omega), c2 _ (by omega), b2 _ (by omega), a2 _ (by omega)]
theorem hrel_copy {q q1 : Nat} {M M' : g_M} {K K' : Nat → Int32} (h : hrel q1 M K) (hI : ∀ i, 5 ≤ i → i ≤ 11 → M' q i = M q1 i) (h1 : ∀ k, k < 12 → M' (q + 1) k = M (q1 + 1) k) (h2 : ∀ k, k < 12 → M' (q + 2) k = M (q1 + 2) k) (h3 : ∀ k, k < 12 → M' (q + 3) k = M (q1 + 3) k) (h4 : ∀ k, k < 35 → M' (q + 4) k = M (q1 + 4) k) (h5 : ∀ k, k < 6 → M' (q + 5) k = M (q1 + 5) k) (hK : ∀ i, i < 84 → K' i = K i) : hrel q M' K' := by
  obtain ⟨a1, a2, a3, a4, ⟨h0, a5, a5b, a5c⟩, a6, ⟨np, p1, p2, p3, p4⟩, nr, r1, r2, r3, r4, nb, n1, n2, n3, n4⟩ := h
  unfold hrel
  rw [hI 8 (by decide) (by decide), hI 9 (by decide) (by decide), hI 10 (by decide) (by decide), hI 11 (by decide) (by decide), hI 7 (by decide) (by decide), hI 5 (by decide) (by decide), hI 6 (by decide) (by decide), hK 36 (by decide), hK 37 (by decide), hK 83 (by decide), hK 79 (by decide), hK 80 (by decide), hK 81 (by decide), hK 82 (by decide)]
  refine ⟨fun h hh => ?_, fun h hh => ?_, a3, a4, ⟨h0, a5, a5b, a5c⟩, a6, ⟨np, p1, p2, p3, fun r hr => ?_⟩, nr, r1, r2, r3, fun r hr => ?_, nb, n1, n2, n3, fun b hb => ?_⟩
  · rw [hK h (by omega), h1 h hh]; exact a1 h hh
  · rw [hK (12 + h) (by omega), h2 h hh]; exact a2 h hh
  · rw [hK (73 + r) (by omega), hK (76 + r) (by omega), h5 _ (by omega), h5 _ (by omega)]; exact p4 r hr
  · rw [hK (24 + r) (by omega), hK (30 + r) (by omega), h3 _ (by omega), h3 _ (by omega)]; exact r4 r hr
  · rw [hK (38 + b) (by omega), hK (43 + b) (by omega), hK (48 + b) (by omega), hK (53 + b) (by omega), hK (58 + b) (by omega), hK (63 + b) (by omega), hK (68 + b) (by omega), h4 _ (by omega), h4 _ (by omega), h4 _ (by omega), h4 _ (by omega), h4 _ (by omega), h4 _ (by omega), h4 _ (by omega)]
    exact n4 b hb
/-! cells 43..56 in their order -/
def p_sz (c : Nat) : Nat := if c ≤ 44 then 12 else if c ≤ 46 then 6 else if c = 47 then 2 else if c ≤ 54 then 5 else 3
def p_of (c : Nat) : Nat := if c ≤ 45 then (c - 43) * 12 else if c ≤ 47 then 24 + (c - 45) * 6 else if c ≤ 55 then 38 + (c - 48) * 5 else 73 + (c - 55) * 3
theorem p_of_s : ∀ c, c < 57 → 43 ≤ c → p_of (c + 1) = p_of c + p_sz c ∧ p_of c + p_sz c ≤ 79 := by decide
theorem c_in {c : Nat} (h : 43 ≤ c) (h2 : c ≤ 56) : c = 43 ∨ c = 44 ∨ c = 45 ∨ c = 46 ∨ c = 47 ∨ c = 48 ∨ c = 49 ∨ c = 50 ∨ c = 51 ∨ c = 52 ∨ c = 53 ∨ c = 54 ∨ c = 55 ∨ c = 56 := by omega
theorem lv_of {M : g_M} {c k : Nat} (h : 43 ≤ c) (h2 : c ≤ 56) (hk : k < p_sz c) : live M (p_of c + k) = M c k := by
  rcases c_in h h2 with rfl | rfl | rfl | rfl | rfl | rfl | rfl | rfl | rfl | rfl | rfl | rfl | rfl | rfl
  · show live M (0 + k) = _; rw [Nat.zero_add]; exact lv_43 M hk
  · exact lv_44 M hk
  · exact lv_45 M hk
  · exact lv_46 M hk
  · exact lv_47 M hk
  · exact lv_48 M hk
  · exact lv_49 M hk
  · exact lv_50 M hk
  · exact lv_51 M hk
  · exact lv_52 M hk
  · exact lv_53 M hk
  · exact lv_54 M hk
  · exact lv_55 M hk
  · exact lv_56 M hk
def kI (M0 : g_M) (base off : Nat) (M : g_M) : Prop := M 41 29 = 1 ∧ M 41 30 = nI (base + off) ∧ (∀ c, c ≠ 61 → c ≠ 41 → M c = M0 c) ∧ (∀ f, f ≠ 29 → f ≠ 30 → M 41 f = M0 41 f) ∧ (∀ i, i < off → M 61 (base + i) = live M0 i) ∧ ∀ i, (i < base ∨ base + off ≤ i) → M 61 i = M0 61 i
theorem bnd {x : Option (Int32 × g_M)} {r : Int32 × g_M} (h : x = some r) (f : Int32 × g_M → Option (Int32 × g_M)) : x.bind f = f r := by rw [h]; rfl
theorem kI_up {M0 M : g_M} {base off : Nat} {v : Int32} (h : kI M0 base off M) (hv : v = live M0 off) : kI M0 base (off + 1) (g_upd (g_upd M 61 (base + off) v) 41 30 (nI (base + off + 1))) := by
  obtain ⟨h1, h2, h3, h4, h5, h6⟩ := h
  refine ⟨by simp [g_upd_get, h1], by simp [g_upd_get]; rfl, fun c a b => by rw [g_upd_ne b, g_upd_ne a, h3 c a b], fun f a b => by simp [g_upd_get, b, h4 f a b], fun i hi => ?_, fun i hi => ?_⟩
  · rw [g_upd_ne (by decide), g_upd_get]
    by_cases k : i = off
    · subst k; simp [hv]
    · rw [if_neg (fun q => by have := q.2; omega)]
      exact h5 i (by omega)
  · rw [g_upd_ne (by decide), g_upd_get]
    rw [if_neg (fun q => by have := q.2; omega)]
    exact h6 i (by omega)
theorem kp_step {M0 M : g_M} {base off off' a n : Nat} (hI : kI M0 base off M) (hc1 : 43 ≤ a) (hc2 : a ≤ 56) (hof : p_of a = off) (hsz : p_sz a = n) (ho : off' = off + n) (hb : base + off' ≤ 180) : ∃ M', x_X9_passes a n M = some (0, M') ∧ kI M0 base off' M' := by
  have h61 : a ≠ 61 := by omega
  have h41 : a ≠ 41 := by omega
  have ha : ∀ j, j < n → live M0 (off + j) = M0 a j := fun j hj => by rw [← hof]; exact lv_of hc1 hc2 (by rw [hsz]; exact hj)
  subst ho
  unfold x_X9_passes
  refine p_loop0 (n := n) (F := fun i fuel s => x_X9_passes_L2 a n fuel (nI i) s) (I := fun i s => kI M0 base (off + i) s) (R := fun r => ∃ M', r = some (0, M') ∧ kI M0 base (off + n) M') (s := M) (by omega) hI ?_ ?_
  · intro s fuel h
    refine ⟨s, ?_, h⟩
    have : Int32.ofNat n ≤ nI n := Int32.le_refl _
    simp [x_X9_passes_L2, this]
  · intro i s fuel hi h
    right
    have b1 := p_inb hi (by omega : n < 2 ^ 31)
    have b2 := p_inb (show base + (off + i) < 180 by omega) (by decide : (180 : Nat) < 2 ^ 31)
    have c1 : (nI i).toNatClampNeg = i := nI_clamp (by omega)
    have c2 : (nI (base + (off + i))).toNatClampNeg = base + (off + i) := nI_clamp (by omega)
    have g : ¬ Int32.ofNat n ≤ nI i := nI_ge hi (by omega)
    have e1 : nI i + 1 = nI (i + 1) := (nI_succ ..).symm
    have e2 : nI (base + (off + i)) + 1 = nI (base + (off + i) + 1) := (nI_succ ..).symm
    have sa : s a i = live M0 (off + i) := by rw [h.2.2.1 a h61 h41, ha i hi]
    refine ⟨_, kI_up (off := off + i) h sa, ?_⟩
    have z : ¬ (1 : Int32) = 0 := by decide
    simp only [x_X9_passes_L2, if_neg g, h.1, if_neg z, b1, if_true, h.2.1, b2, c1, c2, g_upd_ne (show 41 ≠ 61 by decide), e1, e2]
theorem kp_one {M0 M : g_M} {base off f : Nat} (hI : kI M0 base off M) (hb : base + off < 180) (hf : live M0 off = M0 41 f) (f29 : f ≠ 29) (f30 : f ≠ 30) : ∃ (v : Int32) (M' N : g_M), M 41 f = v ∧ x_X9_passOne v M = some (v, M') ∧ g_upd M' 41 f v = N ∧ kI M0 base (off + 1) N := by
  have b2 := p_inb hb (by decide : (180 : Nat) < 2 ^ 31)
  have c2 : (nI (base + off)).toNatClampNeg = base + off := nI_clamp (by omega)
  have e2 : nI (base + off) + 1 = nI (base + off + 1) := (nI_succ ..).symm
  have z : ¬ (1 : Int32) = 0 := by decide
  have sf : M 41 f = live M0 off := by rw [hI.2.2.2.1 f f29 f30, hf]
  have up := kI_up hI sf
  refine ⟨M 41 f, g_upd (g_upd M 61 (base + off) (M 41 f)) 41 30 (nI (base + off + 1)), _, rfl, by simp only [x_X9_passOne, x_X9_passOne_L20, hI.1, if_neg z, hI.2.1, b2, if_true, c2, g_upd_ne (show 41 ≠ 61 by decide), e2], rfl, ?_⟩
  generalize hN : g_upd (g_upd M 61 (base + off) (M 41 f)) 41 30 (nI (base + off + 1)) = N at up
  have e : g_upd N 41 f (M 41 f) = N := by
    funext c i
    rw [g_upd_get]
    split
    · rename_i k
      obtain ⟨rfl, rfl⟩ := k
      rw [up.2.2.2.1 i f29 f30, hI.2.2.2.1 i f29 f30]
    · rfl
  rw [e]
  exact up
theorem py_keep {w : Nat} (hw : w ≤ 1) (M : g_M) : ∃ M', x_X9_passesAll (nI w) 1 M = some (0, M') ∧ kI M (90 * w) 84 M' := by
  have e90 : 90 * nI w = nI (90 * w) := by rw [show (90 : Int32) = nI 90 from rfl, p_mul]
  have k0 : kI M (90 * w) 0 (g_upd (g_upd M 41 30 (nI (90 * w))) 41 29 1) := ⟨by simp [g_upd_get], by simp [g_upd_get], fun c a b => by rw [g_upd_ne b, g_upd_ne b], fun f a b => by simp [g_upd_get, a, b], fun i hi => absurd hi (by omega), fun i _ => by rw [g_upd_ne (by decide), g_upd_ne (by decide)]⟩
  obtain ⟨M1, a1, k1⟩ := kp_step (a := 43) (n := 12) (off' := 12) k0 (by decide) (by decide) rfl rfl rfl (by omega)
  obtain ⟨M2, a2, k2⟩ := kp_step (a := 44) (n := 12) (off' := 24) k1 (by decide) (by decide) rfl rfl rfl (by omega)
  obtain ⟨M3, a3, k3⟩ := kp_step (a := 45) (n := 6) (off' := 30) k2 (by decide) (by decide) rfl rfl rfl (by omega)
  obtain ⟨M4, a4, k4⟩ := kp_step (a := 46) (n := 6) (off' := 36) k3 (by decide) (by decide) rfl rfl rfl (by omega)
  obtain ⟨M5, a5, k5⟩ := kp_step (a := 47) (n := 2) (off' := 38) k4 (by decide) (by decide) rfl rfl rfl (by omega)
  obtain ⟨M6, a6, k6⟩ := kp_step (a := 48) (n := 5) (off' := 43) k5 (by decide) (by decide) rfl rfl rfl (by omega)
  obtain ⟨M7, a7, k7⟩ := kp_step (a := 49) (n := 5) (off' := 48) k6 (by decide) (by decide) rfl rfl rfl (by omega)
  obtain ⟨M8, a8, k8⟩ := kp_step (a := 50) (n := 5) (off' := 53) k7 (by decide) (by decide) rfl rfl rfl (by omega)
  obtain ⟨M9, a9, k9⟩ := kp_step (a := 51) (n := 5) (off' := 58) k8 (by decide) (by decide) rfl rfl rfl (by omega)
  obtain ⟨M10, a10, k10⟩ := kp_step (a := 52) (n := 5) (off' := 63) k9 (by decide) (by decide) rfl rfl rfl (by omega)
  obtain ⟨M11, a11, k11⟩ := kp_step (a := 53) (n := 5) (off' := 68) k10 (by decide) (by decide) rfl rfl rfl (by omega)
  obtain ⟨M12, a12, k12⟩ := kp_step (a := 54) (n := 5) (off' := 73) k11 (by decide) (by decide) rfl rfl rfl (by omega)
  obtain ⟨M13, a13, k13⟩ := kp_step (a := 55) (n := 3) (off' := 76) k12 (by decide) (by decide) rfl rfl rfl (by omega)
  obtain ⟨M14, a14, k14⟩ := kp_step (a := 56) (n := 3) (off' := 79) k13 (by decide) (by decide) rfl rfl rfl (by omega)
  obtain ⟨v15, M15, N15, w15, a15, g15, k15⟩ := kp_one (f := 18) (off := 79) k14 (by omega) (lv_79n M) (by decide) (by decide)
  obtain ⟨v16, M16, N16, w16, a16, g16, k16⟩ := kp_one (f := 19) (off := 80) k15 (by omega) (lv_80n M) (by decide) (by decide)
  obtain ⟨v17, M17, N17, w17, a17, g17, k17⟩ := kp_one (f := 15) (off := 81) k16 (by omega) (lv_81n M) (by decide) (by decide)
  obtain ⟨v18, M18, N18, w18, a18, g18, k18⟩ := kp_one (f := 16) (off := 82) k17 (by omega) (lv_82n M) (by decide) (by decide)
  obtain ⟨v19, M19, N19, w19, a19, g19, k19⟩ := kp_one (f := 17) (off := 83) k18 (by omega) (lv_83n M) (by decide) (by decide)
  have ib : g_isb 1 = true := by decide
  refine ⟨N19, ?_, k19⟩
  unfold x_X9_passesAll
  rw [if_pos ib, e90]
  refine (bnd a1 _).trans ?_
  refine (bnd a2 _).trans ?_
  refine (bnd a3 _).trans ?_
  refine (bnd a4 _).trans ?_
  refine (bnd a5 _).trans ?_
  refine (bnd a6 _).trans ?_
  refine (bnd a7 _).trans ?_
  refine (bnd a8 _).trans ?_
  refine (bnd a9 _).trans ?_
  refine (bnd a10 _).trans ?_
  refine (bnd a11 _).trans ?_
  refine (bnd a12 _).trans ?_
  refine (bnd a13 _).trans ?_
  refine (bnd a14 _).trans ?_
  show Option.bind (x_X9_passOne (M14 41 18) M14) _ = _
  rw [w15]
  refine (bnd a15 _).trans ?_
  show Option.bind (x_X9_passOne (g_upd M15 41 18 v15 41 19) (g_upd M15 41 18 v15)) _ = _
  rw [g15, w16]
  refine (bnd a16 _).trans ?_
  show Option.bind (x_X9_passOne (g_upd M16 41 19 v16 41 15) (g_upd M16 41 19 v16)) _ = _
  rw [g16, w17]
  refine (bnd a17 _).trans ?_
  show Option.bind (x_X9_passOne (g_upd M17 41 15 v17 41 16) (g_upd M17 41 15 v17)) _ = _
  rw [g17, w18]
  refine (bnd a18 _).trans ?_
  show Option.bind (x_X9_passOne (g_upd M18 41 16 v18 41 17) (g_upd M18 41 16 v18)) _ = _
  rw [g18, w19]
  refine (bnd a19 _).trans ?_
  show some ((0 : Int32), g_upd M19 41 17 v19) = _
  rw [g19]
