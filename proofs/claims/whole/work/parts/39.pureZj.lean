/-! THE PURE PART. ZJ: a boat told; the class's quay -/
def bv (L : Nat → Nat) (p j : Nat) : Nat := if j = 0 then nv1 L (p + 1) else if j = 1 then nv1 L (p + 2) else if j = 2 then nv1 L (p + 3) else if j = 3 then nv1 L (p + 4) else if j = 4 then nv2 L (p + 5) else if j = 5 then nv2 L (p + 7) else nv2 L (p + 9)
def KB (K : Nat → Int32) (L : Nat → Nat) (p nb : Nat) : Nat → Int32 := kU (kU (kU (kU (kU (kU (kU (kU K (38 + nb) (nI (nv1 L (p + 1)))) (43 + nb) (nI (nv1 L (p + 2)))) (48 + nb) (nI (nv1 L (p + 3)))) (53 + nb) (nI (nv1 L (p + 4)))) (58 + nb) (nI (nv2 L (p + 5)))) (63 + nb) (nI (nv2 L (p + 7)))) (68 + nb) (nI (nv2 L (p + 9)))) 82 (nI (nb + 1))
theorem KB_n {K : Nat → Int32} {L : Nat → Nat} {p nb i : Nat} (h0 : i ≠ 38 + nb) (h1 : i ≠ 43 + nb) (h2 : i ≠ 48 + nb) (h3 : i ≠ 53 + nb) (h4 : i ≠ 58 + nb) (h5 : i ≠ 63 + nb) (h6 : i ≠ 68 + nb) (h7 : i ≠ 82) : KB K L p nb i = K i := by
  unfold KB
  rw [kU_n h7, kU_n h6, kU_n h5, kU_n h4, kU_n h3, kU_n h2, kU_n h1, kU_n h0]
theorem KB_v (K : Nat → Int32) (L : Nat → Nat) (p : Nat) {nb : Nat} (h : nb < 5) : KB K L p nb (38 + nb) = nI (nv1 L (p + 1)) ∧ KB K L p nb (43 + nb) = nI (nv1 L (p + 2)) ∧ KB K L p nb (48 + nb) = nI (nv1 L (p + 3)) ∧ KB K L p nb (53 + nb) = nI (nv1 L (p + 4)) ∧ KB K L p nb (58 + nb) = nI (nv2 L (p + 5)) ∧ KB K L p nb (63 + nb) = nI (nv2 L (p + 7)) ∧ KB K L p nb (68 + nb) = nI (nv2 L (p + 9)) ∧ KB K L p nb 82 = nI (nb + 1) := by
  unfold KB
  refine ⟨?_, ?_, ?_, ?_, ?_, ?_, ?_, ?_⟩
  · rw [kU_n (by omega), kU_n (by omega), kU_n (by omega), kU_n (by omega), kU_n (by omega), kU_n (by omega), kU_n (by omega), kU_s]
  · rw [kU_n (by omega), kU_n (by omega), kU_n (by omega), kU_n (by omega), kU_n (by omega), kU_n (by omega), kU_s]
  · rw [kU_n (by omega), kU_n (by omega), kU_n (by omega), kU_n (by omega), kU_n (by omega), kU_s]
  · rw [kU_n (by omega), kU_n (by omega), kU_n (by omega), kU_n (by omega), kU_s]
  · rw [kU_n (by omega), kU_n (by omega), kU_n (by omega), kU_s]
  · rw [kU_n (by omega), kU_n (by omega), kU_s]
  · rw [kU_n (by omega), kU_s]
  · rw [kU_s]
def chB (s : g_M) (L : Nat → Nat) (p nb : Nat) : g_M := g_upd (g_upd (g_upd (g_upd (g_upd (g_upd (g_upd (g_upd s 13 6 (nI (nb + 1))) 17 (7 * nb + 0) (nI (nv1 L (p + 1)))) 17 (7 * nb + 1) (nI (nv1 L (p + 2)))) 17 (7 * nb + 2) (nI (nv1 L (p + 3)))) 17 (7 * nb + 3) (nI (nv1 L (p + 4)))) 17 (7 * nb + 4) (nI (nv2 L (p + 5)))) 17 (7 * nb + 5) (nI (nv2 L (p + 7)))) 17 (7 * nb + 6) (nI (nv2 L (p + 9)))
theorem tell_b {s : g_M} {L : Nat → Nat} {n p : Nat} {K : Nat → Int32} (hL : isL s L n) (hS : okS L n p) (h : hrel 13 s K) (l : L p = 98) : tells s L p K (x_X3_tellBoat 13 (nI (p + 1)) s) := by
  have n96 := hL.1
  have sw : shp (L p) = 2 := by rw [l]; rfl
  have sl : g_sl 2 = 11 := by decide
  have d : ∀ j, j < 10 → isD9 L n (p + 1 + j) := fun j hj => okS_d hS sw (j := j) (by rw [sl]; omega) (by omega)
  have d1 : ∀ j k, 1 ≤ j → j < 11 → p + j = k → isD9 L n k := fun j k h1 h2 e => by have := d (j - 1) (by omega); rw [show p + 1 + (j - 1) = k by omega] at this; exact this
  have e1 := d1 1 _ (by decide) (by decide) rfl
  have e2 := d1 2 _ (by decide) (by decide) rfl
  have e3 := d1 3 _ (by decide) (by decide) rfl
  have e4 := d1 4 _ (by decide) (by decide) rfl
  have e5 := d1 5 _ (by decide) (by decide) rfl
  have e6 := d1 6 (p + 5 + 1) (by decide) (by decide) (by omega)
  have e7 := d1 7 _ (by decide) (by decide) rfl
  have e8 := d1 8 (p + 7 + 1) (by decide) (by decide) (by omega)
  have e9 := d1 9 _ (by decide) (by decide) rfl
  have e10 := d1 10 (p + 9 + 1) (by decide) (by decide) (by omega)
  have v1 := nv1_9 e1
  have v2 := nv1_9 e2
  have v3 := nv1_9 e3
  have v4 := nv1_9 e4
  have v5 := nv2_99 e5 e6
  have v7 := nv2_99 e7 e8
  have v9 := nv2_99 e9 e10
  obtain ⟨j1, j2, j3, j4, j5⟩ := hrel_iff.mp h
  obtain ⟨nr, r1, r2, r3, r4, nb, m1, m2, m3, m4⟩ := j5
  have cr : (K 81).toNatClampNeg = nr := by rw [r3, nI_clamp (by omega)]
  have cb : (K 82).toNatClampNeg = nb := by rw [m3, nI_clamp (by omega)]
  unfold tells ap
  simp only [l, if_true, cr, cb]
  have pa : ∀ (a b : Nat), nI (p + 1) + nI a = nI (p + 1 + a) := fun a _ => p_add
  have q3 : nI (p + 1) + 2 = nI (p + 3) := pa 2 0
  have q4 : nI (p + 1) + 3 = nI (p + 4) := pa 3 0
  have q7 : nI (p + 1) + 6 = nI (p + 7) := pa 6 0
  have q2 : nI (p + 1) + 1 = nI (p + 2) := pa 1 0
  have q5 : nI (p + 1) + 4 = nI (p + 5) := pa 4 0
  have q9 : nI (p + 1) + 8 = nI (p + 9) := pa 8 0
  have red : x_X3_tellBoat 13 (nI (p + 1)) s = if nb < 5 ∧ nv1 L (p + 1) < 6 ∧ nv1 L (p + 3) < nr ∧ nv1 L (p + 4) < nr ∧ 1 ≤ nv2 L (p + 7) ∧ nv2 L (p + 7) ≤ 20 then some (1, chB s L p nb) else some (0, s) := by
    rw [x_X3_tellBoat, q3, q4, q7, q2, q5, q9]
    refine (bnd (px_num1 hL e1) _).trans ?_
    refine (bnd (px_num1 hL e3) _).trans ?_
    refine (bnd (px_num1 hL e4) _).trans ?_
    refine (bnd (px_num2 hL e7 e8) _).trans ?_
    dsimp only
    by_cases z1 : nb < 5
    rotate_left
    · refine Eq.trans (if_pos (by rw [m2]; exact (p_le (a := 5) (by decide) (by omega)).mpr (by omega))) ?_
      rw [if_neg (fun q => z1 q.1)]
    refine Eq.trans (if_neg (by rw [m2]; exact nI_ge z1 (by decide))) ?_
    by_cases z2 : nv1 L (p + 1) < 6
    rotate_left
    · rw [if_pos (show (6 : Int32) ≤ nI (nv1 L (p + 1)) from (p_le (a := 6) (by decide) (by omega)).mpr (by omega)), if_neg (fun q => z2 q.2.1)]
    rw [if_neg (show ¬ (6 : Int32) ≤ nI (nv1 L (p + 1)) from nI_ge z2 (by decide))]
    by_cases z3 : nv1 L (p + 3) < nr
    rotate_left
    · have hh : x_X2_hasRing 13 (nI (nv1 L (p + 3))) s = some (0, s) := by rw [px_hasRing, r2, if_neg (fun q => z3 ((p_lt (by omega) (by omega)).mp q.2))]
      refine (bnd hh _).trans ?_
      dsimp only
      rw [if_pos rfl, if_neg (fun q => z3 q.2.2.1)]
    have hh : x_X2_hasRing 13 (nI (nv1 L (p + 3))) s = some (1, s) := by rw [px_hasRing, r2, if_pos ⟨p_ge0 (by omega), (p_lt (by omega) (by omega)).mpr z3⟩]
    refine (bnd hh _).trans ?_
    dsimp only
    rw [if_neg (show ¬ (1 : Int32) = 0 by decide)]
    by_cases z4 : nv1 L (p + 4) < nr
    rotate_left
    · have hh : x_X2_hasRing 13 (nI (nv1 L (p + 4))) s = some (0, s) := by rw [px_hasRing, r2, if_neg (fun q => z4 ((p_lt (by omega) (by omega)).mp q.2))]
      refine (bnd hh _).trans ?_
      dsimp only
      rw [if_pos rfl, if_neg (fun q => z4 q.2.2.2.1)]
    have hh : x_X2_hasRing 13 (nI (nv1 L (p + 4))) s = some (1, s) := by rw [px_hasRing, r2, if_pos ⟨p_ge0 (by omega), (p_lt (by omega) (by omega)).mpr z4⟩]
    refine (bnd hh _).trans ?_
    dsimp only
    rw [if_neg (show ¬ (1 : Int32) = 0 by decide)]
    by_cases z5 : 1 ≤ nv2 L (p + 7)
    rotate_left
    · rw [if_pos (show nI (nv2 L (p + 7)) < (1 : Int32) from (p_lt (b := 1) (by omega) (by decide)).mpr (by omega)), if_neg (fun q => z5 q.2.2.2.2.1)]
    rw [if_neg (show ¬ nI (nv2 L (p + 7)) < (1 : Int32) from fun q => by have := (p_lt (b := 1) (by omega) (by decide)).mp q; omega)]
    by_cases z6 : nv2 L (p + 7) ≤ 20
    rotate_left
    · rw [if_neg (show ¬ nI (nv2 L (p + 7)) ≤ (20 : Int32) from fun q => z6 ((p_le (b := 20) (by omega) (by decide)).mp q)), if_neg (fun q => z6 q.2.2.2.2.2)]
    rw [if_pos (show nI (nv2 L (p + 7)) ≤ (20 : Int32) from (p_le (b := 20) (by omega) (by decide)).mpr z6), if_pos ⟨z1, z2, z3, z4, z5, z6⟩, m2, ← nI_succ]
    have h0 := isL_up (i := 6) (v := nI (nb + 1)) hL (c := 13) (by decide) (by decide)
    have h1 := isL_up (i := 7 * nb + 0) (v := nI (nv1 L (p + 1))) h0 (c := 17) (by decide) (by decide)
    have h2 := isL_up (i := 7 * nb + 1) (v := nI (nv1 L (p + 2))) h1 (c := 17) (by decide) (by decide)
    have h3 := isL_up (i := 7 * nb + 2) (v := nI (nv1 L (p + 3))) h2 (c := 17) (by decide) (by decide)
    have h4 := isL_up (i := 7 * nb + 3) (v := nI (nv1 L (p + 4))) h3 (c := 17) (by decide) (by decide)
    have h5 := isL_up (i := 7 * nb + 4) (v := nI (nv2 L (p + 5))) h4 (c := 17) (by decide) (by decide)
    have h6 := isL_up (i := 7 * nb + 5) (v := nI (nv2 L (p + 7))) h5 (c := 17) (by decide) (by decide)
    refine (bnd (px_setBoatCell 13 nb 0 z1 (by decide) _ _) _).trans ?_
    refine (bnd (px_num1 h1 e2) _).trans ?_
    refine (bnd (px_setBoatCell 13 nb 1 z1 (by decide) _ _) _).trans ?_
    refine (bnd (px_setBoatCell 13 nb 2 z1 (by decide) _ _) _).trans ?_
    refine (bnd (px_setBoatCell 13 nb 3 z1 (by decide) _ _) _).trans ?_
    refine (bnd (px_num2 h4 e5 e6) _).trans ?_
    refine (bnd (px_setBoatCell 13 nb 4 z1 (by decide) _ _) _).trans ?_
    refine (bnd (px_setBoatCell 13 nb 5 z1 (by decide) _ _) _).trans ?_
    refine (bnd (px_num2 h6 e9 e10) _).trans ?_
    refine (bnd (px_setBoatCell 13 nb 6 z1 (by decide) _ _) _).trans ?_
    rfl
  rw [red]
  by_cases z : nb < 5 ∧ nv1 L (p + 1) < 6 ∧ nv1 L (p + 3) < nr ∧ nv1 L (p + 4) < nr ∧ 1 ≤ nv2 L (p + 7) ∧ nv2 L (p + 7) ≤ 20
  rotate_left
  · rw [if_neg z, if_neg z]
    exact Or.inr ⟨rfl, s, rfl, fun _ _ => rfl⟩
  rw [if_pos z, if_pos z]
  obtain ⟨z1, z2, z3, z4, z5, z6⟩ := z
  have ne : ∀ c, c ≠ 13 → c ≠ 17 → chB s L p nb c = s c := fun c a b => by
    unfold chB
    rw [g_upd_ne b, g_upd_ne b, g_upd_ne b, g_upd_ne b, g_upd_ne b, g_upd_ne b, g_upd_ne b, g_upd_ne a]
  have n13 : ∀ i, i ≠ 6 → chB s L p nb 13 i = s 13 i := fun i hi => by
    unfold chB
    rw [g_upd_ne (by decide), g_upd_ne (by decide), g_upd_ne (by decide), g_upd_ne (by decide), g_upd_ne (by decide), g_upd_ne (by decide), g_upd_ne (by decide), g_upd_get, if_neg (fun q => hi q.2)]
  have n136 : chB s L p nb 13 6 = nI (nb + 1) := by
    unfold chB
    rw [g_upd_ne (by decide), g_upd_ne (by decide), g_upd_ne (by decide), g_upd_ne (by decide), g_upd_ne (by decide), g_upd_ne (by decide), g_upd_ne (by decide), g_upd_get, if_pos ⟨rfl, rfl⟩]
  have n17o : ∀ i, i < 7 * nb → chB s L p nb 17 i = s 17 i := fun i hi => by
    unfold chB
    simp only [g_upd_get]
    rw [if_neg (by omega), if_neg (by omega), if_neg (by omega), if_neg (by omega), if_neg (by omega), if_neg (by omega), if_neg (by omega), if_neg (by omega)]
  have n17 : chB s L p nb 17 (7 * nb) = nI (nv1 L (p + 1)) ∧ chB s L p nb 17 (7 * nb + 1) = nI (nv1 L (p + 2)) ∧ chB s L p nb 17 (7 * nb + 2) = nI (nv1 L (p + 3)) ∧ chB s L p nb 17 (7 * nb + 3) = nI (nv1 L (p + 4)) ∧ chB s L p nb 17 (7 * nb + 4) = nI (nv2 L (p + 5)) ∧ chB s L p nb 17 (7 * nb + 5) = nI (nv2 L (p + 7)) ∧ chB s L p nb 17 (7 * nb + 6) = nI (nv2 L (p + 9)) := by
    unfold chB
    refine ⟨?_, ?_, ?_, ?_, ?_, ?_, ?_⟩ <;> simp [g_upd_get]
  obtain ⟨k0, k1, k2, k3, k4, k5, k6, k82⟩ := KB_v K L p z1
  refine Or.inl ⟨KB K L p nb, chB s L p nb, rfl, rfl, fun c hc => ne c (by omega) (by omega), ?_⟩
  refine hrel_iff.mpr ⟨hrT_cg j1 (ne _ (by decide) (by decide)) (fun i _ => KB_n (by omega) (by omega) (by omega) (by omega) (by omega) (by omega) (by omega) (by omega)), hrW_cg j2 (ne _ (by decide) (by decide)) (fun i _ => KB_n (by omega) (by omega) (by omega) (by omega) (by omega) (by omega) (by omega) (by omega)), hrI_cg j3 (fun i _ _ => n13 i (by omega)) (KB_n (by omega) (by omega) (by omega) (by omega) (by omega) (by omega) (by omega) (by omega)) (KB_n (by omega) (by omega) (by omega) (by omega) (by omega) (by omega) (by omega) (by omega)) (KB_n (by omega) (by omega) (by omega) (by omega) (by omega) (by omega) (by omega) (by omega)) (KB_n (by omega) (by omega) (by omega) (by omega) (by omega) (by omega) (by omega) (by omega)), hrP_cg j4 (n13 7 (by decide)) (ne _ (by decide) (by decide)) (KB_n (by omega) (by omega) (by omega) (by omega) (by omega) (by omega) (by omega) (by omega)) (fun i _ _ => KB_n (by omega) (by omega) (by omega) (by omega) (by omega) (by omega) (by omega) (by omega)), nr, r1, by rw [n13 5 (by decide)]; exact r2, by rw [KB_n (by omega) (by omega) (by omega) (by omega) (by omega) (by omega) (by omega) (by omega)]; exact r3, fun r hr => ?_, nb + 1, by omega, n136, k82, fun b hb => ?_⟩
  · rw [ne (13 + 3) (by decide) (by decide), KB_n (i := 24 + r) (by omega) (by omega) (by omega) (by omega) (by omega) (by omega) (by omega) (by omega), KB_n (i := 30 + r) (by omega) (by omega) (by omega) (by omega) (by omega) (by omega) (by omega) (by omega)]
    exact r4 r hr
  · show (chB s L p nb 17 (7 * b) = _ ∧ _) ∧ (chB s L p nb 17 (7 * b + 1) = _ ∧ _) ∧ (chB s L p nb 17 (7 * b + 2) = _ ∧ _) ∧ (chB s L p nb 17 (7 * b + 3) = _ ∧ _) ∧ (chB s L p nb 17 (7 * b + 4) = _ ∧ _) ∧ (chB s L p nb 17 (7 * b + 5) = _ ∧ _) ∧ chB s L p nb 17 (7 * b + 6) = _ ∧ _
    by_cases y : b = nb
    · subst y
      obtain ⟨c0, c1, c2, c3, c4, c5, c6⟩ := n17
      rw [c0, c1, c2, c3, c4, c5, c6, k0, k1, k2, k3, k4, k5, k6]
      exact ⟨⟨rfl, nI_bd (m := 5) (by omega) (by decide)⟩, ⟨rfl, nI_bd (m := 9) v2 (by decide)⟩, ⟨rfl, _, z3, rfl⟩, ⟨rfl, _, z4, rfl⟩, ⟨rfl, nI_bd (m := 99) v5 (by decide)⟩, ⟨rfl, (p_le (a := 1) (by decide) (by omega)).mpr z5, (p_le (b := 20) (by omega) (by decide)).mpr z6⟩, rfl, nI_bd (m := 99) v9 (by decide)⟩
    · have kk : ∀ x, (x = 38 ∨ x = 43 ∨ x = 48 ∨ x = 53 ∨ x = 58 ∨ x = 63 ∨ x = 68) → KB K L p nb (x + b) = K (x + b) := fun x hx => KB_n (by omega) (by omega) (by omega) (by omega) (by omega) (by omega) (by omega) (by omega)
      rw [n17o _ (by omega), n17o _ (by omega), n17o _ (by omega), n17o _ (by omega), n17o _ (by omega), n17o _ (by omega), n17o _ (by omega), kk 38 (by decide), kk 43 (by decide), kk 48 (by decide), kk 53 (by decide), kk 58 (by decide), kk 63 (by decide), kk 68 (by decide)]
      exact m4 b (by omega)
theorem px_tell {s : g_M} {L : Nat → Nat} {n p : Nat} {K : Nat → Int32} (hL : isL s L n) (hS : okS L n p) (h : hrel 13 s K) : tells s L p K (x_X3_tellStatement 13 (nI p) s) := by
  have q := px_letter hL (i := p) (by have := hS.1; have := hL.1; omega)
  rw [if_pos hS.1] at q
  have l255 := (hL.2.2 p hS.1).2
  have fin : ∀ (x : Option (Int32 × g_M)), tells s L p K x → tells s L p K (x.bind fun u => if g_isb u.1 = true then some (u.1, u.2) else none) := by
    rintro x (⟨K', s', a, rfl, c, d⟩ | ⟨a, s', rfl, c⟩)
    · exact Or.inl ⟨K', s', a, rfl, c, d⟩
    · exact Or.inr ⟨a, s', rfl, c⟩
  have red := bnd q (fun u1 => if u1.1 = (98 : Int32) then (((x_X3_tellBoat 13 (nI p + (1 : Int32)) u1.2).bind fun u3 => (if g_isb u3.1 = true then (some (u3.1, u3.2)) else none))) else if u1.1 = (108 : Int32) then (((x_X3_tellLength 13 (nI p + (1 : Int32)) u1.2).bind fun u6 => (if g_isb u6.1 = true then (some (u6.1, u6.2)) else none))) else if u1.1 = (114 : Int32) then (((x_X3_tellRing 13 (nI p + (1 : Int32)) u1.2).bind fun u9 => (if g_isb u9.1 = true then (some (u9.1, u9.2)) else none))) else if u1.1 = (116 : Int32) then (((x_X3_tellTide 13 (nI p + (1 : Int32)) u1.2).bind fun u12 => (if g_isb u12.1 = true then (some (u12.1, u12.2)) else none))) else if u1.1 = (119 : Int32) then (((x_X3_tellWind 13 (nI p + (1 : Int32)) u1.2).bind fun u15 => (if g_isb u15.1 = true then (some (u15.1, u15.2)) else none))) else (((x_X3_tellEdge 13 (nI p + (1 : Int32)) u1.2).bind fun u18 => (if g_isb u18.1 = true then (some (u18.1, u18.2)) else none))))
  have red' : x_X3_tellStatement 13 (nI p) s = _ := red
  rw [red']
  dsimp only
  rw [← nI_succ]
  rcases shp_v hS.2.1 with l | l | l | l | l | l
  · rw [if_pos (show nI (L p) = (98 : Int32) by rw [l]; rfl)]
    exact fin _ (tell_b hL hS h l)
  · rw [if_neg (by rw [l]; decide), if_neg (by rw [l]; decide), if_neg (by rw [l]; decide), if_neg (by rw [l]; decide), if_neg (by rw [l]; decide)]
    exact fin _ (tell_e hL hS h l)
  · rw [if_neg (by rw [l]; decide), if_pos (show nI (L p) = (108 : Int32) by rw [l]; rfl)]
    exact fin _ (tell_l hL hS h l)
  · rw [if_neg (by rw [l]; decide), if_neg (by rw [l]; decide), if_pos (show nI (L p) = (114 : Int32) by rw [l]; rfl)]
    exact fin _ (tell_r hL hS h l)
  · rw [if_neg (by rw [l]; decide), if_neg (by rw [l]; decide), if_neg (by rw [l]; decide), if_pos (show nI (L p) = (116 : Int32) by rw [l]; rfl)]
    exact fin _ (tell_t hL hS h l)
  · rw [if_neg (by rw [l]; decide), if_neg (by rw [l]; decide), if_neg (by rw [l]; decide), if_neg (by rw [l]; decide), if_pos (show nI (L p) = (119 : Int32) by rw [l]; rfl)]
    exact fin _ (tell_w hL hS h l)
/-- the statements one behind the other -/
def ps (L : Nat → Nat) : Nat → Nat
  | 0 => 0
  | k + 1 => ps L k + 1 + g_sl (shp (L (ps L k)))
def apA (L : Nat → Nat) (K : Nat → Int32) : Nat → Option (Nat → Int32)
  | 0 => some K
  | k + 1 => match apA L K k with
    | none => none
    | some K' => ap L (ps L k) K'
theorem px_take {s0 : g_M} {L : Nat → Nat} {n m : Nat} {K : Nat → Int32} (hL : isL s0 L n) (hm : m ≤ 40) (hn : ps L m = n) (hS : ∀ k, k < m → okS L n (ps L k)) (hK : hrel 13 s0 K) : (∃ K' s', apA L K m = some K' ∧ x_X8_takeStatements_L15 g_F 0 0 s0 = x_X8_takeStatements_L70 (nI m) s' ∧ fr13 s0 s' ∧ hrel 13 s' K') ∨ (∃ k s', k < m ∧ (∃ K', apA L K k = some K' ∧ ap L (ps L k) K' = none) ∧ x_X8_takeStatements_L15 g_F 0 0 s0 = some (-2000 - nI (ps L k), s') ∧ fr13 s0 s') := by
  have n96 := hL.1
  have mono : ∀ k, k < m → ps L k < n := fun k hk => (hS k hk).1
  rw [show x_X8_takeStatements_L15 g_F 0 0 s0 = x_X8_takeStatements_L15 g_F (nI 0) (nI (ps L 0)) s0 by rfl]
  refine p_loop0 (n := m) (F := fun k fuel s => x_X8_takeStatements_L15 fuel (nI k) (nI (ps L k)) s) (I := fun k s => fr13 s0 s ∧ ∃ K', apA L K k = some K' ∧ hrel 13 s K') (R := fun x => (∃ K' s', apA L K m = some K' ∧ x = x_X8_takeStatements_L70 (nI m) s' ∧ fr13 s0 s' ∧ hrel 13 s' K') ∨ (∃ k s', k < m ∧ (∃ K', apA L K k = some K' ∧ ap L (ps L k) K' = none) ∧ x = some (-2000 - nI (ps L k), s') ∧ fr13 s0 s')) (s := s0) (by omega) ⟨fun _ _ => rfl, K, rfl, hK⟩ ?_ ?_
  · intro s fuel ⟨g1, K', g2, g3⟩
    left
    refine ⟨K', s, g2, ?_, g1, g3⟩
    show x_X8_takeStatements_L15 (fuel + 1) (nI m) (nI (ps L m)) s = _
    rw [x_X8_takeStatements_L15, g1 19 (by decide), hL.2.1, hn, if_pos (Int32.le_refl _)]
  · intro k s fuel hk ⟨g1, K', g2, g3⟩
    have sL : isL s L n := by
      unfold isL
      rw [g1 19 (by decide), g1 20 (by decide)]
      exact hL
    have pk := mono k hk
    have tl := px_tell sL (hS k hk) g3
    have go : x_X8_takeStatements_L15 (fuel + 1) (nI k) (nI (ps L k)) s = (x_X3_tellStatement 13 (nI (ps L k)) s).bind fun u3 => if u3.1 = 0 then (some (((-2000 : Int32) - nI (ps L k)), u3.2)) else (((x_X3_statementSize (nI (ps L k)) u3.2).bind fun u5 => x_X8_takeStatements_L15 fuel (nI k + (1 : Int32)) (nI (ps L k) + u5.1) u5.2)) := by
      rw [x_X8_takeStatements_L15, g1 19 (by decide), hL.2.1, if_neg (show ¬ nI n ≤ nI (ps L k) from nI_ge pk (by omega)), if_neg (show ¬ (96 : Int32) ≤ nI k from nI_ge (show k < 96 by omega) (by decide))]
    rcases tl with ⟨K2, s2, a1, a2, a3, a4⟩ | ⟨a1, s2, a2, a3⟩
    · right
      have s2L : isL s2 L n := by
        unfold isL
        rw [a3 19 (by decide), a3 20 (by decide)]
        exact sL
      refine ⟨s2, ⟨fun c hc => by rw [a3 c hc, g1 c hc], K2, by rw [apA, g2]; exact a1, a4⟩, ?_⟩
      show x_X8_takeStatements_L15 (fuel + 1) (nI k) (nI (ps L k)) s = x_X8_takeStatements_L15 fuel (nI (k + 1)) (nI (ps L (k + 1))) s2
      have w5 := shp_5 (L (ps L k))
      have ss : x_X3_statementSize (nI (ps L k)) s2 = some (nI (1 + g_sl (shp (L (ps L k)))), s2) := by
        have q := px_letter s2L (i := ps L k) (by omega)
        rw [if_pos pk] at q
        rw [x_X3_statementSize]
        refine (bnd q _).trans ?_
        refine (bnd (px_shape (s2L.2.2 _ pk).2 s2) _).trans ?_
        dsimp only
        rw [nI_clamp (by omega), if_pos (decide_eq_true w5), show (1 : Int32) = nI 1 from rfl, p_add]
      rw [go]
      refine (bnd a2 _).trans ?_
      dsimp only
      rw [if_neg (show ¬ (1 : Int32) = 0 by decide)]
      refine (bnd ss _).trans ?_
      dsimp only
      rw [p_add, nI_succ k, ps, Nat.add_assoc]
    · left
      right
      refine ⟨k, s2, hk, ⟨K', g2, a1⟩, ?_, fun c hc => by rw [a3 c hc, g1 c hc]⟩
      show x_X8_takeStatements_L15 (fuel + 1) (nI k) (nI (ps L k)) s = _
      rw [go]
      refine (bnd a2 _).trans ?_
      rfl
