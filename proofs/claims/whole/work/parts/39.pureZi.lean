/-! THE PURE PART. ZI: what a statement brings; the class's side -/
def okS (L : Nat → Nat) (n p : Nat) : Prop := p < n ∧ shp (L p) ≠ 5 ∧ ∀ j, j < g_sl (shp (L p)) → p + 1 + j < n ∧ fitN (shp (L p)) j (L (p + 1 + j)) = true
theorem okS_d {L : Nat → Nat} {n p w : Nat} (h : okS L n p) (hw : shp (L p) = w) {j : Nat} (hj : j + 1 < g_sl w) (hj2 : ¬ (w = 1 ∧ j = 2)) : isD9 L n (p + 1 + j) := by
  obtain ⟨h1, h2, h3⟩ := h
  rw [hw] at h3
  obtain ⟨a, b⟩ := h3 j (by omega)
  unfold fitN at b
  rw [if_neg (by omega), if_neg hj2, decide_eq_true_eq] at b
  exact ⟨a, b.1, b.2⟩
def kU (K : Nat → Int32) (i : Nat) (v : Int32) : Nat → Int32 := fun j => if j = i then v else K j
theorem kU_s (K : Nat → Int32) (i : Nat) (v : Int32) : kU K i v i = v := if_pos rfl
theorem kU_n {K : Nat → Int32} {i j : Nat} {v : Int32} (h : j ≠ i) : kU K i v j = K j := if_neg h
def ap (L : Nat → Nat) (p : Nat) (K : Nat → Int32) : Option (Nat → Int32) :=
  if L p = 98 then (if (K 82).toNatClampNeg < 5 ∧ nv1 L (p + 1) < 6 ∧ nv1 L (p + 3) < (K 81).toNatClampNeg ∧ nv1 L (p + 4) < (K 81).toNatClampNeg ∧ 1 ≤ nv2 L (p + 7) ∧ nv2 L (p + 7) ≤ 20 then
    some (kU (kU (kU (kU (kU (kU (kU (kU K (38 + (K 82).toNatClampNeg) (nI (nv1 L (p + 1)))) (43 + (K 82).toNatClampNeg) (nI (nv1 L (p + 2)))) (48 + (K 82).toNatClampNeg) (nI (nv1 L (p + 3)))) (53 + (K 82).toNatClampNeg) (nI (nv1 L (p + 4)))) (58 + (K 82).toNatClampNeg) (nI (nv2 L (p + 5)))) (63 + (K 82).toNatClampNeg) (nI (nv2 L (p + 7)))) (68 + (K 82).toNatClampNeg) (nI (nv2 L (p + 9)))) 82 (nI ((K 82).toNatClampNeg + 1))) else none)
  else if L p = 108 then (if nv1 L (p + 1) < (K 82).toNatClampNeg then some (kU K (58 + nv1 L (p + 1)) (nI (nv2 L (p + 2)))) else none)
  else if L p = 114 then (if (K 81).toNatClampNeg < 6 ∧ nv2 L (p + 3) ≤ 60 then some (kU (kU (kU K (24 + (K 81).toNatClampNeg) (nI (nv2 L (p + 1)))) (30 + (K 81).toNatClampNeg) (nI (nv2 L (p + 3)))) 81 (nI ((K 81).toNatClampNeg + 1))) else none)
  else if L p = 116 then (if nv2 L (p + 1) < 12 ∧ nv2 L (p + 3) ≤ 40 then some (kU K (nv2 L (p + 1)) (nI (nv2 L (p + 3)))) else none)
  else if L p = 119 then (if nv2 L (p + 1) < 12 then some (kU K (12 + nv2 L (p + 1)) (if L (p + 3) = 45 then -nI (nv1 L (p + 4)) else nI (nv1 L (p + 4)))) else none)
  else (if nv2 L (p + 1) ≤ 60 then some (kU K 36 (nI (nv2 L (p + 1)))) else none)
theorem isL_up {s : g_M} {L : Nat → Nat} {n c i : Nat} {v : Int32} (h : isL s L n) (a : 19 ≠ c) (b : 20 ≠ c) : isL (g_upd s c i v) L n := by
  unfold isL
  rw [g_upd_ne a, g_upd_ne b]
  exact h
theorem nv_wind : ∀ v, v ≤ 9 → p_bd (-9) (nI v) 9 ∧ p_bd (-9) (-nI v) 9 := by unfold p_bd; decide
theorem nI_bd {v m : Nat} (h : v ≤ m) (hm : m < 2 ^ 31) : p_bd 0 (nI v) (nI m) := ⟨p_ge0 (by omega), (p_le (by omega) hm).mpr h⟩
def fr13 (s s' : g_M) : Prop := ∀ c, (c < 13 ∨ 18 < c) → s' c = s c
def tells (s : g_M) (L : Nat → Nat) (p : Nat) (K : Nat → Int32) (x : Option (Int32 × g_M)) : Prop := (∃ K' s', ap L p K = some K' ∧ x = some (1, s') ∧ fr13 s s' ∧ hrel 13 s' K') ∨ (ap L p K = none ∧ ∃ s', x = some (0, s') ∧ fr13 s s')
theorem tell_t {s : g_M} {L : Nat → Nat} {n p : Nat} {K : Nat → Int32} (hL : isL s L n) (hS : okS L n p) (h : hrel 13 s K) (l : L p = 116) : tells s L p K (x_X3_tellTide 13 (nI (p + 1)) s) := by
  have n96 := hL.1
  have sw : shp (L p) = 0 := by rw [l]; rfl
  have sl : g_sl 0 = 5 := by decide
  have d0 := okS_d hS sw (j := 0) (by rw [sl]; decide) (by decide)
  have d1 := okS_d hS sw (j := 1) (by rw [sl]; decide) (by decide)
  have d2 := okS_d hS sw (j := 2) (by rw [sl]; decide) (by decide)
  have d3 := okS_d hS sw (j := 3) (by rw [sl]; decide) (by decide)
  have a1 := px_num2 hL d0 d1
  have a2 := px_num2 hL d2 d3
  have b1 := nv2_99 d0 d1
  have b2 := nv2_99 d2 d3
  rw [Nat.add_zero] at a1 b1
  unfold tells ap
  simp only [l, if_neg (show ¬ 116 = 98 by decide), if_neg (show ¬ 116 = 108 by decide), if_neg (show ¬ 116 = 114 by decide), if_true]
  rw [show p + 1 + 2 = p + 3 by omega] at a2 b2
  have red : x_X3_tellTide 13 (nI (p + 1)) s = if nv2 L (p + 1) < 12 ∧ nv2 L (p + 3) ≤ 40 then some (1, g_upd s 14 (nv2 L (p + 1)) (nI (nv2 L (p + 3)))) else some (0, s) := by
    rw [x_X3_tellTide]
    refine (bnd a1 _).trans ?_
    dsimp only
    rw [show nI (p + 1) + 2 = nI (p + 3) by rw [show (2 : Int32) = nI 2 from rfl, p_add]]
    refine (bnd a2 _).trans ?_
    by_cases z : nv2 L (p + 1) < 12
    · have hh : x_X8_isHour (nI (nv2 L (p + 1))) s = some (1, s) := by rw [px_isHour, if_pos ⟨p_ge0 (by omega), (p_lt (b := 12) (by omega) (by decide)).mpr z⟩]
      refine (bnd hh _).trans ?_
      dsimp only
      rw [if_neg (by decide)]
      by_cases y : nv2 L (p + 3) ≤ 40
      · rw [if_pos (show nI (nv2 L (p + 3)) ≤ (40 : Int32) from (p_le (b := 40) (by omega) (by decide)).mpr y), if_pos ⟨z, y⟩]
        exact bnd (px_setTide 13 _ z _ s) _
      · rw [if_neg (show ¬ nI (nv2 L (p + 3)) ≤ (40 : Int32) from fun q => y ((p_le (b := 40) (by omega) (by decide)).mp q)), if_neg (fun q => y q.2)]
    · have hh : x_X8_isHour (nI (nv2 L (p + 1))) s = some (0, s) := by rw [px_isHour, if_neg (fun q => z ((p_lt (b := 12) (by omega) (by decide)).mp q.2))]
      refine (bnd hh _).trans ?_
      dsimp only
      rw [if_pos rfl, if_neg (fun q => z q.1)]
  rw [red]
  by_cases z : nv2 L (p + 1) < 12 ∧ nv2 L (p + 3) ≤ 40
  rotate_left
  · rw [if_neg z, if_neg z]
    exact Or.inr ⟨rfl, s, rfl, fun _ _ => rfl⟩
  rw [if_pos z, if_pos z]
  refine Or.inl ⟨_, _, rfl, rfl, fun c hc => g_upd_ne (by omega), ?_⟩
  obtain ⟨j1, j2, j3, j4, j5⟩ := hrel_iff.mp h
  have ne : ∀ c, c ≠ 14 → g_upd s 14 (nv2 L (p + 1)) (nI (nv2 L (p + 3))) c = s c := fun c hc => g_upd_ne hc
  have kn : ∀ i, 12 ≤ i → kU K (nv2 L (p + 1)) (nI (nv2 L (p + 3))) i = K i := fun i hi => kU_n (by omega)
  refine hrel_iff.mpr ⟨fun i hi => ?_, hrW_cg j2 (ne _ (by decide)) (fun i _ => kn _ (by omega)), hrI_cg j3 (fun i _ _ => by rw [ne 13 (by decide)]) (kn _ (by decide)) (kn _ (by decide)) (kn _ (by decide)) (kn _ (by decide)), hrP_cg j4 (by rw [ne 13 (by decide)]) (ne _ (by decide)) (kn _ (by decide)) (fun i _ _ => kn _ (by omega)), hrE_cg j5 (by rw [ne 13 (by decide)]) (by rw [ne 13 (by decide)]) (ne _ (by decide)) (ne _ (by decide)) (kn _ (by decide)) (kn _ (by decide)) (fun i _ _ => kn _ (by omega)) (fun i _ _ => kn _ (by omega))⟩
  show g_upd s 14 (nv2 L (p + 1)) (nI (nv2 L (p + 3))) 14 i = _ ∧ _
  rw [g_upd_get]
  by_cases y : i = nv2 L (p + 1)
  · rw [if_pos ⟨rfl, y⟩, y, kU_s]
    exact ⟨rfl, nI_bd (m := 40) z.2 (by decide)⟩
  · rw [if_neg (fun q => y q.2), kU_n y]
    exact j1 i hi
theorem tell_w {s : g_M} {L : Nat → Nat} {n p : Nat} {K : Nat → Int32} (hL : isL s L n) (hS : okS L n p) (h : hrel 13 s K) (l : L p = 119) : tells s L p K (x_X3_tellWind 13 (nI (p + 1)) s) := by
  have n96 := hL.1
  have sw : shp (L p) = 1 := by rw [l]; rfl
  have sl : g_sl 1 = 5 := by decide
  have d0 := okS_d hS sw (j := 0) (by rw [sl]; decide) (by decide)
  have d1 := okS_d hS sw (j := 1) (by rw [sl]; decide) (by decide)
  have d3 := okS_d hS sw (j := 3) (by rw [sl]; decide) (by decide)
  have a1 := px_num2 hL d0 d1
  have a2 := px_num1 hL d3
  have b1 := nv2_99 d0 d1
  have b2 := nv1_9 d3
  rw [Nat.add_zero] at a1 b1
  rw [show p + 1 + 3 = p + 4 by omega] at a2 b2 d3
  have p3 : p + 3 < n := by have := d3.1; omega
  have a3 := px_letter hL (i := p + 3) (by omega)
  rw [if_pos p3] at a3
  have l3 := (hL.2.2 _ p3).2
  unfold tells ap
  simp only [l, if_neg (show ¬ 119 = 98 by decide), if_neg (show ¬ 119 = 108 by decide), if_neg (show ¬ 119 = 114 by decide), if_neg (show ¬ 119 = 116 by decide), if_true]
  have red : x_X3_tellWind 13 (nI (p + 1)) s = if nv2 L (p + 1) < 12 then some (1, g_upd s 15 (nv2 L (p + 1)) (if L (p + 3) = 45 then -nI (nv1 L (p + 4)) else nI (nv1 L (p + 4)))) else some (0, s) := by
    rw [x_X3_tellWind]
    refine (bnd a1 _).trans ?_
    dsimp only
    rw [show nI (p + 1) + 3 = nI (p + 4) by rw [show (3 : Int32) = nI 3 from rfl, p_add], show nI (p + 1) + 2 = nI (p + 3) by rw [show (2 : Int32) = nI 2 from rfl, p_add]]
    refine (bnd a2 _).trans ?_
    by_cases z : nv2 L (p + 1) < 12
    · have hh : x_X8_isHour (nI (nv2 L (p + 1))) s = some (1, s) := by rw [px_isHour, if_pos ⟨p_ge0 (by omega), (p_lt (b := 12) (by omega) (by decide)).mpr z⟩]
      refine (bnd hh _).trans ?_
      dsimp only
      rw [if_neg (by decide), if_pos z]
      refine (bnd a3 _).trans ?_
      dsimp only
      by_cases y : L (p + 3) = 45
      · rw [if_pos (show nI (L (p + 3)) = (45 : Int32) from (p_eq (b := 45) (by omega) (by decide)).mpr y), if_pos y]
        exact bnd (px_setWind 13 _ z _ s) _
      · rw [if_neg (show ¬ nI (L (p + 3)) = (45 : Int32) from fun q => y ((p_eq (b := 45) (by omega) (by decide)).mp q)), if_neg y]
        exact bnd (px_setWind 13 _ z _ s) _
    · have hh : x_X8_isHour (nI (nv2 L (p + 1))) s = some (0, s) := by rw [px_isHour, if_neg (fun q => z ((p_lt (b := 12) (by omega) (by decide)).mp q.2))]
      refine (bnd hh _).trans ?_
      dsimp only
      rw [if_pos rfl, if_neg z]
  rw [red]
  by_cases z : nv2 L (p + 1) < 12
  rotate_left
  · rw [if_neg z, if_neg z]
    exact Or.inr ⟨rfl, s, rfl, fun _ _ => rfl⟩
  rw [if_pos z, if_pos z]
  have vb : p_bd (-9) (if L (p + 3) = 45 then -nI (nv1 L (p + 4)) else nI (nv1 L (p + 4))) 9 := by
    split
    · exact (nv_wind _ b2).2
    · exact (nv_wind _ b2).1
  generalize (if L (p + 3) = 45 then -nI (nv1 L (p + 4)) else nI (nv1 L (p + 4))) = v at vb
  refine Or.inl ⟨_, _, rfl, rfl, fun c hc => g_upd_ne (by omega), ?_⟩
  obtain ⟨j1, j2, j3, j4, j5⟩ := hrel_iff.mp h
  have ne : ∀ c, c ≠ 15 → g_upd s 15 (nv2 L (p + 1)) v c = s c := fun c hc => g_upd_ne hc
  have kn : ∀ i, (i < 12 ∨ 24 ≤ i) → kU K (12 + nv2 L (p + 1)) v i = K i := fun i hi => kU_n (by omega)
  refine hrel_iff.mpr ⟨hrT_cg j1 (ne _ (by decide)) (fun i _ => kn _ (by omega)), fun i hi => ?_, hrI_cg j3 (fun i _ _ => by rw [ne 13 (by decide)]) (kn _ (by decide)) (kn _ (by decide)) (kn _ (by decide)) (kn _ (by decide)), hrP_cg j4 (by rw [ne 13 (by decide)]) (ne _ (by decide)) (kn _ (by decide)) (fun i _ _ => kn _ (by omega)), hrE_cg j5 (by rw [ne 13 (by decide)]) (by rw [ne 13 (by decide)]) (ne _ (by decide)) (ne _ (by decide)) (kn _ (by decide)) (kn _ (by decide)) (fun i _ _ => kn _ (by omega)) (fun i _ _ => kn _ (by omega))⟩
  show g_upd s 15 (nv2 L (p + 1)) v 15 i = _ ∧ _
  rw [g_upd_get]
  by_cases y : i = nv2 L (p + 1)
  · rw [if_pos ⟨rfl, y⟩, y, kU_s]
    exact ⟨rfl, vb⟩
  · rw [if_neg (fun q => y q.2), kU_n (by omega)]
    exact j2 i hi
theorem tell_e {s : g_M} {L : Nat → Nat} {n p : Nat} {K : Nat → Int32} (hL : isL s L n) (hS : okS L n p) (h : hrel 13 s K) (l : L p = 101) : tells s L p K (x_X3_tellEdge 13 (nI (p + 1)) s) := by
  have n96 := hL.1
  have sw : shp (L p) = 4 := by rw [l]; rfl
  have sl : g_sl 4 = 3 := by decide
  have d0 := okS_d hS sw (j := 0) (by rw [sl]; decide) (by decide)
  have d1 := okS_d hS sw (j := 1) (by rw [sl]; decide) (by decide)
  have a1 := px_num2 hL d0 d1
  have b1 := nv2_99 d0 d1
  rw [Nat.add_zero] at a1 b1
  unfold tells ap
  simp only [l, if_neg (show ¬ 101 = 98 by decide), if_neg (show ¬ 101 = 108 by decide), if_neg (show ¬ 101 = 114 by decide), if_neg (show ¬ 101 = 116 by decide), if_neg (show ¬ 101 = 119 by decide)]
  have red : x_X3_tellEdge 13 (nI (p + 1)) s = if nv2 L (p + 1) ≤ 60 then some (1, g_upd s 13 8 (nI (nv2 L (p + 1)))) else some (0, s) := by
    rw [x_X3_tellEdge]
    refine (bnd a1 _).trans ?_
    dsimp only
    by_cases y : nv2 L (p + 1) ≤ 60
    · rw [if_pos (show nI (nv2 L (p + 1)) ≤ (60 : Int32) from (p_le (b := 60) (by omega) (by decide)).mpr y), if_pos y]
    · rw [if_neg (show ¬ nI (nv2 L (p + 1)) ≤ (60 : Int32) from fun q => y ((p_le (b := 60) (by omega) (by decide)).mp q)), if_neg y]
  rw [red]
  by_cases z : nv2 L (p + 1) ≤ 60
  rotate_left
  · rw [if_neg z, if_neg z]
    exact Or.inr ⟨rfl, s, rfl, fun _ _ => rfl⟩
  rw [if_pos z, if_pos z]
  refine Or.inl ⟨_, _, rfl, rfl, fun c hc => g_upd_ne (by omega), ?_⟩
  obtain ⟨j1, j2, ⟨q1, q2, q3, q4⟩, j4, j5⟩ := hrel_iff.mp h
  have ne : ∀ c, c ≠ 13 → g_upd s 13 8 (nI (nv2 L (p + 1))) c = s c := fun c hc => g_upd_ne hc
  have n13 : ∀ i, i ≠ 8 → g_upd s 13 8 (nI (nv2 L (p + 1))) 13 i = s 13 i := fun i hi => by rw [g_upd_get, if_neg (fun q => hi q.2)]
  have kn : ∀ i, i ≠ 36 → kU K 36 (nI (nv2 L (p + 1))) i = K i := fun i hi => kU_n hi
  refine hrel_iff.mpr ⟨hrT_cg j1 (ne _ (by decide)) (fun i _ => kn _ (by omega)), hrW_cg j2 (ne _ (by decide)) (fun i _ => kn _ (by omega)), ⟨⟨by rw [g_upd_get, if_pos ⟨rfl, rfl⟩, kU_s], by rw [kU_s]; exact nI_bd (m := 60) z (by decide)⟩, by rw [n13 9 (by decide), kn 37 (by decide)]; exact q2, by rw [n13 10 (by decide), kn 83 (by decide)]; exact q3, by rw [n13 11 (by decide), kn 79 (by decide)]; exact q4⟩, hrP_cg j4 (n13 7 (by decide)) (ne _ (by decide)) (kn _ (by decide)) (fun i _ _ => kn _ (by omega)), hrE_cg j5 (n13 5 (by decide)) (n13 6 (by decide)) (ne _ (by decide)) (ne _ (by decide)) (kn _ (by decide)) (kn _ (by decide)) (fun i _ _ => kn _ (by omega)) (fun i _ _ => kn _ (by omega))⟩
theorem tell_l {s : g_M} {L : Nat → Nat} {n p : Nat} {K : Nat → Int32} (hL : isL s L n) (hS : okS L n p) (h : hrel 13 s K) (l : L p = 108) : tells s L p K (x_X3_tellLength 13 (nI (p + 1)) s) := by
  have n96 := hL.1
  have sw : shp (L p) = 3 := by rw [l]; rfl
  have sl : g_sl 3 = 4 := by decide
  have d0 := okS_d hS sw (j := 0) (by rw [sl]; decide) (by decide)
  have d1 := okS_d hS sw (j := 1) (by rw [sl]; decide) (by decide)
  have d2 := okS_d hS sw (j := 2) (by rw [sl]; decide) (by decide)
  have a1 := px_num1 hL d0
  have a2 := px_num2 hL d1 d2
  have b1 := nv1_9 d0
  have b2 := nv2_99 d1 d2
  rw [Nat.add_zero] at a1 b1
  rw [show p + 1 + 1 = p + 2 by omega] at a2 b2
  obtain ⟨j1, j2, j3, j4, j5⟩ := hrel_iff.mp h
  obtain ⟨nr, r1, r2, r3, r4, nb, m1, m2, m3, m4⟩ := j5
  have cb : (K 82).toNatClampNeg = nb := by rw [m3, nI_clamp (by omega)]
  unfold tells ap
  simp only [l, if_neg (show ¬ 108 = 98 by decide), if_true, cb]
  have red : x_X3_tellLength 13 (nI (p + 1)) s = if nv1 L (p + 1) < nb then some (1, g_upd s 17 (7 * nv1 L (p + 1) + 4) (nI (nv2 L (p + 2)))) else some (0, s) := by
    rw [x_X3_tellLength]
    refine (bnd a1 _).trans ?_
    by_cases z : nv1 L (p + 1) < nb
    · have hh : x_X2_hasBoat 13 (nI (nv1 L (p + 1))) s = some (1, s) := by rw [px_hasBoat, m2, if_pos ⟨p_ge0 (by omega), (p_lt (by omega) (by omega)).mpr z⟩]
      refine (bnd hh _).trans ?_
      dsimp only
      rw [if_neg (by decide), show nI (p + 1) + 1 = nI (p + 2) by rw [← nI_succ], if_pos z]
      refine (bnd a2 _).trans ?_
      exact bnd (px_setBoatCell 13 _ 4 (by omega) (by decide) _ s) _
    · have hh : x_X2_hasBoat 13 (nI (nv1 L (p + 1))) s = some (0, s) := by rw [px_hasBoat, m2, if_neg (fun q => z ((p_lt (by omega) (by omega)).mp q.2))]
      refine (bnd hh _).trans ?_
      dsimp only
      rw [if_pos rfl, if_neg z]
  rw [red]
  by_cases z : nv1 L (p + 1) < nb
  rotate_left
  · rw [if_neg z, if_neg z]
    exact Or.inr ⟨rfl, s, rfl, fun _ _ => rfl⟩
  rw [if_pos z, if_pos z]
  refine Or.inl ⟨_, _, rfl, rfl, fun c hc => g_upd_ne (by omega), ?_⟩
  have ne : ∀ c, c ≠ 17 → g_upd s 17 (7 * nv1 L (p + 1) + 4) (nI (nv2 L (p + 2))) c = s c := fun c hc => g_upd_ne hc
  have kn : ∀ i, (i < 58 ∨ 63 ≤ i) → kU K (58 + nv1 L (p + 1)) (nI (nv2 L (p + 2))) i = K i := fun i hi => kU_n (by omega)
  refine hrel_iff.mpr ⟨hrT_cg j1 (ne _ (by decide)) (fun i _ => kn _ (by omega)), hrW_cg j2 (ne _ (by decide)) (fun i _ => kn _ (by omega)), hrI_cg j3 (fun i _ _ => by rw [ne 13 (by decide)]) (kn _ (by decide)) (kn _ (by decide)) (kn _ (by decide)) (kn _ (by decide)), hrP_cg j4 (by rw [ne 13 (by decide)]) (ne _ (by decide)) (kn _ (by decide)) (fun i _ _ => kn _ (by omega)), hrE_len ⟨nr, r1, r2, r3, r4, nb, m1, m2, m3, m4⟩ (b := nv1 L (p + 1)) (v := nI (nv2 L (p + 2))) (nI_bd (m := 99) b2 (by decide)) (by rw [ne 13 (by decide)]) (by rw [ne 13 (by decide)]) (ne _ (by decide)) (fun i => ?_) (kn _ (by decide)) (kn _ (by decide)) (fun i _ _ => kn _ (by omega)) (fun i _ _ q => kn _ (by omega)) (fun i hi => ?_)⟩
  · show g_upd s 17 (7 * nv1 L (p + 1) + 4) (nI (nv2 L (p + 2))) 17 i = _
    rw [g_upd_get]
    by_cases y : i = 7 * nv1 L (p + 1) + 4
    · rw [if_pos ⟨rfl, y⟩, if_pos y]
    · rw [if_neg (fun q => y q.2), if_neg y]
  · by_cases y : i = nv1 L (p + 1)
    · rw [if_pos y, y, kU_s]
    · rw [if_neg y, kU_n (by omega)]
theorem tell_r {s : g_M} {L : Nat → Nat} {n p : Nat} {K : Nat → Int32} (hL : isL s L n) (hS : okS L n p) (h : hrel 13 s K) (l : L p = 114) : tells s L p K (x_X3_tellRing 13 (nI (p + 1)) s) := by
  have n96 := hL.1
  have sw : shp (L p) = 0 := by rw [l]; rfl
  have sl : g_sl 0 = 5 := by decide
  have d0 := okS_d hS sw (j := 0) (by rw [sl]; decide) (by decide)
  have d1 := okS_d hS sw (j := 1) (by rw [sl]; decide) (by decide)
  have d2 := okS_d hS sw (j := 2) (by rw [sl]; decide) (by decide)
  have d3 := okS_d hS sw (j := 3) (by rw [sl]; decide) (by decide)
  have a1 := px_num2 hL d0 d1
  have a2 := px_num2 hL d2 d3
  have b1 := nv2_99 d0 d1
  have b2 := nv2_99 d2 d3
  rw [Nat.add_zero] at a1 b1
  rw [show p + 1 + 2 = p + 3 by omega] at a2 b2
  obtain ⟨j1, j2, j3, j4, j5⟩ := hrel_iff.mp h
  obtain ⟨nr, r1, r2, r3, r4, nb, m1, m2, m3, m4⟩ := j5
  have cr : (K 81).toNatClampNeg = nr := by rw [r3, nI_clamp (by omega)]
  unfold tells ap
  simp only [l, if_neg (show ¬ 114 = 98 by decide), if_neg (show ¬ 114 = 108 by decide), if_true, cr]
  have red : x_X3_tellRing 13 (nI (p + 1)) s = if nr < 6 ∧ nv2 L (p + 3) ≤ 60 then some (1, g_upd (g_upd (g_upd s 16 (2 * nr) (nI (nv2 L (p + 1)))) 16 (2 * nr + 1) (nI (nv2 L (p + 3)))) 13 5 (nI (nr + 1))) else some (0, s) := by
    rw [x_X3_tellRing, show nI (p + 1) + 2 = nI (p + 3) by rw [show (2 : Int32) = nI 2 from rfl, p_add]]
    refine (bnd a2 _).trans ?_
    dsimp only
    by_cases z : nr < 6
    rotate_left
    · refine Eq.trans (if_pos (by rw [r2]; exact (p_le (a := 6) (by decide) (by omega)).mpr (by omega))) ?_
      rw [if_neg (fun q => z q.1)]
    refine Eq.trans (if_neg (by rw [r2]; exact nI_ge z (by decide))) ?_
    by_cases y : nv2 L (p + 3) ≤ 60
    rotate_left
    · rw [if_neg (show ¬ nI (nv2 L (p + 3)) ≤ (60 : Int32) from fun q => y ((p_le (b := 60) (by omega) (by decide)).mp q)), if_neg (fun q => y q.2)]
    rw [if_pos (show nI (nv2 L (p + 3)) ≤ (60 : Int32) from (p_le (b := 60) (by omega) (by decide)).mpr y), if_pos ⟨z, y⟩]
    refine (bnd a1 _).trans ?_
    dsimp only
    have e0 : s 13 5 * 2 + 0 = nI (2 * nr) := by rw [r2, show (2 : Int32) = nI 2 from rfl, p_mul, Int32.add_zero, Nat.mul_comm]
    have e1 : s 13 5 * 2 + 1 = nI (2 * nr + 1) := by rw [r2, show (2 : Int32) = nI 2 from rfl, p_mul, ← nI_succ, Nat.mul_comm]
    have ar : x_X2_addRing 13 (nI (nv2 L (p + 1))) (nI (nv2 L (p + 3))) s = some (0, g_upd (g_upd (g_upd s 16 (2 * nr) (nI (nv2 L (p + 1)))) 16 (2 * nr + 1) (nI (nv2 L (p + 3)))) 13 5 (nI (nr + 1))) := by
      rw [x_X2_addRing, e0]
      refine (bnd (px_setCell 16 12 (2 * nr) (by omega) (by decide) _ s) _).trans ?_
      dsimp only
      rw [g_upd_ne (show 13 ≠ 16 by decide), e1]
      refine (bnd (px_setCell 16 12 (2 * nr + 1) (by omega) (by decide) _ _) _).trans ?_
      dsimp only
      rw [g_upd_ne (show 13 ≠ 16 by decide), g_upd_ne (show 13 ≠ 16 by decide), r2, ← nI_succ]
    exact bnd ar _
  rw [red]
  by_cases z : nr < 6 ∧ nv2 L (p + 3) ≤ 60
  rotate_left
  · rw [if_neg z, if_neg z]
    exact Or.inr ⟨rfl, s, rfl, fun _ _ => rfl⟩
  rw [if_pos z, if_pos z]
  refine Or.inl ⟨_, _, rfl, rfl, fun c hc => by rw [g_upd_ne (by omega), g_upd_ne (by omega), g_upd_ne (by omega)], ?_⟩
  generalize hs' : g_upd (g_upd (g_upd s 16 (2 * nr) (nI (nv2 L (p + 1)))) 16 (2 * nr + 1) (nI (nv2 L (p + 3)))) 13 5 (nI (nr + 1)) = s'
  generalize hK' : kU (kU (kU K (24 + nr) (nI (nv2 L (p + 1)))) (30 + nr) (nI (nv2 L (p + 3)))) 81 (nI (nr + 1)) = K'
  have ne : ∀ c, c ≠ 13 → c ≠ 16 → s' c = s c := fun c a b => by rw [← hs', g_upd_ne a, g_upd_ne b, g_upd_ne b]
  have n13 : ∀ i, i ≠ 5 → s' 13 i = s 13 i := fun i hi => by rw [← hs', g_upd_get, if_neg (fun q => hi q.2), g_upd_ne (by decide), g_upd_ne (by decide)]
  have n135 : s' 13 5 = nI (nr + 1) := by rw [← hs', g_upd_get, if_pos ⟨rfl, rfl⟩]
  have n16 : ∀ i, s' 16 i = if i = 2 * nr + 1 then nI (nv2 L (p + 3)) else if i = 2 * nr then nI (nv2 L (p + 1)) else s 16 i := fun i => by
    rw [← hs', g_upd_ne (by decide), g_upd_get, g_upd_get]
    by_cases a : i = 2 * nr + 1
    · rw [if_pos ⟨rfl, a⟩, if_pos a]
    · rw [if_neg (fun q => a q.2), if_neg a]
      by_cases b : i = 2 * nr
      · rw [if_pos ⟨rfl, b⟩, if_pos b]
      · rw [if_neg (fun q => b q.2), if_neg b]
  have kn : ∀ i, i ≠ 24 + nr → i ≠ 30 + nr → i ≠ 81 → K' i = K i := fun i a b c => by rw [← hK', kU_n c, kU_n b, kU_n a]
  have k24 : K' (24 + nr) = nI (nv2 L (p + 1)) := by rw [← hK', kU_n (by omega), kU_n (by omega), kU_s]
  have k30 : K' (30 + nr) = nI (nv2 L (p + 3)) := by rw [← hK', kU_n (by omega), kU_s]
  have k81 : K' 81 = nI (nr + 1) := by rw [← hK', kU_s]
  refine hrel_iff.mpr ⟨hrT_cg j1 (ne _ (by decide) (by decide)) (fun i _ => kn _ (by omega) (by omega) (by omega)), hrW_cg j2 (ne _ (by decide) (by decide)) (fun i _ => kn _ (by omega) (by omega) (by omega)), hrI_cg j3 (fun i _ _ => n13 i (by omega)) (kn _ (by omega) (by omega) (by omega)) (kn _ (by omega) (by omega) (by omega)) (kn _ (by omega) (by omega) (by omega)) (kn _ (by omega) (by omega) (by omega)), hrP_cg j4 (n13 7 (by decide)) (ne _ (by decide) (by decide)) (kn _ (by omega) (by omega) (by omega)) (fun i _ _ => kn _ (by omega) (by omega) (by omega)), nr + 1, by omega, n135, k81, fun r hr => ?_, nb, m1, by rw [n13 6 (by decide)]; exact m2, by rw [kn 82 (by omega) (by omega) (by omega)]; exact m3, fun b hb => ?_⟩
  · show (s' 16 (2 * r) = _ ∧ _) ∧ s' 16 (2 * r + 1) = _ ∧ _
    by_cases y : r = nr
    · subst y
      rw [n16, n16, if_neg (by omega), if_pos rfl, if_pos rfl, k24, k30]
      exact ⟨⟨rfl, nI_bd (m := 99) b1 (by decide)⟩, rfl, nI_bd (m := 60) z.2 (by decide)⟩
    · rw [n16, n16, if_neg (by omega), if_neg (by omega), if_neg (by omega), if_neg (by omega), kn (24 + r) (by omega) (by omega) (by omega), kn (30 + r) (by omega) (by omega) (by omega)]
      exact r4 r (by omega)
  · rw [ne (13 + 4) (by decide) (by decide), kn (38 + b) (by omega) (by omega) (by omega), kn (43 + b) (by omega) (by omega) (by omega), kn (48 + b) (by omega) (by omega) (by omega), kn (53 + b) (by omega) (by omega) (by omega), kn (58 + b) (by omega) (by omega) (by omega), kn (63 + b) (by omega) (by omega) (by omega), kn (68 + b) (by omega) (by omega) (by omega)]
    obtain ⟨c0, c1, ⟨c2, x, hx, ex⟩, ⟨c3, y, hy, ey⟩, c4⟩ := m4 b hb
    exact ⟨c0, c1, ⟨c2, x, by omega, ex⟩, ⟨c3, y, by omega, ey⟩, c4⟩
