/-! THE PURE PART. ZM: what a statement brings; the reference's side -/
def pcell (j : Nat) : Nat := if j < 12 then 43 else if j < 24 then 44 else if j < 30 then 45 else if j < 36 then 46 else if j < 38 then 47 else if j < 43 then 48 else if j < 48 then 49 else if j < 53 then 50 else if j < 58 then 51 else if j < 63 then 52 else if j < 68 then 53 else if j < 73 then 54 else if j < 76 then 55 else 56
theorem pcell_a : ∀ j, j < 79 → 43 ≤ pcell j ∧ pcell j ≤ 56 ∧ p_of (pcell j) ≤ j ∧ j - p_of (pcell j) < p_sz (pcell j) := by decide
theorem pcell_b : ∀ c, c < 57 → 43 ≤ c → ∀ i, i < p_sz c → pcell (p_of c + i) = c ∧ p_of c + i < 79 := by decide
theorem live_upd {s : g_M} {c i : Nat} {v : Int32} (h : 43 ≤ c) (h2 : c ≤ 56) (hi : i < p_sz c) : ∀ j, j < 84 → live (g_upd s c i v) j = kU (live s) (p_of c + i) v j := by
  intro j hj
  obtain ⟨b1, b2⟩ := pcell_b c (by omega) h i hi
  by_cases z : j < 79
  · obtain ⟨a1, a2, a3, a4⟩ := pcell_a j z
    have e := lv_of (M := g_upd s c i v) a1 a2 a4
    have e' := lv_of (M := s) a1 a2 a4
    rw [show p_of (pcell j) + (j - p_of (pcell j)) = j by omega] at e e'
    rw [e, g_upd_get]
    unfold kU
    by_cases y : j = p_of c + i
    · rw [if_pos y, if_pos ⟨by rw [y]; exact b1, by rw [y, b1]; omega⟩]
    · rw [if_neg y, if_neg (fun q => y (by have q1 := q.1; have q2 := q.2; rw [q1] at q2 a3; omega)), e']
  · rw [kU_n (by omega)]
    rcases (show j = 79 ∨ j = 80 ∨ j = 81 ∨ j = 82 ∨ j = 83 by omega) with rfl | rfl | rfl | rfl | rfl
    · show g_upd s c i v 41 18 = s 41 18; rw [g_upd_ne (by omega)]
    · show g_upd s c i v 41 19 = s 41 19; rw [g_upd_ne (by omega)]
    · show g_upd s c i v 41 15 = s 41 15; rw [g_upd_ne (by omega)]
    · show g_upd s c i v 41 16 = s 41 16; rw [g_upd_ne (by omega)]
    · show g_upd s c i v 41 17 = s 41 17; rw [g_upd_ne (by omega)]
theorem live_41 {s : g_M} {f k : Nat} {v : Int32} (h : (f = 15 ∧ k = 81) ∨ (f = 16 ∧ k = 82)) : ∀ j, j < 84 → live (g_upd s 41 f v) j = kU (live s) k v j := by
  intro j hj
  by_cases z : j < 79
  · rw [kU_n (by omega), live_lo (fun c a b => g_upd_ne (by omega)) j z]
  · unfold kU
    rcases h with ⟨rfl, rfl⟩ | ⟨rfl, rfl⟩
    · rcases (show j = 79 ∨ j = 80 ∨ j = 81 ∨ j = 82 ∨ j = 83 by omega) with rfl | rfl | rfl | rfl | rfl
      · exact (by rw [g_upd_get, if_neg (by decide)] : g_upd s 41 15 v 41 18 = s 41 18)
      · exact (by rw [g_upd_get, if_neg (by decide)] : g_upd s 41 15 v 41 19 = s 41 19)
      · exact (by rw [g_upd_get, if_pos ⟨rfl, rfl⟩] : g_upd s 41 15 v 41 15 = v)
      · exact (by rw [g_upd_get, if_neg (by decide)] : g_upd s 41 15 v 41 16 = s 41 16)
      · exact (by rw [g_upd_get, if_neg (by decide)] : g_upd s 41 15 v 41 17 = s 41 17)
    · rcases (show j = 79 ∨ j = 80 ∨ j = 81 ∨ j = 82 ∨ j = 83 by omega) with rfl | rfl | rfl | rfl | rfl
      · exact (by rw [g_upd_get, if_neg (by decide)] : g_upd s 41 16 v 41 18 = s 41 18)
      · exact (by rw [g_upd_get, if_neg (by decide)] : g_upd s 41 16 v 41 19 = s 41 19)
      · exact (by rw [g_upd_get, if_neg (by decide)] : g_upd s 41 16 v 41 15 = s 41 15)
      · exact (by rw [g_upd_get, if_pos ⟨rfl, rfl⟩] : g_upd s 41 16 v 41 16 = v)
      · exact (by rw [g_upd_get, if_neg (by decide)] : g_upd s 41 16 v 41 17 = s 41 17)
def lK (s : g_M) (K : Nat → Int32) : Prop := ∀ j, j < 84 → live s j = K j
theorem lK_upd {s : g_M} {K : Nat → Int32} {c i k : Nat} {v : Int32} (h : lK s K) (h1 : 43 ≤ c) (h2 : c ≤ 56) (hi : i < p_sz c) (hk : k = p_of c + i) : lK (g_upd s c i v) (kU K k v) := fun j hj => by
  rw [live_upd h1 h2 hi j hj, ← hk]
  unfold kU
  rw [h j hj]
theorem lK_41 {s : g_M} {K : Nat → Int32} {f k : Nat} {v : Int32} (h : lK s K) (hf : (f = 15 ∧ k = 81) ∨ (f = 16 ∧ k = 82)) : lK (g_upd s 41 f v) (kU K k v) := fun j hj => by
  rw [live_41 hf j hj]
  unfold kU
  rw [h j hj]
def fc (s s' : g_M) : Prop := (∀ c, (c < 43 ∨ 56 < c) → c ≠ 41 → s' c = s c) ∧ (∀ f, f ≠ 15 → f ≠ 16 → s' 41 f = s 41 f) ∧ ∀ c k, 43 ≤ c → c ≤ 56 → p_sz c ≤ k → s' c k = s c k
theorem fc_rf (s : g_M) : fc s s := ⟨fun _ _ _ => rfl, fun _ _ _ => rfl, fun _ _ _ _ _ => rfl⟩
theorem fc_tr {a b c : g_M} (h : fc a b) (h2 : fc b c) : fc a c := ⟨fun x y z => by rw [h2.1 x y z, h.1 x y z], fun x y z => by rw [h2.2.1 x y z, h.2.1 x y z], fun x k y z w => by rw [h2.2.2 x k y z w, h.2.2 x k y z w]⟩
theorem fc_upd {s : g_M} {c i : Nat} {v : Int32} (h : 43 ≤ c) (h2 : c ≤ 56) (hi : i < p_sz c) : fc s (g_upd s c i v) := ⟨fun x a b => g_upd_ne (by omega), fun f _ _ => by rw [g_upd_ne (by omega)], fun x k a b d => by
  rw [g_upd_get]
  by_cases z : x = c ∧ k = i
  · exfalso
    rw [z.1] at d
    omega
  · rw [if_neg z]⟩
theorem fc_41 {s : g_M} {f : Nat} {v : Int32} (h : f = 15 ∨ f = 16) : fc s (g_upd s 41 f v) := ⟨fun x a b => g_upd_ne b, fun g a b => by rw [g_upd_get, if_neg (fun q => by have := q.2; omega)], fun x k a b d => by rw [g_upd_ne (by omega)]⟩
def bdK (K : Nat → Int32) : Prop := ∃ nr nb : Nat, nr ≤ 6 ∧ nb ≤ 5 ∧ K 81 = nI nr ∧ K 82 = nI nb
def comesR (s : g_M) (L : Nat → Nat) (p : Nat) (K : Nat → Int32) (x : Option (Int32 × g_M)) : Prop := (∃ K' s', ap L p K = some K' ∧ x = some (1, s') ∧ fc s s' ∧ lK s' K' ∧ bdK K') ∨ (ap L p K = none ∧ ∃ s', x = some (0, s') ∧ fc s s')
theorem py_comesRing {s : g_M} {x nr : Nat} {pl hg : Nat} (hx : x + 1 < 336) (e15 : s 41 15 = nI nr) (hnr : nr ≤ 6) (t0 : s 60 x = nI pl) (t1 : s 60 (x + 1) = nI hg) (hh : hg ≤ 99) : x_X9_comesRing (nI x) s = if nr < 6 ∧ hg ≤ 60 then some (1, g_upd (g_upd (g_upd s 45 nr (nI pl)) 46 nr (nI hg)) 41 15 (nI (nr + 1))) else some (0, s) := by
  have b0 := p_inb (show x < 336 by omega) (by decide : (336 : Nat) < 2 ^ 31)
  have b1 := p_inb hx (by decide : (336 : Nat) < 2 ^ 31)
  have c0 : (nI x).toNatClampNeg = x := nI_clamp (by omega)
  have c1 : (nI (x + 1)).toNatClampNeg = x + 1 := nI_clamp (by omega)
  have cr : (nI nr).toNatClampNeg = nr := nI_clamp (by omega)
  have e1 : nI x + 1 = nI (x + 1) := (nI_succ ..).symm
  have n45a : ∀ (N : g_M) i (v : Int32), g_upd N 45 i v 41 = N 41 := fun N i v => g_upd_ne (by decide)
  have n46a : ∀ (N : g_M) i (v : Int32), g_upd N 46 i v 41 = N 41 := fun N i v => g_upd_ne (by decide)
  have n45b : ∀ (N : g_M) i (v : Int32), g_upd N 45 i v 60 = N 60 := fun N i v => g_upd_ne (by decide)
  have n46b : ∀ (N : g_M) i (v : Int32), g_upd N 46 i v 60 = N 60 := fun N i v => g_upd_ne (by decide)
  have es : nI nr + 1 = nI (nr + 1) := (nI_succ ..).symm
  rw [x_X9_comesRing]
  simp only [e1, b0, b1, c0, c1, e15, cr, n45a, n46a, n45b, n46b, t0, t1, if_true, es]
  by_cases z : hg ≤ 60
  rotate_left
  · rw [if_pos (show (60 : Int32) < nI hg from (p_lt (a := 60) (by decide) (by omega)).mpr (by omega)), if_neg (fun q => z q.2)]
  rw [if_neg (show ¬ (60 : Int32) < nI hg from fun q => by have := (p_lt (a := 60) (by decide) (by omega)).mp q; omega)]
  by_cases y : nr < 6
  · rw [if_neg (show ¬ nI nr = (6 : Int32) from fun q => by have := (p_eq (a := nr) (b := 6) (by omega) (by decide)).mp q; omega)]
    have rhs : (if nr < 6 ∧ hg ≤ 60 then some ((1 : Int32), g_upd (g_upd (g_upd s 45 nr (nI pl)) 46 nr (nI hg)) 41 15 (nI (nr + 1))) else some (0, s)) = some ((1 : Int32), g_upd (g_upd (g_upd s 45 nr (nI pl)) 46 nr (nI hg)) 41 15 (nI (nr + 1))) := if_pos ⟨y, z⟩
    rw [rhs]
    simp only [p_inb y (by decide), if_true]
  · rw [if_pos (show nI nr = (6 : Int32) by rw [show nr = 6 by omega]; rfl), if_neg (fun q => y q.1)]
def chR (s : g_M) (nb : Nat) (v0 v1 v2 v3 v4 v5 v6 : Int32) : g_M := g_upd (g_upd (g_upd (g_upd (g_upd (g_upd (g_upd (g_upd s 48 nb v0) 49 nb v1) 50 nb v2) 51 nb v3) 52 nb v4) 53 nb v5) 54 nb v6) 41 16 (nI (nb + 1))
theorem py_comesBoat {s : g_M} {x nr nb : Nat} {k f r o l g d : Nat} (hx : x + 6 < 336) (e15 : s 41 15 = nI nr) (e16 : s 41 16 = nI nb) (hnr : nr ≤ 6) (hnb : nb ≤ 5) (t0 : s 60 x = nI k) (t1 : s 60 (x + 1) = nI f) (t2 : s 60 (x + 2) = nI r) (t3 : s 60 (x + 3) = nI o) (t4 : s 60 (x + 4) = nI l) (t5 : s 60 (x + 5) = nI g) (t6 : s 60 (x + 6) = nI d) (hk : k ≤ 9) (hr : r ≤ 9) (ho : o ≤ 9) (hg : g ≤ 99) : x_X9_comesBoat (nI x) s = if nb < 5 ∧ k < 6 ∧ r < nr ∧ o < nr ∧ 1 ≤ g ∧ g ≤ 20 then some (1, chR s nb (nI k) (nI f) (nI r) (nI o) (nI l) (nI g) (nI d)) else some (0, s) := by
  have bx : ∀ j, j ≤ 6 → g_inb (nI (x + j)) 336 = true := fun j hj => p_inb (by omega) (by decide)
  have b0 : g_inb (nI x) 336 = true := bx 0 (by decide)
  have b1 := bx 1 (by decide)
  have b2 := bx 2 (by decide)
  have b3 := bx 3 (by decide)
  have b4 := bx 4 (by decide)
  have b5 := bx 5 (by decide)
  have b6 := bx 6 (by decide)
  have cx : ∀ j, j ≤ 6 → (nI (x + j)).toNatClampNeg = x + j := fun j hj => nI_clamp (by omega)
  have c0 : (nI x).toNatClampNeg = x := cx 0 (by decide)
  have c1 := cx 1 (by decide)
  have c2 := cx 2 (by decide)
  have c3 := cx 3 (by decide)
  have c4 := cx 4 (by decide)
  have c5 := cx 5 (by decide)
  have c6 := cx 6 (by decide)
  have e1 : nI x + 1 = nI (x + 1) := p_add (b := 1)
  have e2 : nI x + 2 = nI (x + 2) := p_add (b := 2)
  have e3 : nI x + 3 = nI (x + 3) := p_add (b := 3)
  have e4 : nI x + 4 = nI (x + 4) := p_add (b := 4)
  have e5 : nI x + 5 = nI (x + 5) := p_add (b := 5)
  have e6 : nI x + 6 = nI (x + 6) := p_add (b := 6)
  have cn : (nI nb).toNatClampNeg = nb := nI_clamp (by omega)
  have es : nI nb + 1 = nI (nb + 1) := (nI_succ ..).symm
  have m41 : ∀ (N : g_M) c i (v : Int32), 41 ≠ c → g_upd N c i v 41 = N 41 := fun N c i v h => g_upd_ne h
  have m60 : ∀ (N : g_M) c i (v : Int32), 60 ≠ c → g_upd N c i v 60 = N 60 := fun N c i v h => g_upd_ne h
  have a48 := fun N i v => m41 N 48 i v (by decide)
  have a49 := fun N i v => m41 N 49 i v (by decide)
  have a50 := fun N i v => m41 N 50 i v (by decide)
  have a51 := fun N i v => m41 N 51 i v (by decide)
  have a52 := fun N i v => m41 N 52 i v (by decide)
  have a53 := fun N i v => m41 N 53 i v (by decide)
  have a54 := fun N i v => m41 N 54 i v (by decide)
  have d48 := fun N i v => m60 N 48 i v (by decide)
  have d49 := fun N i v => m60 N 49 i v (by decide)
  have d50 := fun N i v => m60 N 50 i v (by decide)
  have d51 := fun N i v => m60 N 51 i v (by decide)
  have d52 := fun N i v => m60 N 52 i v (by decide)
  have d53 := fun N i v => m60 N 53 i v (by decide)
  have d54 := fun N i v => m60 N 54 i v (by decide)
  have ring : ∀ q, q ≤ 9 → x_X9_isRing (nI q) s = some (if q < nr then 1 else 0, s) := fun q hq => by
    rw [py_isRing, e15]
    by_cases z : q < nr
    · rw [if_pos z, if_pos ⟨p_ge0 (by omega), (p_lt (by omega) (by omega)).mpr z⟩]
    · rw [if_neg z, if_neg (fun y => z ((p_lt (by omega) (by omega)).mp y.2))]
  have inn : x_X9_isIn (nI g) 1 20 s = some (if 1 ≤ g ∧ g ≤ 20 then 1 else 0, s) := by
    rw [py_isIn]
    by_cases z : 1 ≤ g ∧ g ≤ 20
    · rw [if_pos z, if_pos ⟨(p_le (a := 1) (by decide) (by omega)).mpr z.1, (p_le (b := 20) (by omega) (by decide)).mpr z.2⟩]
    · rw [if_neg z, if_neg (fun q => z ⟨(p_le (a := 1) (by decide) (by omega)).mp q.1, (p_le (b := 20) (by omega) (by decide)).mp q.2⟩)]
  by_cases z2 : k < 6
  rotate_left
  · rw [x_X9_comesBoat, if_pos b0, c0, t0, if_pos (show (5 : Int32) < nI k from (p_lt (a := 5) (by decide) (by omega)).mpr (by omega)), if_neg (fun q => z2 q.2.1)]
  have k5 : ¬ (5 : Int32) < nI k := fun q => by have := (p_lt (a := 5) (by decide) (by omega)).mp q; omega
  by_cases z3 : r < nr
  rotate_left
  · have h := ring r hr
    rw [if_neg z3] at h
    rw [x_X9_comesBoat, if_pos b0, c0, t0, if_neg k5, e2, if_pos b2, c2, t2, if_neg (fun q => z3 q.2.2.1)]
    refine (bnd h _).trans ?_
    exact if_pos rfl
  have h3 := ring r hr
  rw [if_pos z3] at h3
  by_cases z4 : o < nr
  rotate_left
  · have h := ring o ho
    rw [if_neg z4] at h
    rw [x_X9_comesBoat, if_pos b0, c0, t0, if_neg k5, e2, if_pos b2, c2, t2, if_neg (fun q => z4 q.2.2.2.1)]
    refine (bnd h3 _).trans ?_
    refine Eq.trans (if_neg (show ¬ (1 : Int32) = 0 by decide)) ?_
    rw [e3]
    refine Eq.trans (if_pos b3) ?_
    rw [c3]
    have h' : x_X9_isRing (s 60 (x + 3)) s = some (0, s) := by rw [t3]; exact h
    refine (bnd h' _).trans ?_
    exact if_pos rfl
  have h4 : x_X9_isRing (s 60 (x + 3)) s = some (1, s) := by
    rw [t3, ring o ho, if_pos z4]
  by_cases z5 : 1 ≤ g ∧ g ≤ 20
  rotate_left
  · have h5 : x_X9_isIn (s 60 (x + 5)) 1 20 s = some (0, s) := by rw [t5, inn, if_neg z5]
    rw [x_X9_comesBoat, if_pos b0, c0, t0, if_neg k5, e2, if_pos b2, c2, t2, if_neg (fun q => z5 q.2.2.2.2)]
    refine (bnd h3 _).trans ?_
    refine Eq.trans (if_neg (show ¬ (1 : Int32) = 0 by decide)) ?_
    rw [e3]
    refine Eq.trans (if_pos b3) ?_
    rw [c3]
    refine (bnd h4 _).trans ?_
    refine Eq.trans (if_neg (show ¬ (1 : Int32) = 0 by decide)) ?_
    rw [e5]
    refine Eq.trans (if_pos b5) ?_
    rw [c5]
    refine (bnd h5 _).trans ?_
    exact if_pos rfl
  have h5 : x_X9_isIn (s 60 (x + 5)) 1 20 s = some (1, s) := by rw [t5, inn, if_pos z5]
  have rest : ∀ X, (∀ (u : Int32 × g_M), u = (1, s) → X u = (if nb < 5 ∧ k < 6 ∧ r < nr ∧ o < nr ∧ 1 ≤ g ∧ g ≤ 20 then some ((1 : Int32), chR s nb (nI k) (nI f) (nI r) (nI o) (nI l) (nI g) (nI d)) else some (0, s))) → (x_X9_isIn (s 60 (x + 5)) 1 20 s).bind X = (if nb < 5 ∧ k < 6 ∧ r < nr ∧ o < nr ∧ 1 ≤ g ∧ g ≤ 20 then some ((1 : Int32), chR s nb (nI k) (nI f) (nI r) (nI o) (nI l) (nI g) (nI d)) else some (0, s)) := fun X hX => (bnd h5 X).trans (hX _ rfl)
  rw [x_X9_comesBoat, if_pos b0, c0, t0, if_neg k5, e2, if_pos b2, c2, t2]
  refine (bnd h3 _).trans ?_
  refine Eq.trans (if_neg (show ¬ (1 : Int32) = 0 by decide)) ?_
  rw [e3]
  refine Eq.trans (if_pos b3) ?_
  rw [c3]
  refine (bnd h4 _).trans ?_
  refine Eq.trans (if_neg (show ¬ (1 : Int32) = 0 by decide)) ?_
  rw [e5]
  refine Eq.trans (if_pos b5) ?_
  rw [c5]
  refine rest _ ?_
  rintro u rfl
  refine Eq.trans (if_neg (show ¬ (1 : Int32) = 0 by decide)) ?_
  by_cases z1 : nb < 5
  rotate_left
  · refine Eq.trans (if_pos (by show s 41 16 = 5; rw [e16, show nb = 5 by omega]; rfl)) ?_
    rw [if_neg (fun q => z1 q.1)]
  have rhs : (if nb < 5 ∧ k < 6 ∧ r < nr ∧ o < nr ∧ 1 ≤ g ∧ g ≤ 20 then some ((1 : Int32), chR s nb (nI k) (nI f) (nI r) (nI o) (nI l) (nI g) (nI d)) else some (0, s)) = some ((1 : Int32), chR s nb (nI k) (nI f) (nI r) (nI o) (nI l) (nI g) (nI d)) := if_pos ⟨z1, z2, z3, z4, z5⟩
  rw [rhs]
  refine Eq.trans (if_neg (by show ¬ s 41 16 = 5; rw [e16]; exact fun q => by have := (p_eq (a := nb) (b := 5) (by omega) (by decide)).mp q; omega)) ?_
  have bn := p_inb z1 (by decide : (5 : Nat) < 2 ^ 31)
  simp only [e1, e2, e3, e4, e5, e6, b0, b1, b2, b3, b4, b5, b6, c0, c1, c2, c3, c4, c5, c6, a48, a49, a50, a51, a52, a53, a54, d48, d49, d50, d51, d52, d53, d54, e16, cn, bn, t0, t1, t2, t3, t4, t5, t6, if_true, es]
  all_goals rfl
theorem bdK_n {K : Nat → Int32} {i : Nat} {v : Int32} (h : bdK K) (a : i ≠ 81) (b : i ≠ 82) : bdK (kU K i v) := by
  obtain ⟨nr, nb, h1, h2, h3, h4⟩ := h
  exact ⟨nr, nb, h1, h2, by rw [kU_n (by omega)]; exact h3, by rw [kU_n (by omega)]; exact h4⟩
theorem py_comes {s : g_M} {L : Nat → Nat} {n p k : Nat} {K : Nat → Int32} (hS : okS L n p) (hk : k ≤ 24) (hT : told s L p k) (hK : lK s K) (hb : bdK K) (hL : L p ≤ 255) : comesR s L p K (x_X9_comes (nI k) s) := by
  obtain ⟨u1, u2, u3⟩ := hT
  have e7 : (7 : Int32) * nI k = nI (7 * k) := by rw [show (7 : Int32) = nI 7 from rfl, p_mul]
  have e71 : nI (7 * k) + 1 = nI (7 * k + 1) := (nI_succ ..).symm
  have b0 := p_inb (show 7 * k < 336 by omega) (by decide : (336 : Nat) < 2 ^ 31)
  have b1 := p_inb (show 7 * k + 1 < 336 by omega) (by decide : (336 : Nat) < 2 ^ 31)
  have bk := p_inb (show k < 48 by omega) (by decide : (48 : Nat) < 2 ^ 31)
  have c0 : (nI (7 * k)).toNatClampNeg = 7 * k := nI_clamp (by omega)
  have c1 : (nI (7 * k + 1)).toNatClampNeg = 7 * k + 1 := nI_clamp (by omega)
  have ck : (nI k).toNatClampNeg = k := nI_clamp (by omega)
  obtain ⟨nr, nb, r6, n5, k81, k82⟩ := hb
  have e15 : s 41 15 = nI nr := by rw [← k81, ← hK 81 (by decide)]; rfl
  have e16 : s 41 16 = nI nb := by rw [← k82, ← hK 82 (by decide)]; rfl
  have cr : (K 81).toNatClampNeg = nr := by rw [k81, nI_clamp (by omega)]
  have cb : (K 82).toNatClampNeg = nb := by rw [k82, nI_clamp (by omega)]
  have hb : bdK K := ⟨nr, nb, r6, n5, k81, k82⟩
  have wrap : ∀ (x : Option (Int32 × g_M)), comesR s L p K x → comesR s L p K (x.bind fun u => if g_isb u.1 = true then some (u.1, u.2) else none) := by
    rintro x (⟨K', s', a, rfl, c⟩ | ⟨a, s', rfl, c⟩)
    · exact Or.inl ⟨K', s', a, rfl, c⟩
    · exact Or.inr ⟨a, s', rfl, c⟩
  have ne : ∀ a b : Nat, a = L p → b < 300 → a ≠ b → ¬ nI a = nI b := fun a b e h q r => q ((p_eq (by omega) (by omega)).mp r)
  rw [x_X9_comes, e7, e71, if_pos b0, if_pos b1, if_pos bk, ck, u1, c0, c1]
  rcases shp_v hS.2.1 with l | l | l | l | l | l
  · -- a boat
    have sw : shp (L p) = 2 := by rw [l]; rfl
    rw [sw] at u3
    have w : ∀ j, j < 7 → s 60 (7 * k + j) = nI (bv L p j) := fun j hj => u3 j hj
    have sl : g_sl 2 = 11 := by decide
    have d : ∀ j q, 1 ≤ j → j < 11 → p + j = q → isD9 L n q := fun j q h1 h2 e => by
      have := okS_d hS sw (j := j - 1) (by rw [sl]; omega) (by omega)
      rw [show p + 1 + (j - 1) = q by omega] at this
      exact this
    have v1 := nv1_9 (d 1 _ (by decide) (by decide) rfl)
    have v3 := nv1_9 (d 3 _ (by decide) (by decide) rfl)
    have v4 := nv1_9 (d 4 _ (by decide) (by decide) rfl)
    have v7 := nv2_99 (d 7 _ (by decide) (by decide) rfl) (d 8 (p + 7 + 1) (by decide) (by decide) (by omega))
    have cbt := py_comesBoat (s := s) (x := 7 * k) (k := nv1 L (p + 1)) (f := nv1 L (p + 2)) (r := nv1 L (p + 3)) (o := nv1 L (p + 4)) (l := nv2 L (p + 5)) (g := nv2 L (p + 7)) (d := nv2 L (p + 9)) (by omega) e15 e16 r6 n5 (w 0 (by decide)) (w 1 (by decide)) (w 2 (by decide)) (w 3 (by decide)) (w 4 (by decide)) (w 5 (by decide)) (w 6 (by decide)) v1 v3 v4 v7
    rw [if_pos (show nI (L p) = (98 : Int32) by rw [l]; rfl)]
    refine wrap _ ?_
    rw [cbt]
    unfold comesR ap
    simp only [l, if_true, cr, cb]
    by_cases z : nb < 5 ∧ nv1 L (p + 1) < 6 ∧ nv1 L (p + 3) < nr ∧ nv1 L (p + 4) < nr ∧ 1 ≤ nv2 L (p + 7) ∧ nv2 L (p + 7) ≤ 20
    rotate_left
    · rw [if_neg z, if_neg z]
      exact Or.inr ⟨rfl, s, rfl, fc_rf s⟩
    rw [if_pos z, if_pos z]
    have z1 := z.1
    refine Or.inl ⟨KB K L p nb, chR s nb (nI (nv1 L (p + 1))) (nI (nv1 L (p + 2))) (nI (nv1 L (p + 3))) (nI (nv1 L (p + 4))) (nI (nv2 L (p + 5))) (nI (nv2 L (p + 7))) (nI (nv2 L (p + 9))), rfl, rfl, ?_, ?_, ?_⟩
    · unfold chR
      exact fc_tr (fc_tr (fc_tr (fc_tr (fc_tr (fc_tr (fc_tr (fc_upd (by decide) (by decide) z1) (fc_upd (by decide) (by decide) z1)) (fc_upd (by decide) (by decide) z1)) (fc_upd (by decide) (by decide) z1)) (fc_upd (by decide) (by decide) z1)) (fc_upd (by decide) (by decide) z1)) (fc_upd (by decide) (by decide) z1)) (fc_41 (Or.inr rfl))
    · unfold chR KB
      exact lK_41 (lK_upd (lK_upd (lK_upd (lK_upd (lK_upd (lK_upd (lK_upd hK (by decide) (by decide) z1 rfl) (by decide) (by decide) z1 rfl) (by decide) (by decide) z1 rfl) (by decide) (by decide) z1 rfl) (by decide) (by decide) z1 rfl) (by decide) (by decide) z1 rfl) (by decide) (by decide) z1 rfl) (Or.inr ⟨rfl, rfl⟩)
    · exact ⟨nr, nb + 1, r6, by omega, by rw [KB_n (by omega) (by omega) (by omega) (by omega) (by omega) (by omega) (by omega) (by omega)]; exact k81, (KB_v K L p z1).2.2.2.2.2.2.2⟩
  · -- the edge
    have sw : shp (L p) = 4 := by rw [l]; rfl
    have sl : g_sl 4 = 3 := by decide
    rw [sw] at u3
    have w0 : s 60 (7 * k) = nI (nv2 L (p + 1)) := u3 0 (by decide)
    have v := nv2_99 (okS_d hS sw (j := 0) (by rw [sl]; decide) (by decide)) (okS_d hS sw (j := 1) (by rw [sl]; decide) (by decide))
    rw [Nat.add_zero] at v
    rw [if_neg (by rw [l]; decide), if_neg (by rw [l]; decide), if_neg (by rw [l]; decide), if_neg (by rw [l]; decide), if_neg (by rw [l]; decide), w0]
    have z0 : (0 : Int32).toNatClampNeg = 0 := by decide
    rw [z0]
    unfold comesR ap
    simp only [l, if_neg (show ¬ 101 = 98 by decide), if_neg (show ¬ 101 = 108 by decide), if_neg (show ¬ 101 = 114 by decide), if_neg (show ¬ 101 = 116 by decide), if_neg (show ¬ 101 = 119 by decide)]
    have ff := fc_upd (s := s) (c := 47) (i := 0) (v := nI (nv2 L (p + 1))) (by decide) (by decide) (by decide)
    by_cases z : nv2 L (p + 1) ≤ 60
    · rw [if_neg (show ¬ (60 : Int32) < nI (nv2 L (p + 1)) from fun q => by have := (p_lt (a := 60) (by decide) (by omega)).mp q; omega), if_pos z]
      exact Or.inl ⟨_, _, rfl, rfl, ff, lK_upd hK (by decide) (by decide) (by decide) rfl, bdK_n hb (by decide) (by decide)⟩
    · rw [if_pos (show (60 : Int32) < nI (nv2 L (p + 1)) from (p_lt (a := 60) (by decide) (by omega)).mpr (by omega)), if_neg z]
      exact Or.inr ⟨rfl, _, rfl, ff⟩
  · -- a length
    have sw : shp (L p) = 3 := by rw [l]; rfl
    have sl : g_sl 3 = 4 := by decide
    rw [sw] at u3
    have w0 : s 60 (7 * k) = nI (nv1 L (p + 1)) := u3 0 (by decide)
    have w1 : s 60 (7 * k + 1) = nI (nv2 L (p + 2)) := u3 1 (by decide)
    have v := nv1_9 (okS_d hS sw (j := 0) (by rw [sl]; decide) (by decide))
    rw [Nat.add_zero] at v
    rw [if_neg (by rw [l]; decide), if_pos (show nI (L p) = (108 : Int32) by rw [l]; rfl), w0, w1]
    unfold comesR ap
    simp only [l, if_neg (show ¬ 108 = 98 by decide), if_true, cb]
    have cv : (nI (nv1 L (p + 1))).toNatClampNeg = nv1 L (p + 1) := nI_clamp (by omega)
    by_cases z : nv1 L (p + 1) < nb
    · have q : x_X9_isBoat (nI (nv1 L (p + 1))) s = some (1, s) := by rw [py_isBoat, e16, if_pos ⟨p_ge0 (by omega), (p_lt (by omega) (by omega)).mpr z⟩]
      rw [if_pos z]
      left
      refine ⟨_, _, rfl, ?_, fc_upd (s := s) (c := 52) (i := nv1 L (p + 1)) (v := nI (nv2 L (p + 2))) (by decide) (by decide) (show nv1 L (p + 1) < 5 by omega), lK_upd hK (by decide) (by decide) (show nv1 L (p + 1) < 5 by omega) rfl, bdK_n hb (by omega) (by omega)⟩
      refine (bnd q _).trans ?_
      dsimp only
      rw [if_neg (show ¬ (1 : Int32) = 0 by decide), if_pos (p_inb (show nv1 L (p + 1) < 5 by omega) (by decide)), cv]
    · have q : x_X9_isBoat (nI (nv1 L (p + 1))) s = some (0, s) := by rw [py_isBoat, e16, if_neg (fun q => z ((p_lt (by omega) (by omega)).mp q.2))]
      rw [if_neg z]
      right
      refine ⟨rfl, s, ?_, fc_rf s⟩
      refine (bnd q _).trans ?_
      rfl
  · -- a ring
    have sw : shp (L p) = 0 := by rw [l]; rfl
    have sl : g_sl 0 = 5 := by decide
    rw [sw] at u3
    have w0 : s 60 (7 * k) = nI (nv2 L (p + 1)) := u3 0 (by decide)
    have w1 : s 60 (7 * k + 1) = nI (nv2 L (p + 3)) := u3 1 (by decide)
    have d2 := okS_d hS sw (j := 2) (by rw [sl]; decide) (by decide)
    have d3 := okS_d hS sw (j := 3) (by rw [sl]; decide) (by decide)
    have v3 := nv2_99 d2 d3
    rw [show p + 1 + 2 = p + 3 by omega] at v3
    have cbt := py_comesRing (s := s) (x := 7 * k) (by omega) e15 r6 w0 w1 v3
    rw [if_neg (by rw [l]; decide), if_neg (by rw [l]; decide), if_pos (show nI (L p) = (114 : Int32) by rw [l]; rfl)]
    refine wrap _ ?_
    rw [cbt]
    unfold comesR ap
    simp only [l, if_neg (show ¬ 114 = 98 by decide), if_neg (show ¬ 114 = 108 by decide), if_true, cr]
    by_cases z : nr < 6 ∧ nv2 L (p + 3) ≤ 60
    rotate_left
    · rw [if_neg z, if_neg z]
      exact Or.inr ⟨rfl, s, rfl, fc_rf s⟩
    rw [if_pos z, if_pos z]
    refine Or.inl ⟨_, _, rfl, rfl, fc_tr (fc_tr (fc_upd (by decide) (by decide) z.1) (fc_upd (by decide) (by decide) z.1)) (fc_41 (Or.inl rfl)), lK_41 (lK_upd (lK_upd hK (by decide) (by decide) z.1 rfl) (by decide) (by decide) z.1 rfl) (Or.inl ⟨rfl, rfl⟩), nr + 1, nb, by omega, n5, kU_s _ _ _, ?_⟩
    have := z.1
    rw [kU_n (by omega), kU_n (by omega), kU_n (by omega)]
    exact k82
  · -- a tide
    have sw : shp (L p) = 0 := by rw [l]; rfl
    have sl : g_sl 0 = 5 := by decide
    rw [sw] at u3
    have w0 : s 60 (7 * k) = nI (nv2 L (p + 1)) := u3 0 (by decide)
    have w1 : s 60 (7 * k + 1) = nI (nv2 L (p + 3)) := u3 1 (by decide)
    have v1 := nv2_99 (okS_d hS sw (j := 0) (by rw [sl]; decide) (by decide)) (okS_d hS sw (j := 1) (by rw [sl]; decide) (by decide))
    have v3 := nv2_99 (okS_d hS sw (j := 2) (by rw [sl]; decide) (by decide)) (okS_d hS sw (j := 3) (by rw [sl]; decide) (by decide))
    rw [Nat.add_zero] at v1
    rw [show p + 1 + 2 = p + 3 by omega] at v3
    have cv : (nI (nv2 L (p + 1))).toNatClampNeg = nv2 L (p + 1) := nI_clamp (by omega)
    rw [if_neg (by rw [l]; decide), if_neg (by rw [l]; decide), if_neg (by rw [l]; decide), if_pos (show nI (L p) = (116 : Int32) by rw [l]; rfl), w0, w1]
    unfold comesR ap
    simp only [l, if_neg (show ¬ 116 = 98 by decide), if_neg (show ¬ 116 = 108 by decide), if_neg (show ¬ 116 = 114 by decide), if_true]
    by_cases z : nv2 L (p + 1) < 12
    rotate_left
    · have q : x_X9_isHour (nI (nv2 L (p + 1))) s = some (0, s) := by rw [py_isHour, if_neg (fun q => z ((p_lt (b := 12) (by omega) (by decide)).mp q.2))]
      rw [if_neg (fun q => z q.1)]
      right
      refine ⟨rfl, s, ?_, fc_rf s⟩
      refine (bnd q _).trans ?_
      rfl
    have q : x_X9_isHour (nI (nv2 L (p + 1))) s = some (1, s) := by rw [py_isHour, if_pos ⟨p_ge0 (by omega), (p_lt (b := 12) (by omega) (by decide)).mpr z⟩]
    by_cases y : nv2 L (p + 3) ≤ 40
    · rw [if_pos ⟨z, y⟩]
      left
      refine ⟨_, _, rfl, ?_, fc_upd (s := s) (c := 43) (i := nv2 L (p + 1)) (v := nI (nv2 L (p + 3))) (by decide) (by decide) z, lK_upd hK (by decide) (by decide) z (by show _ = 0 + _; omega), bdK_n hb (by omega) (by omega)⟩
      refine (bnd q _).trans ?_
      dsimp only
      rw [if_neg (show ¬ (1 : Int32) = 0 by decide), if_pos (show nI (nv2 L (p + 3)) ≤ (40 : Int32) from (p_le (b := 40) (by omega) (by decide)).mpr y), if_pos (p_inb z (by decide)), cv]
    · rw [if_neg (fun q => y q.2)]
      right
      refine ⟨rfl, s, ?_, fc_rf s⟩
      refine (bnd q _).trans ?_
      dsimp only
      rw [if_neg (show ¬ (1 : Int32) = 0 by decide), if_neg (show ¬ nI (nv2 L (p + 3)) ≤ (40 : Int32) from fun q => y ((p_le (b := 40) (by omega) (by decide)).mp q))]
  · -- a wind
    have sw : shp (L p) = 1 := by rw [l]; rfl
    have sl : g_sl 1 = 5 := by decide
    rw [sw] at u3
    have w0 : s 60 (7 * k) = nI (nv2 L (p + 1)) := u3 0 (by decide)
    have w1 : s 60 (7 * k + 1) = (if L (p + 3) = 45 then -nI (nv1 L (p + 4)) else nI (nv1 L (p + 4))) := u3 1 (by decide)
    have v1 := nv2_99 (okS_d hS sw (j := 0) (by rw [sl]; decide) (by decide)) (okS_d hS sw (j := 1) (by rw [sl]; decide) (by decide))
    rw [Nat.add_zero] at v1
    have cv : (nI (nv2 L (p + 1))).toNatClampNeg = nv2 L (p + 1) := nI_clamp (by omega)
    rw [if_neg (by rw [l]; decide), if_neg (by rw [l]; decide), if_neg (by rw [l]; decide), if_neg (by rw [l]; decide), if_pos (show nI (L p) = (119 : Int32) by rw [l]; rfl), w0, w1]
    unfold comesR ap
    simp only [l, if_neg (show ¬ 119 = 98 by decide), if_neg (show ¬ 119 = 108 by decide), if_neg (show ¬ 119 = 114 by decide), if_neg (show ¬ 119 = 116 by decide), if_true]
    generalize (if L (p + 3) = 45 then -nI (nv1 L (p + 4)) else nI (nv1 L (p + 4))) = v
    by_cases z : nv2 L (p + 1) < 12
    rotate_left
    · have q : x_X9_isHour (nI (nv2 L (p + 1))) s = some (0, s) := by rw [py_isHour, if_neg (fun q => z ((p_lt (b := 12) (by omega) (by decide)).mp q.2))]
      rw [if_neg z]
      right
      refine ⟨rfl, s, ?_, fc_rf s⟩
      refine (bnd q _).trans ?_
      rfl
    have q : x_X9_isHour (nI (nv2 L (p + 1))) s = some (1, s) := by rw [py_isHour, if_pos ⟨p_ge0 (by omega), (p_lt (b := 12) (by omega) (by decide)).mpr z⟩]
    rw [if_pos z]
    left
    refine ⟨_, _, rfl, ?_, fc_upd (s := s) (c := 44) (i := nv2 L (p + 1)) (v := v) (by decide) (by decide) z, lK_upd hK (by decide) (by decide) z rfl, bdK_n hb (by omega) (by omega)⟩
    refine (bnd q _).trans ?_
    dsimp only
    rw [if_neg (show ¬ (1 : Int32) = 0 by decide), if_pos (p_inb z (by decide)), cv]
theorem told_fc {s s' : g_M} {L : Nat → Nat} {p k : Nat} (h : told s L p k) (f : fc s s') : told s' L p k := by
  unfold told
  rw [f.1 58 (by decide) (by decide), f.1 59 (by decide) (by decide), f.1 60 (by decide) (by decide)]
  exact h
/-- all statements come, or one fails -/
theorem py_all {s0 : g_M} {L : Nat → Nat} {n m : Nat} {K : Nat → Int32} (hm : m ≤ 24) (hS : ∀ k, k < m → okS L n (ps L k)) (hL : ∀ i, i < n → L i ≤ 255) (hT : ∀ k, k < m → told s0 L (ps L k) k) (e26 : s0 41 26 = nI m) (hK : lK s0 K) (hb : bdK K) : (∃ K' s', apA L K m = some K' ∧ x_X9_quay_L86 g_F 0 s0 = some (nI m, g_upd s' 41 33 0) ∧ fc s0 s' ∧ lK s' K') ∨ (∃ k s', k < m ∧ (∃ K', apA L K k = some K' ∧ ap L (ps L k) K' = none) ∧ fc s0 s' ∧ x_X9_quay_L86 g_F 0 s0 = (x_X9_passesAll (1 : Int32) (0 : Int32) s').bind fun u3 => (if g_inb (nI k) 48 = true then (some (((-2000 : Int32) - (u3.2 59 (nI k).toNatClampNeg)), u3.2)) else none)) := by
  rw [show x_X9_quay_L86 g_F 0 s0 = x_X9_quay_L86 g_F (nI 0) s0 by rfl]
  refine p_loop0 (n := m) (F := fun k fuel s => x_X9_quay_L86 fuel (nI k) s) (I := fun k s => fc s0 s ∧ ∃ K', apA L K k = some K' ∧ lK s K' ∧ bdK K') (R := fun x => (∃ K' s', apA L K m = some K' ∧ x = some (nI m, g_upd s' 41 33 0) ∧ fc s0 s' ∧ lK s' K') ∨ (∃ k s', k < m ∧ (∃ K', apA L K k = some K' ∧ ap L (ps L k) K' = none) ∧ fc s0 s' ∧ x = (x_X9_passesAll (1 : Int32) (0 : Int32) s').bind fun u3 => (if g_inb (nI k) 48 = true then (some (((-2000 : Int32) - (u3.2 59 (nI k).toNatClampNeg)), u3.2)) else none))) (s := s0) (by omega) ⟨fc_rf s0, K, rfl, hK, hb⟩ ?_ ?_
  · intro s fuel ⟨g1, K', g2, g3, g4⟩
    left
    refine ⟨K', s, g2, ?_, g1, g3⟩
    have e : s 41 26 = nI m := by rw [g1.2.1 26 (by decide) (by decide)]; exact e26
    show x_X9_quay_L86 (fuel + 1) (nI m) s = _
    rw [x_X9_quay_L86, e, if_pos (Int32.le_refl _), g_upd_get, if_neg (fun q => absurd q.2 (by decide)), e]
  · intro k s fuel hk ⟨g1, K', g2, g3, g4⟩
    have e : s 41 26 = nI m := by rw [g1.2.1 26 (by decide) (by decide)]; exact e26
    have pl := (hS k hk).1
    have cm := py_comes (hS k hk) (show k ≤ 24 by omega) (told_fc (hT k hk) g1) g3 g4 (hL _ pl)
    have go : x_X9_quay_L86 (fuel + 1) (nI k) s = (x_X9_comes (nI k) s).bind fun u1 => if u1.1 = 0 then (((x_X9_passesAll (1 : Int32) (0 : Int32) u1.2).bind fun u3 => (if g_inb (nI k) 48 = true then (some (((-2000 : Int32) - (u3.2 59 (nI k).toNatClampNeg)), u3.2)) else none))) else (x_X9_quay_L86 fuel (nI k + (1 : Int32)) u1.2) := by
      rw [x_X9_quay_L86, e, if_neg (show ¬ nI m ≤ nI k from nI_ge hk (by omega))]
    rcases cm with ⟨K2, s2, a1, a2, a3, a4, a5⟩ | ⟨a1, s2, a2, a3⟩
    · right
      refine ⟨s2, ⟨fc_tr g1 a3, K2, by rw [apA, g2]; exact a1, a4, a5⟩, ?_⟩
      show x_X9_quay_L86 (fuel + 1) (nI k) s = x_X9_quay_L86 fuel (nI (k + 1)) s2
      rw [go]
      refine (bnd a2 _).trans ?_
      dsimp only
      rw [if_neg (show ¬ (1 : Int32) = 0 by decide), nI_succ]
    · left
      right
      refine ⟨k, s2, hk, ⟨K', g2, a1⟩, fc_tr g1 a3, ?_⟩
      show x_X9_quay_L86 (fuel + 1) (nI k) s = _
      rw [go]
      refine (bnd a2 _).trans ?_
      exact if_pos rfl
