/-! THE PURE PART. ZK: the reference reads a QUAY -/
def isY (s : g_M) (L : Nat → Nat) (n : Nat) : Prop := n ≤ 96 ∧ s 41 24 = nI n ∧ ∀ i, i < n → s 57 i = nI (L i) ∧ L i ≤ 255
def fq (s s' : g_M) : Prop := (∀ c, c ≠ 41 → c ≠ 58 → c ≠ 59 → c ≠ 60 → s' c = s c) ∧ ∀ f, f ≠ 25 → f ≠ 26 → s' 41 f = s 41 f
theorem fq_rf (s : g_M) : fq s s := ⟨fun _ _ _ _ _ => rfl, fun _ _ _ => rfl⟩
theorem fq_tr {a b c : g_M} (h : fq a b) (h2 : fq b c) : fq a c := ⟨fun x y z w v => by rw [h2.1 x y z w v, h.1 x y z w v], fun x y z => by rw [h2.2 x y z, h.2 x y z]⟩
theorem isY_fq {s s' : g_M} {L : Nat → Nat} {n : Nat} (h : isY s L n) (f : fq s s') : isY s' L n := by
  unfold isY
  rw [f.2 24 (by decide) (by decide), f.1 57 (by decide) (by decide) (by decide) (by decide)]
  exact h
theorem py_next {s : g_M} {L : Nat → Nat} {n a : Nat} (h : isY s L n) (ha : s 41 25 = nI a) (h2 : a ≤ 1000) : x_X9_next s = some (if a < n then nI (L a) else -1, s) := by
  obtain ⟨n96, e, l⟩ := h
  rw [x_X9_next, e, ha]
  by_cases z : a < n
  · have ca : (nI a).toNatClampNeg = a := nI_clamp (by omega)
    rw [if_neg (show ¬ nI n ≤ nI a from nI_ge z (by omega)), if_pos (p_inb (show a < 96 by omega) (by decide)), ca, (l a z).1, if_pos z]
  · rw [if_pos ((p_le (by omega) (by omega)).mpr (by omega)), if_neg z]
theorem fq_25 (s : g_M) (v : Int32) : fq s (g_upd s 41 25 v) := ⟨fun c a _ _ _ => g_upd_ne a, fun f a _ => by rw [g_upd_get, if_neg (fun q => a q.2)]⟩
theorem py_dstep {s : g_M} {L : Nat → Nat} {n a : Nat} (h : isY s L n) (ha : s 41 25 = nI a) (h2 : a ≤ 500) (x v : Int32) {d i : Nat} (hi : i < d) (hd : d ≤ 2) (fuel : Nat) : (isD9 L n a ∧ x_X9_readsDigits_L5 (fuel + 1) x (nI d) v (nI i) s = x_X9_readsDigits_L5 fuel x (nI d) (10 * v + nI (L a) - 48) (nI (i + 1)) (g_upd s 41 25 (nI (a + 1)))) ∨ (¬ isD9 L n a ∧ x_X9_readsDigits_L5 (fuel + 1) x (nI d) v (nI i) s = some (0, s)) := by
  have nx := py_next h ha (by omega)
  have red : x_X9_readsDigits_L5 (fuel + 1) x (nI d) v (nI i) s = (x_X9_isIn (if a < n then nI (L a) else -1) 48 57 s).bind fun u4 => if u4.1 = 0 then (some ((0 : Int32), u4.2)) else (((x_X9_next u4.2).bind fun u6 => x_X9_readsDigits_L5 fuel x (nI d) ((((10 : Int32) * v) + u6.1) - (48 : Int32)) (nI i + (1 : Int32)) (g_upd u6.2 41 25 ((u6.2 41 25) + (1 : Int32))))) := by
    rw [x_X9_readsDigits_L5, if_neg (show ¬ nI d ≤ nI i from nI_ge hi (by omega))]
    exact bnd nx _
  rw [red]
  by_cases z : isD9 L n a
  · left
    refine ⟨z, ?_⟩
    have q : x_X9_isIn (if a < n then nI (L a) else -1) 48 57 s = some (1, s) := by
      rw [py_isIn, if_pos z.1, if_pos ⟨(p_le (a := 48) (by decide) (by have := z.2.2; omega)).mpr z.2.1, (p_le (b := 57) (by have := z.2.2; omega) (by decide)).mpr z.2.2⟩]
    refine (bnd q _).trans ?_
    dsimp only
    rw [if_neg (show ¬ (1 : Int32) = 0 by decide)]
    refine (bnd nx _).trans ?_
    dsimp only
    rw [if_pos z.1, ha, ← nI_succ, ← nI_succ]
  · right
    refine ⟨z, ?_⟩
    have q : x_X9_isIn (if a < n then nI (L a) else -1) 48 57 s = some (0, s) := by
      rw [py_isIn]
      by_cases y : a < n
      · have l255 := (h.2.2 a y).2
        rw [if_pos y, if_neg]
        rintro ⟨q1, q2⟩
        exact z ⟨y, (p_le (a := 48) (by decide) (by omega)).mp q1, (p_le (b := 57) (by omega) (by decide)).mp q2⟩
      · rw [if_neg y, if_neg (by decide)]
    refine (bnd q _).trans ?_
    rfl
theorem py_dend {d : Nat} (hd : d ≤ 2) {x : Nat} (hx : x < 336) (v : Int32) (s : g_M) (fuel : Nat) : x_X9_readsDigits_L5 (fuel + 1) (nI x) (nI d) v (nI d) s = some (1, g_upd s 60 x v) := by
  have cx : (nI x).toNatClampNeg = x := nI_clamp (by omega)
  rw [x_X9_readsDigits_L5, if_pos (Int32.le_refl _), if_pos (p_inb hx (by decide)), cx]
def nvd (L : Nat → Nat) (d a : Nat) : Nat := if d = 1 then nv1 L a else nv2 L a
theorem py_digits {s : g_M} {L : Nat → Nat} {n a x d : Nat} (h : isY s L n) (ha : s 41 25 = nI a) (h2 : a ≤ 400) (hx : x < 336) (hd : d = 1 ∨ d = 2) : (∃ s', x_X9_readsDigits (nI x) (nI d) s = some (1, s') ∧ (∀ i, i < d → isD9 L n (a + i)) ∧ fq s s' ∧ s' 41 26 = s 41 26 ∧ s' 41 25 = nI (a + d) ∧ s' 60 x = nI (nvd L d a) ∧ (∀ y, y ≠ x → s' 60 y = s 60 y) ∧ s' 58 = s 58 ∧ s' 59 = s 59) ∨ (∃ s' i, x_X9_readsDigits (nI x) (nI d) s = some (0, s') ∧ i < d ∧ (∀ j, j < i → isD9 L n (a + j)) ∧ ¬ isD9 L n (a + i) ∧ fq s s' ∧ s' 41 25 = nI (a + i)) := by
  have b26 : ∀ v, g_upd s 41 25 v 41 26 = s 41 26 := fun v => by rw [g_upd_get, if_neg (fun q => absurd q.2 (by decide))]
  have s25 : ∀ v, g_upd s 41 25 v 41 25 = v := fun v => by rw [g_upd_get, if_pos ⟨rfl, rfl⟩]
  have h1 := isY_fq h (fq_25 s (nI (a + 1)))
  rcases hd with rfl | rfl
  · have e : x_X9_readsDigits (nI x) (nI 1) s = x_X9_readsDigits_L5 (19998 + 1 + 1) (nI x) (nI 1) 0 (nI 0) s := rfl
    rw [e]
    rcases py_dstep h ha (by omega) (nI x) 0 (d := 1) (i := 0) (by decide) (by decide) (19998 + 1) with ⟨z, q⟩ | ⟨z, q⟩
    · left
      have v : 10 * (0 : Int32) + nI (L a) - 48 = nI (nvd L 1 a) := by
        rw [show 10 * (0 : Int32) = 0 by decide, Int32.zero_add, show (48 : Int32) = nI 48 from rfl, p_sub z.2.1]
        rfl
      rw [q, v, py_dend (by decide) hx]
      refine ⟨_, rfl, fun i hi => by obtain rfl : i = 0 := by omega
                                     exact z, fq_tr (fq_25 s (nI (a + 1))) ⟨fun c _ _ _ e => g_upd_ne e, fun f _ _ => by rw [g_upd_ne (by decide)]⟩, by rw [g_upd_ne (by decide)]; exact b26 _, by rw [g_upd_ne (by decide)]; exact s25 _, by rw [g_upd_get, if_pos ⟨rfl, rfl⟩], fun y hy => by rw [g_upd_get, if_neg (fun q => hy q.2), g_upd_ne (by decide)], by rw [g_upd_ne (by decide), g_upd_ne (by decide)], by rw [g_upd_ne (by decide), g_upd_ne (by decide)]⟩
    · right
      exact ⟨s, 0, q, by decide, fun j hj => absurd hj (by omega), z, fq_rf s, ha⟩
  · have e : x_X9_readsDigits (nI x) (nI 2) s = x_X9_readsDigits_L5 (19997 + 1 + 1 + 1) (nI x) (nI 2) 0 (nI 0) s := rfl
    rw [e]
    rcases py_dstep h ha (by omega) (nI x) 0 (d := 2) (i := 0) (by decide) (by decide) (19997 + 1 + 1) with ⟨z, q⟩ | ⟨z, q⟩
    rotate_left
    · right
      exact ⟨s, 0, q, by decide, fun j hj => absurd hj (by omega), z, fq_rf s, ha⟩
    have v : 10 * (0 : Int32) + nI (L a) - 48 = nI (L a - 48) := by
      rw [show 10 * (0 : Int32) = 0 by decide, Int32.zero_add, show (48 : Int32) = nI 48 from rfl, p_sub z.2.1]
    rw [q, v]
    rcases py_dstep h1 (s25 _) (by omega) (nI x) (nI (L a - 48)) (d := 2) (i := 1) (by decide) (by decide) (19997 + 1) with ⟨z2, q2⟩ | ⟨z2, q2⟩
    · left
      have v2 : 10 * nI (L a - 48) + nI (L (a + 1)) - 48 = nI (nvd L 2 a) := by
        have := z2.2
        rw [show (48 : Int32) = nI 48 from rfl, show (10 : Int32) = nI 10 from rfl, p_mul, p_add, p_sub (by omega)]
        show _ = nI (nv2 L a)
        rw [show 10 * (L a - 48) + L (a + 1) - 48 = nv2 L a by unfold nv2; omega]
      rw [q2, v2, py_dend (by decide) hx]
      refine ⟨_, rfl, fun i hi => ?_, fq_tr (fq_tr (fq_25 s (nI (a + 1))) (fq_25 _ (nI (a + 1 + 1)))) ⟨fun c _ _ _ e => g_upd_ne e, fun f _ _ => by rw [g_upd_ne (by decide)]⟩, by rw [g_upd_ne (by decide), g_upd_get, if_neg (fun q => absurd q.2 (by decide))]; exact b26 _, by rw [g_upd_ne (by decide), g_upd_get, if_pos ⟨rfl, rfl⟩], by rw [g_upd_get, if_pos ⟨rfl, rfl⟩], fun y hy => by rw [g_upd_get, if_neg (fun q => hy q.2), g_upd_ne (by decide), g_upd_ne (by decide)], by rw [g_upd_ne (by decide), g_upd_ne (by decide), g_upd_ne (by decide)], by rw [g_upd_ne (by decide), g_upd_ne (by decide), g_upd_ne (by decide)]⟩
      rcases (show i = 0 ∨ i = 1 by omega) with rfl | rfl
      · exact z
      · exact z2
    · right
      refine ⟨_, 1, q2, by decide, fun j hj => ?_, z2, fq_25 s _, s25 _⟩
      obtain rfl : j = 0 := by omega
      exact z
/-- a place of a statement fits -/
def okJ (L : Nat → Nat) (n p w j : Nat) : Prop := p + 1 + j < n ∧ fitN w j (L (p + 1 + j)) = true
theorem okJ_d {L : Nat → Nat} {n p w j : Nat} (hj : j + 1 < g_sl w) (hj2 : ¬ (w = 1 ∧ j = 2)) : okJ L n p w j ↔ isD9 L n (p + 1 + j) := by
  unfold okJ fitN isD9
  rw [if_neg (by omega), if_neg hj2, decide_eq_true_eq]
/-- told numbers -/
def tv (L : Nat → Nat) (w p i : Nat) : Int32 := if w = 0 then (if i = 0 then nI (nv2 L (p + 1)) else nI (nv2 L (p + 3))) else if w = 1 then (if i = 0 then nI (nv2 L (p + 1)) else if L (p + 3) = 45 then -nI (nv1 L (p + 4)) else nI (nv1 L (p + 4))) else if w = 2 then nI (bv L p i) else if w = 3 then (if i = 0 then nI (nv1 L (p + 1)) else nI (nv2 L (p + 2))) else nI (nv2 L (p + 1))
def GI (L : Nat → Nat) (n w p m : Nat) (s0 s : g_M) (o i : Nat) : Prop := fq s0 s ∧ s 41 26 = s0 41 26 ∧ s 41 25 = nI (p + 1 + o) ∧ (∀ j, j < o → okJ L n p w j) ∧ (∀ k, k < i → s 60 (7 * m + k) = tv L w p k) ∧ (∀ x, x < 7 * m → s 60 x = s0 60 x) ∧ s 58 = s0 58 ∧ s 59 = s0 59
def FI (L : Nat → Nat) (n w p : Nat) (s0 s : g_M) : Prop := fq s0 s ∧ ∃ j, j < g_sl w ∧ (∀ k, k < j → okJ L n p w k) ∧ ¬ okJ L n p w j ∧ s 41 25 = nI (p + 1 + j)
theorem gi_step {L : Nat → Nat} {n w p m o i d : Nat} {s0 s : g_M} (hY : isY s0 L n) (hp : p ≤ 100) (hm : m ≤ 40) (hi : i < 7) (h : GI L n w p m s0 s o i) (hd : d = 1 ∨ d = 2) (hw : w < 6) (ho : o + d < g_sl w) (hs : w = 1 → o + d ≤ 2 ∨ 3 ≤ o) (hv : tv L w p i = nI (nvd L d (p + 1 + o)) ) : (∃ s', x_X9_readsDigits (nI (7 * m + i)) (nI d) s = some (1, s') ∧ GI L n w p m s0 s' (o + d) (i + 1)) ∨ (∃ s', x_X9_readsDigits (nI (7 * m + i)) (nI d) s = some (0, s') ∧ FI L n w p s0 s') := by
  obtain ⟨g1, g26, g2, g3, g4, g5, g58, g59⟩ := h
  have s11 := (sl_t w hw).1
  rcases py_digits (isY_fq hY g1) g2 (by omega) (x := 7 * m + i) (by omega) hd with ⟨s', a1, a2, a3, a26, a4, a5, a6, a7, a8⟩ | ⟨s', j, a1, a2, a3, a4, a5, a6⟩
  · left
    refine ⟨s', a1, fq_tr g1 a3, by rw [a26, g26], by rw [a4, Nat.add_assoc], fun j hj => ?_, fun k hk => ?_, fun x hx => by rw [a6 x (by omega), g5 x hx], by rw [a7, g58], by rw [a8, g59]⟩
    · by_cases z : j < o
      · exact g3 j z
      · rw [okJ_d (by omega) (fun q => by have := hs q.1; omega)]
        have := a2 (j - o) (by omega)
        rw [show p + 1 + o + (j - o) = p + 1 + j by omega] at this
        exact this
    · by_cases z : k = i
      · subst z; rw [a5, hv]
      · rw [a6 _ (by omega)]; exact g4 k (by omega)
  · right
    refine ⟨s', a1, fq_tr g1 a5, o + j, by omega, fun k hk => ?_, ?_, by rw [a6, Nat.add_assoc]⟩
    · by_cases z : k < o
      · exact g3 k z
      · rw [okJ_d (by omega) (fun q => by have := hs q.1; omega)]
        have := a3 (k - o) (by omega)
        rw [show p + 1 + o + (k - o) = p + 1 + k by omega] at this
        exact this
    · rw [okJ_d (by omega) (fun q => by have := hs q.1; omega), ← Nat.add_assoc]
      exact a4
def nt (w : Nat) : Nat := if w = 2 then 7 else if w = 4 then 1 else 2
def reads (L : Nat → Nat) (n w p m : Nat) (s0 : g_M) (x : Option (Int32 × g_M)) : Prop := (∃ s', x = some (1, s') ∧ GI L n w p m s0 s' (g_sl w - 1) (nt w)) ∨ (∃ s', x = some (0, s') ∧ FI L n w p s0 s')
theorem py_readsAll {L : Nat → Nat} {n p m : Nat} {s0 : g_M} (hY : isY s0 L n) (hp : p < n) (hm : m ≤ 40) (ha : s0 41 25 = nI (p + 1)) (hv : shp (L p) ≠ 5) : reads L n (shp (L p)) p m s0 (x_X9_readsAll (nI (L p)) (nI (7 * m)) s0) := by
  have n96 := hY.1
  have l255 := (hY.2.2 p hp).2
  have G0 : ∀ w, GI L n w p m s0 s0 0 0 := fun w => ⟨fq_rf s0, rfl, ha, fun j hj => absurd hj (by omega), fun k hk => absurd hk (by omega), fun _ _ => rfl, rfl, rfl⟩
  have m0 : nI (7 * m) = nI (7 * m + 0) := rfl
  have m1 : nI (7 * m) + 1 = nI (7 * m + 1) := (nI_succ ..).symm
  have wrap : ∀ w (x : Option (Int32 × g_M)), reads L n w p m s0 x → reads L n w p m s0 (x.bind fun u => if g_isb u.1 = true then some (u.1, u.2) else none) := by
    rintro w x (⟨s', rfl, c⟩ | ⟨s', rfl, c⟩)
    · exact Or.inl ⟨s', rfl, c⟩
    · exact Or.inr ⟨s', rfl, c⟩
  have two : ∀ w d1 d2, (d1 = 1 ∨ d1 = 2) → (d2 = 1 ∨ d2 = 2) → w < 6 → w ≠ 1 → d1 + d2 + 1 = g_sl w → nt w = 2 → tv L w p 0 = nI (nvd L d1 (p + 1 + 0)) → tv L w p 1 = nI (nvd L d2 (p + 1 + (0 + d1))) → reads L n w p m s0 ((x_X9_readsDigits (nI (7 * m)) (nI d1) s0).bind fun u10 => if u10.1 = 0 then (some ((0 : Int32), u10.2)) else (((x_X9_readsDigits (nI (7 * m) + (1 : Int32)) (nI d2) u10.2).bind fun u12 => if u12.1 = 0 then (some ((0 : Int32), u12.2)) else (some ((1 : Int32), u12.2))))) := by
    intro w d1 d2 h1 h2 hw hw1 hl ht t0 t1
    rcases gi_step hY (by omega) hm (by decide) (G0 w) h1 hw (by omega) (fun q => absurd q hw1) t0 with ⟨s1, a1, a2⟩ | ⟨s1, a1, a2⟩
    · rcases gi_step hY (by omega) hm (by decide) a2 h2 hw (by omega) (fun q => absurd q hw1) t1 with ⟨s2, b1, b2⟩ | ⟨s2, b1, b2⟩
      · left
        refine ⟨s2, ?_, by rw [ht, show g_sl w - 1 = 0 + d1 + d2 by omega]; exact b2⟩
        refine (bnd a1 _).trans ?_
        dsimp only
        rw [if_neg (show ¬ (1 : Int32) = 0 by decide), m1]
        refine (bnd b1 _).trans ?_
        rfl
      · right
        refine ⟨s2, ?_, b2⟩
        refine (bnd a1 _).trans ?_
        dsimp only
        rw [if_neg (show ¬ (1 : Int32) = 0 by decide), m1]
        refine (bnd b1 _).trans ?_
        rfl
    · right
      refine ⟨s1, ?_, a2⟩
      refine (bnd a1 _).trans ?_
      rfl
  rw [x_X9_readsAll]
  rcases shp_v hv with l | l | l | l | l | l
  · -- a boat
    have sw : shp (L p) = 2 := by rw [l]; rfl
    rw [sw, if_pos (show nI (L p) = (98 : Int32) by rw [l]; rfl)]
    refine wrap 2 _ ?_
    have sl : g_sl 2 = 11 := by decide
    unfold x_X9_readsBoat
    rw [show x_X9_readsBoat_L2 g_F (nI (7 * m)) 0 s0 = x_X9_readsBoat_L2 g_F (nI (7 * m)) (nI 0) s0 by rfl]
    let of : Nat → Nat := fun k => if k ≤ 4 then k else 2 * k - 4
    refine p_loop0 (n := 7) (F := fun k fuel s => x_X9_readsBoat_L2 fuel (nI (7 * m)) (nI k) s) (I := fun k s => GI L n 2 p m s0 s (if k ≤ 4 then k else 2 * k - 4) k) (R := fun x => reads L n 2 p m s0 x) (s := s0) (by decide) (G0 2) ?_ ?_
    · intro s fuel hI
      left
      refine ⟨s, ?_, by rw [sl]; exact hI⟩
      show x_X9_readsBoat_L2 (fuel + 1) _ (nI 7) s = _
      rw [x_X9_readsBoat_L2, if_pos (by decide)]
    · intro k s fuel hk hI
      have ek : nI (7 * m) + nI k = nI (7 * m + k) := p_add
      have red : ∀ d : Nat, (k < 4 → d = 1) → (4 ≤ k → d = 2) → x_X9_readsBoat_L2 (fuel + 1) (nI (7 * m)) (nI k) s = (x_X9_readsDigits (nI (7 * m + k)) (nI d) s).bind fun u1 => if u1.1 = 0 then (some ((0 : Int32), u1.2)) else (x_X9_readsBoat_L2 fuel (nI (7 * m)) (nI (k + 1)) u1.2) := by
        intro d h1 h2
        rw [x_X9_readsBoat_L2, if_neg (show ¬ (7 : Int32) ≤ nI k from nI_ge hk (by decide)), ek, nI_succ k]
        by_cases z : 4 ≤ k
        · obtain rfl := h2 z
          rw [if_pos (show (4 : Int32) ≤ nI k from (p_le (a := 4) (by decide) (by omega)).mpr z), x_X9_readsBoat_L22]
          rfl
        · obtain rfl := h1 (by omega)
          rw [if_neg (show ¬ (4 : Int32) ≤ nI k from fun q => z ((p_le (a := 4) (by decide) (by omega)).mp q)), x_X9_readsBoat_L22]
          rfl
      have stp : ∀ d : Nat, (k < 4 → d = 1) → (4 ≤ k → d = 2) → (d = 1 ∨ d = 2) → tv L 2 p k = nI (nvd L d (p + 1 + (if k ≤ 4 then k else 2 * k - 4))) → (if k ≤ 4 then k else 2 * k - 4) + d = (if k + 1 ≤ 4 then k + 1 else 2 * (k + 1) - 4) → (reads L n 2 p m s0 (x_X9_readsBoat_L2 (fuel + 1) (nI (7 * m)) (nI k) s) ∨ ∃ s', GI L n 2 p m s0 s' (if k + 1 ≤ 4 then k + 1 else 2 * (k + 1) - 4) (k + 1) ∧ x_X9_readsBoat_L2 (fuel + 1) (nI (7 * m)) (nI k) s = x_X9_readsBoat_L2 fuel (nI (7 * m)) (nI (k + 1)) s') := by
        intro d h1 h2 hd ht ho
        rw [red d h1 h2]
        rcases gi_step hY (by omega) hm hk hI hd (by decide) (by rw [sl, ho]; split <;> omega) (fun q => absurd q (by decide)) ht with ⟨s1, a1, a2⟩ | ⟨s1, a1, a2⟩
        · right
          refine ⟨s1, by rw [← ho]; exact a2, ?_⟩
          refine (bnd a1 _).trans ?_
          dsimp only
          rw [if_neg (show ¬ (1 : Int32) = 0 by decide)]
        · left
          right
          refine ⟨s1, ?_, a2⟩
          refine (bnd a1 _).trans ?_
          rfl
      rcases (show k = 0 ∨ k = 1 ∨ k = 2 ∨ k = 3 ∨ k = 4 ∨ k = 5 ∨ k = 6 by omega) with rfl | rfl | rfl | rfl | rfl | rfl | rfl
      · exact stp 1 (fun _ => rfl) (fun q => absurd q (by decide)) (Or.inl rfl) rfl rfl
      · exact stp 1 (fun _ => rfl) (fun q => absurd q (by decide)) (Or.inl rfl) rfl rfl
      · exact stp 1 (fun _ => rfl) (fun q => absurd q (by decide)) (Or.inl rfl) rfl rfl
      · exact stp 1 (fun _ => rfl) (fun q => absurd q (by decide)) (Or.inl rfl) rfl rfl
      · exact stp 2 (fun q => absurd q (by decide)) (fun _ => rfl) (Or.inr rfl) rfl rfl
      · exact stp 2 (fun q => absurd q (by decide)) (fun _ => rfl) (Or.inr rfl) rfl rfl
      · exact stp 2 (fun q => absurd q (by decide)) (fun _ => rfl) (Or.inr rfl) rfl rfl
  · have sw : shp (L p) = 4 := by rw [l]; rfl
    have sl : g_sl 4 = 3 := by decide
    rw [sw, if_neg (by rw [l]; decide), if_neg (by rw [l]; decide), if_neg (by rw [l]; decide), if_neg (by rw [l]; decide), if_neg (by rw [l]; decide)]
    refine wrap 4 _ ?_
    rcases gi_step hY (by omega) hm (by decide) (G0 4) (d := 2) (Or.inr rfl) (by decide) (by rw [sl]; decide) (fun q => absurd q (by decide)) rfl with ⟨s1, a1, a2⟩ | ⟨s1, a1, a2⟩
    · exact Or.inl ⟨s1, a1, by rw [sl]; exact a2⟩
    · exact Or.inr ⟨s1, a1, a2⟩
  · have sw : shp (L p) = 3 := by rw [l]; rfl
    rw [sw, if_neg (by rw [l]; decide), if_pos (show nI (L p) = (108 : Int32) by rw [l]; rfl)]
    exact two 3 1 2 (Or.inl rfl) (Or.inr rfl) (by decide) (by decide) (by decide) rfl rfl rfl
  · have sw : shp (L p) = 0 := by rw [l]; rfl
    rw [sw, if_neg (by rw [l]; decide), if_neg (by rw [l]; decide), if_pos (show nI (L p) = (114 : Int32) by rw [l]; rfl)]
    exact two 0 2 2 (Or.inr rfl) (Or.inr rfl) (by decide) (by decide) (by decide) rfl rfl rfl
  · have sw : shp (L p) = 0 := by rw [l]; rfl
    rw [sw, if_neg (by rw [l]; decide), if_neg (by rw [l]; decide), if_neg (by rw [l]; decide), if_pos (show nI (L p) = (116 : Int32) by rw [l]; rfl)]
    exact two 0 2 2 (Or.inr rfl) (Or.inr rfl) (by decide) (by decide) (by decide) rfl rfl rfl
  · -- wind
    have sw : shp (L p) = 1 := by rw [l]; rfl
    have sl : g_sl 1 = 5 := by decide
    rw [sw, if_neg (by rw [l]; decide), if_neg (by rw [l]; decide), if_neg (by rw [l]; decide), if_neg (by rw [l]; decide), if_pos (show nI (L p) = (119 : Int32) by rw [l]; rfl)]
    refine wrap 1 _ ?_
    have red : x_X9_readsWind (nI (7 * m)) s0 = (x_X9_readsDigits (nI (7 * m + 0)) (nI 2) s0).bind fun u7 => if u7.1 = 0 then (some ((0 : Int32), u7.2)) else (((x_X9_next u7.2).bind fun u9 => if u9.1 = (43 : Int32) then (x_X9_readsWind_L38 (nI (7 * m)) (1 : Int32) u9.2) else (((x_X9_next u9.2).bind fun u11 => if u11.1 = (45 : Int32) then (x_X9_readsWind_L38 (nI (7 * m)) (-1 : Int32) u11.2) else (x_X9_readsWind_L38 (nI (7 * m)) (0 : Int32) u11.2))))) := rfl
    rw [red]
    rcases gi_step hY (by omega) hm (by decide) (G0 1) (d := 2) (Or.inr rfl) (by decide) (by rw [sl]; decide) (fun _ => Or.inl (by decide)) rfl with ⟨s1, a1, a2⟩ | ⟨s1, a1, a2⟩
    rotate_left
    · right
      refine ⟨s1, ?_, a2⟩
      refine (bnd a1 _).trans ?_
      rfl
    obtain ⟨g1, g26, g2, g3, g4, g5, g58, g59⟩ := a2
    have Y1 := isY_fq hY g1
    have nx := py_next Y1 g2 (by omega)
    have ok2 : okJ L n p 1 2 ↔ p + 3 < n ∧ (L (p + 3) = 43 ∨ L (p + 3) = 45) := by
      unfold okJ fitN
      rw [sl, if_neg (by decide), if_pos ⟨rfl, rfl⟩, decide_eq_true_eq]
    have e3 : p + 1 + (0 + 2) = p + 3 := by omega
    rw [e3] at nx g2
    have top : ∀ x, ((x_X9_next s1).bind fun u9 => if u9.1 = (43 : Int32) then (x_X9_readsWind_L38 (nI (7 * m)) (1 : Int32) u9.2) else (((x_X9_next u9.2).bind fun u11 => if u11.1 = (45 : Int32) then (x_X9_readsWind_L38 (nI (7 * m)) (-1 : Int32) u11.2) else (x_X9_readsWind_L38 (nI (7 * m)) (0 : Int32) u11.2)))) = x → (x_X9_readsDigits (nI (7 * m + 0)) (nI 2) s0).bind (fun u7 => if u7.1 = 0 then (some ((0 : Int32), u7.2)) else (((x_X9_next u7.2).bind fun u9 => if u9.1 = (43 : Int32) then (x_X9_readsWind_L38 (nI (7 * m)) (1 : Int32) u9.2) else (((x_X9_next u9.2).bind fun u11 => if u11.1 = (45 : Int32) then (x_X9_readsWind_L38 (nI (7 * m)) (-1 : Int32) u11.2) else (x_X9_readsWind_L38 (nI (7 * m)) (0 : Int32) u11.2)))))) = x := by
      intro x hx
      refine (bnd a1 _).trans ?_
      exact hx
    by_cases z : p + 3 < n ∧ (L (p + 3) = 43 ∨ L (p + 3) = 45)
    rotate_left
    · right
      refine ⟨s1, top _ ?_, g1, 2, by rw [sl]; decide, fun k hk => g3 k (by omega), fun q => z (ok2.mp q), by rw [g2]⟩
      have ne : ∀ c, (c = 43 ∨ c = 45) → ¬ (if p + 3 < n then nI (L (p + 3)) else -1) = nI c := fun c hc => by
        by_cases y : p + 3 < n
        · rw [if_pos y]
          have l3 := (hY.2.2 _ y).2
          exact fun q => z ⟨y, by have := (p_eq (by omega) (by omega)).mp q; omega⟩
        · rw [if_neg y]
          rcases hc with rfl | rfl <;> decide
      refine (bnd nx _).trans ?_
      refine Eq.trans (if_neg (ne 43 (Or.inl rfl))) ?_
      refine (bnd nx _).trans ?_
      refine Eq.trans (if_neg (ne 45 (Or.inr rfl))) ?_
      rw [x_X9_readsWind_L38, if_pos rfl]
    · have p3 := z.1
      have l3 := (hY.2.2 _ p3).2
      rw [if_pos p3] at nx
      have ms : (x_X9_next s1).bind (fun u9 => if u9.1 = (43 : Int32) then (x_X9_readsWind_L38 (nI (7 * m)) (1 : Int32) u9.2) else (((x_X9_next u9.2).bind fun u11 => if u11.1 = (45 : Int32) then (x_X9_readsWind_L38 (nI (7 * m)) (-1 : Int32) u11.2) else (x_X9_readsWind_L38 (nI (7 * m)) (0 : Int32) u11.2)))) = x_X9_readsWind_L38 (nI (7 * m)) (if L (p + 3) = 45 then -1 else 1) s1 := by
        refine (bnd nx _).trans ?_
        rcases z.2 with y | y
        · refine Eq.trans (if_pos (show nI (L (p + 3)) = (43 : Int32) by rw [y]; rfl)) ?_
          rw [if_neg (by omega)]
        · refine Eq.trans (if_neg (show ¬ nI (L (p + 3)) = (43 : Int32) by rw [y]; decide)) ?_
          refine (bnd nx _).trans ?_
          refine Eq.trans (if_pos (show nI (L (p + 3)) = (45 : Int32) by rw [y]; rfl)) ?_
          rw [if_pos y]
      have nz : ¬ (if L (p + 3) = 45 then (-1 : Int32) else 1) = 0 := by split <;> decide
      have f25 := fq_25 s1 (nI (p + 4))
      have Y2 := isY_fq Y1 f25
      have at2 : g_upd s1 41 25 (nI (p + 4)) 41 25 = nI (p + 4) := by rw [g_upd_get, if_pos ⟨rfl, rfl⟩]
      have l38 : x_X9_readsWind_L38 (nI (7 * m)) (if L (p + 3) = 45 then -1 else 1) s1 = (x_X9_readsDigits (nI (7 * m + 1)) (nI 1) (g_upd s1 41 25 (nI (p + 4)))).bind fun u1 => if u1.1 = 0 then (some ((0 : Int32), u1.2)) else (some ((1 : Int32), (g_upd u1.2 60 (7 * m + 1) ((u1.2 60 (7 * m + 1)) * (if L (p + 3) = 45 then -1 else 1))))) := by
        have c1 : (nI (7 * m + 1)).toNatClampNeg = 7 * m + 1 := nI_clamp (by omega)
        have b1 := p_inb (show 7 * m + 1 < 336 by omega) (by decide : (336 : Nat) < 2 ^ 31)
        rw [x_X9_readsWind_L38, if_neg nz, m1, g2, ← nI_succ]
        simp only [b1, c1, if_true]
        rfl
      rcases py_digits Y2 at2 (by omega) (x := 7 * m + 1) (by omega) (d := 1) (Or.inl rfl) with ⟨s2, b1, b2, b3, b26, b4, b5, b6, b7, b8⟩ | ⟨s2, j, b1, b2, b3, b4, b5, b6⟩
      · left
        have d4 := b2 0 (by decide)
        rw [Nat.add_zero] at d4
        refine ⟨g_upd s2 60 (7 * m + 1) (s2 60 (7 * m + 1) * (if L (p + 3) = 45 then -1 else 1)), top _ (ms.trans (l38.trans ((bnd b1 _).trans rfl))), ?_⟩
        refine ⟨fq_tr g1 (fq_tr f25 (fq_tr b3 ⟨fun c _ _ _ e => g_upd_ne e, fun f _ _ => by rw [g_upd_ne (by decide)]⟩)), by rw [g_upd_ne (by decide), b26, g_upd_get, if_neg (fun q => absurd q.2 (by decide)), g26], by rw [g_upd_ne (by decide), b4, sl], fun j hj => ?_, fun k hk => ?_, fun x hx => by rw [g_upd_get, if_neg (fun q => by have := q.2; omega), b6 x (by omega), g_upd_ne (by decide), g5 x hx], by rw [g_upd_ne (by decide), b7, g_upd_ne (by decide), g58], by rw [g_upd_ne (by decide), b8, g_upd_ne (by decide), g59]⟩
        · rw [sl] at hj
          rcases (show j < 2 ∨ j = 2 ∨ j = 3 by omega) with q | rfl | rfl
          · exact g3 j q
          · exact ok2.mpr z
          · rw [okJ_d (by rw [sl]; decide) (by decide), show p + 1 + 3 = p + 4 by omega]
            exact d4
        · rcases (show k = 0 ∨ k = 1 by have : k < 2 := hk; omega) with rfl | rfl
          · rw [g_upd_get, if_neg (fun q => by have := q.2; omega), b6 _ (by omega), g_upd_ne (by decide)]
            exact g4 0 (by decide)
          · rw [g_upd_get, if_pos ⟨rfl, rfl⟩, b5]
            show nI (nv1 L (p + 4)) * _ = (if L (p + 3) = 45 then -nI (nv1 L (p + 4)) else nI (nv1 L (p + 4)))
            by_cases y : L (p + 3) = 45
            · rw [if_pos y, if_pos y]; grind
            · rw [if_neg y, if_neg y]; grind
      · right
        obtain rfl : j = 0 := by omega
        rw [Nat.add_zero] at b4 b6
        refine ⟨s2, top _ (ms.trans (l38.trans ((bnd b1 _).trans rfl))), fq_tr g1 (fq_tr f25 b5), 3, by rw [sl]; decide, fun k hk => ?_, ?_, by rw [b6]⟩
        · rcases (show k < 2 ∨ k = 2 by omega) with q | rfl
          · exact g3 k q
          · exact ok2.mpr z
        · rw [okJ_d (by rw [sl]; decide) (by decide), show p + 1 + 3 = p + 4 by omega]
          exact b4
