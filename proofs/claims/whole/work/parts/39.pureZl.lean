/-! THE PURE PART. ZL: statements one behind the other -/
theorem ff_at {p : Nat → Bool} {r : Nat → Int32} {d : Int32} {n q : Nat} (h : q < n) (h1 : p q = true) (h2 : ∀ j, j < q → p j = false) : ff p r d n 0 = r q := by
  rcases ff_spec p r d n with ⟨i, a, b, c, e⟩ | ⟨a, e⟩
  · have : i = q := by
      rcases Nat.lt_trichotomy i q with z | z | z
      · rw [h2 i z] at b; cases b
      · exact z
      · rw [c q z] at h1; cases h1
    rw [e, this]
  · rw [a q h] at h1; cases h1
theorem ff_no {p : Nat → Bool} {r : Nat → Int32} {d : Int32} {n : Nat} (h : ∀ j, j < n → p j = false) : ff p r d n 0 = d := by
  rcases ff_spec p r d n with ⟨i, a, b, c, e⟩ | ⟨a, e⟩
  · rw [h i a] at b; cases b
  · exact e
theorem st_seg {L : Nat → Nat} {p : Nat} (hp : st L p = p) : (∀ j, j ≤ g_sl (shp (L p)) → st L (p + j) = p) ∧ st L (p + 1 + g_sl (shp (L p))) = p + 1 + g_sl (shp (L p)) := by
  have a : ∀ j, j ≤ g_sl (shp (L p)) → st L (p + j) = p := by
    intro j
    induction j with
    | zero => intro _; exact hp
    | succ j ih =>
      intro hj
      have i := ih (by omega)
      rw [← Nat.add_assoc, st, i, if_neg (by omega)]
  refine ⟨a, ?_⟩
  have b := a _ (Nat.le_refl _)
  rw [show p + 1 + g_sl (shp (L p)) = p + g_sl (shp (L p)) + 1 by omega, st, b, if_pos (by omega)]
theorem okA_seg {L : Nat → Nat} {p : Nat} (hp : st L p = p) : okA L p = decide (shp (L p) ≠ 5) ∧ ∀ j, j < g_sl (shp (L p)) → okA L (p + 1 + j) = fitN (shp (L p)) j (L (p + 1 + j)) := by
  constructor
  · unfold okA
    rw [if_pos hp.symm]
  · intro j hj
    have s := (st_seg hp).1 (1 + j) (by omega)
    rw [← Nat.add_assoc] at s
    unfold okA
    rw [s, if_neg (by omega), show p + 1 + j - p - 1 = j by omega]
theorem okA_stmt {L : Nat → Nat} {n p : Nat} (hp : st L p = p) (hS : okS L n p) : ∀ a, p ≤ a → a < p + 1 + g_sl (shp (L p)) → okA L a = true := by
  intro a h1 h2
  obtain ⟨s1, s2⟩ := okA_seg hp
  by_cases z : a = p
  · rw [z, s1]; exact decide_eq_true hS.2.1
  · have := s2 (a - p - 1) (by omega)
    rw [show p + 1 + (a - p - 1) = a by omega] at this
    rw [this]
    have q := (hS.2.2 (a - p - 1) (by omega)).2
    rw [show p + 1 + (a - p - 1) = a by omega] at q
    exact q
def failS (L : Nat → Nat) (n p q : Nat) : Prop := (q = p ∧ ¬ (p < n ∧ shp (L p) ≠ 5)) ∨ ∃ j, j < g_sl (shp (L p)) ∧ q = p + 1 + j ∧ p < n ∧ shp (L p) ≠ 5 ∧ (∀ k, k < j → okJ L n p (shp (L p)) k) ∧ ¬ okJ L n p (shp (L p)) j
theorem sgp_fail {L : Nat → Nat} {n p q : Nat} (hp : st L p = p) (hb : ∀ a, a < p → okA L a = true) (hpn : p < n ∨ (p = 0 ∧ n = 0)) (h : failS L n p q) : sgp L n = nI q := by
  obtain ⟨s1, s2⟩ := okA_seg hp
  unfold sgp
  rcases h with ⟨e, h⟩ | ⟨j, hj, e, h1, h2, h3, h4⟩
  · rcases hpn with z | ⟨z1, z2⟩
    · rw [e, ff_at (p := fun a => decide (¬ okA L a = true)) z (decide_eq_true (fun q => h ⟨z, by rw [s1] at q; exact of_decide_eq_true q⟩)) (fun j hj => by rw [decide_eq_false_iff_not, Decidable.not_not]; exact hb j hj)]
    · subst z1 z2 e
      rfl
  · have bef' : ∀ a, a < q → okA L a = true := by
      intro a ha
      by_cases z : a < p
      · exact hb a z
      · by_cases y : a = p
        · rw [y, s1]; exact decide_eq_true h2
        · have := s2 (a - p - 1) (by omega)
          rw [show p + 1 + (a - p - 1) = a by omega] at this
          rw [this]
          have q := (h3 (a - p - 1) (by omega)).2
          rw [show p + 1 + (a - p - 1) = a by omega] at q
          exact q
    by_cases z : q < n
    · rw [ff_at (p := fun a => decide (¬ okA L a = true)) z (decide_eq_true (fun y => h4 ⟨by omega, by rw [e, s2 j hj] at y; exact y⟩)) (fun j hj => by rw [decide_eq_false_iff_not, Decidable.not_not]; exact bef' j hj)]
    · have qn : q = n := by
        by_cases y : j = 0
        · omega
        · have := (h3 (j - 1) (by omega)).1
          omega
      rw [ff_no (fun j hj => by rw [decide_eq_false_iff_not, Decidable.not_not]; exact bef' j (by omega))]
      have s := (st_seg hp).1 (1 + j) (by omega)
      rw [← Nat.add_assoc, ← e, qn] at s
      rw [if_pos (Or.inr (by rw [s]; exact h1)), qn]
theorem sgp_ok {L : Nat → Nat} {n : Nat} (hn : 1 ≤ n) (hp : st L n = n) (hb : ∀ a, a < n → okA L a = true) : sgp L n = -9 := by
  unfold sgp
  rw [ff_no (fun j hj => by rw [decide_eq_false_iff_not, Decidable.not_not]; exact hb j hj), if_neg (by omega)]
/-- told of a statement -/
def told (s : g_M) (L : Nat → Nat) (p m : Nat) : Prop := s 58 m = nI (L p) ∧ s 59 m = nI p ∧ ∀ k, k < nt (shp (L p)) → s 60 (7 * m + k) = tv L (shp (L p)) p k
theorem py_statement {s : g_M} {L : Nat → Nat} {n p m : Nat} (hY : isY s L n) (hp : p ≤ n) (hm : m ≤ 30) (e25 : s 41 25 = nI p) (e26 : s 41 26 = nI m) : (∃ s', x_X9_statement s = some (1, s') ∧ okS L n p ∧ fq s s' ∧ s' 41 26 = nI m ∧ s' 41 25 = nI (p + 1 + g_sl (shp (L p))) ∧ told s' L p m ∧ (∀ x, x < m → s' 58 x = s 58 x ∧ s' 59 x = s 59 x) ∧ ∀ x, x < 7 * m → s' 60 x = s 60 x) ∨ (∃ s' q, x_X9_statement s = some (0, s') ∧ fq s s' ∧ s' 41 25 = nI q ∧ failS L n p q) := by
  have n96 := hY.1
  have nx := py_next hY e25 (by omega)
  by_cases z : p < n ∧ shp (L p) ≠ 5
  rotate_left
  · right
    refine ⟨s, p, ?_, fq_rf s, e25, Or.inl ⟨rfl, z⟩⟩
    have no : ∀ k : Nat, (k = 116 ∨ k = 119 ∨ k = 114 ∨ k = 98 ∨ k = 108 ∨ k = 101) → ¬ (if p < n then nI (L p) else -1) = nI k := by
      intro k hk
      by_cases y : p < n
      · rw [if_pos y]
        have l255 := (hY.2.2 p y).2
        intro q
        have e := (p_eq (by omega) (by omega)).mp q
        refine z ⟨y, ?_⟩
        rw [e]
        rcases hk with rfl | rfl | rfl | rfl | rfl | rfl <;> decide
      · rw [if_neg y]
        rcases hk with rfl | rfl | rfl | rfl | rfl | rfl <;> decide
    rw [x_X9_statement]
    refine (bnd nx _).trans ?_
    refine Eq.trans (if_neg (no 116 (by decide))) ?_
    refine Eq.trans (if_neg (no 119 (by decide))) ?_
    refine Eq.trans (if_neg (no 114 (by decide))) ?_
    refine Eq.trans (if_neg (no 98 (by decide))) ?_
    refine Eq.trans (if_neg (no 108 (by decide))) ?_
    exact if_neg (no 101 (by decide))
  obtain ⟨z1, z2⟩ := z
  have l255 := (hY.2.2 p z1).2
  have tab := sl_t _ (shp_5 (L p))
  have cm : (nI m).toNatClampNeg = m := nI_clamp (by omega)
  have bm := p_inb (show m < 48 by omega) (by decide : (48 : Nat) < 2 ^ 31)
  obtain ⟨Q, hQ⟩ : ∃ Q, g_upd (g_upd (g_upd s 58 m (nI (L p))) 59 m (nI p)) 41 25 (nI (p + 1)) = Q := ⟨_, rfl⟩
  have red : x_X9_statement_L43 (nI (L p)) s = (x_X9_readsAll (nI (L p)) (nI (7 * m)) Q).bind fun u3 => if u3.1 = 0 then (some ((0 : Int32), u3.2)) else (((x_X9_next u3.2).bind fun u5 => if u5.1 = (59 : Int32) then (some ((1 : Int32), (g_upd u5.2 41 25 ((u5.2 41 25) + (1 : Int32))))) else (some ((0 : Int32), u5.2)))) := by
    have e7 : (7 : Int32) * nI m = nI (7 * m) := by rw [show (7 : Int32) = nI 7 from rfl, p_mul]
    have ep : nI p + 1 = nI (p + 1) := (nI_succ ..).symm
    have n41 : ∀ (N : g_M) i (v : Int32), g_upd N 58 i v 41 = N 41 := fun N i v => g_upd_ne (by decide)
    have n42 : ∀ (N : g_M) i (v : Int32), g_upd N 59 i v 41 = N 41 := fun N i v => g_upd_ne (by decide)
    have n43 : ∀ (N : g_M) (v : Int32), g_upd N 41 25 v 41 26 = N 41 26 := fun N v => by rw [g_upd_get, if_neg (fun q => absurd q.2 (by decide))]
    rw [x_X9_statement_L43]
    simp only [n41, n42, n43, e26, e25, cm, bm, if_true, e7, ep, hQ]
  have lett : x_X9_statement s = x_X9_statement_L43 (nI (L p)) s := by
    rw [if_pos z1] at nx
    rw [x_X9_statement]
    refine (bnd nx _).trans ?_
    dsimp only
    rcases shp_v z2 with l | l | l | l | l | l
    · rw [if_neg (by rw [l]; decide), if_neg (by rw [l]; decide), if_neg (by rw [l]; decide), if_pos (show nI (L p) = (98 : Int32) by rw [l]; rfl)]
    · rw [if_neg (by rw [l]; decide), if_neg (by rw [l]; decide), if_neg (by rw [l]; decide), if_neg (by rw [l]; decide), if_neg (by rw [l]; decide), if_pos (show nI (L p) = (101 : Int32) by rw [l]; rfl)]
    · rw [if_neg (by rw [l]; decide), if_neg (by rw [l]; decide), if_neg (by rw [l]; decide), if_neg (by rw [l]; decide), if_pos (show nI (L p) = (108 : Int32) by rw [l]; rfl)]
    · rw [if_neg (by rw [l]; decide), if_neg (by rw [l]; decide), if_pos (show nI (L p) = (114 : Int32) by rw [l]; rfl)]
    · rw [if_pos (show nI (L p) = (116 : Int32) by rw [l]; rfl)]
    · rw [if_neg (by rw [l]; decide), if_pos (show nI (L p) = (119 : Int32) by rw [l]; rfl)]
  have fQ : fq s Q := ⟨fun c a b d e => by rw [← hQ, g_upd_ne a, g_upd_ne d, g_upd_ne b], fun f a b => by rw [← hQ, g_upd_get, if_neg (fun q => a q.2), g_upd_ne (by decide), g_upd_ne (by decide)]⟩
  have Q25 : Q 41 25 = nI (p + 1) := by rw [← hQ, g_upd_get, if_pos ⟨rfl, rfl⟩]
  have Q26 : Q 41 26 = nI m := by rw [← hQ, g_upd_get, if_neg (fun q => absurd q.2 (by decide)), g_upd_ne (by decide), g_upd_ne (by decide)]; exact e26
  have Q58 : ∀ x, Q 58 x = if x = m then nI (L p) else s 58 x := fun x => by
    rw [← hQ, g_upd_ne (by decide), g_upd_ne (by decide), g_upd_get]
    by_cases y : x = m
    · rw [if_pos ⟨rfl, y⟩, if_pos y]
    · rw [if_neg (fun q => y q.2), if_neg y]
  have Q59 : ∀ x, Q 59 x = if x = m then nI p else s 59 x := fun x => by
    rw [← hQ, g_upd_ne (by decide), g_upd_get, g_upd_ne (by decide)]
    by_cases y : x = m
    · rw [if_pos ⟨rfl, y⟩, if_pos y]
    · rw [if_neg (fun q => y q.2), if_neg y]
  have Q60 : Q 60 = s 60 := by rw [← hQ, g_upd_ne (by decide), g_upd_ne (by decide), g_upd_ne (by decide)]
  rw [lett, red]
  rcases py_readsAll (isY_fq hY fQ) z1 (show m ≤ 40 by omega) Q25 z2 with ⟨s1, a1, g1, g26, g25, g3, g4, g5, g58, g59⟩ | ⟨s1, a1, g1, j, j1, j2, j3, j4⟩
  rotate_left
  · right
    refine ⟨s1, p + 1 + j, ?_, fq_tr fQ g1, j4, Or.inr ⟨j, j1, rfl, z1, z2, j2, j3⟩⟩
    refine (bnd a1 _).trans ?_
    rfl
  have lpos := tab.2.1 z2
  have eat : p + 1 + (g_sl (shp (L p)) - 1) = p + g_sl (shp (L p)) := by omega
  have nx2 := py_next (isY_fq (isY_fq hY fQ) g1) g25 (by omega)
  have last : okJ L n p (shp (L p)) (g_sl (shp (L p)) - 1) ↔ p + 1 + (g_sl (shp (L p)) - 1) < n ∧ L (p + 1 + (g_sl (shp (L p)) - 1)) = 59 := by
    unfold okJ fitN
    rw [if_pos (by omega), decide_eq_true_eq]
  by_cases y : p + 1 + (g_sl (shp (L p)) - 1) < n ∧ L (p + 1 + (g_sl (shp (L p)) - 1)) = 59
  rotate_left
  · right
    refine ⟨s1, p + 1 + (g_sl (shp (L p)) - 1), ?_, fq_tr fQ g1, g25, Or.inr ⟨_, by omega, rfl, z1, z2, g3, fun q => y (last.mp q)⟩⟩
    refine (bnd a1 _).trans ?_
    dsimp only
    rw [if_neg (show ¬ (1 : Int32) = 0 by decide)]
    refine (bnd nx2 _).trans ?_
    refine if_neg ?_
    show ¬ (if p + 1 + (g_sl (shp (L p)) - 1) < n then nI (L (p + 1 + (g_sl (shp (L p)) - 1))) else -1) = (59 : Int32)
    by_cases x : p + 1 + (g_sl (shp (L p)) - 1) < n
    · rw [if_pos x]
      have l2 := (hY.2.2 _ x).2
      exact fun q => y ⟨x, (p_eq (b := 59) (by omega) (by decide)).mp q⟩
    · rw [if_neg x]; decide
  · left
    rw [if_pos y.1, y.2] at nx2
    refine ⟨g_upd s1 41 25 (nI (p + 1 + g_sl (shp (L p)))), ?_, ⟨z1, z2, fun j hj => ?_⟩, fq_tr (fq_tr fQ g1) (fq_25 _ _), by rw [g_upd_get, if_neg (fun q => absurd q.2 (by decide)), g26, Q26], by rw [g_upd_get, if_pos ⟨rfl, rfl⟩], ⟨by rw [g_upd_ne (by decide), g58, Q58, if_pos rfl], by rw [g_upd_ne (by decide), g59, Q59, if_pos rfl], fun k hk => by rw [g_upd_ne (by decide)]; exact g4 k hk⟩, fun x hx => ⟨by rw [g_upd_ne (by decide), g58, Q58, if_neg (by omega)], by rw [g_upd_ne (by decide), g59, Q59, if_neg (by omega)]⟩, fun x hx => by rw [g_upd_ne (by decide), g5 x hx, Q60]⟩
    · refine (bnd a1 _).trans ?_
      dsimp only
      rw [if_neg (show ¬ (1 : Int32) = 0 by decide)]
      refine (bnd nx2 _).trans ?_
      dsimp only
      rw [if_pos (show nI 59 = (59 : Int32) from rfl), g25, ← nI_succ, show p + 1 + (g_sl (shp (L p)) - 1) + 1 = p + 1 + g_sl (shp (L p)) by omega]
    · by_cases x : j = g_sl (shp (L p)) - 1
      · rw [x]; exact last.mpr y
      · exact g3 j (by omega)
theorem py_parse {s0 : g_M} {L : Nat → Nat} {n : Nat} (hY : isY s0 L n) (e25 : s0 41 25 = nI 0) (e26 : s0 41 26 = nI 0) : (∃ s' q, x_X9_quay_L12 g_F 1 s0 = x_X9_quay_L60 0 s' ∧ fq s0 s' ∧ s' 41 25 = nI q ∧ sgp L n = nI q ∧ q ≤ 200) ∨ (∃ s' m, x_X9_quay_L12 g_F 1 s0 = x_X9_quay_L60 1 s' ∧ fq s0 s' ∧ s' 41 26 = nI m ∧ m ≤ 24 ∧ ps L m = n ∧ (∀ k, k < m → okS L n (ps L k)) ∧ (∀ k, k < m → told s' L (ps L k) k) ∧ sgp L n = -9) := by
  have n96 := hY.1
  refine p_loop2 (n := 40) (F := fun m fuel s => x_X9_quay_L12 fuel 1 s) (I := fun m s => fq s0 s ∧ s 41 26 = nI m ∧ s 41 25 = nI (ps L m) ∧ ps L m ≤ n ∧ 4 * m ≤ ps L m ∧ st L (ps L m) = ps L m ∧ (∀ a, a < ps L m → okA L a = true) ∧ (∀ k, k < m → okS L n (ps L k)) ∧ ∀ k, k < m → told s L (ps L k) k) (R := fun x => (∃ s' q, x = x_X9_quay_L60 0 s' ∧ fq s0 s' ∧ s' 41 25 = nI q ∧ sgp L n = nI q ∧ q ≤ 200) ∨ (∃ s' m, x = x_X9_quay_L60 1 s' ∧ fq s0 s' ∧ s' 41 26 = nI m ∧ m ≤ 24 ∧ ps L m = n ∧ (∀ k, k < m → okS L n (ps L k)) ∧ (∀ k, k < m → told s' L (ps L k) k) ∧ sgp L n = -9)) (s := s0) (by decide) ⟨fq_rf s0, e26, e25, Nat.zero_le _, Nat.le_refl _, rfl, fun a ha => absurd ha (by show ¬ a < 0; omega), fun k hk => absurd hk (by omega), fun k hk => absurd hk (by omega)⟩ ?_ ?_
  · intro s fuel ⟨g1, g2, g3, g4, g5, g6, g7, g8, g9⟩
    exfalso
    omega
  · intro m s fuel hm ⟨g1, g2, g3, g4, g5, g6, g7, g8, g9⟩
    have sY := isY_fq hY g1
    have e24 := sY.2.1
    have m24 : m ≤ 24 := by omega
    have nz : ¬ (1 : Int32) = 0 := by decide
    by_cases z : ps L m < n ∨ m = 0
    rotate_left
    · left
      right
      have pn : ps L m = n := by omega
      refine ⟨s, m, ?_, g1, g2, m24, pn, g8, g9, sgp_ok (by omega) (by rw [← pn]; exact g6) (by rw [← pn]; exact g7)⟩
      show x_X9_quay_L12 (fuel + 2) 1 s = _
      rw [x_X9_quay_L12, if_neg nz, g3, e24, if_neg (fun q => by have := (p_lt (by omega) (by omega)).mp q; omega), g2, if_neg (show ¬ nI m = (0 : Int32) from fun q => by have := (p_eq (a := m) (b := 0) (by omega) (by decide)).mp q; omega)]
    · have go : x_X9_quay_L12 (fuel + 2) 1 s = x_X9_quay_L34 (x_X9_quay_L12 (fuel + 1)) s := by
        rw [x_X9_quay_L12, if_neg nz, g3, e24, g2]
        by_cases y : ps L m < n
        · rw [if_pos ((p_lt (by omega) (by omega)).mpr y)]
        · have m0 : m = 0 := by omega
          rw [if_neg (fun q => y ((p_lt (by omega) (by omega)).mp q)), if_pos (by rw [m0]; rfl)]
      have p0 : ps L 0 = 0 := rfl
      rcases py_statement sY g4 (by omega) g3 g2 with ⟨s1, a1, a2, a3, a26, a25, a4, a5, a6⟩ | ⟨s1, q, a1, a2, a3, a4⟩
      · right
        have lp := (sl_t _ (shp_5 (L (ps L m)))).2.1 a2.2.1
        have seg := st_seg g6
        have pm : ps L (m + 1) = ps L m + 1 + g_sl (shp (L (ps L m))) := rfl
        have end1 := (a2.2.2 (g_sl (shp (L (ps L m))) - 1) (by omega)).1
        refine ⟨g_upd s1 41 26 (nI (m + 1)), ⟨fq_tr (fq_tr g1 a3) ⟨fun c a _ _ _ => g_upd_ne a, fun f _ b => by rw [g_upd_get, if_neg (fun q => b q.2)]⟩, by rw [g_upd_get, if_pos ⟨rfl, rfl⟩], by rw [g_upd_get, if_neg (fun q => absurd q.2 (by decide)), a25, pm], by rw [pm]; omega, by rw [pm]; omega, by rw [pm]; exact seg.2, fun a ha => ?_, fun k hk => ?_, fun k hk => ?_⟩, ?_⟩
        · rw [pm] at ha
          by_cases y : a < ps L m
          · exact g7 a y
          · exact okA_stmt g6 a2 a (by omega) ha
        · by_cases y : k = m
          · rw [y]; exact a2
          · exact g8 k (by omega)
        · unfold told
          rw [g_upd_ne (show 58 ≠ 41 by decide), g_upd_ne (show 59 ≠ 41 by decide), g_upd_ne (show 60 ≠ 41 by decide)]
          by_cases y : k = m
          · rw [y]; exact a4
          · obtain ⟨b1, b2, b3⟩ := g9 k (by omega)
            have n7 : nt (shp (L (ps L k))) ≤ 7 := by unfold nt; split <;> (try split) <;> omega
            exact ⟨by rw [(a5 k (by omega)).1]; exact b1, by rw [(a5 k (by omega)).2]; exact b2, fun i hi => by rw [a6 _ (by omega)]; exact b3 i hi⟩
        · show x_X9_quay_L12 (fuel + 2) 1 s = x_X9_quay_L12 (fuel + 1) 1 _
          rw [go, x_X9_quay_L34]
          refine (bnd a1 _).trans ?_
          dsimp only
          rw [if_neg nz, a26, ← nI_succ]
      · left
        left
        refine ⟨g_upd s1 41 26 (s1 41 26 + 0), q, ?_, fq_tr (fq_tr g1 a2) ⟨fun c a _ _ _ => g_upd_ne a, fun f _ b => by rw [g_upd_get, if_neg (fun q => b q.2)]⟩, by rw [g_upd_get, if_neg (fun q => absurd q.2 (by decide))]; exact a3, sgp_fail g6 g7 (by rcases z with y | y; exact Or.inl y; subst y; rw [p0] at g4 ⊢; omega) a4, by rcases a4 with ⟨e, -⟩ | ⟨j, j1, e, -⟩ <;> (have := (sl_t _ (shp_5 (L (ps L m)))).1; omega)⟩
        show x_X9_quay_L12 (fuel + 2) 1 s = _
        rw [go, x_X9_quay_L34]
        refine (bnd a1 _).trans ?_
        dsimp only
        rw [if_pos rfl, x_X9_quay_L12, if_pos rfl]
