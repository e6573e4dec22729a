/-! THE PURE PART. ZE: berths -/
theorem sWH_iff {B : Nat → Int32} {T : Nat → Int32} (hB : okB B) (hT : okT T) {e w : Int32} : sWH B (B 5) T e w = 4095 ↔ sUH e w T = 0 ∧ sHH B (B 5) T = 0 ∧ sFH B (B 5) T = 0 := by
  have hl := okB_len hB
  obtain ⟨v, hv, ev⟩ := p_in (i := B 5) (n := 100) (by decide) hl.1 (show B 5 < 100 by have := hl.2; grind)
  rw [ev, sWH_all hB hT (by omega), sHH_0 hB hT (by omega), sFH_0 hB hT (by omega)]
/-- only the Moorings, the Berthing were written -/
def sc5 (M s : g_M) : Prop := ∀ c, c ≠ 27 → c ≠ 28 → c ≠ 34 → c ≠ 35 → c ≠ 36 → s c = M c
theorem sc5_scr {M s : g_M} (h : sc5 M s) : scr M s := fun c hc => h c (by omega) (by omega) (by omega) (by omega) (by omega)
/-- a boat loaded, at a ring -/
theorem rg5 {M s : g_M} (hi : inv M) (h : sc5 M s) {nr nb b : Nat} (hn : M 1 6 = nI nb) (hnb : nb ≤ 5) (hb : b < nb) : ∃ s', x_X5_load 27 1 (nI b) s = some (0, s') ∧ isM 27 s' (rb M b) ∧ (∀ c, c ≠ 27 → s' c = s c) := by
  have i2 : inv s := inv_core (scr_core (sc5_scr h)) hi
  have hc : ∀ c, 41 ≤ c → s c = M c := fun c hc => h c (by omega) (by omega) (by omega) (by omega) (by omega)
  have lt : nI b < s 1 6 := by
    rw [h 1 (by decide) (by decide) (by decide) (by decide) (by decide), hn]
    exact (p_lt (by omega) (by omega)).mpr hb
  obtain ⟨s', e1, e2, e3, -⟩ := lxd i2 (q := 27) (by decide) lt (by omega)
  rw [rb_eq hc] at e2
  exact ⟨s', e1, e2, e3⟩
theorem mv5 {M s : g_M} (hi : inv M) (h : sc5 M s) {B : Nat → Int32} (hm : ∀ j, j ≤ 8 → j ≠ 2 → j ≠ 3 → s 27 j = B j) {nr r : Nat} (e : M 41 15 = nI nr) (hr : r < nr) (hnr : nr ≤ 6) : ∃ s', x_X5_moveTo 27 1 (nI r) s = some (0, s') ∧ isM 27 s' (Br B M r) ∧ (∀ c, c ≠ 27 → s' c = s c) := by
  obtain ⟨nr', nb, q1, q2, e1, e2, e3, e4, hr', hbt⟩ := inv_B hi
  have en : nr' = nr := (p_eq (by omega) (by omega)).mp (by rw [← e2, e])
  subst en
  obtain ⟨p1, p2, -⟩ := hr' r hr
  have s4 : s 4 = M 4 := h 4 (by decide) (by decide) (by decide) (by decide) (by decide)
  refine ⟨g_upd (g_upd s 27 2 (M 45 r)) 27 3 (M 46 r), ?_, fun j hj => ?_, fun c hc => by rw [g_upd_ne hc, g_upd_ne hc]⟩
  · rw [x_X5_moveTo]
    refine (bnd (px_ringCell 1 r 0 (by omega) (by decide) s) _).trans ?_
    dsimp only
    refine (bnd (px_ringCell 1 r 1 (by omega) (by decide) _) _).trans ?_
    dsimp only
    rw [show s (1 + 3) (2 * r + 0) = M 45 r by rw [s4]; exact p1, g_upd_ne (show 1 + 3 ≠ 27 by decide), show s (1 + 3) (2 * r + 1) = M 46 r by rw [s4]; exact p2]
  · rw [g_upd_get, g_upd_get]
    unfold Br
    by_cases z3 : j = 3
    · subst z3; rfl
    · by_cases z2 : j = 2
      · subst z2; rfl
      · rw [if_neg (fun q => z3 q.2), if_neg (fun q => z2 q.2), if_neg z2, if_neg z3]
        exact hm j hj z2 z3
theorem px_setCost {b r : Nat} (hb : b < 5) (hr : r < 6) (v : Int32) (s : g_M) : x_X0_setCost (nI b) (nI r) v s = some (0, g_upd s 35 (6 * b + r) v) := by
  have e1 : nI b * 6 + nI r = nI (6 * b + r) := by rw [show (6 : Int32) = nI 6 from rfl, p_mul, p_add, Nat.mul_comm]
  have c1 : (nI (6 * b + r)).toNatClampNeg = 6 * b + r := nI_clamp (by omega)
  rw [x_X0_setCost, e1, if_neg (nI_pos (by omega)), if_neg (show ¬ (30 : Int32) ≤ nI (6 * b + r) from nI_ge (show 6 * b + r < 30 by omega) (by decide)), if_pos (p_inb (show 6 * b + r < 30 by omega) (by decide)), c1]
/-- whether a boat is well all day at a ring -/
def WB (M : g_M) (b r : Nat) : Bool := decide (sWH (Br (rb M b) M r) (rb M b 5) (M 43) (M 47 0) (M 47 1) = 4095)
def cB (M : g_M) (b r : Nat) : Int := if WB M b r = true then -1 else 0
theorem cB_b (M : g_M) (b r : Nat) : -1 ≤ cB M b r ∧ cB M b r ≤ 0 := by
  unfold cB
  split <;> omega
theorem px_well {M s : g_M} (hi : inv M) (h : sc5 M s) {B : Nat → Int32} (hm : isM 27 s B) (hB : okB B) : x_X8_isWellAllDay s = some (if sWH B (B 5) (M 43) (M 47 0) (M 47 1) = 4095 then 1 else 0, s) := by
  have T := inv_T hi
  have E := inv_E hi
  have s1 : s 1 = M 1 := h 1 (by decide) (by decide) (by decide) (by decide) (by decide)
  have tt : ∀ k, k < 12 → s 2 k = M 43 k := fun k hk => by rw [h 2 (by decide) (by decide) (by decide) (by decide) (by decide)]; exact T.1 k hk
  have T2 : okT (s 2) := okT_cg tt T.2
  have un : x_X2_hoursUnder 1 s = some (sUH (M 47 0) (M 47 1) (M 43), s) := by rw [px_under, s1, E.1, E.2.1, sUH_cg tt]
  have ha : x_X5_hangingHours 27 (1 + 1) 12 s = some (sHH B (B 5) (M 43), s) := by rw [px_hangH hm, sHH_cg tt]
  have fa : x_X5_tooFarHours 27 (1 + 1) 12 s = some (sFH B (B 5) (M 43), s) := by rw [px_farH hm hB T2, sFH_cg tt]
  have w := sWH_iff hB T.2 (e := M 47 0) (w := M 47 1)
  rw [x_X8_isWellAllDay]
  refine (bnd un _).trans ?_
  dsimp only
  by_cases a : sUH (M 47 0) (M 47 1) (M 43) = 0
  rotate_left
  · rw [if_neg a, if_neg (fun q => a (w.mp q).1)]
  rw [if_pos a]
  refine (bnd ha _).trans ?_
  dsimp only
  by_cases b : sHH B (B 5) (M 43) = 0
  rotate_left
  · rw [if_neg b, if_neg (fun q => b (w.mp q).2.1)]
  rw [if_pos b]
  refine (bnd fa _).trans ?_
  dsimp only
  by_cases c : sFH B (B 5) (M 43) = 0
  · rw [if_pos c, if_pos (w.mpr ⟨a, b, c⟩)]
  · rw [if_neg c, if_neg (fun q => c (w.mp q).2.2)]
/-- the class's costs are set -/
theorem px_berthC {M : g_M} (h : inv M) (w : Int32) {nr nb : Nat} (hnr : nr ≤ 6) (hnb : nb ≤ 5) (f1 : M 1 5 = nI nr) (f2 : M 41 15 = nI nr) (f3 : M 1 6 = nI nb) (hBo : ∀ b, b < nb → okB (rb M b)) : ∃ s r, sc5 M s ∧ isP s (cB M) nb nr 0 ∧ isD s (cB M) nb nr 0 0 ∧ x_X8_berths_L34 g_F w 0 M = some (r, s) ∧ r = (if w = 0 then -zI (dp (cB M) nr 0 nb 0 0) else nI (rd nr (wy (cB M) nr 0 nb 0 0) nb 0)) := by
  have hc : ∀ b r, -1000000 ≤ cB M b r ∧ cB M b r ≤ 1000000 := fun b r => by have := cB_b M b r; omega
  refine p_loop0 (n := nb) (F := fun b fuel s => x_X8_berths_L34 fuel w (nI b) s) (I := fun b s => sc5 M s ∧ ∀ b' r, b' < b → r < nr → s 35 (6 * b' + r) = zI (cB M b' r)) (R := fun x => ∃ s r, sc5 M s ∧ isP s (cB M) nb nr 0 ∧ isD s (cB M) nb nr 0 0 ∧ x = some (r, s) ∧ r = (if w = 0 then -zI (dp (cB M) nr 0 nb 0 0) else nI (rd nr (wy (cB M) nr 0 nb 0 0) nb 0))) (s := M) (by omega) ⟨fun _ _ _ _ _ _ => rfl, fun b' r hb' => absurd hb' (by omega)⟩ ?_ ?_
  · intro s fuel ⟨h1, h2⟩
    have s1 : s 1 = M 1 := h1 1 (by decide) (by decide) (by decide) (by decide) (by decide)
    obtain ⟨N, n1', n2', n3', n4'⟩ := px_solve (s := s) (c := cB M) (nb := nb) (nr := nr) (no := 0) h2 hnb hnr hc (by omega)
    have dg := px_digits n3' n4' hnb hnr hc (by omega)
    refine ⟨N, _, fun c a b d e f => by rw [n2' c d f, h1 c a b d e f], n3', n4', ?_, rfl⟩
    show x_X8_berths_L34 (fuel + 1) w (nI nb) s = _
    rw [x_X8_berths_L34, s1, f3, f1, if_pos (Int32.le_refl _)]
    have z0 : zI 0 = (0 : Int32) := by decide
    rw [z0] at n1'
    refine (bnd n1' _).trans ?_
    dsimp only
    by_cases w0 : w = 0
    · have d0 := n4' 0 0 (by omega) (by omega) (by decide)
      rw [Nat.sub_zero, Nat.mul_zero, Nat.add_zero] at d0
      have cl0 : (0 : Int32).toNatClampNeg = 0 := by decide
      have lc : x_X0_leastCost N = some (zI (dp (cB M) nr 0 nb 0 0), N) := by rw [x_X0_leastCost, cl0, d0]
      rw [if_pos w0, if_pos w0]
      exact bnd lc _
    · rw [if_neg w0, if_neg w0]
      exact bnd dg _
  · intro b s fuel hb ⟨h1, h2⟩
    right
    show ∃ s', (sc5 M s' ∧ ∀ b' r, b' < b + 1 → r < nr → s' 35 (6 * b' + r) = zI (cB M b' r)) ∧ x_X8_berths_L34 (fuel + 1) w (nI b) s = x_X8_berths_L34 fuel w (nI (b + 1)) s'
    have s1 : s 1 = M 1 := h1 1 (by decide) (by decide) (by decide) (by decide) (by decide)
    obtain ⟨sl, l1, l2, l3⟩ := rg5 (nr := nr) h h1 f3 hnb hb
    rw [x_X8_berths_L34, s1, f3, if_neg (show ¬ nI nb ≤ nI b from nI_ge hb (by omega))]
    generalize x_X8_berths_L34 fuel = k34
    have goal : ∃ s', (sc5 M s' ∧ ∀ b' r, b' < b + 1 → r < nr → s' 35 (6 * b' + r) = zI (cB M b' r)) ∧ x_X8_berths_L59 k34 g_F w (nI b) 0 sl = k34 w (nI (b + 1)) s' := by
      refine p_loop0 (n := nr) (F := fun r fuel s => x_X8_berths_L59 k34 fuel w (nI b) (nI r) s) (I := fun r s => sc5 M s ∧ (∀ j, j ≤ 8 → j ≠ 2 → j ≠ 3 → s 27 j = rb M b j) ∧ ∀ b' r', (b' < b ∨ (b' = b ∧ r' < r)) → r' < nr → s 35 (6 * b' + r') = zI (cB M b' r')) (R := fun x => ∃ s', (sc5 M s' ∧ ∀ b' r, b' < b + 1 → r < nr → s' 35 (6 * b' + r) = zI (cB M b' r)) ∧ x = k34 w (nI (b + 1)) s') (s := sl) (by omega) ⟨fun c a1 a2 a3 a4 a5 => by rw [l3 c a1, h1 c a1 a2 a3 a4 a5], fun j hj _ _ => l2 j hj, fun b' r' q hr' => by rw [l3 35 (by decide)]; exact h2 b' r' (by omega) hr'⟩ ?_ ?_
      · intro s fuel ⟨g1, g2, g3⟩
        refine ⟨s, ⟨g1, fun b' r hb' hr => g3 b' r (by omega) hr⟩, ?_⟩
        show x_X8_berths_L59 k34 (fuel + 1) _ _ (nI nr) s = _
        rw [x_X8_berths_L59, g1 1 (by decide) (by decide) (by decide) (by decide) (by decide), f1, if_pos (Int32.le_refl _), nI_succ]
      · intro r s fuel hr ⟨g1, g2, g3⟩
        right
        obtain ⟨sm', m1, m2, m3⟩ := mv5 h g1 g2 f2 hr hnr
        have g1' : sc5 M sm' := fun c a1 a2 a3 a4 a5 => by rw [m3 c a1, g1 c a1 a2 a3 a4 a5]
        have wl := px_well h g1' m2 (Br_ok h (hBo b hb) f2 hr hnr)
        have e5 : Br (rb M b) M r 5 = rb M b 5 := by
          unfold Br
          rw [if_neg (by decide), if_neg (by decide)]
        rw [e5] at wl
        refine ⟨g_upd sm' 35 (6 * b + r) (zI (cB M b r)), ⟨fun c a1 a2 a3 a4 a5 => by rw [g_upd_ne a4, g1' c a1 a2 a3 a4 a5], fun j hj z2 z3 => ?_, fun b' r' q hr' => ?_⟩, ?_⟩
        · rw [g_upd_ne (by decide), m2 j hj]
          unfold Br
          rw [if_neg z2, if_neg z3]
        · rw [g_upd_get]
          by_cases z : b' = b ∧ r' = r
          · rw [if_pos ⟨rfl, by omega⟩, z.1, z.2]
          · rw [if_neg (fun k => z (by have := k.2; omega)), m3 35 (by decide)]
            exact g3 b' r' (by omega) hr'
        · show x_X8_berths_L59 k34 (fuel + 1) _ _ (nI r) s = x_X8_berths_L59 k34 fuel _ _ (nI (r + 1)) _
          rw [x_X8_berths_L59, g1 1 (by decide) (by decide) (by decide) (by decide) (by decide), f1, if_neg (show ¬ nI nr ≤ nI r from nI_ge hr (by omega))]
          refine (bnd m1 _).trans ?_
          refine (bnd wl _).trans ?_
          dsimp only
          unfold cB WB
          rw [nI_succ r]
          by_cases z : sWH (Br (rb M b) M r) (rb M b 5) (M 43) (M 47 0) (M 47 1) = 4095
          · have zm : zI (-1) = (-1 : Int32) := by decide
            rw [if_pos z, if_neg (by decide), if_pos (decide_eq_true z), zm]
            exact bnd (px_setCost (by omega) (by omega) (-1) sm') _
          · have zm : zI 0 = (0 : Int32) := by decide
            rw [if_neg z, if_pos rfl, if_neg (by rw [decide_eq_true_eq]; exact z), zm]
            exact bnd (px_setCost (by omega) (by omega) 0 sm') _
    obtain ⟨s', g1, g2⟩ := goal
    exact ⟨s', g1, (bnd l1 _).trans g2⟩
/-! the reference -/
/-- the well ones of a way -/
def cs (wl : Nat → Nat → Nat) (nr : Nat) (way : Nat → Nat) : Nat → Nat → Nat
  | 0, _ => 0
  | k + 1, a => (if way a < nr then wl a (way a) else 0) + cs wl nr way k (a + 1)
theorem cs_SS {wl : Nat → Nat → Nat} {c : Nat → Nat → Int} (h : ∀ b r, c b r = -(wl b r : Int)) (nr : Nat) (way : Nat → Nat) : ∀ k a, SS c nr 0 way k a = -(cs wl nr way k a : Int) := by
  intro k
  induction k with
  | zero => intro a; rfl
  | succ k ih =>
    intro a
    rw [SS, cs, ih (a + 1)]
    split
    · rw [h]; omega
    · omega
theorem cs_b {wl : Nat → Nat → Nat} (h : ∀ b r, wl b r ≤ 1) (nr : Nat) (way : Nat → Nat) : ∀ k a, cs wl nr way k a ≤ k := by
  intro k
  induction k with
  | zero => intro a; exact Nat.le_refl _
  | succ k ih =>
    intro a
    have := ih (a + 1)
    rw [cs]
    split
    · have := h a (way a); omega
    · omega
theorem py_wellBy {s : g_M} {nr nb : Nat} {wl : Nat → Nat → Nat} (hnr : nr ≤ 6) (hnb : nb ≤ 5) (e1 : s 41 16 = nI nb) (e2 : s 41 15 = nI nr) (hw : ∀ b r, b < nb → r < nr → s 69 (6 * b + r) = nI (wl b r)) (h1 : ∀ b r, wl b r ≤ 1) {n : Nat} (hn : n < 20000) : ∃ s' v, x_X9_wellBy (nI n) s = some (v, s') ∧ (∀ c, c ≠ 67 → s' c = s c) ∧ (∀ b, b < nb → s' 67 b = nI (dgt (nr + 1) nb n b)) ∧ ((FE nr (dgt (nr + 1) nb n) nb 0 0 ∧ v = nI (cs wl nr (dgt (nr + 1) nb n) nb 0)) ∨ (¬ FE nr (dgt (nr + 1) nb n) nb 0 0 ∧ v = -9)) := by
  unfold x_X9_wellBy
  have er : nI nr + 1 = nI (nr + 1) := (nI_succ ..).symm
  have rz : ¬ nI (nr + 1) = (0 : Int32) := fun q => absurd ((p_eq (a := nr + 1) (b := 0) (by omega) (by decide)).mp q) (by omega)
  have l15 : ∃ s', x_X9_wellBy_L15 g_F (nI n) 0 0 (s 41 16 - 1) s = x_X9_wellBy_L53 g_F 0 0 0 s' ∧ (∀ c, c ≠ 67 → s' c = s c) ∧ ∀ b, b < nb → s' 67 b = nI (dgt (nr + 1) nb n b) := by
    rw [e1, show x_X9_wellBy_L15 g_F (nI n) 0 0 (nI nb - 1) s = x_X9_wellBy_L15 g_F (nI (n / (nr + 1) ^ 0)) 0 0 (nI (nb - 0) - 1) s by rw [Nat.pow_zero, Nat.div_one, Nat.sub_zero]]
    refine p_loop0 (n := nb) (F := fun m fuel s => x_X9_wellBy_L15 fuel (nI (n / (nr + 1) ^ m)) 0 0 (nI (nb - m) - 1) s) (I := fun m s' => (∀ c, c ≠ 67 → s' c = s c) ∧ ∀ b, b < nb → nb ≤ b + m → s' 67 b = nI (dgt (nr + 1) nb n b)) (R := fun x => ∃ s', x = x_X9_wellBy_L53 g_F 0 0 0 s' ∧ (∀ c, c ≠ 67 → s' c = s c) ∧ ∀ b, b < nb → s' 67 b = nI (dgt (nr + 1) nb n b)) (s := s) (by omega) ⟨fun _ _ => rfl, fun b hb q => absurd q (by omega)⟩ ?_ ?_
    · intro s' fuel ⟨g1, g2⟩
      refine ⟨s', ?_, g1, fun b hb => g2 b hb (by omega)⟩
      show x_X9_wellBy_L15 (fuel + 1) _ 0 0 (nI (nb - nb) - 1) s' = _
      rw [Nat.sub_self, x_X9_wellBy_L15, if_pos (by decide)]
    · intro m s' fuel hm ⟨g1, g2⟩
      right
      obtain ⟨b, hb⟩ : ∃ b, nb - m = b + 1 := ⟨nb - m - 1, by omega⟩
      have cb : (nI b).toNatClampNeg = b := nI_clamp (by omega)
      have b5 := p_inb (show b < 5 by omega) (by decide : (5 : Nat) < 2 ^ 31)
      have d0 : n / (nr + 1) ^ m ≤ n := Nat.div_le_self _ _
      have s15 : s' 41 15 = nI nr := by rw [g1 41 (by decide)]; exact e2
      have md := p_modn (x := n / (nr + 1) ^ m) (K := nr + 1) (by omega) (by omega) (by omega)
      have dv : nI (n / (nr + 1) ^ m) / nI (nr + 1) = nI (n / (nr + 1) ^ (m + 1)) := by rw [p_div (by omega) (by omega), Nat.div_div_eq_div_mul, ← Nat.pow_succ]
      refine ⟨g_upd s' 67 b (nI (n / (nr + 1) ^ m % (nr + 1))), ⟨fun c hc => by rw [g_upd_ne hc, g1 c hc], fun b' hb' q => ?_⟩, ?_⟩
      · rw [g_upd_get]
        by_cases z : b' = b
        · rw [if_pos ⟨rfl, z⟩, z]
          unfold dgt
          rw [show nb - 1 - b = m by omega]
        · rw [if_neg (fun k => z k.2)]
          exact g2 b' hb' (by omega)
      · show x_X9_wellBy_L15 (fuel + 1) (nI (n / (nr + 1) ^ m)) 0 0 (nI (nb - m) - 1) s' = x_X9_wellBy_L15 fuel (nI (n / (nr + 1) ^ (m + 1))) 0 0 (nI (nb - (m + 1)) - 1) _
        rw [hb, show nb - (m + 1) = b by omega, p_pred, x_X9_wellBy_L15, if_neg (nI_pos (by omega)), cb, s15, er, if_neg rz, if_pos b5, md, g_upd_ne (show 41 ≠ 67 by decide), s15, er, if_neg rz, dv, show nI b + -1 = nI b - 1 by grind]
  obtain ⟨s', l1, l2, l3⟩ := l15
  rw [l1]
  have e1' : s' 41 16 = nI nb := by rw [l2 41 (by decide)]; exact e1
  have e2' : s' 41 15 = nI nr := by rw [l2 41 (by decide)]; exact e2
  have hw' : ∀ b r, b < nb → r < nr → s' 69 (6 * b + r) = nI (wl b r) := fun b r x y => by rw [l2 69 (by decide)]; exact hw b r x y
  have dK : ∀ b, dgt (nr + 1) nb n b ≤ nr := fun b => by
    have := Nat.mod_lt (n / (nr + 1) ^ (nb - 1 - b)) (show nr + 1 > 0 by omega)
    unfold dgt
    omega
  generalize dgt (nr + 1) nb n = way at *
  have main : ∀ k b U acc fuel, b + k = nb → U < 64 → acc ≤ b → k < fuel → (FE nr way k b U ∧ x_X9_wellBy_L53 fuel (nI U) (nI acc) (nI b) s' = some (nI (acc + cs wl nr way k b), s')) ∨ (¬ FE nr way k b U ∧ x_X9_wellBy_L53 fuel (nI U) (nI acc) (nI b) s' = some (-9, s')) := by
    intro k
    induction k with
    | zero =>
      intro b U acc fuel hb hU ha hf
      obtain ⟨m, rfl⟩ : ∃ m, fuel = m + 1 := ⟨fuel - 1, by omega⟩
      obtain rfl : b = nb := by omega
      left
      refine ⟨trivial, ?_⟩
      rw [x_X9_wellBy_L53, e1', if_pos (Int32.le_refl _)]
      rfl
    | succ k ih =>
      intro b U acc fuel hb hU ha hf
      obtain ⟨m, rfl⟩ : ∃ m, fuel = m + 1 := ⟨fuel - 1, by omega⟩
      have cb : (nI b).toNatClampNeg = b := nI_clamp (by omega)
      have b5 := p_inb (show b < 5 by omega) (by decide : (5 : Nat) < 2 ^ 31)
      have wb := l3 b (by omega)
      have dk := dK b
      have hd : x_X9_wellBy_L53 (m + 1) (nI U) (nI acc) (nI b) s' = (if nI (way b) = nI nr then x_X9_wellBy_L53 m (nI U) (nI acc) (nI (b + 1)) s' else (if ((nI U >>> (nI (way b) &&& 31)) &&& 1) = 1 then some (-9, s') else (if g_inb (6 * nI b + nI (way b)) 30 = true then x_X9_wellBy_L53 m (nI U ||| (1 <<< (nI (way b) &&& 31))) (nI acc + s' 69 (6 * nI b + nI (way b)).toNatClampNeg) (nI (b + 1)) s' else none))) := by
        rw [x_X9_wellBy_L53, e1', if_neg (show ¬ nI nb ≤ nI b from nI_ge (by omega) (by omega)), if_pos b5, if_pos b5, if_pos b5, if_pos b5, cb, wb, e2', nI_succ]
      rw [hd]
      by_cases z : way b < nr
      · obtain ⟨m1, m2, m3, m4⟩ := p_msk U hU (way b) (by omega)
        have zn : ¬ nI (way b) = nI nr := fun q => by have := (p_eq (by omega) (by omega)).mp q; omega
        have ei : (6 : Int32) * nI b + nI (way b) = nI (6 * b + way b) := by rw [show (6 : Int32) = nI 6 from rfl, p_mul, p_add]
        have ci : (nI (6 * b + way b)).toNatClampNeg = 6 * b + way b := nI_clamp (by omega)
        have h1b := h1 b (way b)
        by_cases y : U.testBit (way b) = true
        · right
          refine ⟨fun q => ?_, ?_⟩
          · rw [q.1 z] at y; cases y
          · rw [if_neg zn, if_pos (m4.mpr y)]
        · have q := ih (b + 1) (U ||| 2 ^ way b) (acc + wl b (way b)) m (by omega) m3 (by omega) (by omega)
          rw [if_neg zn, if_neg (fun k => y (m4.mp k)), ei, if_pos (p_inb (show 6 * b + way b < 30 by omega) (by decide)), ci, hw' b (way b) (by omega) z, m2, p_add, FE, cs, if_pos z]
          unfold nx
          rw [if_pos z, ← Nat.add_assoc]
          rcases q with ⟨q1, q2⟩ | ⟨q1, q2⟩
          · exact Or.inl ⟨⟨fun _ => by rwa [Bool.not_eq_true] at y, q1⟩, q2⟩
          · exact Or.inr ⟨fun k => q1 k.2, q2⟩
      · have zn : way b = nr := by omega
        have q := ih (b + 1) U acc m (by omega) hU (by omega) (by omega)
        rw [if_pos (by rw [zn]), FE, cs, if_neg z, Nat.zero_add]
        unfold nx
        rw [if_neg z]
        rcases q with ⟨q1, q2⟩ | ⟨q1, q2⟩
        · exact Or.inl ⟨⟨fun y => absurd y z, q1⟩, q2⟩
        · exact Or.inr ⟨fun k => q1 k.2, q2⟩
  have q := main nb 0 0 0 g_F (by omega) (by decide) (Nat.le_refl _) (by show nb < 20000; omega)
  rw [Nat.zero_add] at q
  rcases q with ⟨q1, q2⟩ | ⟨q1, q2⟩
  · exact ⟨s', _, q2, l2, l3, Or.inl ⟨q1, rfl⟩⟩
  · exact ⟨s', _, q2, l2, l3, Or.inr ⟨q1, rfl⟩⟩
theorem rb_ring2 {Q M : g_M} {b r : Nat} (h : ∀ c, 45 ≤ c → c ≤ 54 → c ≠ 50 → Q c = M c) (hq : Q 50 b = nI r) (hr : r < 2 ^ 31) : rb Q b = Br (rb M b) M r := by
  have c : (nI r).toNatClampNeg = r := nI_clamp hr
  funext j
  unfold rb Br
  rw [h 45 (by decide) (by decide) (by decide), h 46 (by decide) (by decide) (by decide), h 47 (by decide) (by decide) (by decide), h 48 (by decide) (by decide) (by decide), h 49 (by decide) (by decide) (by decide), h 51 (by decide) (by decide) (by decide), h 52 (by decide) (by decide) (by decide), h 53 (by decide) (by decide) (by decide), h 54 (by decide) (by decide) (by decide), hq, c]
  by_cases z2 : j = 2
  · subst z2; simp
  · by_cases z3 : j = 3
    · subst z3; simp
    · simp [z2, z3]
def wlN (M : g_M) (b r : Nat) : Nat := if WB M b r = true then 1 else 0
theorem py_findWell {M : g_M} (h : inv M) {nr nb : Nat} (hnr : nr ≤ 6) (hnb : nb ≤ 5) (e1 : M 41 16 = nI nb) (e2 : M 41 15 = nI nr) (hB : ∀ b, b < nb → okR M b ∧ okB (rb M b)) : ∃ N, x_X9_findWellAt M = some (0, N) ∧ (∀ c, c ≠ 69 → N c = M c) ∧ ∀ b r, b < nb → r < nr → N 69 (6 * b + r) = nI (wlN M b r) := by
  have T := inv_T h
  unfold x_X9_findWellAt
  refine p_loop0 (n := nb) (F := fun b fuel s => x_X9_findWellAt_L2 fuel (nI b) s) (I := fun b s => (∀ c, c ≠ 69 → s c = M c) ∧ ∀ b' r, b' < b → r < nr → s 69 (6 * b' + r) = nI (wlN M b' r)) (R := fun x => ∃ N, x = some (0, N) ∧ (∀ c, c ≠ 69 → N c = M c) ∧ ∀ b r, b < nb → r < nr → N 69 (6 * b + r) = nI (wlN M b r)) (s := M) (by omega) ⟨fun _ _ => rfl, fun b' r hb' => absurd hb' (by omega)⟩ ?_ ?_
  · intro s fuel ⟨g1, g2⟩
    refine ⟨s, ?_, g1, g2⟩
    show x_X9_findWellAt_L2 (fuel + 1) (nI nb) s = _
    rw [x_X9_findWellAt_L2, g1 41 (by decide), e1, if_pos (Int32.le_refl _)]
  · intro b s fuel hb ⟨g1, g2⟩
    right
    show ∃ s', ((∀ c, c ≠ 69 → s' c = M c) ∧ ∀ b' r, b' < b + 1 → r < nr → s' 69 (6 * b' + r) = nI (wlN M b' r)) ∧ x_X9_findWellAt_L2 (fuel + 1) (nI b) s = x_X9_findWellAt_L2 fuel (nI (b + 1)) s'
    have cb : (nI b).toNatClampNeg = b := nI_clamp (by omega)
    have b5 := p_inb (show b < 5 by omega) (by decide : (5 : Nat) < 2 ^ 31)
    rw [x_X9_findWellAt_L2, g1 41 (by decide), e1, if_neg (show ¬ nI nb ≤ nI b from nI_ge hb (by omega)), if_pos b5, cb, g1 50 (by decide)]
    generalize x_X9_findWellAt_L2 fuel = k2
    refine p_loop0 (n := nr) (F := fun r fuel s => x_X9_findWellAt_L19 k2 fuel (nI b) (M 50 b) (nI r) s) (I := fun r s => (∀ c, c ≠ 69 → c ≠ 50 → s c = M c) ∧ (∀ j, j ≠ b → s 50 j = M 50 j) ∧ ∀ b' r', (b' < b ∨ (b' = b ∧ r' < r)) → r' < nr → s 69 (6 * b' + r') = nI (wlN M b' r')) (R := fun x => ∃ s', ((∀ c, c ≠ 69 → s' c = M c) ∧ ∀ b' r, b' < b + 1 → r < nr → s' 69 (6 * b' + r) = nI (wlN M b' r)) ∧ x = k2 (nI (b + 1)) s') (s := s) (by omega) ⟨fun c a _ => g1 c a, fun j _ => by rw [g1 50 (by decide)], fun b' r' q hr' => g2 b' r' (by omega) hr'⟩ ?_ ?_
    · intro s fuel ⟨g1, g2, g3⟩
      refine ⟨g_upd s 50 b (M 50 b), ⟨fun c hc => ?_, fun b' r hb' hr => by rw [g_upd_ne (by decide)]; exact g3 b' r (by omega) hr⟩, ?_⟩
      · by_cases z : c = 50
        · subst z
          funext j
          rw [g_upd_get]
          by_cases y : j = b
          · rw [if_pos ⟨rfl, y⟩, y]
          · rw [if_neg (fun q => y q.2), g2 j y]
        · rw [g_upd_ne z, g1 c hc z]
      · show x_X9_findWellAt_L19 k2 (fuel + 1) _ _ (nI nr) s = _
        rw [x_X9_findWellAt_L19, g1 41 (by decide) (by decide), e2, if_pos (Int32.le_refl _), if_pos b5, cb, nI_succ]
    · intro r s fuel hr ⟨g1, g2, g3⟩
      right
      obtain ⟨Q, hQ⟩ : ∃ Q, g_upd s 50 b (nI r) = Q := ⟨_, rfl⟩
      have q50 : Q 50 b = nI r := by rw [← hQ, g_upd_get, if_pos ⟨rfl, rfl⟩]
      have qn : ∀ c, c ≠ 69 → c ≠ 50 → Q c = M c := fun c a d => by rw [← hQ, g_upd_ne d, g1 c a d]
      have rQ := rb_ring2 (fun c x y z => qn c (by omega) z) q50 (by omega)
      have RQ : okR Q b := ⟨⟨r, by omega, q50⟩, by rw [qn 51 (by decide) (by decide)]; exact (hB b hb).1.2⟩
      have BQ : okB (rb Q b) := by rw [rQ]; exact Br_ok h (hB b hb).2 e2 hr hnr
      have l := okB_len (hB b hb).2
      have y := py_wellH (M := Q) (b := b) (by omega) RQ BQ (by rw [qn 43 (by decide) (by decide)]; exact T.2) (v := rb M b 5) l.1 l.2
      rw [rQ, qn 43 (by decide) (by decide), qn 47 (by decide) (by decide)] at y
      have v5 : Q 52 b = rb M b 5 := by rw [qn 52 (by decide) (by decide)]; rfl
      have ei : (6 : Int32) * nI b + nI r = nI (6 * b + r) := by rw [show (6 : Int32) = nI 6 from rfl, p_mul, p_add]
      have ci : (nI (6 * b + r)).toNatClampNeg = 6 * b + r := nI_clamp (by omega)
      have bi := p_inb (show 6 * b + r < 30 by omega) (by decide : (30 : Nat) < 2 ^ 31)
      refine ⟨g_upd Q 69 (6 * b + r) (nI (wlN M b r)), ⟨fun c a d => by rw [g_upd_ne a, qn c a d], fun j hj => by rw [g_upd_ne (by decide), ← hQ, g_upd_get, if_neg (fun q => hj q.2), g2 j hj], fun b' r' q hr' => ?_⟩, ?_⟩
      · rw [g_upd_get]
        by_cases z : b' = b ∧ r' = r
        · rw [if_pos ⟨rfl, by omega⟩, z.1, z.2]
        · rw [if_neg (fun k => z (by have := k.2; omega)), ← hQ, g_upd_ne (by decide)]
          exact g3 b' r' (by omega) hr'
      · show x_X9_findWellAt_L19 k2 (fuel + 1) _ _ (nI r) s = x_X9_findWellAt_L19 k2 fuel _ _ (nI (r + 1)) _
        rw [x_X9_findWellAt_L19, g1 41 (by decide) (by decide), e2, if_neg (show ¬ nI nr ≤ nI r from nI_ge hr (by omega)), if_pos b5, if_pos b5, cb, hQ, v5]
        refine (bnd y _).trans ?_
        dsimp only
        rw [ei, ci, nI_succ r]
        unfold wlN WB
        by_cases z : sWH (Br (rb M b) M r) (rb M b 5) (M 43) (M 47 0) (M 47 1) = 4095
        · rw [if_pos z, if_pos bi, if_pos (decide_eq_true z)]
          rfl
        · rw [if_neg z, if_pos bi, if_neg (by rw [decide_eq_true_eq]; exact z)]
          rfl
theorem rd_hor {nr nb : Nat} {way : Nat → Nat} (hnb : nb ≤ 5) (hw : ∀ b, b < nb → way b ≤ nr) (hnr : nr ≤ 6) (w v4 : Int32) {s : g_M} (e2 : s 41 15 = nI nr) (h68 : ∀ b, b < nb → s 68 b = nI (way b)) : x_X9_berths_L155 g_F w v4 0 (nI nb - 1) s = some (if w = 0 then v4 else nI (rd nr way nb 0), s) := by
  rw [show x_X9_berths_L155 g_F w v4 0 (nI nb - 1) s = x_X9_berths_L155 g_F w v4 (nI (rd nr way 0 (nb - 0))) (nI (nb - 0) - 1) s by rw [Nat.sub_zero]; rfl]
  refine p_loop0 (n := nb) (F := fun m fuel (_ : Unit) => x_X9_berths_L155 fuel w v4 (nI (rd nr way m (nb - m))) (nI (nb - m) - 1) s) (I := fun _ _ => True) (R := fun x => x = some (if w = 0 then v4 else nI (rd nr way nb 0), s)) (s := ()) (by omega) trivial ?_ ?_
  · intro _ fuel _
    show x_X9_berths_L155 (fuel + 1) _ _ (nI (rd nr way nb (nb - nb))) (nI (nb - nb) - 1) s = _
    rw [Nat.sub_self, x_X9_berths_L155, if_pos (by decide)]
    split <;> rfl
  · intro m _ fuel hm _
    right
    refine ⟨(), trivial, ?_⟩
    show x_X9_berths_L155 (fuel + 1) _ _ (nI (rd nr way m (nb - m))) (nI (nb - m) - 1) s = x_X9_berths_L155 fuel _ _ (nI (rd nr way (m + 1) (nb - (m + 1)))) (nI (nb - (m + 1)) - 1) s
    obtain ⟨b, hb⟩ : ∃ b, nb - m = b + 1 := ⟨nb - m - 1, by omega⟩
    have cb : (nI b).toNatClampNeg = b := nI_clamp (by omega)
    have b5 := p_inb (show b < 5 by omega) (by decide : (5 : Nat) < 2 ^ 31)
    have wb := hw b (by omega)
    rw [hb, show nb - (m + 1) = b by omega, p_pred, rd, x_X9_berths_L155, if_neg (nI_pos (by omega)), if_pos b5, if_pos b5, cb, h68 b (by omega), e2, show nI b + -1 = nI b - 1 by grind]
    by_cases z : way b < nr
    · rw [if_neg (fun q => by have := (p_eq (by omega) (by omega)).mp q; omega), if_pos z, show (10 : Int32) = nI 10 from rfl, p_mul, p_add, Nat.add_comm]
    · rw [if_pos (by rw [show way b = nr by omega]), if_neg z, show (10 : Int32) = nI 10 from rfl, show (9 : Int32) = nI 9 from rfl, p_mul, p_add, Nat.add_comm]
theorem op_berths (w : Int32) : opOK (x_X8_berths w) (x_X9_berths w) := by
  intro M h
  by_cases w2 : 0 ≤ w ∧ w < 2
  rotate_left
  · have w3 : ¬ (0 ≤ w ∧ w ≤ 1) := fun q => w2 ⟨q.1, by have := q.2; grind⟩
    exact op_ref h (k := 2) (r := -nI 2) (by decide) (by simp [x_X8_berths, px_isOneOf, w2, n2, px_refused]) (fun M1 hc => by simp [x_X9_berths, x_X9_berths_L27, py_isIn, w3, n2, nz2, py_no])
  have w3 : 0 ≤ w ∧ w ≤ 1 := ⟨w2.1, by have := w2.2; grind⟩
  obtain ⟨nr, nb, hnr, hnb, f1, f2, f3, f4, hr, hbt⟩ := inv_B h
  by_cases b0 : nb = 0
  · subst b0
    have f3' : M 1 6 = 0 := f3
    have f4' : M 41 16 = 0 := f4
    exact op_ref h (k := 3) (r := -nI 3) (by decide) (by simp [x_X8_berths, px_isOneOf, w2, f3', n3, px_refused]) (fun M1 hc => by simp [x_X9_berths, x_X9_berths_L27, py_isIn, w3, hc 41 (by decide), f4', n3, nz3, py_no])
  have hB : ∀ b, b < nb → okR M b ∧ okB (rb M b) := fun b hb => ⟨okR_of hnr (hbt b hb).2.1 (hbt b hb).2.2.1, (hbt b hb).2.2.2⟩
  obtain ⟨s, r, x1, x2, x3, x4, x5⟩ := px_berthC h w hnr hnb f1 f2 f3 (fun b hb => (hB b hb).2)
  have nz : ¬ nI nb = (0 : Int32) := fun q => b0 ((p_eq (a := nb) (b := 0) (by omega) (by decide)).mp q)
  have g2 : x_X8_isOneOf w 2 M = some (1, M) := by rw [px_isOneOf, if_pos w2]
  have hx : x_X8_berths w M = some (r, s) := by
    rw [x_X8_berths]
    refine (bnd g2 _).trans ?_
    dsimp only
    rw [if_neg (by decide)]
    refine Eq.trans (if_neg (by rw [f3]; exact nz)) ?_
    exact x4
  refine op_ask h hx (sc5_scr x1) fun h1 hc => ?_
  have rr := rb_eq hc
  have e1' : s 41 16 = nI nb := by rw [hc 41 (by decide)]; exact f4
  have e2' : s 41 15 = nI nr := by rw [hc 41 (by decide)]; exact f2
  have hB' : ∀ b, b < nb → okR s b ∧ okB (rb s b) := fun b hb => ⟨by unfold okR; rw [hc 50 (by decide), hc 51 (by decide)]; exact (hB b hb).1, by rw [rr]; exact (hB b hb).2⟩
  obtain ⟨N, y1, y2, y3⟩ := py_findWell h1 hnr hnb e1' e2' hB'
  have wle : wlN s = wlN M := by
    funext b r
    unfold wlN WB Br
    rw [rr, hc 45 (by decide), hc 46 (by decide), hc 43 (by decide), hc 47 (by decide)]
  rw [wle] at y3
  have cw' : ∀ b r, cB M b r = -(wlN M b r : Int) := fun b r => by
    unfold cB wlN
    split <;> rfl
  have wl1 : ∀ b r, wlN M b r ≤ 1 := fun b r => by unfold wlN; split <;> omega
  have cle : ∀ k a U, dp (cB M) nr 0 k a U ≤ 0 := by
    intro k
    induction k with
    | zero => intro a U; exact Int.le_refl _
    | succ k ih =>
      intro a U
      have l := (mnf_le (cwf (cB M a) (dp (cB M) nr 0 k (a + 1)) U) (0 + dp (cB M) nr 0 k (a + 1) U) nr).1
      have := ih (a + 1) U
      show mnf _ _ _ ≤ _
      omega
  have ok := wy_ok (c := cB M) (nr := nr) (K := nr + 1) (no := 0) (Or.inr rfl) (fun k a U r _ => by have := cle k (a + 1) U; omega) (fun k a U _ => ⟨rfl, by have := cle k (a + 1) U; omega⟩) nb 0 0 (by have := cle nb 0 0; omega)
  obtain ⟨o1, o2, o3, o4⟩ := ok
  simp only [Nat.zero_add] at o3
  rw [cs_SS cw'] at o2
  have v5 := cs_b wl1 nr (wy (cB M) nr 0 nb 0 0) nb 0
  have low := fun way (hF : FE nr way nb 0 0) => dp_le (c := cB M) (no := 0) (way := way) nb 0 0 hF
  generalize hwy : wy (cB M) nr 0 nb 0 0 = wa at *
  generalize hV : cs (wlN M) nr wa nb 0 = V at *
  rw [← o2] at o4 low x5
  have all : (nr + 1) ^ nb ≤ 16807 := Nat.le_trans (Nat.pow_le_pow_left (show nr + 1 ≤ 7 by omega) nb) (Nat.pow_le_pow_right (by decide) hnb)
  have nst : num (nr + 1) wa nb 0 < (nr + 1) ^ nb := num_lt nb 0 (fun i hi => by rw [Nat.zero_add]; exact o3 i hi)
  generalize hn : num (nr + 1) wa nb 0 = ns at *
  have dd : ∀ n, n < (nr + 1) ^ nb → num (nr + 1) (dgt (nr + 1) nb n) nb 0 = n := fun n hn => by rw [num_dgt nb 0 (by omega), Nat.mod_eq_of_lt hn]
  have dK : ∀ n b, dgt (nr + 1) nb n b < nr + 1 := fun n b => Nat.mod_lt _ (by omega)
  have best : ∀ n, n < (nr + 1) ^ nb → FE nr (dgt (nr + 1) nb n) nb 0 0 → cs (wlN M) nr (dgt (nr + 1) nb n) nb 0 ≤ V ∧ (n < ns → cs (wlN M) nr (dgt (nr + 1) nb n) nb 0 < V) := by
    intro n hn2 hF
    have l := low _ hF
    rw [cs_SS cw'] at l
    refine ⟨by omega, fun q => ?_⟩
    by_cases z : cs (wlN M) nr (dgt (nr + 1) nb n) nb 0 < V
    · exact z
    · have := o4 (dgt (nr + 1) nb n) (fun i _ => dK n _) hF (by rw [cs_SS cw']; omega)
      rw [dd n hn2] at this
      omega
  have ways : ∀ b, b < nb → dgt (nr + 1) nb ns b = wa b := fun b hb => by
    have := num_inj (K := nr + 1) (w := dgt (nr + 1) nb ns) (w' := wa) nb 0 (fun i _ => dK ns _) (fun i hi => by rw [Nat.zero_add]; exact o3 i hi) (by rw [dd ns nst, hn]) b hb
    rw [Nat.zero_add] at this
    exact this
  have FEs : FE nr (dgt (nr + 1) nb ns) nb 0 0 ∧ cs (wlN M) nr (dgt (nr + 1) nb ns) nb 0 = V := by
    have key : ∀ k a U, a + k = nb → (FE nr (dgt (nr + 1) nb ns) k a U ↔ FE nr wa k a U) ∧ cs (wlN M) nr (dgt (nr + 1) nb ns) k a = cs (wlN M) nr wa k a := by
      intro k
      induction k with
      | zero => intro a U _; exact ⟨Iff.rfl, rfl⟩
      | succ k ih =>
        intro a U hk
        rw [FE, FE, cs, cs, ways a (by omega), (ih (a + 1) (nx nr U (wa a)) (by omega)).1, (ih (a + 1) 0 (by omega)).2]
        exact ⟨Iff.rfl, rfl⟩
    have k := key nb 0 0 (by omega)
    exact ⟨k.1.mpr o1, by rw [k.2, hV]⟩
  have scan : ∃ s', x_X9_berths_L78 g_F w (nI ((nr + 1) ^ nb)) (-9) 0 N = some (if w = 0 then nI V else nI (rd nr wa nb 0), s') ∧ ∀ c, c ≠ 67 → c ≠ 68 → s' c = N c := by
    refine p_loop0 (n := (nr + 1) ^ nb) (F := fun i fuel (t : Int32 × g_M) => x_X9_berths_L78 fuel w (nI ((nr + 1) ^ nb)) t.1 (nI i) t.2) (I := fun i t => (∀ c, c ≠ 67 → c ≠ 68 → t.2 c = N c) ∧ (i ≤ ns → t.1 = -9 ∨ ∃ m, m < V ∧ t.1 = nI m) ∧ (ns < i → t.1 = nI V ∧ ∀ b, b < nb → t.2 68 b = nI (wa b))) (R := fun x => ∃ s', x = some (if w = 0 then nI V else nI (rd nr wa nb 0), s') ∧ ∀ c, c ≠ 67 → c ≠ 68 → s' c = N c) (s := ((-9 : Int32), N)) (by omega) ⟨fun _ _ _ => rfl, fun _ => Or.inl rfl, fun q => absurd q (by omega)⟩ ?_ ?_
    · rintro ⟨mo, s'⟩ fuel ⟨g1, g2, g3⟩
      obtain ⟨q1, q2⟩ := g3 (by omega)
      refine ⟨s', ?_, g1⟩
      dsimp only at q1 q2 g1
      show x_X9_berths_L78 (fuel + 1) w _ mo (nI ((nr + 1) ^ nb)) s' = _
      rw [x_X9_berths_L78, if_pos (Int32.le_refl _), g1 41 (by decide) (by decide), y2 41 (by decide), e1', q1]
      exact rd_hor hnb (fun b hb => by have := o3 b hb; omega) hnr w (nI V) (by rw [g1 41 (by decide) (by decide), y2 41 (by decide)]; exact e2') q2
    · rintro i ⟨mo, s'⟩ fuel hi ⟨g1, g2, g3⟩
      right
      dsimp only at g1 g2 g3
      have se1 : s' 41 16 = nI nb := by rw [g1 41 (by decide) (by decide), y2 41 (by decide)]; exact e1'
      have se2 : s' 41 15 = nI nr := by rw [g1 41 (by decide) (by decide), y2 41 (by decide)]; exact e2'
      obtain ⟨t, v, k1, k2, k3, k4⟩ := py_wellBy (s := s') (wl := wlN M) hnr hnb se1 se2 (fun b r a c => by rw [g1 69 (by decide) (by decide)]; exact y3 b r a c) wl1 (show i < 20000 by omega)
      have cp : ∀ k78 : Int32 → Int32 → Int32 → Int32 → g_M → Option (Int32 × g_M), ∃ t', (∀ c, c ≠ 67 → c ≠ 68 → t' c = N c) ∧ (∀ b, b < nb → t' 68 b = nI (dgt (nr + 1) nb i b)) ∧ x_X9_berths_L109 k78 g_F w (nI ((nr + 1) ^ nb)) v (nI i) 0 t = k78 w (nI ((nr + 1) ^ nb)) v (nI (i + 1)) t' := by
        intro k78
        refine p_loop0 (n := nb) (F := fun b fuel t => x_X9_berths_L109 k78 fuel w (nI ((nr + 1) ^ nb)) v (nI i) (nI b) t) (I := fun b t' => (∀ c, c ≠ 68 → t' c = t c) ∧ ∀ b', b' < b → t' 68 b' = nI (dgt (nr + 1) nb i b')) (R := fun x => ∃ t', (∀ c, c ≠ 67 → c ≠ 68 → t' c = N c) ∧ (∀ b, b < nb → t' 68 b = nI (dgt (nr + 1) nb i b)) ∧ x = k78 w (nI ((nr + 1) ^ nb)) v (nI (i + 1)) t') (s := t) (by omega) ⟨fun _ _ => rfl, fun b' hb' => absurd hb' (by omega)⟩ ?_ ?_
        · intro t' fuel ⟨a1, a2⟩
          refine ⟨t', fun c x y => by rw [a1 c y, k2 c x, g1 c x y], a2, ?_⟩
          show x_X9_berths_L109 k78 (fuel + 1) _ _ _ _ (nI nb) t' = _
          rw [x_X9_berths_L109, a1 41 (by decide), k2 41 (by decide), se1, if_pos (Int32.le_refl _), nI_succ]
        · intro b t' fuel hb ⟨a1, a2⟩
          right
          have cb : (nI b).toNatClampNeg = b := nI_clamp (by omega)
          have b5 := p_inb (show b < 5 by omega) (by decide : (5 : Nat) < 2 ^ 31)
          refine ⟨g_upd t' 68 b (t' 67 b), ⟨fun c hc => by rw [g_upd_ne hc, a1 c hc], fun b' hb' => ?_⟩, ?_⟩
          · rw [g_upd_get]
            by_cases z : b' = b
            · rw [if_pos ⟨rfl, z⟩, a1 67 (by decide), k3 b hb, z]
            · rw [if_neg (fun q => z q.2)]; exact a2 b' (by omega)
          · show x_X9_berths_L109 k78 (fuel + 1) _ _ _ _ (nI b) t' = x_X9_berths_L109 k78 fuel _ _ _ _ (nI (b + 1)) _
            rw [x_X9_berths_L109, a1 41 (by decide), k2 41 (by decide), se1, if_neg (show ¬ nI nb ≤ nI b from nI_ge hb (by omega)), if_pos b5, if_pos b5, cb, nI_succ b]
      have e0 : x_X9_berths_L78 (fuel + 1) w (nI ((nr + 1) ^ nb)) mo (nI i) s' = if mo < v then x_X9_berths_L109 (x_X9_berths_L78 fuel) g_F w (nI ((nr + 1) ^ nb)) v (nI i) 0 t else x_X9_berths_L78 fuel w (nI ((nr + 1) ^ nb)) mo (nI (i + 1)) t := by
        rw [x_X9_berths_L78, if_neg (show ¬ nI ((nr + 1) ^ nb) ≤ nI i from nI_ge hi (by omega))]
        refine (bnd k1 _).trans ?_
        dsimp only
        rw [nI_succ i]
      show ∃ t' : Int32 × g_M, _ ∧ x_X9_berths_L78 (fuel + 1) w (nI ((nr + 1) ^ nb)) mo (nI i) s' = x_X9_berths_L78 fuel w (nI ((nr + 1) ^ nb)) t'.1 (nI (i + 1)) t'.2
      rw [e0]
      by_cases z : mo < v
      · rw [if_pos z]
        obtain ⟨t', c1, c2, c3⟩ := cp (x_X9_berths_L78 fuel)
        rw [c3]
        refine ⟨(v, t'), ⟨c1, fun q => ?_, fun q => ?_⟩, rfl⟩
        · rcases k4 with ⟨q1, q2⟩ | ⟨q1, q2⟩
          · exact Or.inr ⟨_, (best i hi q1).2 (by omega), q2⟩
          · exact Or.inl q2
        · by_cases y : i = ns
          · rw [y] at k4 c2
            rcases k4 with ⟨q1, q2⟩ | ⟨q1, q2⟩
            · exact ⟨by rw [q2, FEs.2], fun b hb => by show t' 68 b = _; rw [c2 b hb, ways b hb]⟩
            · exact absurd FEs.1 q1
          · have g := g3 (by omega)
            exfalso
            rcases k4 with ⟨q1, q2⟩ | ⟨q1, q2⟩
            · have := (best i hi q1).1
              rw [g.1, q2, p_lt (by omega) (by omega)] at z
              omega
            · rw [g.1, q2] at z
              have : 0 ≤ nI V := p_ge0 (by omega)
              grind
      · rw [if_neg z]
        refine ⟨(mo, t), ⟨fun c x y => by show t c = _; rw [k2 c x, g1 c x y], fun q => g2 (by omega), fun q => ?_⟩, rfl⟩
        by_cases y : i = ns
        · exfalso
          rw [y] at k4
          rcases k4 with ⟨q1, q2⟩ | ⟨q1, q2⟩
          · rw [q2, FEs.2] at z
            rcases g2 (by omega) with g | ⟨m, hm, g⟩
            · rw [g] at z
              have : 0 ≤ nI V := p_ge0 (by omega)
              exact z (by grind)
            · rw [g, p_lt (by omega) (by omega)] at z
              exact z hm
          · exact q1 FEs.1
        · have g := g3 (by omega)
          exact ⟨g.1, fun b hb => by rw [show (mo, t).2 68 b = s' 68 b from by show t 68 b = _; rw [k2 68 (by decide)]]; exact g.2 b hb⟩
  obtain ⟨s', z1, z2⟩ := scan
  have core : ∀ c, c ≠ 67 → c ≠ 68 → c ≠ 69 → s' c = s c := fun c a b d => by rw [z2 c a b, y2 c d]
  refine ⟨s', ?_, fun c a => core c (by omega) (by omega) (by omega), fun c a b => core c (by omega) (by omega) (by omega), fun i _ _ _ _ => by rw [core 41 (by decide) (by decide) (by decide)], fun c a b => core c (by omega) (by omega) (by omega), fun i _ => by rw [core 61 (by decide) (by decide) (by decide)], fun c a b => core c (by omega) (by omega) (by omega)⟩
  have g3 : x_X9_isIn w 0 1 s = some (1, s) := by rw [py_isIn, if_pos w3]
  rw [x_X9_berths]
  refine (bnd g3 _).trans ?_
  dsimp only
  rw [if_neg (by decide)]
  refine Eq.trans (if_neg (by rw [e1']; exact nz)) ?_
  rw [x_X9_berths_L27, if_pos rfl]
  have pw : x_X9_berths_L43 g_F w 1 0 s = some (r, s') := by
    rw [show x_X9_berths_L43 g_F w 1 0 s = x_X9_berths_L43 g_F w (nI ((nr + 1) ^ 0)) (nI 0) s by rw [Nat.pow_zero]; rfl]
    refine p_loop0 (n := nb) (F := fun i fuel (_ : Unit) => x_X9_berths_L43 fuel w (nI ((nr + 1) ^ i)) (nI i) s) (I := fun _ _ => True) (R := fun x => x = some (r, s')) (s := ()) (by omega) trivial ?_ ?_
    · intro _ fuel _
      show x_X9_berths_L43 (fuel + 1) w _ (nI nb) s = _
      rw [x_X9_berths_L43, e1', if_pos (Int32.le_refl _)]
      refine (bnd y1 _).trans ?_
      refine Eq.trans z1 ?_
      rw [x5]
      have vz : ∀ V : Nat, V < 6 → -zI (-(V : Int)) = nI V := by decide
      rw [vz V (by omega)]
    · intro i _ fuel hi _
      right
      refine ⟨(), trivial, ?_⟩
      show x_X9_berths_L43 (fuel + 1) w (nI ((nr + 1) ^ i)) (nI i) s = x_X9_berths_L43 fuel w (nI ((nr + 1) ^ (i + 1))) (nI (i + 1)) s
      rw [x_X9_berths_L43, e1', if_neg (show ¬ nI nb ≤ nI i from nI_ge hi (by omega)), e2', ← nI_succ nr, p_mul, Nat.pow_succ, nI_succ i]
  exact pw
