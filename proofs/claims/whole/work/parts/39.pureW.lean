/-! THE PURE PART. W: touch, clear, crossed -/
def sTc (B B' : Nat → Int32) (v v' t : Int32) : Bool := decide (¬ v * v < sN B t ∧ ¬ v' * v' < sN B' t ∧ ¬ sM B' + sR B' v' t + B' 6 < sM B - sR B v t ∧ ¬ sM B + sR B v t + B 6 < sM B' - sR B' v' t)
def sTH (B B' : Nat → Int32) (v v' : Int32) (T : Nat → Int32) : Int32 := bt (fun h => sTc B B' v v' (T h)) 12
theorem sTH_cg {B B' : Nat → Int32} {v v' : Int32} {T T' : Nat → Int32} (h : ∀ k, k < 12 → T k = T' k) : sTH B B' v v' T = sTH B B' v v' T' := bt_cg fun i hi => by rw [h i hi]
theorem px_touchesAt {M : g_M} {B B' : Nat → Int32} (h : isM 27 M B) (h' : isM 28 M B') (hB : okB B) (hB' : okB B') {v v' t : Int32} (hv : 0 ≤ v ∧ v ≤ 99) (hv' : 0 ≤ v' ∧ v' ≤ 99) (ht : 0 ≤ t ∧ t ≤ 40) : x_X5_touchesAt 27 28 v v' t M = some (if sTc B B' v v' t = true then 1 else 0, M) := by
  unfold sTc
  rw [x_X5_touchesAt]
  refine (bnd (px_hangs h v t) _).trans ?_
  dsimp only
  simp only [decide_eq_true_eq]
  by_cases a1 : v * v < sN B t
  · rw [if_pos a1, if_neg (by decide), if_neg (fun q => q.1 a1)]
  rw [if_neg a1, if_pos rfl]
  refine (bnd (px_hangs h' v' t) _).trans ?_
  dsimp only
  by_cases a2 : v' * v' < sN B' t
  · rw [if_pos a2, if_neg (by decide), if_neg (fun q => q.2.1 a2)]
  rw [if_neg a2, if_pos rfl]
  refine (bnd (px_reach h hB hv.1 hv.2 ht.1 ht.2) _).trans ?_
  refine (bnd (px_reach h' hB' hv'.1 hv'.2 ht.1 ht.2) _).trans ?_
  refine (bnd (px_mid h) _).trans ?_
  refine (bnd (px_mid h') _).trans ?_
  dsimp only
  have h6' := h' 6 (by decide)
  have h6 := h 6 (by decide)
  by_cases a3 : sM B' + sR B' v' t + M 28 6 < sM B - sR B v t
  · rw [if_pos a3, if_neg (fun q => q.2.2.1 (by rw [← h6']; exact a3))]
  rw [if_neg a3]
  by_cases a4 : sM B + sR B v t + M 27 6 < sM B' - sR B' v' t
  · rw [if_pos a4, if_neg (fun q => q.2.2.2 (by rw [← h6]; exact a4))]
  · rw [if_neg a4, if_pos ⟨a1, a2, by rw [← h6']; exact a3, by rw [← h6]; exact a4⟩]
theorem px_touching {M : g_M} {B B' : Nat → Int32} (h : isM 27 M B) (h' : isM 28 M B') (hB : okB B) (hB' : okB B') {v v' : Int32} (hv : 0 ≤ v ∧ v ≤ 99) (hv' : 0 ≤ v' ∧ v' ≤ 99) (hT : okT (M 2)) : x_X5_touching 27 28 (1 + 1) 12 v v' M = some (sTH B B' v v' (M 2), M) := by
  unfold x_X5_touching
  refine p_loop0 (n := 12) (F := fun i fuel (_ : Unit) => x_X5_touching_L6 27 28 (1 + 1) 12 fuel v v' (bt (fun h => sTc B B' v v' (M 2 h)) i) (nI i) M) (I := fun _ _ => True) (R := fun r => r = some (sTH B B' v v' (M 2), M)) (s := ()) (by decide) trivial ?_ ?_
  · intro _ fuel _
    show x_X5_touching_L6 27 28 (1 + 1) 12 (fuel + 1) v v' _ (nI 12) M = _
    rw [x_X5_touching_L6, if_pos (by decide)]
    rfl
  · intro i _ fuel hi _
    right
    refine ⟨(), trivial, ?_⟩
    have c : (nI i).toNatClampNeg = i := nI_clamp (by omega)
    show x_X5_touching_L6 27 28 (1 + 1) 12 (fuel + 1) v v' (bt _ i) (nI i) M = x_X5_touching_L6 27 28 (1 + 1) 12 fuel v v' (bt _ (i + 1)) (nI (i + 1)) M
    rw [x_X5_touching_L6, if_neg (show ¬ Int32.ofNat 12 ≤ nI i from p_n12 hi), if_pos (p_inb hi (by decide)), c]
    refine (bnd (px_touchesAt h h' hB hB' hv hv' (hT i hi)) _).trans ?_
    dsimp only
    rw [nI_succ]
    by_cases q : sTc B B' v v' (M 2 i) = true
    · rw [if_pos q, if_neg (by decide), bt_t (p := fun h => sTc B B' v v' (M 2 h)) q]
    · rw [if_neg q, if_pos rfl, bt_f (p := fun h => sTc B B' v v' (M 2 h)) q]
theorem py_doTouch {M : g_M} {a b h : Nat} (ha : a < 5) (hb : b < 5) (hh : h < 12) (hRa : okR M a) (hRb : okR M b) (hBa : okB (rb M a)) (hBb : okB (rb M b)) (hT : okT (M 43)) : x_X9_doTouch (nI a) (nI b) (nI h) M = some (if sTc (rb M a) (rb M b) (rb M a 5) (rb M b 5) (M 43 h) = true then 1 else 0, M) := by
  have ca : (nI a).toNatClampNeg = a := nI_clamp (by omega)
  have cb : (nI b).toNatClampNeg = b := nI_clamp (by omega)
  have ia := p_inb ha (by decide : (5 : Nat) < 2 ^ 31)
  have ib := p_inb hb (by decide : (5 : Nat) < 2 ^ 31)
  have ya := py_hangsWith ha hh hRa hBa (hT h hh) (rb M a 5)
  have yb := py_hangsWith hb hh hRb hBb (hT h hh) (rb M b 5)
  have oa := py_outAt ha hh hRa hBa hT
  have ob := py_outAt hb hh hRb hBb hT
  have ma := py_mid ha hRa
  have mb := py_mid hb hRb
  unfold sTc
  rw [x_X9_doTouch, if_pos ia, ca]
  refine (bnd ya _).trans ?_
  dsimp only
  simp only [decide_eq_true_eq]
  by_cases a1 : rb M a 5 * rb M a 5 < sN (rb M a) (M 43 h)
  · rw [if_pos a1, if_neg (by decide), if_neg (fun q => q.1 a1)]
  rw [if_neg a1, if_pos rfl, if_pos ib, cb]
  refine (bnd yb _).trans ?_
  dsimp only
  by_cases a2 : rb M b 5 * rb M b 5 < sN (rb M b) (M 43 h)
  · rw [if_pos a2, if_neg (by decide), if_neg (fun q => q.2.1 a2)]
  rw [if_neg a2, if_pos rfl]
  refine (bnd ma _).trans ?_
  refine (bnd oa _).trans ?_
  refine (bnd mb _).trans ?_
  refine (bnd ob _).trans ?_
  dsimp only
  rw [if_pos ib]
  by_cases a3 : sM (rb M b) + sR (rb M b) (rb M b 5) (M 43 h) + rb M b 6 < sM (rb M a) - sR (rb M a) (rb M a 5) (M 43 h)
  · refine Eq.trans (if_pos a3) ?_
    rw [if_neg (fun q => q.2.2.1 a3)]
  refine (if_neg a3).trans ?_
  refine (bnd mb _).trans ?_
  refine (bnd ob _).trans ?_
  refine (bnd ma _).trans ?_
  refine (bnd oa _).trans ?_
  dsimp only
  rw [if_pos ia]
  by_cases a4 : sM (rb M a) + sR (rb M a) (rb M a 5) (M 43 h) + rb M a 6 < sM (rb M b) - sR (rb M b) (rb M b 5) (M 43 h)
  · refine Eq.trans (if_pos a4) ?_
    rw [if_neg (fun q => q.2.2.2 a4)]
  · refine Eq.trans (if_neg a4) ?_
    rw [if_pos ⟨a1, a2, a3, a4⟩]
theorem py_touchH {M : g_M} {a b : Nat} (ha : a < 5) (hb : b < 5) (hRa : okR M a) (hRb : okR M b) (hBa : okB (rb M a)) (hBb : okB (rb M b)) (hT : okT (M 43)) : x_X9_touchHours (nI a) (nI b) M = some (sTH (rb M a) (rb M b) (rb M a 5) (rb M b 5) (M 43), M) := by
  unfold x_X9_touchHours
  refine p_loop0 (n := 12) (F := fun i fuel (_ : Unit) => x_X9_touchHours_L5 fuel (nI a) (nI b) (bt (fun h => sTc (rb M a) (rb M b) (rb M a 5) (rb M b 5) (M 43 h)) i) (nI i) M) (I := fun _ _ => True) (R := fun r => r = some (sTH (rb M a) (rb M b) (rb M a 5) (rb M b 5) (M 43), M)) (s := ()) (by decide) trivial ?_ ?_
  · intro _ fuel _
    show x_X9_touchHours_L5 (fuel + 1) _ _ _ (nI 12) M = _
    rw [x_X9_touchHours_L5, if_pos (by decide)]
    rfl
  · intro i _ fuel hi _
    right
    refine ⟨(), trivial, ?_⟩
    show x_X9_touchHours_L5 (fuel + 1) _ _ (bt _ i) (nI i) M = x_X9_touchHours_L5 fuel _ _ (bt _ (i + 1)) (nI (i + 1)) M
    rw [x_X9_touchHours_L5, if_neg (p_n12 hi)]
    refine (bnd (py_doTouch ha hb hi hRa hRb hBa hBb hT) _).trans ?_
    dsimp only
    rw [nI_succ]
    by_cases q : sTc (rb M a) (rb M b) (rb M a 5) (rb M b 5) (M 43 i) = true
    · rw [if_pos q, if_neg (by decide), bt_t (p := fun h => sTc (rb M a) (rb M b) (rb M a 5) (rb M b 5) (M 43 h)) q]
    · rw [if_neg q, if_pos rfl, bt_f0 (p := fun h => sTc (rb M a) (rb M b) (rb M a 5) (rb M b 5) (M 43 h)) q]
/-- two loaded -/
theorem lx2 {M s : g_M} (hi : inv M) (h : sc M s) {nb a b : Nat} (hn : M 1 6 = nI nb) (hnb : nb ≤ 5) (ha : a < nb) (hb : b < nb) : ∃ s1 s2, x_X5_load 27 1 (nI a) s = some (0, s1) ∧ x_X5_load 28 1 (nI b) s1 = some (0, s2) ∧ isM 27 s2 (rb M a) ∧ isM 28 s2 (rb M b) ∧ sc M s2 ∧ (∀ k, k < 12 → s2 2 k = M 43 k) ∧ okT (s2 2) := by
  obtain ⟨s1, a1, a2, a3, a4, a5, a6⟩ := sld hi h (q := 27) (Or.inl rfl) hn hnb ha
  obtain ⟨s2, b1, b2, b3, b4, b5, b6⟩ := sld hi a4 (q := 28) (Or.inr rfl) hn hnb hb
  exact ⟨s1, s2, a1, b1, fun j hj => by rw [b3 27 (by decide)]; exact a2 j hj, b2, b4, b5, b6⟩
theorem px_two (p p2 : Int32) (M : g_M) : x_X8_areTwoBoats p p2 M = some (if (0 ≤ p ∧ p < M 1 6) ∧ (0 ≤ p2 ∧ p2 < M 1 6) ∧ ¬ p = p2 then 1 else 0, M) := by
  rw [x_X8_areTwoBoats]
  refine (bnd (px_hasBoat 1 p M) _).trans ?_
  dsimp only
  by_cases h1 : 0 ≤ p ∧ p < M 1 6
  · rw [if_pos h1, if_neg (by decide)]
    refine (bnd (px_hasBoat 1 p2 M) _).trans ?_
    dsimp only
    by_cases h2 : 0 ≤ p2 ∧ p2 < M 1 6
    · rw [if_pos h2, if_neg (by decide)]
      by_cases h3 : p = p2
      · rw [if_pos h3, if_neg (fun q => q.2.2 h3)]
      · rw [if_neg h3, if_pos ⟨h1, h2, h3⟩]
    · rw [if_neg h2, if_pos rfl, if_neg (fun q => h2 q.2.1)]
  · rw [if_neg h1, if_pos rfl, if_neg (fun q => h1 q.1)]
theorem py_two (p p2 : Int32) (M : g_M) : x_X9_areTwo p p2 M = some (if (0 ≤ p ∧ p < M 41 16) ∧ (0 ≤ p2 ∧ p2 < M 41 16) ∧ ¬ p = p2 then 1 else 0, M) := by
  rw [x_X9_areTwo]
  refine (bnd (py_isBoat p M) _).trans ?_
  dsimp only
  by_cases h1 : 0 ≤ p ∧ p < M 41 16
  · rw [if_pos h1, if_neg (by decide)]
    refine (bnd (py_isBoat p2 M) _).trans ?_
    dsimp only
    by_cases h2 : 0 ≤ p2 ∧ p2 < M 41 16
    · rw [if_pos h2, if_neg (by decide)]
      by_cases h3 : p = p2
      · rw [if_pos h3, if_neg (fun q => q.2.2 h3)]
      · rw [if_neg h3, if_pos ⟨h1, h2, h3⟩]
    · rw [if_neg h2, if_pos rfl, if_neg (fun q => h2 q.2.1)]
  · rw [if_neg h1, if_pos rfl, if_neg (fun q => h1 q.1)]
/-- both boats, on both sides -/
theorem bo2 {M : g_M} (h : inv M) {p p2 : Int32} (hp : (0 ≤ p ∧ p < M 1 6) ∧ (0 ≤ p2 ∧ p2 < M 1 6) ∧ ¬ p = p2) : ∃ nb a b : Nat, p = nI a ∧ p2 = nI b ∧ M 1 6 = nI nb ∧ nb ≤ 5 ∧ a < nb ∧ b < nb ∧ ¬ a = b ∧ okR M a ∧ okR M b ∧ okB (rb M a) ∧ okB (rb M b) ∧ ∀ M1 : g_M, (∀ c, 41 ≤ c → M1 c = M c) → x_X9_areTwo (nI a) (nI b) M1 = some (1, M1) ∧ okR M1 a ∧ okR M1 b ∧ okT (M1 43) ∧ rb M1 = rb M ∧ M1 43 = M 43 := by
  obtain ⟨nb, nb5, e1, e2, hB⟩ := inv_nb h
  obtain ⟨h1, h2, h3⟩ := hp
  have h1' := h1.2
  have h2' := h2.2
  rw [e1] at h1' h2'
  obtain ⟨a, ha, rfl⟩ := p_in (by omega) h1.1 h1'
  obtain ⟨b, hb, rfl⟩ := p_in (by omega) h2.1 h2'
  refine ⟨nb, a, b, rfl, rfl, e1, nb5, ha, hb, fun q => h3 (by rw [q]), (hB a ha).1, (hB b hb).1, (hB a ha).2, (hB b hb).2, fun M1 hc => ⟨?_, ?_, ?_, ?_, rb_eq hc, hc 43 (by decide)⟩⟩
  · rw [py_two, hc 41 (by decide), e2, if_pos ⟨⟨h1.1, h1'⟩, ⟨h2.1, h2'⟩, h3⟩]
  · unfold okR; rw [hc 50 (by decide), hc 51 (by decide)]; exact (hB a ha).1
  · unfold okR; rw [hc 50 (by decide), hc 51 (by decide)]; exact (hB b hb).1
  · rw [hc 43 (by decide)]; exact (inv_T h).2
theorem no2 {M M1 : g_M} (h : inv M) {p p2 : Int32} (hp : ¬ ((0 ≤ p ∧ p < M 1 6) ∧ (0 ≤ p2 ∧ p2 < M 1 6) ∧ ¬ p = p2)) (hc : ∀ c, 41 ≤ c → M1 c = M c) : x_X9_areTwo p p2 M1 = some (0, M1) := by
  rw [py_two, hc 41 (by decide), ← nbo h, if_neg hp]
theorem op_touch (p p2 : Int32) : opOK (x_X8_touch p p2) (x_X9_touch p p2) := by
  intro M h
  by_cases hp : (0 ≤ p ∧ p < M 1 6) ∧ (0 ≤ p2 ∧ p2 < M 1 6) ∧ ¬ p = p2
  rotate_left
  · have g : x_X8_areTwoBoats p p2 M = some (0, M) := by rw [px_two, if_neg hp]
    exact op_ref h (k := 1) (r := -nI 1) (by decide) (by simp [x_X8_touch, g, n1, px_refused]) (fun M1 hc => by simp [x_X9_touch, no2 h hp hc, n1, py_no])
  have g : x_X8_areTwoBoats p p2 M = some (1, M) := by rw [px_two, if_pos hp]
  obtain ⟨nb, a, b, rfl, rfl, e1, nb5, ha, hb, hab, hRa, hRb, hBa, hBb, hy⟩ := bo2 h hp
  obtain ⟨s1, s2, l1, l2, i1, i2, hs, tt, T2⟩ := lx2 h (sc_rf M) e1 nb5 ha hb
  have hx : x_X8_touch (nI a) (nI b) M = some (sTH (rb M a) (rb M b) (rb M a 5) (rb M b 5) (M 43), s2) := by
    rw [x_X8_touch]
    refine (bnd g _).trans ?_
    dsimp only
    rw [if_neg (by decide)]
    refine (bnd l1 _).trans ?_
    refine (bnd l2 _).trans ?_
    dsimp only
    rw [i1 5 (by decide), i2 5 (by decide)]
    refine (bnd (px_touching i1 i2 hBa hBb (okB_len hBa) (okB_len hBb) T2) _).trans ?_
    dsimp only
    rw [sTH_cg tt]
  refine op_ask h hx (sc_scr hs) fun h1 hc => ⟨s2, ?_, coreEq_rf _⟩
  obtain ⟨y1, y2, y3, y4, y5, y6⟩ := hy s2 hc
  rw [x_X9_touch]
  refine (bnd y1 _).trans ?_
  dsimp only
  rw [if_neg (by decide)]
  refine (bnd (py_touchH (by omega) (by omega) y2 y3 (by rw [y5]; exact hBa) (by rw [y5]; exact hBb) y4) _).trans ?_
  dsimp only
  rw [y5, y6]
/-! a boat with another LENGTH -/
def Bl (B : Nat → Int32) (v : Int32) : Nat → Int32 := fun j => if j = 5 then v else B j
theorem Bl_ok {B : Nat → Int32} (hB : okB B) {v : Int32} (hv : 0 ≤ v ∧ v ≤ 99) : okB (Bl B v) := by
  obtain ⟨a1, a2, a3, a4, a5, a6, a7, a8, a9, a10, a11, a12, a13⟩ := hB
  exact ⟨a1, a2, a3, a4, a5, a6, a7, a8, a9, a10, hv.1, hv.2, a13⟩
theorem rb_len (M : g_M) (b : Nat) (v : Int32) : rb (g_upd M 52 b v) b = Bl (rb M b) v := by
  funext j
  unfold rb Bl
  by_cases z : j = 5
  · subst z
    simp [g_upd_get]
  · simp [z, g_upd_get]
theorem rb_len2 (M : g_M) {a b : Nat} (h : ¬ b = a) (v : Int32) : rb (g_upd M 52 a v) b = rb M b := by
  funext j
  unfold rb
  simp [g_upd_get, h]
theorem sTH_Bl (B B' : Nat → Int32) (u v v' : Int32) (T : Nat → Int32) : sTH (Bl B u) B' v v' T = sTH B B' v v' T := rfl
theorem sTH_Bl2 (B B' : Nat → Int32) (u v v' : Int32) (T : Nat → Int32) : sTH B (Bl B' u) v v' T = sTH B B' v v' T := rfl
theorem isS_sTH (B B' : Nat → Int32) (v v' : Int32) (T : Nat → Int32) : isS (sTH B B' v v' T) := by
  unfold sTH
  exact isS_bt _
/-- the first of the fewest -/
def cl (f : Nat → Int32) : Nat → Nat → Int32 → Int32 → Int32
  | 0, _, b, _ => b
  | k + 1, i, b, w => if f i < w then cl f k (i + 1) (nI i) (f i) else cl f k (i + 1) b w
theorem op_clear (p p2 : Int32) : opOK (x_X8_clear p p2) (x_X9_clear p p2) := by
  intro M h
  by_cases hp : (0 ≤ p ∧ p < M 1 6) ∧ (0 ≤ p2 ∧ p2 < M 1 6) ∧ ¬ p = p2
  rotate_left
  · have g : x_X8_areTwoBoats p p2 M = some (0, M) := by rw [px_two, if_neg hp]
    exact op_ref h (k := 1) (r := -nI 1) (by decide) (by simp [x_X8_clear, g, n1, px_refused]) (fun M1 hc => by simp [x_X9_clear, no2 h hp hc, n1, py_no])
  have g : x_X8_areTwoBoats p p2 M = some (1, M) := by rw [px_two, if_pos hp]
  obtain ⟨nb, a, b, rfl, rfl, e1, nb5, ha, hb, hab, hRa, hRb, hBa, hBb, hy⟩ := bo2 h hp
  obtain ⟨s1, s2, l1, l2, i1, i2, hs, tt, T2⟩ := lx2 h (sc_rf M) e1 nb5 ha hb
  have T := inv_T h
  let f : Nat → Int32 := fun i => bc (sTH (rb M a) (rb M b) (nI i) (rb M b 5) (M 43))
  have fv : ∀ i, bc (sTH (rb M a) (rb M b) (nI i) (rb M b 5) (M 43)) = f i := fun _ => rfl
  clear_value f
  have f12 : ∀ i, 0 ≤ f i ∧ f i ≤ 12 := fun i => by rw [← fv]; exact (bc_of (isS_sTH ..)).2
  have L79 := sL_79 hBa T.2
  generalize hL : sL (rb M a) (M 43) = L at L79
  have lx : ∀ k i fuel bst w, i + k = 100 → k < fuel → x_X8_clear_L62 fuel bst w (nI i) s2 = some (cl f k i bst w, s2) := by
    intro k
    induction k with
    | zero =>
      intro i fuel bst w hi hf
      obtain ⟨m, rfl⟩ : ∃ m, fuel = m + 1 := ⟨fuel - 1, by omega⟩
      obtain rfl : i = 100 := by omega
      rw [x_X8_clear_L62, if_pos (by decide)]
      rfl
    | succ k ih =>
      intro i fuel bst w hi hf
      obtain ⟨m, rfl⟩ : ∃ m, fuel = m + 1 := ⟨fuel - 1, by omega⟩
      rw [x_X8_clear_L62, if_neg (p_99 (by omega)), i2 5 (by decide)]
      refine (bnd (px_touching i1 i2 hBa hBb (nI_99 (by omega)) (okB_len hBb) T2) _).trans ?_
      refine (bnd (px_bits _ _) _).trans ?_
      dsimp only
      rw [sTH_cg tt, fv, ← nI_succ, cl]
      by_cases z : f i < w
      · rw [if_neg (by rw [Int32.not_le]; exact z), if_pos z]
        exact ih (i + 1) m _ _ (by omega) (by omega)
      · rw [if_pos (by rw [← Int32.not_lt]; exact z), if_neg z]
        exact ih (i + 1) m _ _ (by omega) (by omega)
  have same : cl f (100 - L) L (-9) 13 = cl f (100 - L) L (-9) 99 := by
    obtain ⟨k, hk⟩ : ∃ k, 100 - L = k + 1 := ⟨99 - L, by omega⟩
    have q := f12 L
    rw [hk, cl, cl, if_pos (by have := q.2; grind), if_pos (by have := q.2; grind)]
  have hx : x_X8_clear (nI a) (nI b) M = some (cl f (100 - L) L (-9) 13, s2) := by
    rw [x_X8_clear]
    refine (bnd g _).trans ?_
    dsimp only
    rw [if_neg (by decide)]
    refine (bnd l1 _).trans ?_
    refine (bnd l2 _).trans ?_
    refine (bnd (px_leastFor i1 hBa T2) _).trans ?_
    dsimp only
    rw [sL_cg tt, hL]
    exact lx (100 - L) L g_F _ _ (by omega) (by show 100 - L < 20000; omega)
  refine op_ask h hx (sc_scr hs) fun h1 hc => ⟨s2, ?_, coreEq_rf _⟩
  obtain ⟨y1, y2, y3, y4, y5, y6⟩ := hy s2 hc
  have ca : (nI a).toNatClampNeg = a := nI_clamp (by omega)
  have ia := p_inb (show a < 5 by omega) (by decide : (5 : Nat) < 2 ^ 31)
  have yl := py_least (M := s2) (b := a) (by omega) y2 (by rw [y5]; exact hBa) y4
  rw [y5, y6, hL] at yl
  rw [x_X9_clear]
  refine (bnd y1 _).trans ?_
  dsimp only
  rw [if_neg (by decide)]
  refine (bnd yl _).trans ?_
  dsimp only
  rw [if_pos ia, ca, same]
  have ly : ∀ k i fuel bst w x, i + k = 100 → k < fuel → x_X9_clear_L40 fuel (nI a) (nI b) (nI L) (s2 52 a) bst w (nI i) (g_upd s2 52 a x) = some (cl f k i bst w, s2) := by
    intro k
    induction k with
    | zero =>
      intro i fuel bst w x hi hf
      obtain ⟨m, rfl⟩ : ∃ m, fuel = m + 1 := ⟨fuel - 1, by omega⟩
      obtain rfl : i = 100 := by omega
      rw [x_X9_clear_L40, if_pos (by decide), if_pos ia, ca, upd_back]
      rfl
    | succ k ih =>
      intro i fuel bst w x hi hf
      obtain ⟨m, rfl⟩ : ∃ m, fuel = m + 1 := ⟨fuel - 1, by omega⟩
      rw [x_X9_clear_L40, if_neg (p_99 (by omega)), if_neg (nI_pos (by omega)), if_pos ia, ca, upd_twice]
      have hN := py_touchH (M := g_upd s2 52 a (nI i)) (a := a) (b := b) (by omega) (by omega) (by unfold okR; rw [g_upd_ne (by decide), g_upd_ne (by decide)]; exact y2) (by unfold okR; rw [g_upd_ne (by decide), g_upd_ne (by decide)]; exact y3) (by rw [rb_len, y5]; exact Bl_ok hBa (nI_99 (by omega))) (by rw [rb_len2 _ (fun q => hab q.symm), y5]; exact hBb) (by rw [g_upd_ne (by decide)]; exact y4)
      rw [rb_len, rb_len2 _ (fun q => hab q.symm), g_upd_ne (show 43 ≠ 52 by decide), y5, y6, sTH_Bl] at hN
      refine (bnd hN _).trans ?_
      refine (bnd (py_bits (isS_sTH ..) _) _).trans ?_
      dsimp only
      rw [show bc (sTH (rb M a) (rb M b) (Bl (rb M a) (nI i) 5) (rb M b 5) (M 43)) = f i from fv i, ← nI_succ, cl]
      by_cases z : f i < w
      · rw [if_pos z, if_pos z]
        exact ih (i + 1) m _ _ _ (by omega) (by omega)
      · rw [if_neg z, if_neg z]
        exact ih (i + 1) m _ _ _ (by omega) (by omega)
  have q := ly (100 - L) L g_F (-9) 99 (s2 52 a) (by omega) (by show 100 - L < 20000; omega)
  rw [upd_same rfl] at q
  exact q
