/-! THE PURE PART. ZP: the loop of the law -/
def Pr (x : Option (Int32 × g_M)) : Prop := ∃ M', x = some (1, M')
theorem pr_ite {c : Prop} [Decidable c] {a b : Option (Int32 × g_M)} (ha : Pr a) (hb : Pr b) : Pr (if c then a else b) := by
  split
  · exact ha
  · exact hb
theorem arm0 {fx fy : g_M → Option (Int32 × g_M)} (h : opOK fx fy) {M : g_M} (hM : inv M) {K : g_M → Option (Int32 × g_M)} (hK : ∀ M2, inv M2 → Pr (K M2)) : Pr ((fx M).bind fun u => (fy u.2).bind fun v => if u.1 = v.1 then K v.2 else some ((0 : Int32), v.2)) := by
  obtain ⟨r, M1, M2, a, b, c⟩ := h M hM
  rw [a]
  show Pr ((fy M1).bind fun v => if r = v.1 then K v.2 else some ((0 : Int32), v.2))
  rw [b]
  show Pr (if r = r then K M2 else some ((0 : Int32), M2))
  rw [if_pos rfl]
  exact hK M2 c
theorem arm1 {c1 : Prop} [Decidable c1] (h1 : c1) {fx fy : g_M → Option (Int32 × g_M)} (h : opOK fx fy) {M : g_M} (hM : inv M) {K : g_M → Option (Int32 × g_M)} (hK : ∀ M2, inv M2 → Pr (K M2)) : Pr (if c1 then ((fx M).bind fun u => (if c1 then ((fy u.2).bind fun v => if u.1 = v.1 then K v.2 else some ((0 : Int32), v.2)) else none)) else none) := by
  simp only [h1, if_true]
  exact arm0 h hM hK
theorem arm2 {c1 : Prop} [Decidable c1] {c2 : Prop} [Decidable c2] (h1 : c1) (h2 : c2) {fx fy : g_M → Option (Int32 × g_M)} (h : opOK fx fy) {M : g_M} (hM : inv M) {K : g_M → Option (Int32 × g_M)} (hK : ∀ M2, inv M2 → Pr (K M2)) : Pr (if c1 then (if c2 then ((fx M).bind fun u => (if c1 then (if c2 then ((fy u.2).bind fun v => if u.1 = v.1 then K v.2 else some ((0 : Int32), v.2)) else none) else none)) else none) else none) := by
  simp only [h1, h2, if_true]
  exact arm0 h hM hK
theorem arm3 {c1 : Prop} [Decidable c1] {c2 : Prop} [Decidable c2] {c3 : Prop} [Decidable c3] (h1 : c1) (h2 : c2) (h3 : c3) {fx fy : g_M → Option (Int32 × g_M)} (h : opOK fx fy) {M : g_M} (hM : inv M) {K : g_M → Option (Int32 × g_M)} (hK : ∀ M2, inv M2 → Pr (K M2)) : Pr (if c1 then (if c2 then (if c3 then ((fx M).bind fun u => (if c1 then (if c2 then (if c3 then ((fy u.2).bind fun v => if u.1 = v.1 then K v.2 else some ((0 : Int32), v.2)) else none) else none) else none)) else none) else none) else none) := by
  simp only [h1, h2, h3, if_true]
  exact arm0 h hM hK
theorem arm4 {c1 : Prop} [Decidable c1] {c2 : Prop} [Decidable c2] {c3 : Prop} [Decidable c3] {c4 : Prop} [Decidable c4] (h1 : c1) (h2 : c2) (h3 : c3) (h4 : c4) {fx fy : g_M → Option (Int32 × g_M)} (h : opOK fx fy) {M : g_M} (hM : inv M) {K : g_M → Option (Int32 × g_M)} (hK : ∀ M2, inv M2 → Pr (K M2)) : Pr (if c1 then (if c2 then (if c3 then (if c4 then ((fx M).bind fun u => (if c1 then (if c2 then (if c3 then (if c4 then ((fy u.2).bind fun v => if u.1 = v.1 then K v.2 else some ((0 : Int32), v.2)) else none) else none) else none) else none)) else none) else none) else none) else none) := by
  simp only [h1, h2, h3, h4, if_true]
  exact arm0 h hM hK
theorem law_stop {L i : Nat} (hL : L ≤ 2560) (hi : i ≤ 2560) (h : L < i + 5) : (Int32.ofNat L) - (5 : Int32) < nI i := by
  by_cases z : 5 ≤ L
  · have e : (Int32.ofNat L) - (5 : Int32) = nI (L - 5) := p_sub (b := 5) z
    rw [e]
    exact (p_lt (by omega) (by omega)).mpr (by omega)
  · refine Int32.lt_of_lt_of_le (b := 0) ?_ (p_ge0 (by omega))
    rcases (show L = 0 ∨ L = 1 ∨ L = 2 ∨ L = 3 ∨ L = 4 by omega) with rfl | rfl | rfl | rfl | rfl <;> decide
theorem law_go {L i : Nat} (hL : L ≤ 2560) (h : i + 5 ≤ L) : ¬ (Int32.ofNat L) - (5 : Int32) < nI i := by
  have e : (Int32.ofNat L) - (5 : Int32) = nI (L - 5) := p_sub (b := 5) (by omega)
  rw [e]
  exact fun q => by have := (p_lt (by omega) (by omega)).mp q; omega
theorem law_step (L : Nat) (xs : Nat → Int32) (hL : L ≤ 2560) {i fuel : Nat} {M : g_M} (hM : inv M) (hi : i + 5 ≤ L) (hK : ∀ M2, inv M2 → Pr (x_L_law_L18 L xs fuel (nI i + 5) M2)) : Pr (x_L_law_L18 L xs (fuel + 1) (nI i) M) := by
  have b0 : g_inb (nI i) L = true := p_inb (by omega) (by omega)
  have b1 : g_inb (nI i + 1) L = true := by rw [show nI i + 1 = nI (i + 1) from p_add (b := 1)]; exact p_inb (by omega) (by omega)
  have b2 : g_inb (nI i + 2) L = true := by rw [show nI i + 2 = nI (i + 2) from p_add (b := 2)]; exact p_inb (by omega) (by omega)
  have b3 : g_inb (nI i + 3) L = true := by rw [show nI i + 3 = nI (i + 3) from p_add (b := 3)]; exact p_inb (by omega) (by omega)
  have b4 : g_inb (nI i + 4) L = true := by rw [show nI i + 4 = nI (i + 4) from p_add (b := 4)]; exact p_inb (by omega) (by omega)
  rw [x_L_law_L18, if_neg (law_go hL hi), if_pos b0]
  refine pr_ite (arm1 b1 (op_feed _) hM hK) ?_
  refine pr_ite (arm0 (op_quay) hM hK) ?_
  refine pr_ite (arm1 b1 (op_tide _) hM hK) ?_
  refine pr_ite (arm1 b1 (op_wind _) hM hK) ?_
  refine pr_ite (arm2 b1 b2 (op_rises _ _) hM hK) ?_
  refine pr_ite (arm2 b1 b2 (op_ring _ _) hM hK) ?_
  refine pr_ite (arm2 b1 b2 (op_boat _ _) hM hK) ?_
  refine pr_ite (arm2 b1 b2 (op_pay _ _) hM hK) ?_
  refine pr_ite (arm2 b1 b2 (op_tie _ _) hM hK) ?_
  refine pr_ite (arm2 b1 b2 (op_set _ _) hM hK) ?_
  refine pr_ite (arm0 (op_hour) hM hK) ?_
  refine pr_ite (arm2 b1 b2 (op_needs _ _) hM hK) ?_
  refine pr_ite (arm2 b1 b2 (op_out _ _) hM hK) ?_
  refine pr_ite (arm3 b1 b2 b3 (op_lies _ _ _) hM hK) ?_
  refine pr_ite (arm2 b1 b2 (op_hours _ _) hM hK) ?_
  refine pr_ite (arm2 b1 b2 (op_length _ _) hM hK) ?_
  refine pr_ite (arm2 b1 b2 (op_tended _ _) hM hK) ?_
  refine pr_ite (arm2 b1 b2 (op_touch _ _) hM hK) ?_
  refine pr_ite (arm2 b1 b2 (op_clear _ _) hM hK) ?_
  refine pr_ite (arm1 b1 (op_slack _) hM hK) ?_
  refine pr_ite (arm1 b1 (op_alongside _) hM hK) ?_
  refine pr_ite (arm2 b1 b2 (op_mud _ _) hM hK) ?_
  refine pr_ite (arm3 b1 b2 b3 (op_carry _ _ _) hM hK) ?_
  refine pr_ite (arm1 b1 (op_berths _) hM hK) ?_
  refine pr_ite (arm2 b1 b2 (op_saves _ _) hM hK) ?_
  refine pr_ite (arm3 b1 b2 b3 (op_marks _ _ _) hM hK) ?_
  refine pr_ite (arm1 b1 (op_whose _) hM hK) ?_
  refine pr_ite (arm1 b1 (op_row _) hM hK) ?_
  refine pr_ite (arm1 b1 (op_judge _) hM hK) ?_
  refine pr_ite (arm0 (op_drop) hM hK) ?_
  refine pr_ite (arm4 b1 b2 b3 b4 (op_seeds _ _ _ _) hM hK) ?_
  refine pr_ite (arm0 (op_back) hM hK) ?_
  refine pr_ite (arm1 b1 (op_spring _) hM hK) ?_
  refine pr_ite (arm2 b1 b2 (op_swells _ _) hM hK) ?_
  refine pr_ite (arm2 b1 b2 (op_fortnight _ _) hM hK) ?_
  refine pr_ite (arm2 b1 b2 (op_watch _ _) hM hK) ?_
  refine pr_ite (arm1 b1 (op_seldom _) hM hK) ?_
  refine pr_ite (arm2 b1 b2 (op_wake _ _) hM hK) ?_
  refine pr_ite (arm2 b1 b2 (op_ramp _ _) hM hK) ?_
  refine pr_ite (arm2 b1 b2 (op_slope _ _) hM hK) ?_
  refine pr_ite (arm2 b1 b2 (op_open _ _) hM hK) ?_
  refine pr_ite (arm3 b1 b2 b3 (op_bridge _ _ _) hM hK) ?_
  refine pr_ite (arm3 b1 b2 b3 (op_passes _ _ _) hM hK) ?_
  refine pr_ite (arm2 b1 b2 (op_waited _ _) hM hK) ?_
  refine pr_ite (arm1 b1 (op_cheapest _) hM hK) ?_
  refine pr_ite (arm1 b1 (op_crossed _) hM hK) ?_
  refine pr_ite (arm3 b1 b2 b3 (op_hung _ _ _) hM hK) ?_
  refine pr_ite (arm3 b1 b2 b3 (op_skippers _ _ _) hM hK) ?_
  refine pr_ite (arm0 (op_image) hM hK) ?_
  refine pr_ite (arm0 (op_restore) hM hK) ?_
  refine pr_ite (arm1 b1 (op_count _) hM hK) ?_
  exact hK M hM
theorem law_loop (L : Nat) (xs : Nat → Int32) (hL : L ≤ 2560) : ∀ k i fuel M, L < i + 5 + 5 * k → i ≤ 2560 → k < fuel → inv M → Pr (x_L_law_L18 L xs fuel (nI i) M) := by
  intro k
  induction k with
  | zero =>
    intro i fuel M h hi hf hM
    obtain ⟨m, rfl⟩ : ∃ m, fuel = m + 1 := ⟨fuel - 1, by omega⟩
    rw [x_L_law_L18, if_pos (law_stop hL hi (by omega))]
    exact ⟨M, rfl⟩
  | succ k ih =>
    intro i fuel M h hi hf hM
    obtain ⟨m, rfl⟩ : ∃ m, fuel = m + 1 := ⟨fuel - 1, by omega⟩
    by_cases z : L < i + 5
    · rw [x_L_law_L18, if_pos (law_stop hL hi z)]
      exact ⟨M, rfl⟩
    · refine law_step L xs hL hM (by omega) (fun M2 h2 => ?_)
      rw [show nI i + 5 = nI (i + 5) from p_add (b := 5)]
      exact ih (i + 5) m M2 (by omega) (by omega) (by omega) h2
theorem law_pure {N : g_M} (hN : inv N) (L : Nat) (xs : Nat → Int32) (hL : L ≤ 2560) : ∃ M' : g_M, x_L_law_L18 L xs g_F 0 N = some (1, M') := by
  have h := law_loop L xs hL L 0 g_F N (by omega) (by omega) (by show L < 20000; omega) hN
  exact h
