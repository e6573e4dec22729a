/-! THE PURE PART. F: boats and rings; more operations -/
theorem lv_43 (M : g_M) {i : Nat} (hi : i < 12) : live M i = M 43 i := by unfold live; rw [if_pos (by omega)]
theorem lv_44 (M : g_M) {i : Nat} (hi : i < 12) : live M (12 + i) = M 44 i := by unfold live; rw [if_neg (by omega), if_pos (by omega), Nat.add_sub_cancel_left]
theorem lv_45 (M : g_M) {i : Nat} (hi : i < 6) : live M (24 + i) = M 45 i := by unfold live; rw [if_neg (by omega), if_neg (by omega), if_pos (by omega), Nat.add_sub_cancel_left]
theorem lv_46 (M : g_M) {i : Nat} (hi : i < 6) : live M (30 + i) = M 46 i := by unfold live; rw [if_neg (by omega), if_neg (by omega), if_neg (by omega), if_pos (by omega), Nat.add_sub_cancel_left]
theorem lv_47 (M : g_M) {i : Nat} (hi : i < 2) : live M (36 + i) = M 47 i := by unfold live; rw [if_neg (by omega), if_neg (by omega), if_neg (by omega), if_neg (by omega), if_pos (by omega), Nat.add_sub_cancel_left]
theorem lv_48 (M : g_M) {i : Nat} (hi : i < 5) : live M (38 + i) = M 48 i := by unfold live; rw [if_neg (by omega), if_neg (by omega), if_neg (by omega), if_neg (by omega), if_neg (by omega), if_pos (by omega), Nat.add_sub_cancel_left]
theorem lv_49 (M : g_M) {i : Nat} (hi : i < 5) : live M (43 + i) = M 49 i := by unfold live; rw [if_neg (by omega), if_neg (by omega), if_neg (by omega), if_neg (by omega), if_neg (by omega), if_neg (by omega), if_pos (by omega), Nat.add_sub_cancel_left]
theorem lv_50 (M : g_M) {i : Nat} (hi : i < 5) : live M (48 + i) = M 50 i := by unfold live; rw [if_neg (by omega), if_neg (by omega), if_neg (by omega), if_neg (by omega), if_neg (by omega), if_neg (by omega), if_neg (by omega), if_pos (by omega), Nat.add_sub_cancel_left]
theorem lv_51 (M : g_M) {i : Nat} (hi : i < 5) : live M (53 + i) = M 51 i := by unfold live; rw [if_neg (by omega), if_neg (by omega), if_neg (by omega), if_neg (by omega), if_neg (by omega), if_neg (by omega), if_neg (by omega), if_neg (by omega), if_pos (by omega), Nat.add_sub_cancel_left]
theorem lv_52 (M : g_M) {i : Nat} (hi : i < 5) : live M (58 + i) = M 52 i := by unfold live; rw [if_neg (by omega), if_neg (by omega), if_neg (by omega), if_neg (by omega), if_neg (by omega), if_neg (by omega), if_neg (by omega), if_neg (by omega), if_neg (by omega), if_pos (by omega), Nat.add_sub_cancel_left]
theorem lv_53 (M : g_M) {i : Nat} (hi : i < 5) : live M (63 + i) = M 53 i := by unfold live; rw [if_neg (by omega), if_neg (by omega), if_neg (by omega), if_neg (by omega), if_neg (by omega), if_neg (by omega), if_neg (by omega), if_neg (by omega), if_neg (by omega), if_neg (by omega), if_pos (by omega), Nat.add_sub_cancel_left]
theorem lv_54 (M : g_M) {i : Nat} (hi : i < 5) : live M (68 + i) = M 54 i := by unfold live; rw [if_neg (by omega), if_neg (by omega), if_neg (by omega), if_neg (by omega), if_neg (by omega), if_neg (by omega), if_neg (by omega), if_neg (by omega), if_neg (by omega), if_neg (by omega), if_neg (by omega), if_pos (by omega), Nat.add_sub_cancel_left]
theorem lv_55 (M : g_M) {i : Nat} (hi : i < 3) : live M (73 + i) = M 55 i := by unfold live; rw [if_neg (by omega), if_neg (by omega), if_neg (by omega), if_neg (by omega), if_neg (by omega), if_neg (by omega), if_neg (by omega), if_neg (by omega), if_neg (by omega), if_neg (by omega), if_neg (by omega), if_neg (by omega), if_pos (by omega), Nat.add_sub_cancel_left]
theorem lv_56 (M : g_M) {i : Nat} (hi : i < 3) : live M (76 + i) = M 56 i := by unfold live; rw [if_neg (by omega), if_neg (by omega), if_neg (by omega), if_neg (by omega), if_neg (by omega), if_neg (by omega), if_neg (by omega), if_neg (by omega), if_neg (by omega), if_neg (by omega), if_neg (by omega), if_neg (by omega), if_neg (by omega), if_pos (by omega), Nat.add_sub_cancel_left]
theorem lv_79n (M : g_M) : live M 79 = M 41 18 := rfl
theorem lv_80n (M : g_M) : live M 80 = M 41 19 := rfl
theorem lv_81n (M : g_M) : live M 81 = M 41 15 := rfl
theorem lv_82n (M : g_M) : live M 82 = M 41 16 := rfl
theorem lv_83n (M : g_M) : live M 83 = M 41 17 := rfl
/-- what inv says of the rings and the boats -/
theorem inv_B {M : g_M} (h : inv M) : ∃ nr nb : Nat, nr ≤ 6 ∧ nb ≤ 5 ∧ M 1 5 = nI nr ∧ M 41 15 = nI nr ∧ M 1 6 = nI nb ∧ M 41 16 = nI nb ∧ (∀ r, r < nr → M 4 (2 * r) = M 45 r ∧ M 4 (2 * r + 1) = M 46 r ∧ p_bd 0 (M 45 r) 99 ∧ p_bd 0 (M 46 r) 60) ∧ ∀ b, b < nb → (M 5 (7 * b) = M 48 b ∧ M 5 (7 * b + 1) = M 49 b ∧ M 5 (7 * b + 2) = M 50 b ∧ M 5 (7 * b + 3) = M 51 b ∧ M 5 (7 * b + 4) = M 52 b ∧ M 5 (7 * b + 5) = M 53 b ∧ M 5 (7 * b + 6) = M 54 b) ∧ (∃ r, r < nr ∧ M 50 b = nI r) ∧ (∃ r, r < nr ∧ M 51 b = nI r) ∧ okB (rb M b) := by
  obtain ⟨⟨a1, a2, a3, a4, a5, a6, a7, nr, r1, r2, r3, r4, nb, b1, b2, b3, b4⟩, -⟩ := h
  have a4b : p_bd 0 (M 47 1) 9 := by rw [← lv_47 M (i := 1) (by decide)]; exact a4.2
  have rr : ∀ r, r < nr → M 4 (2 * r) = M 45 r ∧ M 4 (2 * r + 1) = M 46 r ∧ p_bd 0 (M 45 r) 99 ∧ p_bd 0 (M 46 r) 60 := fun r hr => by
    have := r4 r hr
    rw [lv_45 M (by omega), lv_46 M (by omega)] at this
    exact ⟨this.1.1, this.2.1, this.1.2, this.2.2⟩
  refine ⟨nr, nb, r1, b1, r2, r3, b2, b3, rr, fun b hb => ?_⟩
  have := b4 b hb
  rw [lv_48 M (by omega), lv_49 M (by omega), lv_50 M (by omega), lv_51 M (by omega), lv_52 M (by omega), lv_53 M (by omega), lv_54 M (by omega)] at this
  obtain ⟨⟨c0, d0⟩, ⟨c1, d1⟩, ⟨c2, q1, hq1, e1⟩, ⟨c3, q2, hq2, e2⟩, ⟨c4, d4⟩, ⟨c5, d5⟩, c6, d6⟩ := this
  refine ⟨⟨c0, c1, c2, c3, c4, c5, c6⟩, ⟨q1, hq1, e1⟩, ⟨q2, hq2, e2⟩, ?_⟩
  have k1 : (nI q1).toNatClampNeg = q1 := nI_clamp (by omega)
  have k2 : (nI q2).toNatClampNeg = q2 := nI_clamp (by omega)
  have p1 := rr q1 hq1
  have p2 := rr q2 hq2
  have f2 : rb M b 2 = M 45 q1 := by show M 45 (M 50 b).toNatClampNeg = _; rw [e1, k1]
  have f3 : rb M b 3 = M 46 q1 := by show M 46 (M 50 b).toNatClampNeg = _; rw [e1, k1]
  have f4 : rb M b 4 = M 45 q2 := by show M 45 (M 51 b).toNatClampNeg = _; rw [e2, k2]
  unfold okB
  rw [f2, f3, f4]
  exact ⟨d0.1, d0.2, d1.1, d1.2, p1.2.2.1.1, p1.2.2.1.2, p1.2.2.2.1, p1.2.2.2.2, p2.2.2.1.1, p2.2.2.1.2, d4.1, d4.2, d5.1, d5.2, d6.1, d6.2, a4b.1, a4b.2⟩
theorem okR_of {M : g_M} {b nr : Nat} (hn : nr ≤ 6) (h1 : ∃ r, r < nr ∧ M 50 b = nI r) (h2 : ∃ r, r < nr ∧ M 51 b = nI r) : okR M b := by
  obtain ⟨r, hr, e⟩ := h1
  obtain ⟨r2, hr2, e2⟩ := h2
  exact ⟨⟨r, by omega, e⟩, r2, by omega, e2⟩
theorem inv_E {M : g_M} (h : inv M) : M 1 8 = M 47 0 ∧ M 1 9 = M 47 1 ∧ p_bd 0 (M 47 0) 60 ∧ p_bd 0 (M 47 1) 9 := by
  obtain ⟨⟨-, -, a3, a4, -⟩, -⟩ := h
  rw [lv_47 M (i := 0) (by decide)] at a3
  rw [lv_47 M (i := 1) (by decide)] at a4
  exact ⟨a3.1, a4.1, a3.2, a4.2⟩
def p_ld (M : g_M) (q b r1 r2 : Nat) : g_M := g_upd (g_upd (g_upd (g_upd (g_upd (g_upd (g_upd (g_upd (g_upd M q 0 (M 5 (7 * b + 0))) q 1 (M 5 (7 * b + 1))) q 2 (M 4 (2 * r1))) q 3 (M 4 (2 * r1 + 1))) q 4 (M 4 (2 * r2))) q 5 (M 5 (7 * b + 4))) q 6 (M 5 (7 * b + 5))) q 7 (M 5 (7 * b + 6))) q 8 (M 1 9)
/-- a boat is loaded -/
theorem px_load {M : g_M} (h : inv M) {q : Nat} (hq : 14 ≤ q) {b : Nat} (hb : nI b < M 1 6) (hb5 : b < 5) : ∃ M', x_X5_load q 1 (nI b) M = some (0, M') ∧ isM q M' (rb M b) ∧ ∀ c, c ≠ q → M' c = M c := by
  obtain ⟨nr, nb, n1, n2, e1, e2, e3, e4, hr, hbt⟩ := inv_B h
  rw [e3] at hb
  have hb2 : b < nb := (p_lt (by omega) (by omega)).mp hb
  obtain ⟨⟨c0, c1, c2, c3, c4, c5, c6⟩, ⟨r1, hr1, f1⟩, ⟨r2, hr2, f2⟩, -⟩ := hbt b hb2
  obtain ⟨g1, g2, -⟩ := hr r1 hr1
  obtain ⟨g3, -⟩ := hr r2 hr2
  have k1 : (nI r1).toNatClampNeg = r1 := nI_clamp (by omega)
  have k2 : (nI r2).toNatClampNeg = r2 := nI_clamp (by omega)
  have bc : ∀ (j : Nat) (N : g_M), j < 7 → x_X2_boatCell 1 (nI b) (nI j) N = some (N 5 (7 * b + j), N) := fun j N hj => px_boatCell 1 b j hb5 hj N
  have b0 := fun N => bc 0 N (by decide)
  have b1 := fun N => bc 1 N (by decide)
  have b2 := fun N => bc 2 N (by decide)
  have b3 := fun N => bc 3 N (by decide)
  have b4 := fun N => bc 4 N (by decide)
  have b5 := fun N => bc 5 N (by decide)
  have b6 := fun N => bc 6 N (by decide)
  have ra : ∀ (r : Nat) (N : g_M), r < 6 → x_X2_ringCell 1 (nI r) 0 N = some (N 4 (2 * r), N) := fun r N hr => px_ringCell 1 r 0 hr (by decide) N
  have rc : ∀ (r : Nat) (N : g_M), r < 6 → x_X2_ringCell 1 (nI r) 1 N = some (N 4 (2 * r + 1), N) := fun r N hr => px_ringCell 1 r 1 hr (by decide) N
  have q5 : ∀ (N : g_M) (k : Nat) (v : Int32), g_upd N q k v 5 = N 5 := fun N k v => g_upd_ne (by omega)
  have q4 : ∀ (N : g_M) (k : Nat) (v : Int32), g_upd N q k v 4 = N 4 := fun N k v => g_upd_ne (by omega)
  have q1 : ∀ (N : g_M) (k : Nat) (v : Int32), g_upd N q k v 1 = N 1 := fun N k v => g_upd_ne (by omega)
  have E := inv_E h
  refine ⟨p_ld M q b r1 r2, ?_, ?_, ?_⟩
  · unfold x_X5_load x_X5_moveTo
    rw [show (0 : Int32) = nI 0 from rfl, show (1 : Int32) = nI 1 from rfl, show (2 : Int32) = nI 2 from rfl, show (3 : Int32) = nI 3 from rfl, show (4 : Int32) = nI 4 from rfl, show (5 : Int32) = nI 5 from rfl, show (6 : Int32) = nI 6 from rfl]
    simp only [b0, b1, b2, b3, b4, b5, b6, Option.bind_some, q5, q4, q1, c2, c3, f1, f2]
    simp only [show nI 0 = (0 : Int32) from rfl, show nI 1 = (1 : Int32) from rfl, ra r1 _ (by omega), rc r1 _ (by omega), ra r2 _ (by omega), Option.bind_some, q5, q4, q1, c2, c3, f1, f2]
    rfl
  · intro j hj
    unfold p_ld
    match j, hj with
    | 0, _ => simp [g_upd_get, rb, c0]
    | 1, _ => simp [g_upd_get, rb, c1]
    | 2, _ => simp [g_upd_get, rb, f1, k1, g1]
    | 3, _ => simp [g_upd_get, rb, f1, k1, g2]
    | 4, _ => simp [g_upd_get, rb, f2, k2, g3]
    | 5, _ => simp [g_upd_get, rb, c4]
    | 6, _ => simp [g_upd_get, rb, c5]
    | 7, _ => simp [g_upd_get, rb, c6]
    | 8, _ => simp [g_upd_get, rb, E.2.1]
  · intro c hc
    unfold p_ld
    simp only [g_upd_ne hc]
