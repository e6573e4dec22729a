/-! THE PURE PART. I: loops in one row; lies, ring, boat, set, row, feed -/
/-- a loop: from an inner state, each turn either ends well or goes on -/
theorem p_loop {σ : Type} (n : Nat) (F : Nat → Nat → σ → Option (Int32 × g_M)) (I : Nat → σ → Prop) (R : Option (Int32 × g_M) → Prop)
    (hend : ∀ s fuel, I n s → R (F n (fuel + 1) s))
    (hstep : ∀ i s fuel, i < n → I i s → R (F i (fuel + 1) s) ∨ ∃ s', I (i + 1) s' ∧ F i (fuel + 1) s = F (i + 1) fuel s') :
    ∀ (k i fuel : Nat) (s : σ), i + k = n → k < fuel → I i s → R (F i fuel s) := by
  intro k
  induction k with
  | zero =>
    intro i fuel s hi hf hI
    obtain ⟨m, rfl⟩ : ∃ m, fuel = m + 1 := ⟨fuel - 1, by omega⟩
    obtain rfl : i = n := by omega
    exact hend s m hI
  | succ k ih =>
    intro i fuel s hi hf hI
    obtain ⟨m, rfl⟩ : ∃ m, fuel = m + 1 := ⟨fuel - 1, by omega⟩
    rcases hstep i s m (by omega) hI with h | ⟨s', h1, h2⟩
    · exact h
    · rw [h2]
      exact ih (i + 1) m s' (by omega) (by omega) h1
theorem p_loop0 {σ : Type} {n : Nat} {F : Nat → Nat → σ → Option (Int32 × g_M)} {I : Nat → σ → Prop} {R : Option (Int32 × g_M) → Prop} {s : σ} (hn : n < 20000)
    (hI : I 0 s) (hend : ∀ s fuel, I n s → R (F n (fuel + 1) s))
    (hstep : ∀ i s fuel, i < n → I i s → R (F i (fuel + 1) s) ∨ ∃ s', I (i + 1) s' ∧ F i (fuel + 1) s = F (i + 1) fuel s') : R (F 0 g_F s) :=
  p_loop n F I R hend hstep n 0 g_F s (by omega) hn hI
theorem okB_len {B : Nat → Int32} (h : okB B) : 0 ≤ B 5 ∧ B 5 ≤ 99 := ⟨h.2.2.2.2.2.2.2.2.2.2.1, h.2.2.2.2.2.2.2.2.2.2.2.1⟩
/-- the reference behind what the class did -/
theorem rby {M M1 : g_M} (h : inv M) (hc : ∀ c, 41 ≤ c → M1 c = M c) {b : Nat} (hb : nI b < M 41 16) (hb5 : b < 5) (hR : okR M b) (hB : okB (rb M b)) : okR M1 b ∧ okB (rb M1 b) ∧ okT (M1 43) ∧ rb M1 b = rb M b ∧ M1 43 = M 43 ∧ x_X9_isBoat (nI b) M1 = some (1, M1) := by
  have r := rb_eq hc
  refine ⟨by unfold okR; rw [hc 50 (by decide), hc 51 (by decide)]; exact hR, by rw [r]; exact hB, by rw [hc 43 (by decide)]; exact (inv_T h).2, by rw [r], hc 43 (by decide), ?_⟩
  have hp2 : 0 ≤ nI b ∧ nI b < M1 41 16 := ⟨p_ge0 (by omega), by rw [hc 41 (by decide)]; exact hb⟩
  simp [py_isBoat, hp2]
theorem lxd {M : g_M} (h : inv M) {q : Nat} (hq : 14 ≤ q) {b : Nat} (hb : nI b < M 1 6) (hb5 : b < 5) : ∃ M', x_X5_load q 1 (nI b) M = some (0, M') ∧ isM q M' (rb M b) ∧ (∀ c, c ≠ q → M' c = M c) ∧ (∀ k, k < 12 → M' 2 k = M 43 k) ∧ okT (M' 2) := by
  obtain ⟨M', e1, e2, e3⟩ := px_load h hq hb hb5
  have tt : ∀ k, k < 12 → M' 2 k = M 43 k := fun k hk => by rw [e3 2 (by omega)]; exact (inv_T h).1 k hk
  exact ⟨M', e1, e2, e3, tt, okT_cg tt (inv_T h).2⟩
theorem noB {M M1 : g_M} (h : inv M) {p : Int32} (hp : ¬ (0 ≤ p ∧ p < M 1 6)) (hc : ∀ c, 41 ≤ c → M1 c = M c) : x_X9_isBoat p M1 = some (0, M1) := by
  have hp2 : ¬ (0 ≤ p ∧ p < M1 41 16) := by rw [hc 41 (by decide), ← nbo h]; exact hp
  simp [py_isBoat, hp2]
theorem yesB {M M1 : g_M} (h : inv M) {p : Int32} (hp : 0 ≤ p ∧ p < M 1 6) (hc : ∀ c, 41 ≤ c → M1 c = M c) : x_X9_isBoat p M1 = some (1, M1) := by
  have hp2 : 0 ≤ p ∧ p < M1 41 16 := by rw [hc 41 (by decide), ← nbo h]; exact hp
  simp [py_isBoat, hp2]
theorem op_lies (p p2 p3 : Int32) : opOK (x_X8_lies p p2 p3) (x_X9_lies p p2 p3) := by
  intro M h
  by_cases hp : 0 ≤ p ∧ p < M 1 6
  · by_cases hh : 0 ≤ p2 ∧ p2 < 12
    · by_cases h3 : 0 ≤ p3 ∧ p3 < 3
      · obtain ⟨b, rfl, hb, hb1, hb2, hR, hB⟩ := bo h hp
        obtain ⟨k, hk, rfl⟩ := p_in (n := 12) (by decide) hh.1 hh.2
        obtain ⟨M', e1, e2, e3, tt, T2⟩ := lxd h (q := 27) (by decide) hb1 hb
        have hl := okB_len hB
        have t := (inv_T h).1 k hk
        have T := (inv_T h).2
        have w := inv_W h hk
        have c1 : (nI b).toNatClampNeg = b := nI_clamp (by omega)
        have hr := px_reach (t := M 43 k) e2 hB hl.1 hl.2 (T k hk).1 (T k hk).2
        have hb5 := e2 5 (by decide)
        have hb6 := e2 6 (by decide)
        have f2 := e3 2 (by decide)
        have f3 := e3 3 (by decide)
        have hs := ld_scr (Or.inl rfl) e3
        have hbm : x_X5_blownMiddle 27 (M 43 k) (M 44 k) M' = some (sB (rb M b) (sR (rb M b) (rb M b 5) (M 43 k)) (M 44 k), M') := by simp [x_X5_blownMiddle, hb5, hr, px_mid e2, sB]
        have cl : M' 2 k = M 43 k := by rw [f2, t]
        have cw : M' 3 k = M 44 k := by rw [f3, w.1]
        have hy : ∀ M1 : g_M, (∀ c, 41 ≤ c → M1 c = M c) → x_X9_isBoat (nI b) M1 = some (1, M1) ∧ x_X9_middle (nI b) M1 = some (sM (rb M b), M1) ∧ x_X9_outAt (nI b) (nI k) M1 = some (sR (rb M b) (rb M b 5) (M 43 k), M1) ∧ x_X9_middleBy (nI b) (nI k) M1 = some (sB (rb M b) (sR (rb M b) (rb M b 5) (M 43 k)) (M 44 k), M1) ∧ M1 53 b = rb M b 6 := by
          intro M1 hc
          obtain ⟨r1, r2, r3, r4, r5, r6⟩ := rby h hc hb2 hb hR hB
          have y1 := py_mid hb r1
          have y2 := py_outAt hb hk r1 r2 r3
          have y3 := py_midBy hb hk r1 r2 r3 (by rw [hc 44 (by decide)]; exact w.2)
          rw [r4] at y1 y2 y3
          rw [r5] at y2 y3
          rw [hc 44 (by decide)] at y3
          exact ⟨r6, y1, y2, y3, by rw [hc 53 (by decide)]; rfl⟩
        obtain ⟨j, hj, rfl⟩ := p_in (n := 3) (by decide) h3.1 h3.2
        rcases (show j = 0 ∨ j = 1 ∨ j = 2 by omega) with rfl | rfl | rfl
        · refine op_ask h (r := sM (rb M b) - sR (rb M b) (rb M b 5) (M 43 k)) (M1 := M') ?_ hs fun h1 hc => ⟨M', ?_, coreEq_rf _⟩
          · simp [x_X8_lies, px_hasBoat, hp, px_isHour, hh, px_isOneOf, h3, e1, px_tideAt _ _ hk, hb5, cl, hr, px_mid e2, nI_0]
          · obtain ⟨y0, y1, y2, y3, y4⟩ := hy M' hc
            simp [x_X9_lies, y0, py_isHour, hh, y1, y2, nI_0]
        · refine op_ask h (r := sM (rb M b) + sR (rb M b) (rb M b 5) (M 43 k) + rb M b 6) (M1 := M') ?_ hs fun h1 hc => ⟨M', ?_, coreEq_rf _⟩
          · simp [x_X8_lies, px_hasBoat, hp, px_isHour, hh, px_isOneOf, h3, e1, px_tideAt _ _ hk, hb5, hb6, cl, hr, px_mid e2, show nI 1 = (1 : Int32) from rfl]
          · obtain ⟨y0, y1, y2, y3, y4⟩ := hy M' hc
            simp [x_X9_lies, y0, py_isHour, hh, y1, y2, y4, p_inb hb, c1, show nI 1 = (1 : Int32) from rfl]
        · refine op_ask h (r := sB (rb M b) (sR (rb M b) (rb M b 5) (M 43 k)) (M 44 k)) (M1 := M') ?_ hs fun h1 hc => ⟨M', ?_, coreEq_rf _⟩
          · simp [x_X8_lies, px_hasBoat, hp, px_isHour, hh, px_isOneOf, h3, e1, px_tideAt _ _ hk, px_windAt _ _ hk, hb5, cl, cw, hr, hbm, show nI 2 = (2 : Int32) from rfl]
          · obtain ⟨y0, y1, y2, y3, y4⟩ := hy M' hc
            simp [x_X9_lies, y0, py_isHour, hh, y3, show nI 2 = (2 : Int32) from rfl]
      · refine op_ref h (k := 2) (r := 1000000000 - -nI 2) (by decide) (by simp [x_X8_lies, px_hasBoat, hp, px_isHour, hh, px_isOneOf, h3, n2, px_refusedFar]) (fun M1 hc => ?_)
        have z0 : p3 ≠ 0 := by rintro rfl; exact h3 (by decide)
        have z1 : p3 ≠ 1 := by rintro rfl; exact h3 (by decide)
        have z2 : p3 ≠ 2 := by rintro rfl; exact h3 (by decide)
        simp [x_X9_lies, yesB h hp hc, py_isHour, hh, z0, z1, z2, n2, py_lower]
    · exact op_ref h (k := 1) (r := 1000000000 - -nI 1) (by decide) (by simp [x_X8_lies, px_hasBoat, hp, px_isHour, hh, n1, px_refusedFar]) (fun M1 hc => by simp [x_X9_lies, yesB h hp hc, py_isHour, hh, n1, py_lower])
  · exact op_ref h (k := 1) (r := 1000000000 - -nI 1) (by decide) (by simp [x_X8_lies, px_hasBoat, hp, n1, px_refusedFar]) (fun M1 hc => by simp [x_X9_lies, noB h hp hc, n1, py_lower])
theorem op_ring (p p2 : Int32) : opOK (x_X8_ring p p2) (x_X9_ring p p2) := by
  intro M h
  obtain ⟨nr, nb, q1, q2, e1, e2, e3, e4, hr, hbt⟩ := inv_B h
  by_cases hp : 0 ≤ p ∧ p < nI nr
  · obtain ⟨r, hr2, rfl⟩ := p_in (by omega) hp.1 hp.2
    have c1 : (nI r).toNatClampNeg = r := nI_clamp (by omega)
    obtain ⟨g1, g2, -⟩ := hr r hr2
    have b3 := p_inb (show r < 6 by omega) (by decide : (6 : Nat) < 2 ^ 31)
    have l0 : x_X2_ringCell 1 (nI r) 0 M = some (M 4 (2 * r), M) := px_ringCell 1 r 0 (by omega) (by decide) M
    have l1 : x_X2_ringCell 1 (nI r) 1 M = some (M 4 (2 * r + 1), M) := px_ringCell 1 r 1 (by omega) (by decide) M
    by_cases z0 : p2 = 0
    · subst z0
      refine op_ask h (r := M 45 r) (M1 := M) ?_ (scr_rf M) fun h1 hc => ⟨M, ?_, coreEq_rf _⟩
      · simp [x_X8_ring, px_hasRing, e1, hp, l0, g1, show (0 : Int32) < 2 from by decide]
      · simp [x_X9_ring, py_isRing, e2, hp, py_isIn, b3, c1]
    · by_cases z1 : p2 = 1
      · subst z1
        refine op_ask h (r := M 46 r) (M1 := M) ?_ (scr_rf M) fun h1 hc => ⟨M, ?_, coreEq_rf _⟩
        · simp [x_X8_ring, px_hasRing, e1, hp, l1, g2, show (1 : Int32) < 2 from by decide, show ¬ (1 : Int32) < 0 from by decide]
        · simp [x_X9_ring, py_isRing, e2, hp, py_isIn, b3, c1]
      · have k2 : ¬ (0 ≤ p2 ∧ p2 ≤ 1) := fun k => by
          have := k.1; have := k.2; grind
        refine op_ref h (k := 2) (r := -nI 2) (by decide) ?_ (fun M1 hc => by simp [x_X9_ring, py_isRing, hc 41 (by decide), e2, hp, py_isIn, k2, n2, py_no])
        by_cases k0 : p2 < 0
        · simp [x_X8_ring, px_hasRing, e1, hp, k0, n2, px_refused]
        · have k1 : ¬ p2 < 2 := by grind
          simp [x_X8_ring, px_hasRing, e1, hp, k0, k1, n2, px_refused]
  · exact op_ref h (k := 1) (r := -nI 1) (by decide) (by simp [x_X8_ring, px_hasRing, e1, hp, n1, px_refused]) (fun M1 hc => by simp [x_X9_ring, py_isRing, hc 41 (by decide), e2, hp, n1, py_no])
theorem op_boat (p p2 : Int32) : opOK (x_X8_boat p p2) (x_X9_boat p p2) := by
  intro M h
  obtain ⟨nr, nb, q1, q2, e1, e2, e3, e4, hr, hbt⟩ := inv_B h
  by_cases hp : 0 ≤ p ∧ p < nI nb
  · obtain ⟨b, hb, rfl⟩ := p_in (by omega) hp.1 hp.2
    have c1 : (nI b).toNatClampNeg = b := nI_clamp (by omega)
    obtain ⟨⟨g0, g1, g2, g3, g4, g5, g6⟩, -⟩ := hbt b hb
    have b3 := p_inb (show b < 5 by omega) (by decide : (5 : Nat) < 2 ^ 31)
    by_cases h7 : 0 ≤ p2 ∧ p2 < 7
    · obtain ⟨j, hj, rfl⟩ := p_in (n := 7) (by decide) h7.1 h7.2
      have l := px_boatCell 1 b j (by omega) hj M
      have z : ¬ nI j < 0 := nI_pos (by omega)
      have z2 : nI j < 7 := (p_lt (b := 7) (by omega) (by decide)).mpr hj
      have hx : x_X8_boat (nI b) (nI j) M = some (M 5 (7 * b + j), M) := by simp [x_X8_boat, px_hasBoat, e3, hp, z, z2, l]
      refine op_ask h hx (scr_rf M) fun h1 hc => ⟨M, ?_, coreEq_rf _⟩
      rcases (show j = 0 ∨ j = 1 ∨ j = 2 ∨ j = 3 ∨ j = 4 ∨ j = 5 ∨ j = 6 by omega) with rfl | rfl | rfl | rfl | rfl | rfl | rfl
      · rw [show 7 * b + 0 = 7 * b from rfl, g0]; simp [x_X9_boat, py_isBoat, e4, hp, b3, c1, nI_0]
      · rw [g1, show nI 1 = (1 : Int32) from rfl]; simp [x_X9_boat, py_isBoat, e4, hp, b3, c1]
      · rw [g2, show nI 2 = (2 : Int32) from rfl]; simp [x_X9_boat, py_isBoat, e4, hp, b3, c1]
      · rw [g3, show nI 3 = (3 : Int32) from rfl]; simp [x_X9_boat, py_isBoat, e4, hp, b3, c1]
      · rw [g4, show nI 4 = (4 : Int32) from rfl]; simp [x_X9_boat, py_isBoat, e4, hp, b3, c1]
      · rw [g5, show nI 5 = (5 : Int32) from rfl]; simp [x_X9_boat, py_isBoat, e4, hp, b3, c1]
      · rw [g6, show nI 6 = (6 : Int32) from rfl]; simp [x_X9_boat, py_isBoat, e4, hp, b3, c1]
    · have z0 : p2 ≠ 0 := by rintro rfl; exact h7 (by decide)
      have z1 : p2 ≠ 1 := by rintro rfl; exact h7 (by decide)
      have z2 : p2 ≠ 2 := by rintro rfl; exact h7 (by decide)
      have z3 : p2 ≠ 3 := by rintro rfl; exact h7 (by decide)
      have z4 : p2 ≠ 4 := by rintro rfl; exact h7 (by decide)
      have z5 : p2 ≠ 5 := by rintro rfl; exact h7 (by decide)
      have z6 : p2 ≠ 6 := by rintro rfl; exact h7 (by decide)
      refine op_ref h (k := 2) (r := -nI 2) (by decide) ?_ (fun M1 hc => by simp [x_X9_boat, py_isBoat, hc 41 (by decide), e4, hp, z0, z1, z2, z3, z4, z5, z6, n2, py_no])
      by_cases k0 : p2 < 0
      · simp [x_X8_boat, px_hasBoat, e3, hp, k0, n2, px_refused]
      · have k1 : ¬ p2 < 7 := fun k => h7 ⟨by rw [← Int32.not_lt]; exact k0, k⟩
        simp [x_X8_boat, px_hasBoat, e3, hp, k0, k1, n2, px_refused]
  · exact op_ref h (k := 1) (r := -nI 1) (by decide) (by simp [x_X8_boat, px_hasBoat, e3, hp, n1, px_refused]) (fun M1 hc => by simp [x_X9_boat, py_isBoat, hc 41 (by decide), e4, hp, n1, py_no])
