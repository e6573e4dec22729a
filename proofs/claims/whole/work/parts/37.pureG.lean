/-! THE PURE PART. G: needs, out, hours, lies -/
theorem rb_eq {M M1 : g_M} (hc : ∀ c, 41 ≤ c → M1 c = M c) : rb M1 = rb M := by
  funext b j
  unfold rb
  rw [hc 45 (by decide), hc 46 (by decide), hc 47 (by decide), hc 48 (by decide), hc 49 (by decide), hc 50 (by decide), hc 51 (by decide), hc 52 (by decide), hc 53 (by decide), hc 54 (by decide)]
theorem op_refS {M Ms : g_M} (h : inv M) {fx fy : g_M → Option (Int32 × g_M)} {r : Int32} {k : Nat} (hk : k < 7) (hs : scr M Ms) (hx : fx M = some (r, g_upd Ms 26 k (Ms 26 k + 1))) (hy : ∀ M1, (∀ c, 41 ≤ c → M1 c = M c) → fy M1 = some (r, g_upd M1 42 k (M1 42 k + 1))) : ∃ (r : Int32) (M1 M2 : g_M), fx M = some (r, M1) ∧ fy M1 = some (r, M2) ∧ inv M2 := by
  have e : g_upd Ms 26 k (Ms 26 k + 1) 42 k = Ms 42 k := by rw [g_upd_ne (by decide)]
  refine ⟨r, _, _, hx, hy _ (fun c hc => by rw [g_upd_ne (by omega)]; exact hs c (by omega)), ?_⟩
  rw [e]
  exact inv_ref (inv_core (scr_core hs) h) hk
/-- a boat's number -/
theorem bo {M : g_M} (h : inv M) {p : Int32} (hp : 0 ≤ p ∧ p < M 1 6) : ∃ b : Nat, p = nI b ∧ b < 5 ∧ nI b < M 1 6 ∧ nI b < M 41 16 ∧ okR M b ∧ okB (rb M b) := by
  obtain ⟨nr, nb, n1, n2, e1, e2, e3, e4, hr, hbt⟩ := inv_B h
  have h2 := hp.2
  rw [e3] at h2
  obtain ⟨b, hb, rfl⟩ := p_in (by omega) hp.1 h2
  obtain ⟨-, q1, q2, q3⟩ := hbt b hb
  exact ⟨b, rfl, by omega, hp.2, by rw [e4]; exact h2, okR_of n1 q1 q2, q3⟩
theorem nbo {M : g_M} (h : inv M) : M 1 6 = M 41 16 := by
  obtain ⟨nr, nb, n1, n2, e1, e2, e3, e4, -⟩ := inv_B h
  rw [e3, e4]
theorem nro {M : g_M} (h : inv M) : M 1 5 = M 41 15 := by
  obtain ⟨nr, nb, n1, n2, e1, e2, e3, e4, -⟩ := inv_B h
  rw [e1, e2]
theorem ld_scr {M M' : g_M} {q : Nat} (hq : q = 27 ∨ q = 28) (h : ∀ c, c ≠ q → M' c = M c) : scr M M' := fun c hc => h c (by omega)
theorem op_needs (p p2 : Int32) : opOK (x_X8_needs p p2) (x_X9_needs p p2) := by
  intro M h
  by_cases hp : 0 ≤ p ∧ p < M 1 6
  · by_cases hh : 0 ≤ p2 ∧ p2 < 12
    · obtain ⟨b, rfl, hb, hb1, hb2, hR, hB⟩ := bo h hp
      obtain ⟨k, hk, rfl⟩ := p_in (n := 12) (by decide) hh.1 hh.2
      obtain ⟨M', e1, e2, e3⟩ := px_load h (q := 27) (by decide) hb1 hb
      have t := (inv_T h).1 k hk
      refine op_ask h (r := sN (rb M b) (M 43 k)) (M1 := M') ?_ (ld_scr (Or.inl rfl) e3) fun h1 hc => ⟨M', ?_, coreEq_rf _⟩
      · simp [x_X8_needs, px_hasBoat, hp, px_isHour, hh, e1, px_tideAt _ _ hk, px_need e2, e3 2, t]
      · have r := rb_eq hc
        have hR1 : okR M' b := by unfold okR; rw [hc 50 (by decide), hc 51 (by decide)]; exact hR
        have hn := py_need (M := M') hb hk hR1 (by rw [r]; exact hB) (by rw [hc 43 (by decide)]; exact (inv_T h).2 k hk)
        rw [r, hc 43 (by decide)] at hn
        have hp2 : 0 ≤ nI b ∧ nI b < M' 41 16 := ⟨hp.1, by rw [hc 41 (by decide)]; exact hb2⟩
        simp [x_X9_needs, py_isBoat, hp2, py_isHour, hh, hn]
    · exact op_ref h (k := 1) (r := -nI 1) (by decide) (by simp [x_X8_needs, px_hasBoat, hp, px_isHour, hh, n1, px_refused]) (fun M1 hc => by
        have hp2 : 0 ≤ p ∧ p < M1 41 16 := by rw [hc 41 (by decide), ← nbo h]; exact hp
        simp [x_X9_needs, py_isBoat, hp2, py_isHour, hh, n1, py_no])
  · exact op_ref h (k := 1) (r := -nI 1) (by decide) (by simp [x_X8_needs, px_hasBoat, hp, n1, px_refused]) (fun M1 hc => by
      have hp2 : ¬ (0 ≤ p ∧ p < M1 41 16) := by rw [hc 41 (by decide), ← nbo h]; exact hp
      simp [x_X9_needs, py_isBoat, hp2, n1, py_no])
/-- the reference at a boat and an HOUR, behind what the class did -/
theorem py_outAt {M : g_M} {b h : Nat} (hb : b < 5) (hh : h < 12) (hR : okR M b) (hB : okB (rb M b)) (ht : okT (M 43)) : x_X9_outAt (nI b) (nI h) M = some (sR (rb M b) (rb M b 5) (M 43 h), M) := by
  have c1 : (nI b).toNatClampNeg = b := nI_clamp (by omega)
  have e5 : rb M b 5 = M 52 b := rfl
  have h1 := hB.2.2.2.2.2.2.2.2.2.2.1
  have h2 := hB.2.2.2.2.2.2.2.2.2.2.2.1
  rw [e5] at h1 h2
  simp [x_X9_outAt, p_inb hb, c1, py_outWith hb hh hR hB (ht h hh) h1 h2, e5]
theorem op_out (p p2 : Int32) : opOK (x_X8_out p p2) (x_X9_out p p2) := by
  intro M h
  by_cases hp : 0 ≤ p ∧ p < M 1 6
  · by_cases hh : 0 ≤ p2 ∧ p2 < 12
    · obtain ⟨b, rfl, hb, hb1, hb2, hR, hB⟩ := bo h hp
      obtain ⟨k, hk, rfl⟩ := p_in (n := 12) (by decide) hh.1 hh.2
      obtain ⟨M', e1, e2, e3⟩ := px_load h (q := 27) (by decide) hb1 hb
      have t := (inv_T h).1 k hk
      have T := (inv_T h).2
      have hr := px_reach (t := M 43 k) e2 hB hB.2.2.2.2.2.2.2.2.2.2.1 hB.2.2.2.2.2.2.2.2.2.2.2.1 (T k hk).1 (T k hk).2
      refine op_ask h (r := sR (rb M b) (rb M b 5) (M 43 k)) (M1 := M') ?_ (ld_scr (Or.inl rfl) e3) fun h1 hc => ⟨M', ?_, coreEq_rf _⟩
      · simp [x_X8_out, px_hasBoat, hp, px_isHour, hh, e1, px_tideAt _ _ hk, e2 5 (by decide), e3 2, t, hr]
      · have r := rb_eq hc
        have hR1 : okR M' b := by unfold okR; rw [hc 50 (by decide), hc 51 (by decide)]; exact hR
        have hn := py_outAt (M := M') hb hk hR1 (by rw [r]; exact hB) (by rw [hc 43 (by decide)]; exact T)
        rw [r, hc 43 (by decide)] at hn
        have hp2 : 0 ≤ nI b ∧ nI b < M' 41 16 := ⟨hp.1, by rw [hc 41 (by decide)]; exact hb2⟩
        simp [x_X9_out, py_isBoat, hp2, py_isHour, hh, hn]
    · exact op_ref h (k := 1) (r := -nI 1) (by decide) (by simp [x_X8_out, px_hasBoat, hp, px_isHour, hh, n1, px_refused]) (fun M1 hc => by
        have hp2 : 0 ≤ p ∧ p < M1 41 16 := by rw [hc 41 (by decide), ← nbo h]; exact hp
        simp [x_X9_out, py_isBoat, hp2, py_isHour, hh, n1, py_no])
  · exact op_ref h (k := 1) (r := -nI 1) (by decide) (by simp [x_X8_out, px_hasBoat, hp, n1, px_refused]) (fun M1 hc => by
      have hp2 : ¬ (0 ≤ p ∧ p < M1 41 16) := by rw [hc 41 (by decide), ← nbo h]; exact hp
      simp [x_X9_out, py_isBoat, hp2, n1, py_no])
theorem sHH_cg {B : Nat → Int32} {v : Int32} {T T' : Nat → Int32} (h : ∀ k, k < 12 → T k = T' k) : sHH B v T = sHH B v T' := bt_cg fun i hi => by rw [h i hi]
theorem sFH_cg {B : Nat → Int32} {v : Int32} {T T' : Nat → Int32} (h : ∀ k, k < 12 → T k = T' k) : sFH B v T = sFH B v T' := bt_cg fun i hi => by rw [h i hi]
theorem sUH_cg {e b : Int32} {T T' : Nat → Int32} (h : ∀ k, k < 12 → T k = T' k) : sUH e b T = sUH e b T' := bt_cg fun i hi => by rw [h i hi]
theorem okT_cg {T T' : Nat → Int32} (h : ∀ k, k < 12 → T k = T' k) (hT : okT T') : okT T := fun k hk => by rw [h k hk]; exact hT k hk
theorem p_and3 (a b c : Int32) : 4095 &&& ((a ||| b ||| c) ^^^ -1) = 4095 &&& (a ^^^ -1) &&& (b ^^^ -1) &&& (c ^^^ -1) := by
  apply Int32.toBitVec_inj.mp
  simp only [Int32.toBitVec_and, Int32.toBitVec_or, Int32.toBitVec_xor]
  apply BitVec.eq_of_getLsbD_eq
  intro i hi
  have m1 : (-1 : Int32).toBitVec.getLsbD i = true := by
    have : ∀ i, i < 32 → (-1 : Int32).toBitVec.getLsbD i = true := by decide
    exact this i hi
  simp only [BitVec.getLsbD_and, BitVec.getLsbD_or, BitVec.getLsbD_xor, m1]
  cases (4095 : Int32).toBitVec.getLsbD i <;> cases a.toBitVec.getLsbD i <;> cases b.toBitVec.getLsbD i <;> cases c.toBitVec.getLsbD i <;> rfl
theorem p_and3n (a b c : Int32) : 4095 &&& ~~~(a ||| b ||| c) = 4095 &&& ~~~a &&& ~~~b &&& ~~~c := by simpa using p_and3 a b c
theorem op_hours (p p2 : Int32) : opOK (x_X8_hours p p2) (x_X9_hours p p2) := by
  intro M h
  by_cases hp : 0 ≤ p ∧ p < M 1 6
  · obtain ⟨b, rfl, hb, hb1, hb2, hR, hB⟩ := bo h hp
    obtain ⟨M', e1, e2, e3⟩ := px_load h (q := 27) (by decide) hb1 hb
    have T := (inv_T h).2
    have tt : ∀ k, k < 12 → M' 2 k = M 43 k := fun k hk => by rw [e3 2 (by decide)]; exact (inv_T h).1 k hk
    have T2 : okT (M' 2) := okT_cg tt T
    have E := inv_E h
    have u8 : M' 1 8 = M 47 0 := by rw [e3 1 (by decide)]; exact E.1
    have u9 : M' 1 9 = M 47 1 := by rw [e3 1 (by decide)]; exact E.2.1
    have hs := ld_scr (Or.inl rfl) e3
    have c1 : (nI b).toNatClampNeg = b := nI_clamp (by omega)
    have B1 := hB.2.2.2.2.2.2.2.2.2.2.1
    have B2 := hB.2.2.2.2.2.2.2.2.2.2.2.1
    have x1 : x_X5_hangingHours 27 (1 + 1) 12 M' = some (sHH (rb M b) (rb M b 5) (M 43), M') := by rw [px_hangH e2, sHH_cg tt]
    have x2 : x_X5_tooFarHours 27 (1 + 1) 12 M' = some (sFH (rb M b) (rb M b 5) (M 43), M') := by rw [px_farH e2 hB T2, sFH_cg tt]
    have x3 : x_X2_hoursUnder 1 M' = some (sUH (M 47 0) (M 47 1) (M 43), M') := by rw [px_under, u8, u9, sUH_cg tt]
    have ref : ∀ M1 : g_M, (∀ c, 41 ≤ c → M1 c = M c) → x_X9_isBoat (nI b) M1 = some (1, M1) ∧ x_X9_hangHours (nI b) (M1 52 b) M1 = some (sHH (rb M b) (rb M b 5) (M 43), M1) ∧ x_X9_farHours (nI b) (M1 52 b) M1 = some (sFH (rb M b) (rb M b 5) (M 43), M1) ∧ x_X9_underHours M1 = some (sUH (M 47 0) (M 47 1) (M 43), M1) ∧ x_X9_wellHours (nI b) (M1 52 b) M1 = some (sWH (rb M b) (rb M b 5) (M 43) (M 47 0) (M 47 1), M1) := by
      intro M1 hc
      have r := rb_eq hc
      have hR1 : okR M1 b := by unfold okR; rw [hc 50 (by decide), hc 51 (by decide)]; exact hR
      have hB1 : okB (rb M1 b) := by rw [r]; exact hB
      have hT1 : okT (M1 43) := by rw [hc 43 (by decide)]; exact T
      have e5 : M1 52 b = rb M b 5 := by rw [hc 52 (by decide)]; rfl
      have hp2 : 0 ≤ nI b ∧ nI b < M1 41 16 := ⟨hp.1, by rw [hc 41 (by decide)]; exact hb2⟩
      have y1 := py_hangH hb hR1 hB1 hT1 (rb M b 5)
      have y2 := py_farH hb hR1 hB1 hT1 B1 B2
      have y3 := py_under M1
      have y4 := py_wellH hb hR1 hB1 hT1 B1 B2
      rw [r, hc 43 (by decide)] at y1 y2 y4
      rw [hc 43 (by decide), hc 47 (by decide)] at y3
      rw [hc 47 (by decide)] at y4
      rw [e5]
      exact ⟨by simp [py_isBoat, hp2], y1, y2, y3, y4⟩
    by_cases k0 : p2 = 0
    · refine op_ask h (r := sHH (rb M b) (rb M b 5) (M 43)) (M1 := M') (by simp [x_X8_hours, px_hasBoat, hp, e1, k0, x1]) hs fun h1 hc => ⟨M', ?_, coreEq_rf _⟩
      obtain ⟨y0, y1, -⟩ := ref M' hc
      simp [x_X9_hours, y0, k0, p_inb hb, c1, y1]
    · by_cases k1 : p2 = 1
      · refine op_ask h (r := sFH (rb M b) (rb M b 5) (M 43)) (M1 := M') (by simp [x_X8_hours, px_hasBoat, hp, e1, k1, x2]) hs fun h1 hc => ⟨M', ?_, coreEq_rf _⟩
        obtain ⟨y0, -, y2, -⟩ := ref M' hc
        simp [x_X9_hours, y0, k1, p_inb hb, c1, y2]
      · by_cases k2 : p2 = 2
        · refine op_ask h (r := sUH (M 47 0) (M 47 1) (M 43)) (M1 := M') (by simp [x_X8_hours, px_hasBoat, hp, e1, k2, x3]) hs fun h1 hc => ⟨M', ?_, coreEq_rf _⟩
          obtain ⟨y0, -, -, y3, -⟩ := ref M' hc
          simp [x_X9_hours, y0, k2, y3]
        · by_cases k3 : p2 = 3
          · refine op_ask h (r := sWH (rb M b) (rb M b 5) (M 43) (M 47 0) (M 47 1)) (M1 := M') (by simp [x_X8_hours, px_hasBoat, hp, e1, k3, x1, x2, x3, sWH, p_and3n]) hs fun h1 hc => ⟨M', ?_, coreEq_rf _⟩
            obtain ⟨y0, -, -, -, y4⟩ := ref M' hc
            simp [x_X9_hours, y0, k3, p_inb hb, c1, y4]
          · exact op_refS h (k := 2) (r := -nI 2) (by decide) hs (by simp [x_X8_hours, px_hasBoat, hp, e1, k0, k1, k2, k3, n2, px_refused]) (fun M1 hc => by
              obtain ⟨y0, -⟩ := ref M1 hc
              simp [x_X9_hours, y0, k0, k1, k2, k3, n2, py_no])
  · exact op_ref h (k := 1) (r := -nI 1) (by decide) (by simp [x_X8_hours, px_hasBoat, hp, n1, px_refused]) (fun M1 hc => by
      have hp2 : ¬ (0 ≤ p ∧ p < M1 41 16) := by rw [hc 41 (by decide), ← nbo h]; exact hp
      simp [x_X9_hours, py_isBoat, hp2, n1, py_no])
/-! the MIDDLE -/
def sM (B : Nat → Int32) : Int32 := if B 0 = 1 ∨ B 0 = 4 then (B 2 + B 4) / 2 else B 2
theorem px_mid {q : Nat} {M : g_M} {B : Nat → Int32} (h : isM q M B) : x_X5_stillMiddle q M = some (sM B, M) := by
  have h0 := h 0 (by decide); have h2 := h 2 (by decide); have h4 := h 4 (by decide)
  unfold x_X5_stillMiddle x_X5_stillMiddle_L16 sM
  simp only [h0, h2, h4]
  by_cases k1 : B 0 = 1
  · simp [k1]
  · by_cases k4 : B 0 = 4
    · simp [k4]
    · simp [k1, k4]
theorem py_mid {M : g_M} {b : Nat} (hb : b < 5) (hR : okR M b) : x_X9_middle (nI b) M = some (sM (rb M b), M) := by
  obtain ⟨⟨r1, hr1, e1⟩, ⟨r2, hr2, e2⟩⟩ := hR
  have b1 := p_inb hb (by decide : (5 : Nat) < 2 ^ 31)
  have b3 := p_inb hr1 (by decide : (6 : Nat) < 2 ^ 31)
  have b4 := p_inb hr2 (by decide : (6 : Nat) < 2 ^ 31)
  have c1 : (nI b).toNatClampNeg = b := nI_clamp (by omega)
  have c3 : (nI r1).toNatClampNeg = r1 := nI_clamp (by omega)
  have c4 : (nI r2).toNatClampNeg = r2 := nI_clamp (by omega)
  have q0 : rb M b 0 = M 48 b := rfl
  have q2 : rb M b 2 = M 45 r1 := by show M 45 (M 50 b).toNatClampNeg = _; rw [e1, c3]
  have q4 : rb M b 4 = M 45 r2 := by show M 45 (M 51 b).toNatClampNeg = _; rw [e2, c4]
  unfold x_X9_middle x_X9_isOfTwo sM
  by_cases k1 : M 48 b = 1
  · simp [b1, c1, k1, q0, q2, q4, e1, e2, b3, b4, c3, c4]
  · by_cases k4 : M 48 b = 4
    · simp [b1, c1, k4, q0, q2, q4, e1, e2, b3, b4, c3, c4]
    · simp [b1, c1, k1, k4, q0, q2, e1, b3, c3]
/-- MIDDLE with WIND w, OUT o -/
def sB (B : Nat → Int32) (o w : Int32) : Int32 := sM B + g_max (-o) (g_min o w)
theorem sR_b {B : Nat → Int32} {v t : Int32} (hB : okB B) (hv0 : 0 ≤ v) (hv : v ≤ 99) (h0 : 0 ≤ t) (h1 : t ≤ 40) : 0 ≤ sR B v t ∧ sR B v t ≤ 127 := by
  have n0 := sN_b hB h0 h1
  unfold sR
  by_cases hh : v * v < sN B t
  · simp [hh]
  · obtain ⟨k, hk, ek⟩ := p_diff hv0 hv n0.1 n0.2 hh
    have c : (nI k).toNatClampNeg = k := nI_clamp (by omega)
    have r := (p_root_spec hk).2.2
    rw [if_neg hh, ek, c]
    generalize p_root k = x at r
    have g1 : 0 ≤ nI x ∧ nI x ≤ 127 := ⟨p_ge0 (by omega), (p_le (by omega) (by decide)).mpr r⟩
    have g2 : nI x / 2 = nI (x / 2) := p_div (b := 2) (by omega) (by decide)
    have g3 : 3 * nI x / 4 = nI (3 * x / 4) := by
      rw [show (3 : Int32) = nI 3 from rfl, p_mul]
      exact p_div (b := 4) (by omega) (by decide)
    have g4 : 0 ≤ nI (x / 2) ∧ nI (x / 2) ≤ 127 := ⟨p_ge0 (by omega), (p_le (a := x / 2) (b := 127) (by omega) (by decide)).mpr (by omega)⟩
    have g5 : 0 ≤ nI (3 * x / 4) ∧ nI (3 * x / 4) ≤ 127 := ⟨p_ge0 (by omega), (p_le (a := 3 * x / 4) (b := 127) (by omega) (by decide)).mpr (by omega)⟩
    obtain ⟨z1, z2, z3, z4, -⟩ := hB
    simp only [g2, g3]
    split
    · exact g4
    · split
      · exact g5
      · split
        · split
          · constructor <;> grind
          · exact g1
        · split
          · exact g4
          · split
            · split
              · exact g5
              · constructor <;> decide
            · exact g1
theorem py_midBy {M : g_M} {b h : Nat} (hb : b < 5) (hh : h < 12) (hR : okR M b) (hB : okB (rb M b)) (ht : okT (M 43)) (hw : p_bd (-9) (M 44 h) 9) : x_X9_middleBy (nI b) (nI h) M = some (sB (rb M b) (sR (rb M b) (rb M b 5) (M 43 h)) (M 44 h), M) := by
  have b2 := p_inb hh (by decide : (12 : Nat) < 2 ^ 31)
  have c2 : (nI h).toNatClampNeg = h := nI_clamp (by omega)
  have rbd := sR_b (t := M 43 h) hB hB.2.2.2.2.2.2.2.2.2.2.1 hB.2.2.2.2.2.2.2.2.2.2.2.1 (ht h hh).1 (ht h hh).2
  obtain ⟨w1, w2⟩ := hw
  unfold x_X9_middleBy x_X9_middleBy_L43 sB g_max g_min
  simp only [py_outAt hb hh hR hB ht, Option.bind_some, b2, c2, if_true, py_mid hb hR]
  generalize sR (rb M b) (rb M b 5) (M 43 h) = o at *
  generalize M 44 h = w at *
  by_cases k1 : w ≤ o
  · by_cases k2 : -o ≤ w
    · rw [if_pos k1, if_pos k2]
      congr 2
      split <;> split <;> grind
    · rw [if_pos k1, if_neg k2]
      congr 2
      split <;> split <;> grind
  · rw [if_neg k1]
    congr 2
    split <;> split <;> grind
