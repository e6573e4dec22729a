/-! THE PURE PART. N: the kept numbers put back; image, restore -/
def rI (M0 : g_M) (base a i : Nat) (M : g_M) : Prop := M 41 29 = 0 ∧ M 41 30 = nI (base + p_of a + i) ∧ (∀ c, (c < 43 ∨ 57 ≤ c) → c ≠ 41 → M c = M0 c) ∧ (∀ f, f ≠ 29 → f ≠ 30 → M 41 f = M0 41 f) ∧ ∀ c k, 43 ≤ c → c ≤ 56 → M c k = if (c < a ∨ (c = a ∧ k < i)) ∧ k < p_sz c then M0 61 (base + p_of c + k) else M0 c k
theorem rp_step {M0 M : g_M} {base a n o : Nat} (hI : rI M0 base a 0 M) (hc1 : 43 ≤ a) (hc2 : a ≤ 56) (hsz : p_sz a = n) (hb : base + o + n ≤ 180) (ho : p_of a = o) : ∃ M', x_X9_passes a n M = some (0, M') ∧ rI M0 base (a + 1) 0 M' := by
  unfold x_X9_passes
  subst ho
  have hs := p_of_s a (by omega) hc1
  refine p_loop0 (n := n) (F := fun i fuel s => x_X9_passes_L2 a n fuel (nI i) s) (I := fun i s => rI M0 base a i s) (R := fun r => ∃ M', r = some (0, M') ∧ rI M0 base (a + 1) 0 M') (s := M) (by omega) hI ?_ ?_
  · intro s fuel ⟨h1, h2, h3, h4, h5⟩
    refine ⟨s, ?_, h1, by rw [h2, hs.1, hsz]; congr 1; omega, h3, h4, fun c k a1 a2 => ?_⟩
    · have : Int32.ofNat n ≤ nI n := Int32.le_refl _
      simp [x_X9_passes_L2, this]
    · rw [h5 c k a1 a2]
      by_cases q : (c < a ∨ (c = a ∧ k < n)) ∧ k < p_sz c
      · rw [if_pos q, if_pos ⟨by omega, q.2⟩]
      · rw [if_neg q, if_neg]
        intro z
        apply q
        refine ⟨?_, z.2⟩
        rcases z.1 with z1 | z1
        · by_cases e : c = a
          · subst e
            exact Or.inr ⟨rfl, by rw [← hsz]; exact z.2⟩
          · omega
        · omega
  · intro i s fuel hi ⟨h1, h2, h3, h4, h5⟩
    right
    have b1 := p_inb hi (by omega : n < 2 ^ 31)
    have b2 := p_inb (show base + p_of a + i < 180 by omega) (by decide : (180 : Nat) < 2 ^ 31)
    have c1 : (nI i).toNatClampNeg = i := nI_clamp (by omega)
    have c2 : (nI (base + p_of a + i)).toNatClampNeg = base + p_of a + i := nI_clamp (by omega)
    have g : ¬ Int32.ofNat n ≤ nI i := nI_ge hi (by omega)
    have e1 : nI i + 1 = nI (i + 1) := (nI_succ ..).symm
    have e2 : nI (base + p_of a + i) + 1 = nI (base + p_of a + i + 1) := (nI_succ ..).symm
    have s61 : s 61 = M0 61 := h3 61 (by omega) (by decide)
    have n41 : (41 : Nat) ≠ a := by omega
    refine ⟨g_upd (g_upd s a i (M0 61 (base + p_of a + i))) 41 30 (nI (base + p_of a + i + 1)), ⟨?_, ?_, fun c a1 a2 => ?_, fun f a1 a2 => ?_, fun c k a1 a2 => ?_⟩, ?_⟩
    · simp [g_upd_get, n41, h1]
    · simp [g_upd_get]; rfl
    · rw [g_upd_ne a2, g_upd_ne (by omega), h3 c a1 a2]
    · simp [g_upd_get, n41, a2, h4 f a1 a2]
    · rw [g_upd_ne (by omega), g_upd_get, h5 c k a1 a2]
      by_cases q : c = a ∧ k = i
      · obtain ⟨rfl, rfl⟩ := q
        rw [if_pos ⟨rfl, rfl⟩, if_pos ⟨by omega, by rw [hsz]; exact hi⟩]
      · rw [if_neg q]
        by_cases z : (c < a ∨ (c = a ∧ k < i)) ∧ k < p_sz c
        · rw [if_pos z, if_pos ⟨by omega, z.2⟩]
        · rw [if_neg z, if_neg (fun w => z ⟨by omega, w.2⟩)]
    · simp only [x_X9_passes_L2, if_neg g, h1, if_true, b1, h2, b2, c1, c2, s61, g_upd_ne n41, e1, e2]
theorem rp_one {M : g_M} {k : Nat} (h : M 41 29 = 0) (hk : M 41 30 = nI k) (hb : k < 180) (w : Int32) : x_X9_passOne w M = some (M 61 k, g_upd M 41 30 (nI (k + 1))) := by
  have b2 := p_inb hb (by decide : (180 : Nat) < 2 ^ 31)
  have c2 : (nI k).toNatClampNeg = k := nI_clamp (by omega)
  have e2 : nI k + 1 = nI (k + 1) := (nI_succ ..).symm
  simp only [x_X9_passOne, x_X9_passOne_L20, h, hk, if_true, b2, c2, e2]
/-- fields put back one by one -/
def rJ (M0 : g_M) (base : Nat) (fs : List Nat) (M : g_M) : Prop := M 41 29 = 0 ∧ M 41 30 = nI (base + 79 + fs.length) ∧ (∀ c, (c < 43 ∨ 57 ≤ c) → c ≠ 41 → M c = M0 c) ∧ (∀ f, f ≠ 29 → f ≠ 30 → f ∉ fs → M 41 f = M0 41 f) ∧ (∀ c k, 43 ≤ c → c ≤ 56 → M c k = if k < p_sz c then M0 61 (base + p_of c + k) else M0 c k) ∧ ∀ j f, fs[j]? = some f → M 41 f = M0 61 (base + 79 + j)
theorem rJ_step {M0 M : g_M} {base : Nat} {fs : List Nat} (h : rJ M0 base fs M) (hb : base + 79 + fs.length < 180) {f : Nat} (h30s : 30 ∉ fs) (hf : f ∉ fs) (h29 : f ≠ 29) (h30 : f ≠ 30) : ∃ (v : Int32) (M' N : g_M), (∀ w, x_X9_passOne w M = some (v, M')) ∧ g_upd M' 41 f v = N ∧ rJ M0 base (fs ++ [f]) N := by
  obtain ⟨h1, h2, h3, h4, h5, h6⟩ := h
  refine ⟨_, _, _, fun w => rp_one h1 h2 hb w, rfl, ?_⟩
  have s61 : M 61 = M0 61 := h3 61 (by omega) (by decide)
  refine ⟨?_, ?_, fun c a1 a2 => ?_, fun g a1 a2 a3 => ?_, fun c k a1 a2 => ?_, fun j g hj => ?_⟩
  · simp [g_upd_get, Ne.symm h29, h1]
  · simp [g_upd_get, Ne.symm h30]; rfl
  · rw [g_upd_ne a2, g_upd_ne a2, h3 c a1 a2]
  · have a4 : g ∉ fs ∧ g ≠ f := by simpa using a3
    simp [g_upd_get, a2, a4.2, h4 g a1 a2 a4.1]
  · rw [g_upd_ne (by omega), g_upd_ne (by omega), h5 c k a1 a2]
  · rw [s61, g_upd_get]
    by_cases e : j < fs.length
    · rw [List.getElem?_append_left e] at hj
      have hm : g ∈ fs := List.mem_of_getElem? hj
      have hg : g ≠ f := fun q => hf (q ▸ hm)
      rw [if_neg (fun q => hg q.2), g_upd_get, if_neg, h6 j g hj]
      rintro ⟨-, rfl⟩
      exact h30s hm
    · rw [List.getElem?_append_right (by omega)] at hj
      have e0 : j - fs.length = 0 := by
        by_cases z : j - fs.length = 0
        · exact z
        · simp [List.getElem?_singleton, z] at hj
      rw [e0] at hj
      simp at hj
      subst hj
      have ej : j = fs.length := by omega
      rw [if_pos ⟨rfl, rfl⟩, ej]
theorem py_rest {w : Nat} (hw : w ≤ 1) (M : g_M) : ∃ M', x_X9_passesAll (nI w) 0 M = some (0, M') ∧ (∀ c, (c < 43 ∨ 57 ≤ c) → c ≠ 41 → M' c = M c) ∧ (∀ f, f ≠ 29 → f ≠ 30 → (f < 15 ∨ 19 < f) → M' 41 f = M 41 f) ∧ (∀ c k, 43 ≤ c → c ≤ 56 → M' c k = if k < p_sz c then M 61 (90 * w + p_of c + k) else M c k) ∧ M' 41 18 = M 61 (90 * w + 79) ∧ M' 41 19 = M 61 (90 * w + 80) ∧ M' 41 15 = M 61 (90 * w + 81) ∧ M' 41 16 = M 61 (90 * w + 82) ∧ M' 41 17 = M 61 (90 * w + 83) := by
  have e90 : 90 * nI w = nI (90 * w) := by rw [show (90 : Int32) = nI 90 from rfl, p_mul]
  have k0 : rI M (90 * w) 43 0 (g_upd (g_upd M 41 30 (nI (90 * w))) 41 29 0) := ⟨by simp [g_upd_get], by simp [g_upd_get]; rfl, fun c a b => by rw [g_upd_ne b, g_upd_ne b], fun f a b => by simp [g_upd_get, a, b], fun c k a1 a2 => by
    rw [g_upd_ne (by omega), g_upd_ne (by omega), if_neg (fun z => by have := z.1; omega)]⟩
  obtain ⟨M1, a1, k1⟩ := rp_step (a := 43) (n := 12) (o := 0) k0 (by decide) (by decide) rfl (by omega) rfl
  obtain ⟨M2, a2, k2⟩ := rp_step (a := 44) (n := 12) (o := 12) k1 (by decide) (by decide) rfl (by omega) rfl
  obtain ⟨M3, a3, k3⟩ := rp_step (a := 45) (n := 6) (o := 24) k2 (by decide) (by decide) rfl (by omega) rfl
  obtain ⟨M4, a4, k4⟩ := rp_step (a := 46) (n := 6) (o := 30) k3 (by decide) (by decide) rfl (by omega) rfl
  obtain ⟨M5, a5, k5⟩ := rp_step (a := 47) (n := 2) (o := 36) k4 (by decide) (by decide) rfl (by omega) rfl
  obtain ⟨M6, a6, k6⟩ := rp_step (a := 48) (n := 5) (o := 38) k5 (by decide) (by decide) rfl (by omega) rfl
  obtain ⟨M7, a7, k7⟩ := rp_step (a := 49) (n := 5) (o := 43) k6 (by decide) (by decide) rfl (by omega) rfl
  obtain ⟨M8, a8, k8⟩ := rp_step (a := 50) (n := 5) (o := 48) k7 (by decide) (by decide) rfl (by omega) rfl
  obtain ⟨M9, a9, k9⟩ := rp_step (a := 51) (n := 5) (o := 53) k8 (by decide) (by decide) rfl (by omega) rfl
  obtain ⟨M10, a10, k10⟩ := rp_step (a := 52) (n := 5) (o := 58) k9 (by decide) (by decide) rfl (by omega) rfl
  obtain ⟨M11, a11, k11⟩ := rp_step (a := 53) (n := 5) (o := 63) k10 (by decide) (by decide) rfl (by omega) rfl
  obtain ⟨M12, a12, k12⟩ := rp_step (a := 54) (n := 5) (o := 68) k11 (by decide) (by decide) rfl (by omega) rfl
  obtain ⟨M13, a13, k13⟩ := rp_step (a := 55) (n := 3) (o := 73) k12 (by decide) (by decide) rfl (by omega) rfl
  obtain ⟨M14, a14, k14⟩ := rp_step (a := 56) (n := 3) (o := 76) k13 (by decide) (by decide) rfl (by omega) rfl
  have j14 : rJ M (90 * w) [] M14 := by
    obtain ⟨h1, h2, h3, h4, h5⟩ := k14
    refine ⟨h1, h2, h3, fun f a b _ => h4 f a b, fun c k a1 a2 => ?_, fun j f hj => by simp at hj⟩
    rw [h5 c k a1 a2]
    by_cases q : k < p_sz c
    · rw [if_pos q, if_pos ⟨by omega, q⟩]
    · rw [if_neg q, if_neg (fun z => q z.2)]
  obtain ⟨v15, M15, N15, a15, g15, j15⟩ := rJ_step (f := 18) j14 (show 90 * w + 79 + 0 < 180 by omega) (by decide) (by decide) (by decide) (by decide)
  obtain ⟨v16, M16, N16, a16, g16, j16⟩ := rJ_step (f := 19) j15 (show 90 * w + 79 + 1 < 180 by omega) (by decide) (by decide) (by decide) (by decide)
  obtain ⟨v17, M17, N17, a17, g17, j17⟩ := rJ_step (f := 15) j16 (show 90 * w + 79 + 2 < 180 by omega) (by decide) (by decide) (by decide) (by decide)
  obtain ⟨v18, M18, N18, a18, g18, j18⟩ := rJ_step (f := 16) j17 (show 90 * w + 79 + 3 < 180 by omega) (by decide) (by decide) (by decide) (by decide)
  obtain ⟨v19, M19, N19, a19, g19, j19⟩ := rJ_step (f := 17) j18 (show 90 * w + 79 + 4 < 180 by omega) (by decide) (by decide) (by decide) (by decide)
  have ib : g_isb 0 = true := by decide
  refine ⟨N19, ?_, j19.2.2.1, fun f a b c => j19.2.2.2.1 f a b ?_, j19.2.2.2.2.1, j19.2.2.2.2.2 0 18 rfl, j19.2.2.2.2.2 1 19 rfl, j19.2.2.2.2.2 2 15 rfl, j19.2.2.2.2.2 3 16 rfl, j19.2.2.2.2.2 4 17 rfl⟩
  · unfold x_X9_passesAll
    rw [if_pos ib, e90]
    refine (bnd a1 _).trans ?_
    refine (bnd a2 _).trans ?_
    refine (bnd a3 _).trans ?_
    refine (bnd a4 _).trans ?_
    refine (bnd a5 _).trans ?_
    refine (bnd a6 _).trans ?_
    refine (bnd a7 _).trans ?_
    refine (bnd a8 _).trans ?_
    refine (bnd a9 _).trans ?_
    refine (bnd a10 _).trans ?_
    refine (bnd a11 _).trans ?_
    refine (bnd a12 _).trans ?_
    refine (bnd a13 _).trans ?_
    refine (bnd a14 _).trans ?_
    refine (bnd (a15 _) _).trans ?_
    show Option.bind (x_X9_passOne (g_upd M15 41 18 v15 41 19) (g_upd M15 41 18 v15)) _ = _
    rw [g15]
    refine (bnd (a16 _) _).trans ?_
    show Option.bind (x_X9_passOne (g_upd M16 41 19 v16 41 15) (g_upd M16 41 19 v16)) _ = _
    rw [g16]
    refine (bnd (a17 _) _).trans ?_
    show Option.bind (x_X9_passOne (g_upd M17 41 15 v17 41 16) (g_upd M17 41 15 v17)) _ = _
    rw [g17]
    refine (bnd (a18 _) _).trans ?_
    show Option.bind (x_X9_passOne (g_upd M18 41 16 v18 41 17) (g_upd M18 41 16 v18)) _ = _
    rw [g18]
    refine (bnd (a19 _) _).trans ?_
    show some ((0 : Int32), g_upd M19 41 17 v19) = _
    rw [g19]
  · simp
    omega
theorem rest_live {w : Nat} {M M' : g_M} (h4 : ∀ c k, 43 ≤ c → c ≤ 56 → M' c k = if k < p_sz c then M 61 (90 * w + p_of c + k) else M c k) (f1 : M' 41 18 = M 61 (90 * w + 79)) (f2 : M' 41 19 = M 61 (90 * w + 80)) (f3 : M' 41 15 = M 61 (90 * w + 81)) (f4 : M' 41 16 = M 61 (90 * w + 82)) (f5 : M' 41 17 = M 61 (90 * w + 83)) : ∀ i, i < 84 → live M' i = M 61 (90 * w + i) := by
  have seg : ∀ c k, 43 ≤ c → c ≤ 56 → k < p_sz c → live M' (p_of c + k) = M 61 (90 * w + (p_of c + k)) := fun c k a b d => by
    rw [lv_of a b d, h4 c k a b, if_pos d, Nat.add_assoc]
  have all : ∀ i, i < 79 → ∃ c, c < 57 ∧ 43 ≤ c ∧ p_of c ≤ i ∧ i < p_of c + p_sz c := by decide +kernel
  intro i hi
  by_cases k : i < 79
  · obtain ⟨c, a, b, d, e⟩ := all i k
    have := seg c (i - p_of c) b (by omega) (by omega)
    rw [show p_of c + (i - p_of c) = i by omega] at this
    exact this
  · rcases (show i = 79 ∨ i = 80 ∨ i = 81 ∨ i = 82 ∨ i = 83 by omega) with rfl | rfl | rfl | rfl | rfl
    · exact f1
    · exact f2
    · exact f3
    · exact f4
    · exact f5
theorem hour_eq {M : g_M} (h : inv M) : M 1 10 = M 41 17 := by
  obtain ⟨j1, j2, ⟨a3, a4, ⟨k, hk, a5, a5b⟩, a6⟩, j4, j5⟩ := hrel_iff.mp h.1
  exact a5.trans a5b.symm
theorem op_image : opOK x_X8_image x_X9_image := by
  intro M h
  obtain ⟨Ma, a1, a2, a3, a4, a5, a6, a7, a8⟩ := px_copyFrom (q := 7) (q1 := 1) (Or.inr (by decide)) M
  generalize hMb : g_upd Ma 0 3 1 = Mb
  have mb : ∀ c, c ≠ 0 → Mb c = Ma c := fun c a => by rw [← hMb, g_upd_ne a]
  have hx : x_X8_image M = some (M 41 17, Mb) := by
    have : Mb 1 10 = M 41 17 := by rw [mb 1 (by decide), a2 1 (by omega)]; exact hour_eq h
    simp only [x_X8_image, a1, Option.bind_some, hMb, this]
  generalize hMc : g_upd Mb 41 28 1 = Mc
  have mc : ∀ c, c ≠ 41 → Mc c = Mb c := fun c a => by rw [← hMc, g_upd_ne a]
  have mc41 : ∀ f, f ≠ 28 → Mc 41 f = M 41 f := fun f hf => by rw [← hMc, g_upd_get, if_neg (fun q => hf q.2), mb 41 (by decide), a2 41 (by omega)]
  have mcc : ∀ c, c ≠ 0 → c ≠ 41 → (c < 7 ∨ 12 < c) → Mc c = M c := fun c a b d => by rw [mc c b, mb c a, a2 c (by omega)]
  obtain ⟨M2, b1, c1, c2, c3, c4, c5, c6⟩ := py_keep (w := 0) (by decide) Mc
  have hy : x_X9_image Mb = some (M 41 17, M2) := by
    have : M2 41 17 = M 41 17 := by rw [c4 17 (by decide) (by decide), mc41 17 (by decide)]
    unfold x_X9_image
    rw [hMc]
    refine (bnd b1 _).trans ?_
    show some (M2 41 17, M2) = _
    rw [this]
  refine ⟨_, _, _, hx, hy, ?_⟩
  have ne : ∀ c, c ≠ 0 → c ≠ 41 → c ≠ 61 → (c < 7 ∨ 12 < c) → M2 c = M c := fun c a b d e => by rw [c3 c d b, mcc c a b e]
  have f41 : ∀ f, f ≠ 28 → f ≠ 29 → f ≠ 30 → M2 41 f = M 41 f := fun f a b d => by rw [c4 f b d, mc41 f a]
  have lc : ∀ i, i < 84 → live Mc i = live M i := fun i hi => by
    by_cases k : i < 79
    · exact live_lo (fun c a b => mcc c (by omega) (by omega) (by omega)) i k
    · rcases (show i = 79 ∨ i = 80 ∨ i = 81 ∨ i = 82 ∨ i = 83 by omega) with rfl | rfl | rfl | rfl | rfl
      · exact mc41 18 (by decide)
      · exact mc41 19 (by decide)
      · exact mc41 15 (by decide)
      · exact mc41 16 (by decide)
      · exact mc41 17 (by decide)
  refine ⟨inv_rest h (fun c a b => ne c (by omega) (by omega) (by omega) (by omega)) (fun c a b => ne c (by omega) (by omega) (by omega) (by omega)) (fun f a b => f41 f (by omega) (by omega) (by omega)), iRef_cg h.2.1 (ne _ (by decide) (by decide) (by decide) (by decide)) (ne _ (by decide) (by decide) (by decide) (by decide)), iLet_cg h.2.2.1 (by rw [ne _ (by decide) (by decide) (by decide) (by decide)]) (ne _ (by decide) (by decide) (by decide) (by decide)) (f41 24 (by decide) (by decide) (by decide)) (ne _ (by decide) (by decide) (by decide) (by decide)), iRow_cg h.2.2.2.1 (by rw [ne _ (by decide) (by decide) (by decide) (by decide)]) (ne _ (by decide) (by decide) (by decide) (by decide)) (f41 37 (by decide) (by decide) (by decide)) (ne _ (by decide) (by decide) (by decide) (by decide)), iPay_cg h.2.2.2.2.1 (by rw [ne _ (by decide) (by decide) (by decide) (by decide)]) (ne _ (by decide) (by decide) (by decide) (by decide)) (ne _ (by decide) (by decide) (by decide) (by decide)) (f41 33 (by decide) (by decide) (by decide)) (f41 16 (by decide) (by decide) (by decide)) (ne _ (by decide) (by decide) (by decide) (by decide)) (ne _ (by decide) (by decide) (by decide) (by decide)), ?_, Or.inr ⟨?_, ?_⟩⟩
  · rw [c4 28 (by decide) (by decide), c3 0 (by decide) (by decide), mc 0 (by decide), ← hMc, ← hMb]
    simp [g_upd_get]
  · rw [c3 0 (by decide) (by decide), mc 0 (by decide), ← hMb]
    simp [g_upd_get]
  · have w : ∀ c, 7 ≤ c → c ≤ 12 → M2 c = Ma c := fun c a b => by rw [c3 c (by omega) (by omega), mc c (by omega), mb c (by omega)]
    refine hrel_copy h.1 (fun i x y => by rw [w 7 (by decide) (by decide), a3 i x y]) (fun k hk => by rw [w 8 (by decide) (by decide)]; exact a4 k hk) (fun k hk => by rw [w 9 (by decide) (by decide)]; exact a5 k hk) (fun k hk => by rw [w 10 (by decide) (by decide)]; exact a6 k hk) (fun k hk => by rw [w 11 (by decide) (by decide)]; exact a7 k hk) (fun k hk => by rw [w 12 (by decide) (by decide)]; exact a8 k hk) (fun i hi => ?_)
    have := c5 i hi
    rw [show 90 * 0 + i = i by omega] at this
    rw [this, lc i hi]
theorem op_restore : opOK x_X8_restore x_X9_restore := by
  intro M h
  obtain ⟨i1, i2⟩ := h.2.2.2.2.2
  rcases i2 with i2 | ⟨i2, i3⟩
  · have r0 : M 41 28 = 0 := by rw [← i1]; exact i2
    exact op_ref h (k := 3) (r := -nI 3) (by decide) (by simp [x_X8_restore, i2, n3, px_refused]) (fun M1 hc => by simp [x_X9_restore, hc 41 (by decide), r0, n3, py_no])
  · have r1 : M 41 28 = 1 := by rw [← i1]; exact i2
    have z1 : ¬ (1 : Int32) = 0 := by decide
    obtain ⟨Ma, a1, a2, a3, a4, a5, a6, a7, a8⟩ := px_copyFrom (q := 1) (q1 := 7) (Or.inl (by decide)) M
    generalize hMb : g_upd Ma 23 2 0 = Mb
    have mb : ∀ c, c ≠ 23 → Mb c = Ma c := fun c a => by rw [← hMb, g_upd_ne a]
    have mbc : ∀ c, c ≠ 23 → (c < 1 ∨ 6 < c) → Mb c = M c := fun c a b => by rw [mb c a, a2 c (by omega)]
    obtain ⟨M2, b1, c1, c2, c3, f1, f2, f3, f4, f5⟩ := py_rest (w := 0) (by decide) Mb
    have ll := rest_live c3 f1 f2 f3 f4 f5
    have b61 : Mb 61 = M 61 := mbc 61 (by decide) (by omega)
    have l61 : ∀ i, i < 84 → live M2 i = M 61 i := fun i hi => by rw [ll i hi, b61, show 90 * 0 + i = i by omega]
    generalize hM3 : g_upd M2 41 33 0 = M3
    have m3 : ∀ c, c ≠ 41 → M3 c = M2 c := fun c a => by rw [← hM3, g_upd_ne a]
    have m341 : ∀ f, f ≠ 33 → M3 41 f = M2 41 f := fun f hf => by rw [← hM3, g_upd_get, if_neg (fun q => hf q.2)]
    have l3 : ∀ i, i < 84 → live M3 i = M 61 i := fun i hi => by
      rw [← l61 i hi]
      by_cases k : i < 79
      · exact live_lo (fun c a b => m3 c (by omega)) i k
      · rcases (show i = 79 ∨ i = 80 ∨ i = 81 ∨ i = 82 ∨ i = 83 by omega) with rfl | rfl | rfl | rfl | rfl
        · exact m341 18 (by decide)
        · exact m341 19 (by decide)
        · exact m341 15 (by decide)
        · exact m341 16 (by decide)
        · exact m341 17 (by decide)
    have ne : ∀ c, c ≠ 23 → c ≠ 41 → (c < 1 ∨ 6 < c) → (c < 43 ∨ 57 ≤ c) → M3 c = M c := fun c a b d e => by rw [m3 c b, c1 c e b, mbc c a d]
    have f41 : ∀ f, f ≠ 29 → f ≠ 30 → f ≠ 33 → (f < 15 ∨ 19 < f) → M3 41 f = M 41 f := fun f a b d e => by rw [m341 f d, c2 f a b e, mbc 41 (by decide) (by omega)]
    have w : ∀ c, 1 ≤ c → c ≤ 6 → M3 c = Ma c := fun c a b => by rw [m3 c (by omega), c1 c (by omega) (by omega), mb c (by omega)]
    have hr : hrel 1 M3 (live M3) := hrel_copy i3 (fun i x y => by rw [w 1 (by decide) (by decide), a3 i x y]) (fun k hk => by rw [w 2 (by decide) (by decide)]; exact a4 k hk) (fun k hk => by rw [w 3 (by decide) (by decide)]; exact a5 k hk) (fun k hk => by rw [w 4 (by decide) (by decide)]; exact a6 k hk) (fun k hk => by rw [w 5 (by decide) (by decide)]; exact a7 k hk) (fun k hk => by rw [w 6 (by decide) (by decide)]; exact a8 k hk) l3
    have hi : inv M3 := by
      refine ⟨hr, iRef_cg h.2.1 (ne _ (by decide) (by decide) (by decide) (by decide)) (ne _ (by decide) (by decide) (by decide) (by decide)), iLet_cg h.2.2.1 (by rw [ne _ (by decide) (by decide) (by decide) (by decide)]) (ne _ (by decide) (by decide) (by decide) (by decide)) (f41 24 (by decide) (by decide) (by decide) (by decide)) (ne _ (by decide) (by decide) (by decide) (by decide)), iRow_cg h.2.2.2.1 (by rw [ne _ (by decide) (by decide) (by decide) (by decide)]) (ne _ (by decide) (by decide) (by decide) (by decide)) (f41 37 (by decide) (by decide) (by decide) (by decide)) (ne _ (by decide) (by decide) (by decide) (by decide)), ⟨0, by decide, ?_, ?_, fun i hi => absurd hi (by omega)⟩, iImg_cg h.2.2.2.2.2 (by rw [ne _ (by decide) (by decide) (by decide) (by decide)]) (f41 28 (by decide) (by decide) (by decide) (by decide)) (fun c a b => ne c (by omega) (by omega) (by omega) (by omega)) (fun i _ => by rw [ne 61 (by decide) (by decide) (by decide) (by decide)])⟩
      · rw [m3 23 (by decide), c1 23 (by decide) (by decide), ← hMb]; simp [g_upd_get, nI_0]
      · rw [← hM3]; simp [g_upd_get, nI_0]
    have he := hour_eq hi
    have hx : x_X8_restore M = some (M3 41 17, Mb) := by
      have e : Mb 1 10 = M3 41 17 := by rw [← he, w 1 (by decide) (by decide), mb 1 (by decide)]
      simp only [x_X8_restore, i2, if_neg z1, a1, Option.bind_some, hMb, e]
    have hy : x_X9_restore Mb = some (M3 41 17, M3) := by
      have e28 : Mb 41 28 = 1 := by rw [mbc 41 (by decide) (by omega)]; exact r1
      unfold x_X9_restore
      rw [e28, if_neg z1]
      refine (bnd b1 _).trans ?_
      show some (g_upd M2 41 33 0 41 17, g_upd M2 41 33 0) = _
      rw [hM3]
    exact ⟨_, _, _, hx, hy, hi⟩
