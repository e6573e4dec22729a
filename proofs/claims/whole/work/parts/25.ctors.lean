/-! constructors, by program -/
def h_MH (M : g_M) (q : Nat) : g_M := h_fill (g_upd (g_upd M q 8 60) q 9 2) (q + 1) 12 20
theorem h_MH_hi {M : g_M} {q : Nat} (hz : ∀ j, q ≤ j → M j = fun _ => 0) : ∀ j, q + 2 ≤ j → h_MH M q j = fun _ => 0 := fun j hj => by
  unfold h_MH
  rw [h_fill_ne (by omega), g_upd_ne (by omega), g_upd_ne (by omega)]
  exact hz j (by omega)
theorem h_MH_lo {M : g_M} {q j : Nat} (h : j < q) : h_MH M q j = M j := by
  unfold h_MH
  rw [h_fill_ne (by omega), g_upd_ne (by omega), g_upd_ne (by omega)]
theorem lt12 : ∀ i, i < 12 → ¬ (12 : Int32) ≤ nI i := by decide +kernel
set_option maxHeartbeats 4000000 in
set_option maxRecDepth 100000 in
theorem k_fill {X : g_X} {b : Nat} (hX : h_ad X b) {L : List h_L} {M : g_M} {a n : Nat} {x : Int32} (ha : L[a]? = some (.inl n)) (hn : n < 1000) (h75 : L.length ≤ 75) : h_Con X b yJ7_fill_53178 cJ7_fill_53178 4 0 0 0 0 [.ref (X.2.2.1 a), .int x] L M L (h_fill M a n x) := by
  refine g_ofW (cc := cJ7_fill_53178) (maxL := 4) (ret := none) (plainFor_of_name (by decide +kernel)) rfl ?_
  intro p e s m args below meth c s₁ B hml hv
  obtain ⟨rfl, hP, hsz, hK⟩ := hv
  have hx := B.exec
  have hb := B.bytes
  have hr := B.returns
  have hts := atoms_spec (ws := g_ws yJ7_fill_53178 cJ7_fill_53178 4 none) B.pre
  have hown : s.vm.findClass RJ7 = some m.cls := findClass_of_methodNamed B.named
  have hlocks := B.notSynchronized
  have F : h_Fix X b p s m ([Value.ref (X.2.2.1 a), .int x] : List Value).toArray c cJ7_fill_53178 RJ7 4 := ⟨hx, hb, hml, hown, fun w hw => hts w (List.mem_cons_of_mem _ hw), hK, hX, by rw [hsz]; exact Nat.le_add_right _ _⟩
  have I : h_In X b L M s s.heap [] := ⟨hP, hsz, va_S.rf, h75⟩
  have hl := lv_entry [.ref (X.2.2.1 a), .int x] (n := 4) (Nat.le_of_ble_eq_true rfl)
  rw [lg_entry_eq]
  generalize (lg_sl [.ref (X.2.2.1 a), .int x] ++ List.replicate (4 - (lg_sl [.ref (X.2.2.1 a), .int x]).length) Slot.unset).toArray = ls at hl ⊢
  have hl : lv_has ls 4 [(0, .ref (X.2.2.1 a)), (1, .int x)] := hl
  refine lv_iconst (v := 0) hx hb dJ7_fill_53178_0 (by decide) ?_
  refine lv_istore_n (lv' := [(2, .int 0), (0, .ref (X.2.2.1 a)), (1, .int x)]) hx hb dJ7_fill_53178_1 rfl hl (by decide) rfl (fun ls hl => ?_)
  refine lv_aload_n hx hb dJ7_fill_53178_2 rfl (lv_at hl 1 rfl) ?_
  refine h_alen F I ha dJ7_fill_53178_3 ?_
  refine lv_istore_n (lv' := [(3, .int (nI n)), (2, .int 0), (0, .ref (X.2.2.1 a)), (1, .int x)]) hx hb dJ7_fill_53178_4 rfl hl (by decide) rfl (fun ls hl => ?_)
  have key : ∀ (k i : Nat), i + k = n → ∀ (H : Heap) (locs : List Loc) (ls : Array Slot), h_In X b L (h_fill M a i x) s H locs → lv_has ls 4 [(3, .int (nI n)), (2, .int (nI i)), (0, .ref (X.2.2.1 a)), (1, .int x)] → W p X.1 e (headSpec (g_ws yJ7_fill_53178 cJ7_fill_53178 4 none) { frames := 0, cells := 0, slots := 0, locals := 0 }).room s m ([Value.ref (X.2.2.1 a), .int x] : List Value).toArray below meth c H locs 0 0 (MQ below (h_Qc X b L (h_fill M a n x)) ([Value.ref (X.2.2.1 a), .int x] : List Value).toArray s 0 0 (h_A b)) (F0 m 5 ls []) := by
    intro k
    induction k with
    | zero =>
      intro i hi H locs ls I hl
      have hin : i = n := by omega
      subst hin
      refine lv_iload_n hx hb dJ7_fill_53178_5 rfl (lv_at hl 1 rfl) ?_
      refine lv_iload_n hx hb dJ7_fill_53178_6 rfl (lv_at hl 0 rfl) ?_
      refine lv_icmp_ge (tgt := 20) hx hb dJ7_fill_53178_7 (by decide) (fun _ => ?_) (fun h => absurd (nI_le (Nat.le_refl i) (by omega)) h)
      exact W.vret hx hb hr (fun t ht hW => ⟨rfl, by rw [ht]; exact I.1, by rw [ht]; exact I.2.1, I.2.2.1.F ht⟩) I.2.2.1.2.2 dJ7_fill_53178_20
    | succ k ih =>
      intro i hi H locs ls I hl
      refine lv_iload_n hx hb dJ7_fill_53178_5 rfl (lv_at hl 1 rfl) ?_
      refine lv_iload_n hx hb dJ7_fill_53178_6 rfl (lv_at hl 0 rfl) ?_
      refine lv_icmp_ge (tgt := 20) hx hb dJ7_fill_53178_7 (by decide) (fun h => absurd h (nI_ge (show i < n by omega) (by omega))) (fun _ => ?_)
      refine lv_aload_n hx hb dJ7_fill_53178_10 rfl (lv_at hl 2 rfl) ?_
      refine lv_iload_n hx hb dJ7_fill_53178_11 rfl (lv_at hl 1 rfl) ?_
      refine lv_iload_n hx hb dJ7_fill_53178_12 rfl (lv_at hl 3 rfl) ?_
      refine h_iast F I ha (vp_in_nI (show i < n by omega) (by omega)) dJ7_fill_53178_13 (fun H locs I => ?_)
      rw [nI_clamp (show i < 2 ^ 31 by omega), h_fill_s] at I
      refine lv_iinc (v := nI (i + 1)) (lv' := [(2, .int (nI (i + 1))), (3, .int (nI n)), (0, .ref (X.2.2.1 a)), (1, .int x)]) hx hb dJ7_fill_53178_14 hl (k := 1) rfl (by rw [nI_succ]; rfl) (by decide) rfl (fun ls hl => ?_)
      refine lv_goto (tgt := 5) hx hb dJ7_fill_53178_17 (by decide) ?_
      exact ih (i + 1) (by omega) H locs ls I (lv_sub hl [1, 0, 2, 3] rfl)
  exact key n 0 (by omega) _ _ ls (by rw [h_fill_0]; exact I) hl

set_option maxHeartbeats 4000000 in
set_option maxRecDepth 100000 in
theorem k_X0_init {X : g_X} {b : Nat} (hX : h_ad X b) {L0 : List h_L} {M : g_M} {q : Nat} (hq : L0.length = q) (h75 : q + 3 ≤ 75) (hz : ∀ j, q ≤ j → M j = fun _ => 0) : h_Con X b yX0_init cX0_init 1 2 414 1 30 [.ref (X.2.2.1 q)] (L0 ++ [.inr (0, [some none, some none, none, none, none])]) M (L0 ++ [.inr (0, [some (some (q + 1)), some (some (q + 2)), none, none, none]), .inl 30, .inl 384]) M := by
  refine g_ofW (cc := cX0_init) (maxL := 1) (ret := none) (plainFor_of_name (by decide +kernel)) rfl ?_
  intro p e s m args below meth c s₁ B hml hv
  obtain ⟨rfl, hP, hsz, hK⟩ := hv
  have hx := B.exec
  have hb := B.bytes
  have hr := B.returns
  have hts := atoms_spec (ws := g_ws yX0_init cX0_init 1 none) B.pre
  have hown : s.vm.findClass RX0 = some m.cls := findClass_of_methodNamed B.named
  have hlocks := B.notSynchronized
  have hin2 : meth.name = "<init>" := (name_of_methodNamed B.named B.method).1
  have F : h_Fix X b p s m ([Value.ref (X.2.2.1 q)] : List Value).toArray c cX0_init RX0 1 := ⟨hx, hb, hml, hown, fun w hw => hts w (List.mem_cons_of_mem _ hw), hK, hX, by rw [hsz]; exact Nat.le_add_right _ _⟩
  have I : h_In X b (L0 ++ [.inr (0, [some none, some none, none, none, none])]) M s s.heap [] := ⟨hP, hsz, va_S.rf, by rw [h_lx hq]; show q + 1 ≤ 75; omega⟩
  have hl := lv_entry [.ref (X.2.2.1 q)] (n := 1) (Nat.le_of_ble_eq_true rfl)
  rw [lg_entry_eq]
  generalize (lg_sl [.ref (X.2.2.1 q)] ++ List.replicate (1 - (lg_sl [.ref (X.2.2.1 q)]).length) Slot.unset).toArray = ls at hl ⊢
  have hl : lv_has ls 1 [(0, .ref (X.2.2.1 q))] := hl
  refine lv_aload_n hx hb dX0_init_0 rfl (lv_at hl 0 rfl) ?_
  refine W.objInit hx hb hown (F.2.2.2.2.1 _ (g_W1 194 (by decide +kernel) rfl)) (F.2.2.2.2.1 _ (g_W1 25 (by decide +kernel) rfl)) (F.2.2.2.2.1 _ (g_W1 26 rfl rfl)) rfl (by rw [hml]; exact hl.1) rfl dX0_init_1 (Nat.le_of_ble_eq_true rfl) (Nat.le_of_ble_eq_true rfl) ?_
  refine W.eq (g2 := F0 m 4 ls []) rfl ?_
  refine lv_aload_n hx hb dX0_init_4 rfl (lv_at hl 0 rfl) ?_
  refine lv_bipush (v := 30) hx hb dX0_init_5 (by decide) ?_
  refine h_newa F I (N := 30) (q' := q + 1) (L' := L0 ++ [.inr (0, [some none, some none, none, none, none]), .inl 30]) (g_W1 85 (by decide +kernel) rfl) (h_lx hq _) (by rw [List.append_assoc]; rfl) (hz _ (by omega)) (by omega) (by decide) (by decide) (by decide) (Nat.le_of_ble_eq_true rfl) (Nat.le_of_ble_eq_true rfl) dX0_init_7 (fun H I => ?_)
  refine h_putr F I (C := RX0) (T := TX0) (N := 5) (ci := 0) g_hin0 tyX0 tyX0_ok nmX0 rfl 0 (by decide) fl_0_9 rfl rfl rfl hin2 (ty := tyX0 0) (by decide +kernel) (r0 := q + 1) (fun _ => rfl) (fun _ => rfl) (q := q) (h_ix hq _ 0) (Nat.le_of_ble_eq_true rfl) (L' := L0 ++ [.inr (0, [some (some (q + 1)), some none, none, none, none]), .inl 30]) (h_sx hq _ 0 _) dX0_init_9 (fun H locs I => ?_)
  refine lv_aload_n hx hb dX0_init_12 rfl (lv_at hl 0 rfl) ?_
  refine lv_sipush (v := 384) hx hb dX0_init_13 (by decide) ?_
  refine h_newa F I (N := 384) (q' := q + 2) (L' := L0 ++ [.inr (0, [some (some (q + 1)), some none, none, none, none]), .inl 30, .inl 384]) (g_W1 85 (by decide +kernel) rfl) (h_lx hq _) (by rw [List.append_assoc]; rfl) (hz _ (by omega)) (by omega) (by decide) (by decide) (by decide) (Nat.le_of_ble_eq_true rfl) (Nat.le_of_ble_eq_true rfl) dX0_init_16 (fun H I => ?_)
  refine h_putr F I (C := RX0) (T := TX0) (N := 5) (ci := 0) g_hin0 tyX0 tyX0_ok nmX0 rfl 1 (by decide) fl_0_15 rfl rfl rfl hin2 (ty := tyX0 1) (by decide +kernel) (r0 := q + 2) (fun _ => rfl) (fun _ => rfl) (q := q) (h_ix hq _ 0) (Nat.le_of_ble_eq_true rfl) (L' := L0 ++ [.inr (0, [some (some (q + 1)), some (some (q + 2)), none, none, none]), .inl 30, .inl 384]) (h_sx hq _ 0 _) dX0_init_18 (fun H locs I => ?_)
  refine lv_aload_n hx hb dX0_init_21 rfl (lv_at hl 0 rfl) ?_
  refine lv_iconst (v := 0) hx hb dX0_init_22 (by decide) ?_
  refine h_put F I (C := RX0) (T := TX0) (N := 5) (ci := 0) g_hin0 tyX0 tyX0_ok nmX0 rfl 2 (by decide) fl_0_18 rfl rfl (ty := .int) (by decide +kernel) rfl rfl (q := q) (h_ix hq _ 0) rfl (M' := M) (g_upd_same (by simp [g_upd_get, hz q (Nat.le_refl q)])) dX0_init_23 (fun H locs I => ?_)
  refine lv_aload_n hx hb dX0_init_26 rfl (lv_at hl 0 rfl) ?_
  refine lv_iconst (v := 0) hx hb dX0_init_27 (by decide) ?_
  refine h_put F I (C := RX0) (T := TX0) (N := 5) (ci := 0) g_hin0 tyX0 tyX0_ok nmX0 rfl 3 (by decide) fl_0_22 rfl rfl (ty := .int) (by decide +kernel) rfl rfl (q := q) (h_ix hq _ 0) rfl (M' := M) (g_upd_same (by simp [g_upd_get, hz q (Nat.le_refl q)])) dX0_init_28 (fun H locs I => ?_)
  refine lv_aload_n hx hb dX0_init_31 rfl (lv_at hl 0 rfl) ?_
  refine lv_iconst (v := 0) hx hb dX0_init_32 (by decide) ?_
  refine h_put F I (C := RX0) (T := TX0) (N := 5) (ci := 0) g_hin0 tyX0 tyX0_ok nmX0 rfl 4 (by decide) fl_0_25 rfl rfl (ty := .int) (by decide +kernel) rfl rfl (q := q) (h_ix hq _ 0) rfl (M' := M) (g_upd_same (by simp [g_upd_get, hz q (Nat.le_refl q)])) dX0_init_33 (fun H locs I => ?_)
  exact W.vret hx hb hr (fun t ht hW => ⟨rfl, by rw [ht]; exact I.1, by rw [ht]; exact I.2.1, I.2.2.1.F ht⟩) I.2.2.1.2.2 dX0_init_36
set_option maxHeartbeats 4000000 in
set_option maxRecDepth 100000 in
theorem k_X1_init {X : g_X} {b : Nat} (hX : h_ad X b) {L0 : List h_L} {M : g_M} {q : Nat} (hq : L0.length = q) (h75 : q + 3 ≤ 75) (hz : ∀ j, q ≤ j → M j = fun _ => 0) : h_Con X b yX1_init cX1_init 1 2 50 1 30 [.ref (X.2.2.1 q)] (L0 ++ [.inr (1, [some none, some none, none, none, none, none, none])]) M (L0 ++ [.inr (1, [some (some (q + 1)), some (some (q + 2)), none, none, none, none, none]), .inl 25, .inl 25]) (g_upd M q 6 (-9)) := by
  refine g_ofW (cc := cX1_init) (maxL := 1) (ret := none) (plainFor_of_name (by decide +kernel)) rfl ?_
  intro p e s m args below meth c s₁ B hml hv
  obtain ⟨rfl, hP, hsz, hK⟩ := hv
  have hx := B.exec
  have hb := B.bytes
  have hr := B.returns
  have hts := atoms_spec (ws := g_ws yX1_init cX1_init 1 none) B.pre
  have hown : s.vm.findClass RX1 = some m.cls := findClass_of_methodNamed B.named
  have hlocks := B.notSynchronized
  have hin2 : meth.name = "<init>" := (name_of_methodNamed B.named B.method).1
  have F : h_Fix X b p s m ([Value.ref (X.2.2.1 q)] : List Value).toArray c cX1_init RX1 1 := ⟨hx, hb, hml, hown, fun w hw => hts w (List.mem_cons_of_mem _ hw), hK, hX, by rw [hsz]; exact Nat.le_add_right _ _⟩
  have I : h_In X b (L0 ++ [.inr (1, [some none, some none, none, none, none, none, none])]) M s s.heap [] := ⟨hP, hsz, va_S.rf, by rw [h_lx hq]; show q + 1 ≤ 75; omega⟩
  have hl := lv_entry [.ref (X.2.2.1 q)] (n := 1) (Nat.le_of_ble_eq_true rfl)
  rw [lg_entry_eq]
  generalize (lg_sl [.ref (X.2.2.1 q)] ++ List.replicate (1 - (lg_sl [.ref (X.2.2.1 q)]).length) Slot.unset).toArray = ls at hl ⊢
  have hl : lv_has ls 1 [(0, .ref (X.2.2.1 q))] := hl
  refine lv_aload_n hx hb dX1_init_0 rfl (lv_at hl 0 rfl) ?_
  refine W.objInit hx hb hown (F.2.2.2.2.1 _ (g_W1 216 (by decide +kernel) rfl)) (F.2.2.2.2.1 _ (g_W1 25 (by decide +kernel) rfl)) (F.2.2.2.2.1 _ (g_W1 26 rfl rfl)) rfl (by rw [hml]; exact hl.1) rfl dX1_init_1 (Nat.le_of_ble_eq_true rfl) (Nat.le_of_ble_eq_true rfl) ?_
  refine W.eq (g2 := F0 m 4 ls []) rfl ?_
  refine lv_aload_n hx hb dX1_init_4 rfl (lv_at hl 0 rfl) ?_
  refine lv_bipush (v := 25) hx hb dX1_init_5 (by decide) ?_
  refine h_newa F I (N := 25) (q' := q + 1) (L' := L0 ++ [.inr (1, [some none, some none, none, none, none, none, none]), .inl 25]) (g_W1 85 (by decide +kernel) rfl) (h_lx hq _) (by rw [List.append_assoc]; rfl) (hz _ (by omega)) (by omega) (by decide) (by decide) (by decide) (Nat.le_of_ble_eq_true rfl) (Nat.le_of_ble_eq_true rfl) dX1_init_7 (fun H I => ?_)
  refine h_putr F I (C := RX1) (T := TX1) (N := 7) (ci := 1) g_hin1 tyX1 tyX1_ok nmX1 rfl 0 (by decide) fl_1_9 rfl rfl rfl hin2 (ty := tyX1 0) (by decide +kernel) (r0 := q + 1) (fun _ => rfl) (fun _ => rfl) (q := q) (h_ix hq _ 0) (Nat.le_of_ble_eq_true rfl) (L' := L0 ++ [.inr (1, [some (some (q + 1)), some none, none, none, none, none, none]), .inl 25]) (h_sx hq _ 0 _) dX1_init_9 (fun H locs I => ?_)
  refine lv_aload_n hx hb dX1_init_12 rfl (lv_at hl 0 rfl) ?_
  refine lv_bipush (v := 25) hx hb dX1_init_13 (by decide) ?_
  refine h_newa F I (N := 25) (q' := q + 2) (L' := L0 ++ [.inr (1, [some (some (q + 1)), some none, none, none, none, none, none]), .inl 25, .inl 25]) (g_W1 85 (by decide +kernel) rfl) (h_lx hq _) (by rw [List.append_assoc]; rfl) (hz _ (by omega)) (by omega) (by decide) (by decide) (by decide) (Nat.le_of_ble_eq_true rfl) (Nat.le_of_ble_eq_true rfl) dX1_init_15 (fun H I => ?_)
  refine h_putr F I (C := RX1) (T := TX1) (N := 7) (ci := 1) g_hin1 tyX1 tyX1_ok nmX1 rfl 1 (by decide) fl_1_15 rfl rfl rfl hin2 (ty := tyX1 1) (by decide +kernel) (r0 := q + 2) (fun _ => rfl) (fun _ => rfl) (q := q) (h_ix hq _ 0) (Nat.le_of_ble_eq_true rfl) (L' := L0 ++ [.inr (1, [some (some (q + 1)), some (some (q + 2)), none, none, none, none, none]), .inl 25, .inl 25]) (h_sx hq _ 0 _) dX1_init_17 (fun H locs I => ?_)
  refine lv_aload_n hx hb dX1_init_20 rfl (lv_at hl 0 rfl) ?_
  refine lv_iconst (v := 0) hx hb dX1_init_21 (by decide) ?_
  refine h_put F I (C := RX1) (T := TX1) (N := 7) (ci := 1) g_hin1 tyX1 tyX1_ok nmX1 rfl 2 (by decide) fl_1_18 rfl rfl (ty := .int) (by decide +kernel) rfl rfl (q := q) (h_ix hq _ 0) rfl (M' := M) (g_upd_same (by simp [g_upd_get, hz q (Nat.le_refl q)])) dX1_init_22 (fun H locs I => ?_)
  refine lv_aload_n hx hb dX1_init_25 rfl (lv_at hl 0 rfl) ?_
  refine lv_iconst (v := 0) hx hb dX1_init_26 (by decide) ?_
  refine h_put F I (C := RX1) (T := TX1) (N := 7) (ci := 1) g_hin1 tyX1 tyX1_ok nmX1 rfl 3 (by decide) fl_1_22 rfl rfl (ty := .int) (by decide +kernel) rfl rfl (q := q) (h_ix hq _ 0) rfl (M' := M) (g_upd_same (by simp [g_upd_get, hz q (Nat.le_refl q)])) dX1_init_27 (fun H locs I => ?_)
  refine lv_aload_n hx hb dX1_init_30 rfl (lv_at hl 0 rfl) ?_
  refine lv_iconst (v := 0) hx hb dX1_init_31 (by decide) ?_
  refine h_put F I (C := RX1) (T := TX1) (N := 7) (ci := 1) g_hin1 tyX1 tyX1_ok nmX1 rfl 4 (by decide) fl_1_25 rfl rfl (ty := .int) (by decide +kernel) rfl rfl (q := q) (h_ix hq _ 0) rfl (M' := M) (g_upd_same (by simp [g_upd_get, hz q (Nat.le_refl q)])) dX1_init_32 (fun H locs I => ?_)
  refine lv_aload_n hx hb dX1_init_35 rfl (lv_at hl 0 rfl) ?_
  refine lv_iconst (v := 0) hx hb dX1_init_36 (by decide) ?_
  refine h_put F I (C := RX1) (T := TX1) (N := 7) (ci := 1) g_hin1 tyX1 tyX1_ok nmX1 rfl 5 (by decide) fl_1_28 rfl rfl (ty := .int) (by decide +kernel) rfl rfl (q := q) (h_ix hq _ 0) rfl (M' := M) (g_upd_same (by simp [g_upd_get, hz q (Nat.le_refl q)])) dX1_init_37 (fun H locs I => ?_)
  refine lv_aload_n hx hb dX1_init_40 rfl (lv_at hl 0 rfl) ?_
  refine lv_bipush (v := (-9)) hx hb dX1_init_41 (by decide) ?_
  refine h_put F I (C := RX1) (T := TX1) (N := 7) (ci := 1) g_hin1 tyX1 tyX1_ok nmX1 rfl 6 (by decide) fl_1_31 rfl rfl (ty := .int) (by decide +kernel) rfl rfl (q := q) (h_ix hq _ 0) rfl (M' := (g_upd M q 6 (-9))) (rfl) dX1_init_43 (fun H locs I => ?_)
  exact W.vret hx hb hr (fun t ht hW => ⟨rfl, by rw [ht]; exact I.1, by rw [ht]; exact I.2.1, I.2.2.1.F ht⟩) I.2.2.1.2.2 dX1_init_46
set_option maxHeartbeats 4000000 in
set_option maxRecDepth 100000 in
theorem k_X2_init {X : g_X} {b : Nat} (hX : h_ad X b) {L0 : List h_L} {M : g_M} {q : Nat} (hq : L0.length = q) (h75 : q + 6 ≤ 75) (hz : ∀ j, q ≤ j → M j = fun _ => 0) : h_Con X b yX2_init cX2_init 1 5 77 1 30 [.ref (X.2.2.1 q)] (L0 ++ [.inr (2, [some none, some none, some none, some none, some none, none, none, none, none, none, none, none])]) M (L0 ++ [.inr (2, [some (some (q + 1)), some (some (q + 2)), some (some (q + 3)), some (some (q + 4)), some (some (q + 5)), none, none, none, none, none, none, none]), .inl 12, .inl 12, .inl 12, .inl 35, .inl 6]) (h_MH M q) := by
  refine g_ofW (cc := cX2_init) (maxL := 1) (ret := none) (plainFor_of_name (by decide +kernel)) rfl ?_
  intro p e s m args below meth c s₁ B hml hv
  obtain ⟨rfl, hP, hsz, hK⟩ := hv
  have hx := B.exec
  have hb := B.bytes
  have hr := B.returns
  have hts := atoms_spec (ws := g_ws yX2_init cX2_init 1 none) B.pre
  have hown : s.vm.findClass RX2 = some m.cls := findClass_of_methodNamed B.named
  have hlocks := B.notSynchronized
  have hin2 : meth.name = "<init>" := (name_of_methodNamed B.named B.method).1
  have F : h_Fix X b p s m ([Value.ref (X.2.2.1 q)] : List Value).toArray c cX2_init RX2 1 := ⟨hx, hb, hml, hown, fun w hw => hts w (List.mem_cons_of_mem _ hw), hK, hX, by rw [hsz]; exact Nat.le_add_right _ _⟩
  have I : h_In X b (L0 ++ [.inr (2, [some none, some none, some none, some none, some none, none, none, none, none, none, none, none])]) M s s.heap [] := ⟨hP, hsz, va_S.rf, by rw [h_lx hq]; show q + 1 ≤ 75; omega⟩
  have hl := lv_entry [.ref (X.2.2.1 q)] (n := 1) (Nat.le_of_ble_eq_true rfl)
  rw [lg_entry_eq]
  generalize (lg_sl [.ref (X.2.2.1 q)] ++ List.replicate (1 - (lg_sl [.ref (X.2.2.1 q)]).length) Slot.unset).toArray = ls at hl ⊢
  have hl : lv_has ls 1 [(0, .ref (X.2.2.1 q))] := hl
  refine lv_aload_n hx hb dX2_init_0 rfl (lv_at hl 0 rfl) ?_
  refine W.objInit hx hb hown (F.2.2.2.2.1 _ (g_W1 32 (by decide +kernel) rfl)) (F.2.2.2.2.1 _ (g_W1 25 (by decide +kernel) rfl)) (F.2.2.2.2.1 _ (g_W1 26 rfl rfl)) rfl (by rw [hml]; exact hl.1) rfl dX2_init_1 (Nat.le_of_ble_eq_true rfl) (Nat.le_of_ble_eq_true rfl) ?_
  refine W.eq (g2 := F0 m 4 ls []) rfl ?_
  refine lv_aload_n hx hb dX2_init_4 rfl (lv_at hl 0 rfl) ?_
  refine lv_bipush (v := 12) hx hb dX2_init_5 (by decide) ?_
  refine h_newa F I (N := 12) (q' := q + 1) (L' := L0 ++ [.inr (2, [some none, some none, some none, some none, some none, none, none, none, none, none, none, none]), .inl 12]) (g_W1 85 (by decide +kernel) rfl) (h_lx hq _) (by rw [List.append_assoc]; rfl) (hz _ (by omega)) (by omega) (by decide) (by decide) (by decide) (Nat.le_of_ble_eq_true rfl) (Nat.le_of_ble_eq_true rfl) dX2_init_7 (fun H I => ?_)
  refine h_putr F I (C := RX2) (T := TX2) (N := 12) (ci := 2) g_hin2 tyX2 tyX2_ok nmX2 rfl 0 (by decide) fl_2_9 rfl rfl rfl hin2 (ty := tyX2 0) (by decide +kernel) (r0 := q + 1) (fun _ => rfl) (fun _ => rfl) (q := q) (h_ix hq _ 0) (Nat.le_of_ble_eq_true rfl) (L' := L0 ++ [.inr (2, [some (some (q + 1)), some none, some none, some none, some none, none, none, none, none, none, none, none]), .inl 12]) (h_sx hq _ 0 _) dX2_init_9 (fun H locs I => ?_)
  refine lv_aload_n hx hb dX2_init_12 rfl (lv_at hl 0 rfl) ?_
  refine lv_bipush (v := 12) hx hb dX2_init_13 (by decide) ?_
  refine h_newa F I (N := 12) (q' := q + 2) (L' := L0 ++ [.inr (2, [some (some (q + 1)), some none, some none, some none, some none, none, none, none, none, none, none, none]), .inl 12, .inl 12]) (g_W1 85 (by decide +kernel) rfl) (h_lx hq _) (by rw [List.append_assoc]; rfl) (hz _ (by omega)) (by omega) (by decide) (by decide) (by decide) (Nat.le_of_ble_eq_true rfl) (Nat.le_of_ble_eq_true rfl) dX2_init_15 (fun H I => ?_)
  refine h_putr F I (C := RX2) (T := TX2) (N := 12) (ci := 2) g_hin2 tyX2 tyX2_ok nmX2 rfl 1 (by decide) fl_2_15 rfl rfl rfl hin2 (ty := tyX2 1) (by decide +kernel) (r0 := q + 2) (fun _ => rfl) (fun _ => rfl) (q := q) (h_ix hq _ 0) (Nat.le_of_ble_eq_true rfl) (L' := L0 ++ [.inr (2, [some (some (q + 1)), some (some (q + 2)), some none, some none, some none, none, none, none, none, none, none, none]), .inl 12, .inl 12]) (h_sx hq _ 0 _) dX2_init_17 (fun H locs I => ?_)
  refine lv_aload_n hx hb dX2_init_20 rfl (lv_at hl 0 rfl) ?_
  refine lv_bipush (v := 12) hx hb dX2_init_21 (by decide) ?_
  refine h_newa F I (N := 12) (q' := q + 3) (L' := L0 ++ [.inr (2, [some (some (q + 1)), some (some (q + 2)), some none, some none, some none, none, none, none, none, none, none, none]), .inl 12, .inl 12, .inl 12]) (g_W1 85 (by decide +kernel) rfl) (h_lx hq _) (by rw [List.append_assoc]; rfl) (hz _ (by omega)) (by omega) (by decide) (by decide) (by decide) (Nat.le_of_ble_eq_true rfl) (Nat.le_of_ble_eq_true rfl) dX2_init_23 (fun H I => ?_)
  refine h_putr F I (C := RX2) (T := TX2) (N := 12) (ci := 2) g_hin2 tyX2 tyX2_ok nmX2 rfl 2 (by decide) fl_2_18 rfl rfl rfl hin2 (ty := tyX2 2) (by decide +kernel) (r0 := q + 3) (fun _ => rfl) (fun _ => rfl) (q := q) (h_ix hq _ 0) (Nat.le_of_ble_eq_true rfl) (L' := L0 ++ [.inr (2, [some (some (q + 1)), some (some (q + 2)), some (some (q + 3)), some none, some none, none, none, none, none, none, none, none]), .inl 12, .inl 12, .inl 12]) (h_sx hq _ 0 _) dX2_init_25 (fun H locs I => ?_)
  refine lv_aload_n hx hb dX2_init_28 rfl (lv_at hl 0 rfl) ?_
  refine lv_bipush (v := 35) hx hb dX2_init_29 (by decide) ?_
  refine h_newa F I (N := 35) (q' := q + 4) (L' := L0 ++ [.inr (2, [some (some (q + 1)), some (some (q + 2)), some (some (q + 3)), some none, some none, none, none, none, none, none, none, none]), .inl 12, .inl 12, .inl 12, .inl 35]) (g_W1 85 (by decide +kernel) rfl) (h_lx hq _) (by rw [List.append_assoc]; rfl) (hz _ (by omega)) (by omega) (by decide) (by decide) (by decide) (Nat.le_of_ble_eq_true rfl) (Nat.le_of_ble_eq_true rfl) dX2_init_31 (fun H I => ?_)
  refine h_putr F I (C := RX2) (T := TX2) (N := 12) (ci := 2) g_hin2 tyX2 tyX2_ok nmX2 rfl 3 (by decide) fl_2_21 rfl rfl rfl hin2 (ty := tyX2 3) (by decide +kernel) (r0 := q + 4) (fun _ => rfl) (fun _ => rfl) (q := q) (h_ix hq _ 0) (Nat.le_of_ble_eq_true rfl) (L' := L0 ++ [.inr (2, [some (some (q + 1)), some (some (q + 2)), some (some (q + 3)), some (some (q + 4)), some none, none, none, none, none, none, none, none]), .inl 12, .inl 12, .inl 12, .inl 35]) (h_sx hq _ 0 _) dX2_init_33 (fun H locs I => ?_)
  refine lv_aload_n hx hb dX2_init_36 rfl (lv_at hl 0 rfl) ?_
  refine lv_bipush (v := 6) hx hb dX2_init_37 (by decide) ?_
  refine h_newa F I (N := 6) (q' := q + 5) (L' := L0 ++ [.inr (2, [some (some (q + 1)), some (some (q + 2)), some (some (q + 3)), some (some (q + 4)), some none, none, none, none, none, none, none, none]), .inl 12, .inl 12, .inl 12, .inl 35, .inl 6]) (g_W1 85 (by decide +kernel) rfl) (h_lx hq _) (by rw [List.append_assoc]; rfl) (hz _ (by omega)) (by omega) (by decide) (by decide) (by decide) (Nat.le_of_ble_eq_true rfl) (Nat.le_of_ble_eq_true rfl) dX2_init_39 (fun H I => ?_)
  refine h_putr F I (C := RX2) (T := TX2) (N := 12) (ci := 2) g_hin2 tyX2 tyX2_ok nmX2 rfl 4 (by decide) fl_2_24 rfl rfl rfl hin2 (ty := tyX2 4) (by decide +kernel) (r0 := q + 5) (fun _ => rfl) (fun _ => rfl) (q := q) (h_ix hq _ 0) (Nat.le_of_ble_eq_true rfl) (L' := L0 ++ [.inr (2, [some (some (q + 1)), some (some (q + 2)), some (some (q + 3)), some (some (q + 4)), some (some (q + 5)), none, none, none, none, none, none, none]), .inl 12, .inl 12, .inl 12, .inl 35, .inl 6]) (h_sx hq _ 0 _) dX2_init_41 (fun H locs I => ?_)
  refine lv_aload_n hx hb dX2_init_44 rfl (lv_at hl 0 rfl) ?_
  refine lv_iconst (v := 0) hx hb dX2_init_45 (by decide) ?_
  refine h_put F I (C := RX2) (T := TX2) (N := 12) (ci := 2) g_hin2 tyX2 tyX2_ok nmX2 rfl 5 (by decide) fl_2_27 rfl rfl (ty := .int) (by decide +kernel) rfl rfl (q := q) (h_ix hq _ 0) rfl (M' := M) (g_upd_same (by simp [g_upd_get, hz q (Nat.le_refl q)])) dX2_init_46 (fun H locs I => ?_)
  refine lv_aload_n hx hb dX2_init_49 rfl (lv_at hl 0 rfl) ?_
  refine lv_iconst (v := 0) hx hb dX2_init_50 (by decide) ?_
  refine h_put F I (C := RX2) (T := TX2) (N := 12) (ci := 2) g_hin2 tyX2 tyX2_ok nmX2 rfl 6 (by decide) fl_2_31 rfl rfl (ty := .int) (by decide +kernel) rfl rfl (q := q) (h_ix hq _ 0) rfl (M' := M) (g_upd_same (by simp [g_upd_get, hz q (Nat.le_refl q)])) dX2_init_51 (fun H locs I => ?_)
  refine lv_aload_n hx hb dX2_init_54 rfl (lv_at hl 0 rfl) ?_
  refine lv_iconst (v := 0) hx hb dX2_init_55 (by decide) ?_
  refine h_put F I (C := RX2) (T := TX2) (N := 12) (ci := 2) g_hin2 tyX2 tyX2_ok nmX2 rfl 7 (by decide) fl_2_34 rfl rfl (ty := .int) (by decide +kernel) rfl rfl (q := q) (h_ix hq _ 0) rfl (M' := M) (g_upd_same (by simp [g_upd_get, hz q (Nat.le_refl q)])) dX2_init_56 (fun H locs I => ?_)
  refine lv_aload_n hx hb dX2_init_59 rfl (lv_at hl 0 rfl) ?_
  refine lv_bipush (v := 60) hx hb dX2_init_60 (by decide) ?_
  refine h_put F I (C := RX2) (T := TX2) (N := 12) (ci := 2) g_hin2 tyX2 tyX2_ok nmX2 rfl 8 (by decide) fl_2_37 rfl rfl (ty := .int) (by decide +kernel) rfl rfl (q := q) (h_ix hq _ 0) rfl (M' := (g_upd M q 8 60)) (rfl) dX2_init_62 (fun H locs I => ?_)
  refine lv_aload_n hx hb dX2_init_65 rfl (lv_at hl 0 rfl) ?_
  refine lv_iconst (v := 2) hx hb dX2_init_66 (by decide) ?_
  refine h_put F I (C := RX2) (T := TX2) (N := 12) (ci := 2) g_hin2 tyX2 tyX2_ok nmX2 rfl 9 (by decide) fl_2_40 rfl rfl (ty := .int) (by decide +kernel) rfl rfl (q := q) (h_ix hq _ 0) rfl (M' := (g_upd (g_upd M q 8 60) q 9 2)) (rfl) dX2_init_67 (fun H locs I => ?_)
  refine lv_aload_n hx hb dX2_init_70 rfl (lv_at hl 0 rfl) ?_
  refine lv_iconst (v := 0) hx hb dX2_init_71 (by decide) ?_
  refine h_put F I (C := RX2) (T := TX2) (N := 12) (ci := 2) g_hin2 tyX2 tyX2_ok nmX2 rfl 10 (by decide) fl_2_43 rfl rfl (ty := .int) (by decide +kernel) rfl rfl (q := q) (h_ix hq _ 0) rfl (M' := (g_upd (g_upd M q 8 60) q 9 2)) (g_upd_same (by simp [g_upd_get, hz q (Nat.le_refl q)])) dX2_init_72 (fun H locs I => ?_)
  refine lv_aload_n hx hb dX2_init_75 rfl (lv_at hl 0 rfl) ?_
  refine lv_iconst (v := 0) hx hb dX2_init_76 (by decide) ?_
  refine h_put F I (C := RX2) (T := TX2) (N := 12) (ci := 2) g_hin2 tyX2 tyX2_ok nmX2 rfl 11 (by decide) fl_2_46 rfl rfl (ty := .int) (by decide +kernel) rfl rfl (q := q) (h_ix hq _ 0) rfl (M' := (g_upd (g_upd M q 8 60) q 9 2)) (g_upd_same (by simp [g_upd_get, hz q (Nat.le_refl q)])) dX2_init_77 (fun H locs I => ?_)
  refine lv_aload_n hx hb dX2_init_80 rfl (lv_at hl 0 rfl) ?_
  refine h_getr F I (C := RX2) (T := TX2) (N := 12) (ci := 2) g_hin2 rfl 0 (by decide) fl_2_9 rfl (q := q) (r0 := q + 1) (h_ix hq _ 0) rfl dX2_init_81 ?_
  refine lv_bipush (v := 20) hx hb dX2_init_84 (by decide) ?_
  refine h_callS F I (L' := L0 ++ [.inr (2, [some (some (q + 1)), some (some (q + 2)), some (some (q + 3)), some (some (q + 4)), some (some (q + 5)), none, none, none, none, none, none, none]), .inl 12, .inl 12, .inl 12, .inl 35, .inl 6]) (M' := (h_fill (g_upd (g_upd M q 8 60) q 9 2) (q + 1) 12 20)) (as := [.ref (X.2.2.1 (q + 1)), .int 20]) (rest := []) (k_fill hX (n := 12) (x := 20) (h_ix hq _ 1) (by decide) (by rw [h_lx hq]; show q + 6 ≤ 75; omega)) cw_J7_fill_53178 ml_X2_49 hl.1 ⟨Nat.le_of_ble_eq_true rfl, Nat.le_of_ble_eq_true rfl⟩ (Nat.le_of_ble_eq_true rfl) ⟨Nat.le_of_ble_eq_true rfl, Nat.le_of_ble_eq_true rfl⟩ (by rw [h_lx hq]; show q + 6 ≤ 75; omega) rfl dX2_init_86 (fun H locs I => ?_)
  exact W.vret hx hb hr (fun t ht hW => ⟨rfl, by rw [ht]; exact I.1, by rw [ht]; exact I.2.1, I.2.2.1.F ht⟩) I.2.2.1.2.2 dX2_init_89
set_option maxHeartbeats 4000000 in
set_option maxRecDepth 100000 in
theorem k_X3_init {X : g_X} {b : Nat} (hX : h_ad X b) {L0 : List h_L} {M : g_M} {q : Nat} (hq : L0.length = q) (h75 : q + 2 ≤ 75) (hz : ∀ j, q ≤ j → M j = fun _ => 0) : h_Con X b yX3_init cX3_init 1 1 96 1 30 [.ref (X.2.2.1 q)] (L0 ++ [.inr (3, [some none, none])]) M (L0 ++ [.inr (3, [some (some (q + 1)), none]), .inl 96]) M := by
  refine g_ofW (cc := cX3_init) (maxL := 1) (ret := none) (plainFor_of_name (by decide +kernel)) rfl ?_
  intro p e s m args below meth c s₁ B hml hv
  obtain ⟨rfl, hP, hsz, hK⟩ := hv
  have hx := B.exec
  have hb := B.bytes
  have hr := B.returns
  have hts := atoms_spec (ws := g_ws yX3_init cX3_init 1 none) B.pre
  have hown : s.vm.findClass RX3 = some m.cls := findClass_of_methodNamed B.named
  have hlocks := B.notSynchronized
  have hin2 : meth.name = "<init>" := (name_of_methodNamed B.named B.method).1
  have F : h_Fix X b p s m ([Value.ref (X.2.2.1 q)] : List Value).toArray c cX3_init RX3 1 := ⟨hx, hb, hml, hown, fun w hw => hts w (List.mem_cons_of_mem _ hw), hK, hX, by rw [hsz]; exact Nat.le_add_right _ _⟩
  have I : h_In X b (L0 ++ [.inr (3, [some none, none])]) M s s.heap [] := ⟨hP, hsz, va_S.rf, by rw [h_lx hq]; show q + 1 ≤ 75; omega⟩
  have hl := lv_entry [.ref (X.2.2.1 q)] (n := 1) (Nat.le_of_ble_eq_true rfl)
  rw [lg_entry_eq]
  generalize (lg_sl [.ref (X.2.2.1 q)] ++ List.replicate (1 - (lg_sl [.ref (X.2.2.1 q)]).length) Slot.unset).toArray = ls at hl ⊢
  have hl : lv_has ls 1 [(0, .ref (X.2.2.1 q))] := hl
  refine lv_aload_n hx hb dX3_init_0 rfl (lv_at hl 0 rfl) ?_
  refine W.objInit hx hb hown (F.2.2.2.2.1 _ (g_W1 91 (by decide +kernel) rfl)) (F.2.2.2.2.1 _ (g_W1 25 (by decide +kernel) rfl)) (F.2.2.2.2.1 _ (g_W1 26 rfl rfl)) rfl (by rw [hml]; exact hl.1) rfl dX3_init_1 (Nat.le_of_ble_eq_true rfl) (Nat.le_of_ble_eq_true rfl) ?_
  refine W.eq (g2 := F0 m 4 ls []) rfl ?_
  refine lv_aload_n hx hb dX3_init_4 rfl (lv_at hl 0 rfl) ?_
  refine lv_bipush (v := 96) hx hb dX3_init_5 (by decide) ?_
  refine h_newa F I (N := 96) (q' := q + 1) (L' := L0 ++ [.inr (3, [some none, none]), .inl 96]) (g_W1 85 (by decide +kernel) rfl) (h_lx hq _) (by rw [List.append_assoc]; rfl) (hz _ (by omega)) (by omega) (by decide) (by decide) (by decide) (Nat.le_of_ble_eq_true rfl) (Nat.le_of_ble_eq_true rfl) dX3_init_7 (fun H I => ?_)
  refine h_putr F I (C := RX3) (T := TX3) (N := 2) (ci := 3) g_hin3 tyX3 tyX3_ok nmX3 rfl 0 (by decide) fl_3_9 rfl rfl rfl hin2 (ty := tyX3 0) (by decide +kernel) (r0 := q + 1) (fun _ => rfl) (fun _ => rfl) (q := q) (h_ix hq _ 0) (Nat.le_of_ble_eq_true rfl) (L' := L0 ++ [.inr (3, [some (some (q + 1)), none]), .inl 96]) (h_sx hq _ 0 _) dX3_init_9 (fun H locs I => ?_)
  refine lv_aload_n hx hb dX3_init_12 rfl (lv_at hl 0 rfl) ?_
  refine lv_iconst (v := 0) hx hb dX3_init_13 (by decide) ?_
  refine h_put F I (C := RX3) (T := TX3) (N := 2) (ci := 3) g_hin3 tyX3 tyX3_ok nmX3 rfl 1 (by decide) fl_3_15 rfl rfl (ty := .int) (by decide +kernel) rfl rfl (q := q) (h_ix hq _ 0) rfl (M' := M) (g_upd_same (by simp [g_upd_get, hz q (Nat.le_refl q)])) dX3_init_14 (fun H locs I => ?_)
  exact W.vret hx hb hr (fun t ht hW => ⟨rfl, by rw [ht]; exact I.1, by rw [ht]; exact I.2.1, I.2.2.1.F ht⟩) I.2.2.1.2.2 dX3_init_17
set_option maxHeartbeats 4000000 in
set_option maxRecDepth 100000 in
theorem k_X4_init {X : g_X} {b : Nat} (hX : h_ad X b) {L0 : List h_L} {M : g_M} {q : Nat} (hq : L0.length = q) (h75 : q + 5 ≤ 75) (hz : ∀ j, q ≤ j → M j = fun _ => 0) : h_Con X b yX4_init cX4_init 1 4 428 1 30 [.ref (X.2.2.1 q)] (L0 ++ [.inr (4, [some none, some none, some none, some none])]) M (L0 ++ [.inr (4, [some (some (q + 1)), some (some (q + 2)), some (some (q + 3)), some (some (q + 4))]), .inl 12, .inl 12, .inl 400, .inl 4]) M := by
  refine g_ofW (cc := cX4_init) (maxL := 1) (ret := none) (plainFor_of_name (by decide +kernel)) rfl ?_
  intro p e s m args below meth c s₁ B hml hv
  obtain ⟨rfl, hP, hsz, hK⟩ := hv
  have hx := B.exec
  have hb := B.bytes
  have hr := B.returns
  have hts := atoms_spec (ws := g_ws yX4_init cX4_init 1 none) B.pre
  have hown : s.vm.findClass RX4 = some m.cls := findClass_of_methodNamed B.named
  have hlocks := B.notSynchronized
  have hin2 : meth.name = "<init>" := (name_of_methodNamed B.named B.method).1
  have F : h_Fix X b p s m ([Value.ref (X.2.2.1 q)] : List Value).toArray c cX4_init RX4 1 := ⟨hx, hb, hml, hown, fun w hw => hts w (List.mem_cons_of_mem _ hw), hK, hX, by rw [hsz]; exact Nat.le_add_right _ _⟩
  have I : h_In X b (L0 ++ [.inr (4, [some none, some none, some none, some none])]) M s s.heap [] := ⟨hP, hsz, va_S.rf, by rw [h_lx hq]; show q + 1 ≤ 75; omega⟩
  have hl := lv_entry [.ref (X.2.2.1 q)] (n := 1) (Nat.le_of_ble_eq_true rfl)
  rw [lg_entry_eq]
  generalize (lg_sl [.ref (X.2.2.1 q)] ++ List.replicate (1 - (lg_sl [.ref (X.2.2.1 q)]).length) Slot.unset).toArray = ls at hl ⊢
  have hl : lv_has ls 1 [(0, .ref (X.2.2.1 q))] := hl
  refine lv_aload_n hx hb dX4_init_0 rfl (lv_at hl 0 rfl) ?_
  refine W.objInit hx hb hown (F.2.2.2.2.1 _ (g_W1 175 (by decide +kernel) rfl)) (F.2.2.2.2.1 _ (g_W1 25 (by decide +kernel) rfl)) (F.2.2.2.2.1 _ (g_W1 26 rfl rfl)) rfl (by rw [hml]; exact hl.1) rfl dX4_init_1 (Nat.le_of_ble_eq_true rfl) (Nat.le_of_ble_eq_true rfl) ?_
  refine W.eq (g2 := F0 m 4 ls []) rfl ?_
  refine lv_aload_n hx hb dX4_init_4 rfl (lv_at hl 0 rfl) ?_
  refine lv_bipush (v := 12) hx hb dX4_init_5 (by decide) ?_
  refine h_newa F I (N := 12) (q' := q + 1) (L' := L0 ++ [.inr (4, [some none, some none, some none, some none]), .inl 12]) (g_W1 85 (by decide +kernel) rfl) (h_lx hq _) (by rw [List.append_assoc]; rfl) (hz _ (by omega)) (by omega) (by decide) (by decide) (by decide) (Nat.le_of_ble_eq_true rfl) (Nat.le_of_ble_eq_true rfl) dX4_init_7 (fun H I => ?_)
  refine h_putr F I (C := RX4) (T := TX4) (N := 4) (ci := 4) g_hin4 tyX4 tyX4_ok nmX4 rfl 0 (by decide) fl_4_9 rfl rfl rfl hin2 (ty := tyX4 0) (by decide +kernel) (r0 := q + 1) (fun _ => rfl) (fun _ => rfl) (q := q) (h_ix hq _ 0) (Nat.le_of_ble_eq_true rfl) (L' := L0 ++ [.inr (4, [some (some (q + 1)), some none, some none, some none]), .inl 12]) (h_sx hq _ 0 _) dX4_init_9 (fun H locs I => ?_)
  refine lv_aload_n hx hb dX4_init_12 rfl (lv_at hl 0 rfl) ?_
  refine lv_bipush (v := 12) hx hb dX4_init_13 (by decide) ?_
  refine h_newa F I (N := 12) (q' := q + 2) (L' := L0 ++ [.inr (4, [some (some (q + 1)), some none, some none, some none]), .inl 12, .inl 12]) (g_W1 85 (by decide +kernel) rfl) (h_lx hq _) (by rw [List.append_assoc]; rfl) (hz _ (by omega)) (by omega) (by decide) (by decide) (by decide) (Nat.le_of_ble_eq_true rfl) (Nat.le_of_ble_eq_true rfl) dX4_init_15 (fun H I => ?_)
  refine h_putr F I (C := RX4) (T := TX4) (N := 4) (ci := 4) g_hin4 tyX4 tyX4_ok nmX4 rfl 1 (by decide) fl_4_15 rfl rfl rfl hin2 (ty := tyX4 1) (by decide +kernel) (r0 := q + 2) (fun _ => rfl) (fun _ => rfl) (q := q) (h_ix hq _ 0) (Nat.le_of_ble_eq_true rfl) (L' := L0 ++ [.inr (4, [some (some (q + 1)), some (some (q + 2)), some none, some none]), .inl 12, .inl 12]) (h_sx hq _ 0 _) dX4_init_17 (fun H locs I => ?_)
  refine lv_aload_n hx hb dX4_init_20 rfl (lv_at hl 0 rfl) ?_
  refine lv_sipush (v := 400) hx hb dX4_init_21 (by decide) ?_
  refine h_newa F I (N := 400) (q' := q + 3) (L' := L0 ++ [.inr (4, [some (some (q + 1)), some (some (q + 2)), some none, some none]), .inl 12, .inl 12, .inl 400]) (g_W1 85 (by decide +kernel) rfl) (h_lx hq _) (by rw [List.append_assoc]; rfl) (hz _ (by omega)) (by omega) (by decide) (by decide) (by decide) (Nat.le_of_ble_eq_true rfl) (Nat.le_of_ble_eq_true rfl) dX4_init_24 (fun H I => ?_)
  refine h_putr F I (C := RX4) (T := TX4) (N := 4) (ci := 4) g_hin4 tyX4 tyX4_ok nmX4 rfl 2 (by decide) fl_4_18 rfl rfl rfl hin2 (ty := tyX4 2) (by decide +kernel) (r0 := q + 3) (fun _ => rfl) (fun _ => rfl) (q := q) (h_ix hq _ 0) (Nat.le_of_ble_eq_true rfl) (L' := L0 ++ [.inr (4, [some (some (q + 1)), some (some (q + 2)), some (some (q + 3)), some none]), .inl 12, .inl 12, .inl 400]) (h_sx hq _ 0 _) dX4_init_26 (fun H locs I => ?_)
  refine lv_aload_n hx hb dX4_init_29 rfl (lv_at hl 0 rfl) ?_
  refine lv_iconst (v := 4) hx hb dX4_init_30 (by decide) ?_
  refine h_newa F I (N := 4) (q' := q + 4) (L' := L0 ++ [.inr (4, [some (some (q + 1)), some (some (q + 2)), some (some (q + 3)), some none]), .inl 12, .inl 12, .inl 400, .inl 4]) (g_W1 85 (by decide +kernel) rfl) (h_lx hq _) (by rw [List.append_assoc]; rfl) (hz _ (by omega)) (by omega) (by decide) (by decide) (by decide) (Nat.le_of_ble_eq_true rfl) (Nat.le_of_ble_eq_true rfl) dX4_init_31 (fun H I => ?_)
  refine h_putr F I (C := RX4) (T := TX4) (N := 4) (ci := 4) g_hin4 tyX4 tyX4_ok nmX4 rfl 3 (by decide) fl_4_21 rfl rfl rfl hin2 (ty := tyX4 3) (by decide +kernel) (r0 := q + 4) (fun _ => rfl) (fun _ => rfl) (q := q) (h_ix hq _ 0) (Nat.le_of_ble_eq_true rfl) (L' := L0 ++ [.inr (4, [some (some (q + 1)), some (some (q + 2)), some (some (q + 3)), some (some (q + 4))]), .inl 12, .inl 12, .inl 400, .inl 4]) (h_sx hq _ 0 _) dX4_init_33 (fun H locs I => ?_)
  exact W.vret hx hb hr (fun t ht hW => ⟨rfl, by rw [ht]; exact I.1, by rw [ht]; exact I.2.1, I.2.2.1.F ht⟩) I.2.2.1.2.2 dX4_init_36
set_option maxHeartbeats 4000000 in
set_option maxRecDepth 100000 in
theorem k_X5_init {X : g_X} {b : Nat} (hX : h_ad X b) {L0 : List h_L} {M : g_M} {q : Nat} (hq : L0.length = q) (h75 : q + 1 ≤ 75) (hz : ∀ j, q ≤ j → M j = fun _ => 0) : h_Con X b yX5_init cX5_init 1 0 0 1 30 [.ref (X.2.2.1 q)] (L0 ++ [.inr (5, [none, none, none, none, none, none, none, none, none])]) M (L0 ++ [.inr (5, [none, none, none, none, none, none, none, none, none])]) M := by
  refine g_ofW (cc := cX5_init) (maxL := 1) (ret := none) (plainFor_of_name (by decide +kernel)) rfl ?_
  intro p e s m args below meth c s₁ B hml hv
  obtain ⟨rfl, hP, hsz, hK⟩ := hv
  have hx := B.exec
  have hb := B.bytes
  have hr := B.returns
  have hts := atoms_spec (ws := g_ws yX5_init cX5_init 1 none) B.pre
  have hown : s.vm.findClass RX5 = some m.cls := findClass_of_methodNamed B.named
  have hlocks := B.notSynchronized
  have hin2 : meth.name = "<init>" := (name_of_methodNamed B.named B.method).1
  have F : h_Fix X b p s m ([Value.ref (X.2.2.1 q)] : List Value).toArray c cX5_init RX5 1 := ⟨hx, hb, hml, hown, fun w hw => hts w (List.mem_cons_of_mem _ hw), hK, hX, by rw [hsz]; exact Nat.le_add_right _ _⟩
  have I : h_In X b (L0 ++ [.inr (5, [none, none, none, none, none, none, none, none, none])]) M s s.heap [] := ⟨hP, hsz, va_S.rf, by rw [h_lx hq]; show q + 1 ≤ 75; omega⟩
  have hl := lv_entry [.ref (X.2.2.1 q)] (n := 1) (Nat.le_of_ble_eq_true rfl)
  rw [lg_entry_eq]
  generalize (lg_sl [.ref (X.2.2.1 q)] ++ List.replicate (1 - (lg_sl [.ref (X.2.2.1 q)]).length) Slot.unset).toArray = ls at hl ⊢
  have hl : lv_has ls 1 [(0, .ref (X.2.2.1 q))] := hl
  refine lv_aload_n hx hb dX5_init_0 rfl (lv_at hl 0 rfl) ?_
  refine W.objInit hx hb hown (F.2.2.2.2.1 _ (g_W1 136 (by decide +kernel) rfl)) (F.2.2.2.2.1 _ (g_W1 25 (by decide +kernel) rfl)) (F.2.2.2.2.1 _ (g_W1 26 rfl rfl)) rfl (by rw [hml]; exact hl.1) rfl dX5_init_1 (Nat.le_of_ble_eq_true rfl) (Nat.le_of_ble_eq_true rfl) ?_
  refine W.eq (g2 := F0 m 4 ls []) rfl ?_
  refine lv_aload_n hx hb dX5_init_4 rfl (lv_at hl 0 rfl) ?_
  refine lv_iconst (v := 0) hx hb dX5_init_5 (by decide) ?_
  refine h_put F I (C := RX5) (T := TX5) (N := 9) (ci := 5) g_hin5 tyX5 tyX5_ok nmX5 rfl 0 (by decide) fl_5_9 rfl rfl (ty := .int) (by decide +kernel) rfl rfl (q := q) (h_ix hq _ 0) rfl (M' := M) (g_upd_same (by simp [g_upd_get, hz q (Nat.le_refl q)])) dX5_init_6 (fun H locs I => ?_)
  refine lv_aload_n hx hb dX5_init_9 rfl (lv_at hl 0 rfl) ?_
  refine lv_iconst (v := 0) hx hb dX5_init_10 (by decide) ?_
  refine h_put F I (C := RX5) (T := TX5) (N := 9) (ci := 5) g_hin5 tyX5 tyX5_ok nmX5 rfl 1 (by decide) fl_5_15 rfl rfl (ty := .int) (by decide +kernel) rfl rfl (q := q) (h_ix hq _ 0) rfl (M' := M) (g_upd_same (by simp [g_upd_get, hz q (Nat.le_refl q)])) dX5_init_11 (fun H locs I => ?_)
  refine lv_aload_n hx hb dX5_init_14 rfl (lv_at hl 0 rfl) ?_
  refine lv_iconst (v := 0) hx hb dX5_init_15 (by decide) ?_
  refine h_put F I (C := RX5) (T := TX5) (N := 9) (ci := 5) g_hin5 tyX5 tyX5_ok nmX5 rfl 2 (by decide) fl_5_18 rfl rfl (ty := .int) (by decide +kernel) rfl rfl (q := q) (h_ix hq _ 0) rfl (M' := M) (g_upd_same (by simp [g_upd_get, hz q (Nat.le_refl q)])) dX5_init_16 (fun H locs I => ?_)
  refine lv_aload_n hx hb dX5_init_19 rfl (lv_at hl 0 rfl) ?_
  refine lv_iconst (v := 0) hx hb dX5_init_20 (by decide) ?_
  refine h_put F I (C := RX5) (T := TX5) (N := 9) (ci := 5) g_hin5 tyX5 tyX5_ok nmX5 rfl 3 (by decide) fl_5_21 rfl rfl (ty := .int) (by decide +kernel) rfl rfl (q := q) (h_ix hq _ 0) rfl (M' := M) (g_upd_same (by simp [g_upd_get, hz q (Nat.le_refl q)])) dX5_init_21 (fun H locs I => ?_)
  refine lv_aload_n hx hb dX5_init_24 rfl (lv_at hl 0 rfl) ?_
  refine lv_iconst (v := 0) hx hb dX5_init_25 (by decide) ?_
  refine h_put F I (C := RX5) (T := TX5) (N := 9) (ci := 5) g_hin5 tyX5 tyX5_ok nmX5 rfl 4 (by decide) fl_5_24 rfl rfl (ty := .int) (by decide +kernel) rfl rfl (q := q) (h_ix hq _ 0) rfl (M' := M) (g_upd_same (by simp [g_upd_get, hz q (Nat.le_refl q)])) dX5_init_26 (fun H locs I => ?_)
  refine lv_aload_n hx hb dX5_init_29 rfl (lv_at hl 0 rfl) ?_
  refine lv_iconst (v := 0) hx hb dX5_init_30 (by decide) ?_
  refine h_put F I (C := RX5) (T := TX5) (N := 9) (ci := 5) g_hin5 tyX5 tyX5_ok nmX5 rfl 5 (by decide) fl_5_27 rfl rfl (ty := .int) (by decide +kernel) rfl rfl (q := q) (h_ix hq _ 0) rfl (M' := M) (g_upd_same (by simp [g_upd_get, hz q (Nat.le_refl q)])) dX5_init_31 (fun H locs I => ?_)
  refine lv_aload_n hx hb dX5_init_34 rfl (lv_at hl 0 rfl) ?_
  refine lv_iconst (v := 0) hx hb dX5_init_35 (by decide) ?_
  refine h_put F I (C := RX5) (T := TX5) (N := 9) (ci := 5) g_hin5 tyX5 tyX5_ok nmX5 rfl 6 (by decide) fl_5_30 rfl rfl (ty := .int) (by decide +kernel) rfl rfl (q := q) (h_ix hq _ 0) rfl (M' := M) (g_upd_same (by simp [g_upd_get, hz q (Nat.le_refl q)])) dX5_init_36 (fun H locs I => ?_)
  refine lv_aload_n hx hb dX5_init_39 rfl (lv_at hl 0 rfl) ?_
  refine lv_iconst (v := 0) hx hb dX5_init_40 (by decide) ?_
  refine h_put F I (C := RX5) (T := TX5) (N := 9) (ci := 5) g_hin5 tyX5 tyX5_ok nmX5 rfl 7 (by decide) fl_5_33 rfl rfl (ty := .int) (by decide +kernel) rfl rfl (q := q) (h_ix hq _ 0) rfl (M' := M) (g_upd_same (by simp [g_upd_get, hz q (Nat.le_refl q)])) dX5_init_41 (fun H locs I => ?_)
  refine lv_aload_n hx hb dX5_init_44 rfl (lv_at hl 0 rfl) ?_
  refine lv_iconst (v := 0) hx hb dX5_init_45 (by decide) ?_
  refine h_put F I (C := RX5) (T := TX5) (N := 9) (ci := 5) g_hin5 tyX5 tyX5_ok nmX5 rfl 8 (by decide) fl_5_36 rfl rfl (ty := .int) (by decide +kernel) rfl rfl (q := q) (h_ix hq _ 0) rfl (M' := M) (g_upd_same (by simp [g_upd_get, hz q (Nat.le_refl q)])) dX5_init_46 (fun H locs I => ?_)
  exact W.vret hx hb hr (fun t ht hW => ⟨rfl, by rw [ht]; exact I.1, by rw [ht]; exact I.2.1, I.2.2.1.F ht⟩) I.2.2.1.2.2 dX5_init_49
set_option maxHeartbeats 4000000 in
set_option maxRecDepth 100000 in
theorem k_X6_init {X : g_X} {b : Nat} (hX : h_ad X b) {L0 : List h_L} {M : g_M} {q : Nat} (hq : L0.length = q) (h75 : q + 2 ≤ 75) (hz : ∀ j, q ≤ j → M j = fun _ => 0) : h_Con X b yX6_init cX6_init 1 1 12 1 30 [.ref (X.2.2.1 q)] (L0 ++ [.inr (6, [some none, none])]) M (L0 ++ [.inr (6, [some (some (q + 1)), none]), .inl 12]) M := by
  refine g_ofW (cc := cX6_init) (maxL := 1) (ret := none) (plainFor_of_name (by decide +kernel)) rfl ?_
  intro p e s m args below meth c s₁ B hml hv
  obtain ⟨rfl, hP, hsz, hK⟩ := hv
  have hx := B.exec
  have hb := B.bytes
  have hr := B.returns
  have hts := atoms_spec (ws := g_ws yX6_init cX6_init 1 none) B.pre
  have hown : s.vm.findClass RX6 = some m.cls := findClass_of_methodNamed B.named
  have hlocks := B.notSynchronized
  have hin2 : meth.name = "<init>" := (name_of_methodNamed B.named B.method).1
  have F : h_Fix X b p s m ([Value.ref (X.2.2.1 q)] : List Value).toArray c cX6_init RX6 1 := ⟨hx, hb, hml, hown, fun w hw => hts w (List.mem_cons_of_mem _ hw), hK, hX, by rw [hsz]; exact Nat.le_add_right _ _⟩
  have I : h_In X b (L0 ++ [.inr (6, [some none, none])]) M s s.heap [] := ⟨hP, hsz, va_S.rf, by rw [h_lx hq]; show q + 1 ≤ 75; omega⟩
  have hl := lv_entry [.ref (X.2.2.1 q)] (n := 1) (Nat.le_of_ble_eq_true rfl)
  rw [lg_entry_eq]
  generalize (lg_sl [.ref (X.2.2.1 q)] ++ List.replicate (1 - (lg_sl [.ref (X.2.2.1 q)]).length) Slot.unset).toArray = ls at hl ⊢
  have hl : lv_has ls 1 [(0, .ref (X.2.2.1 q))] := hl
  refine lv_aload_n hx hb dX6_init_0 rfl (lv_at hl 0 rfl) ?_
  refine W.objInit hx hb hown (F.2.2.2.2.1 _ (g_W1 105 (by decide +kernel) rfl)) (F.2.2.2.2.1 _ (g_W1 25 (by decide +kernel) rfl)) (F.2.2.2.2.1 _ (g_W1 26 rfl rfl)) rfl (by rw [hml]; exact hl.1) rfl dX6_init_1 (Nat.le_of_ble_eq_true rfl) (Nat.le_of_ble_eq_true rfl) ?_
  refine W.eq (g2 := F0 m 4 ls []) rfl ?_
  refine lv_aload_n hx hb dX6_init_4 rfl (lv_at hl 0 rfl) ?_
  refine lv_bipush (v := 12) hx hb dX6_init_5 (by decide) ?_
  refine h_newa F I (N := 12) (q' := q + 1) (L' := L0 ++ [.inr (6, [some none, none]), .inl 12]) (g_W1 85 (by decide +kernel) rfl) (h_lx hq _) (by rw [List.append_assoc]; rfl) (hz _ (by omega)) (by omega) (by decide) (by decide) (by decide) (Nat.le_of_ble_eq_true rfl) (Nat.le_of_ble_eq_true rfl) dX6_init_7 (fun H I => ?_)
  refine h_putr F I (C := RX6) (T := TX6) (N := 2) (ci := 6) g_hin6 tyX6 tyX6_ok nmX6 rfl 0 (by decide) fl_6_9 rfl rfl rfl hin2 (ty := tyX6 0) (by decide +kernel) (r0 := q + 1) (fun _ => rfl) (fun _ => rfl) (q := q) (h_ix hq _ 0) (Nat.le_of_ble_eq_true rfl) (L' := L0 ++ [.inr (6, [some (some (q + 1)), none]), .inl 12]) (h_sx hq _ 0 _) dX6_init_9 (fun H locs I => ?_)
  refine lv_aload_n hx hb dX6_init_12 rfl (lv_at hl 0 rfl) ?_
  refine lv_iconst (v := 0) hx hb dX6_init_13 (by decide) ?_
  refine h_put F I (C := RX6) (T := TX6) (N := 2) (ci := 6) g_hin6 tyX6 tyX6_ok nmX6 rfl 1 (by decide) fl_6_15 rfl rfl (ty := .int) (by decide +kernel) rfl rfl (q := q) (h_ix hq _ 0) rfl (M' := M) (g_upd_same (by simp [g_upd_get, hz q (Nat.le_refl q)])) dX6_init_14 (fun H locs I => ?_)
  exact W.vret hx hb hr (fun t ht hW => ⟨rfl, by rw [ht]; exact I.1, by rw [ht]; exact I.2.1, I.2.2.1.F ht⟩) I.2.2.1.2.2 dX6_init_17
set_option maxHeartbeats 4000000 in
set_option maxRecDepth 100000 in
theorem k_X7_init {X : g_X} {b : Nat} (hX : h_ad X b) {L0 : List h_L} {M : g_M} {q : Nat} (hq : L0.length = q) (h75 : q + 3 ≤ 75) (hz : ∀ j, q ≤ j → M j = fun _ => 0) : h_Con X b yX7_init cX7_init 1 2 16 1 30 [.ref (X.2.2.1 q)] (L0 ++ [.inr (7, [some none, some none, none])]) M (L0 ++ [.inr (7, [some (some (q + 1)), some (some (q + 2)), none]), .inl 8, .inl 8]) M := by
  refine g_ofW (cc := cX7_init) (maxL := 1) (ret := none) (plainFor_of_name (by decide +kernel)) rfl ?_
  intro p e s m args below meth c s₁ B hml hv
  obtain ⟨rfl, hP, hsz, hK⟩ := hv
  have hx := B.exec
  have hb := B.bytes
  have hr := B.returns
  have hts := atoms_spec (ws := g_ws yX7_init cX7_init 1 none) B.pre
  have hown : s.vm.findClass RX7 = some m.cls := findClass_of_methodNamed B.named
  have hlocks := B.notSynchronized
  have hin2 : meth.name = "<init>" := (name_of_methodNamed B.named B.method).1
  have F : h_Fix X b p s m ([Value.ref (X.2.2.1 q)] : List Value).toArray c cX7_init RX7 1 := ⟨hx, hb, hml, hown, fun w hw => hts w (List.mem_cons_of_mem _ hw), hK, hX, by rw [hsz]; exact Nat.le_add_right _ _⟩
  have I : h_In X b (L0 ++ [.inr (7, [some none, some none, none])]) M s s.heap [] := ⟨hP, hsz, va_S.rf, by rw [h_lx hq]; show q + 1 ≤ 75; omega⟩
  have hl := lv_entry [.ref (X.2.2.1 q)] (n := 1) (Nat.le_of_ble_eq_true rfl)
  rw [lg_entry_eq]
  generalize (lg_sl [.ref (X.2.2.1 q)] ++ List.replicate (1 - (lg_sl [.ref (X.2.2.1 q)]).length) Slot.unset).toArray = ls at hl ⊢
  have hl : lv_has ls 1 [(0, .ref (X.2.2.1 q))] := hl
  refine lv_aload_n hx hb dX7_init_0 rfl (lv_at hl 0 rfl) ?_
  refine W.objInit hx hb hown (F.2.2.2.2.1 _ (g_W1 119 (by decide +kernel) rfl)) (F.2.2.2.2.1 _ (g_W1 25 (by decide +kernel) rfl)) (F.2.2.2.2.1 _ (g_W1 26 rfl rfl)) rfl (by rw [hml]; exact hl.1) rfl dX7_init_1 (Nat.le_of_ble_eq_true rfl) (Nat.le_of_ble_eq_true rfl) ?_
  refine W.eq (g2 := F0 m 4 ls []) rfl ?_
  refine lv_aload_n hx hb dX7_init_4 rfl (lv_at hl 0 rfl) ?_
  refine lv_bipush (v := 8) hx hb dX7_init_5 (by decide) ?_
  refine h_newa F I (N := 8) (q' := q + 1) (L' := L0 ++ [.inr (7, [some none, some none, none]), .inl 8]) (g_W1 85 (by decide +kernel) rfl) (h_lx hq _) (by rw [List.append_assoc]; rfl) (hz _ (by omega)) (by omega) (by decide) (by decide) (by decide) (Nat.le_of_ble_eq_true rfl) (Nat.le_of_ble_eq_true rfl) dX7_init_7 (fun H I => ?_)
  refine h_putr F I (C := RX7) (T := TX7) (N := 3) (ci := 7) g_hin7 tyX7 tyX7_ok nmX7 rfl 0 (by decide) fl_7_9 rfl rfl rfl hin2 (ty := tyX7 0) (by decide +kernel) (r0 := q + 1) (fun _ => rfl) (fun _ => rfl) (q := q) (h_ix hq _ 0) (Nat.le_of_ble_eq_true rfl) (L' := L0 ++ [.inr (7, [some (some (q + 1)), some none, none]), .inl 8]) (h_sx hq _ 0 _) dX7_init_9 (fun H locs I => ?_)
  refine lv_aload_n hx hb dX7_init_12 rfl (lv_at hl 0 rfl) ?_
  refine lv_bipush (v := 8) hx hb dX7_init_13 (by decide) ?_
  refine h_newa F I (N := 8) (q' := q + 2) (L' := L0 ++ [.inr (7, [some (some (q + 1)), some none, none]), .inl 8, .inl 8]) (g_W1 85 (by decide +kernel) rfl) (h_lx hq _) (by rw [List.append_assoc]; rfl) (hz _ (by omega)) (by omega) (by decide) (by decide) (by decide) (Nat.le_of_ble_eq_true rfl) (Nat.le_of_ble_eq_true rfl) dX7_init_15 (fun H I => ?_)
  refine h_putr F I (C := RX7) (T := TX7) (N := 3) (ci := 7) g_hin7 tyX7 tyX7_ok nmX7 rfl 1 (by decide) fl_7_15 rfl rfl rfl hin2 (ty := tyX7 1) (by decide +kernel) (r0 := q + 2) (fun _ => rfl) (fun _ => rfl) (q := q) (h_ix hq _ 0) (Nat.le_of_ble_eq_true rfl) (L' := L0 ++ [.inr (7, [some (some (q + 1)), some (some (q + 2)), none]), .inl 8, .inl 8]) (h_sx hq _ 0 _) dX7_init_17 (fun H locs I => ?_)
  refine lv_aload_n hx hb dX7_init_20 rfl (lv_at hl 0 rfl) ?_
  refine lv_iconst (v := 0) hx hb dX7_init_21 (by decide) ?_
  refine h_put F I (C := RX7) (T := TX7) (N := 3) (ci := 7) g_hin7 tyX7 tyX7_ok nmX7 rfl 2 (by decide) fl_7_18 rfl rfl (ty := .int) (by decide +kernel) rfl rfl (q := q) (h_ix hq _ 0) rfl (M' := M) (g_upd_same (by simp [g_upd_get, hz q (Nat.le_refl q)])) dX7_init_22 (fun H locs I => ?_)
  exact W.vret hx hb hr (fun t ht hW => ⟨rfl, by rw [ht]; exact I.1, by rw [ht]; exact I.2.1, I.2.2.1.F ht⟩) I.2.2.1.2.2 dX7_init_25
