/-! the texts' own methods -/
theorem tx_J3 {X : g_X} {i n : Int32} {w : Value} (hw : w.category = 1) (h0 : 0 ≤ i) (h1 : i < n) : Met X.1 yJ3_checkIndex_8e157 (g_ws yJ3_checkIndex_8e157 cJ3_checkIndex_8e157 3 (some .int)) { frames := 0, cells := 0, slots := 0, locals := 0 } (fun v _ => v = #[.int i, .int n, w]) (fun _ st oc t => oc = .returned (some (.int i)) ∧ t.heap = st.heap) 0 0 (fun _ => False) := by
  refine g_ofW (cc := cJ3_checkIndex_8e157) (maxL := 3) (ret := some .int) (plainFor_of_name (by decide +kernel)) rfl ?_
  intro p e s m args below meth c s₁ B hml hv
  obtain rfl := hv
  have hx := B.exec
  have hb := B.bytes
  have hr := B.returns
  have hlocks := B.notSynchronized
  have hlg : (lg_sl [.int i, .int n, w]).length ≤ 3 := by cases w <;> simp_all [lg_sl, Value.category]
  have hl := lv_entry [.int i, .int n, w] (n := 3) hlg
  show W p _ e _ s m _ below meth c s.heap [] 0 0 _ (entryFrame m ([.int i, .int n, w] : List Value).toArray 3)
  rw [lg_entry_eq]
  generalize (lg_sl [.int i, .int n, w] ++ List.replicate (3 - (lg_sl [.int i, .int n, w]).length) Slot.unset).toArray = ls at hl ⊢
  refine lv_iload_n hx hb dJ3_checkIndex_8e157_0 rfl (lv_at hl 0 rfl) ?_
  refine lv_if_lt (tgt := 9) hx hb dJ3_checkIndex_8e157_1 (by decide) (fun c => absurd h0 (by rw [Int32.not_le]; exact c)) (fun _ => ?_)
  refine lv_iload_n hx hb dJ3_checkIndex_8e157_4 rfl (lv_at hl 0 rfl) ?_
  refine lv_iload_n hx hb dJ3_checkIndex_8e157_5 rfl (lv_at hl 1 rfl) ?_
  refine lv_icmp_lt (tgt := 16) hx hb dJ3_checkIndex_8e157_6 (by decide) (fun _ => ?_) (fun c => absurd h1 c)
  refine lv_iload_n hx hb dJ3_checkIndex_8e157_16 rfl (lv_at hl 0 rfl) ?_
  exact W.iret (v := i) hx hb hr (fun t ht hW => ⟨rfl, ht⟩) (fun q h => by cases h) dJ3_checkIndex_8e157_17
section TX
variable {X : g_X} {cc : ByteArray} {own : String} {nL fr lo pc : Nat} {ret : Option FieldType} {res : Int32 × g_M} {lv : List (Option g_V)} {st : List g_V} {M : g_M}
theorem go_chk {i n : Int32} (hown : own = RJ0) (h0 : 0 ≤ i) (h1 : i < n) (hst : st.length ≤ 4) (hR : 0 + 1 ≤ fr ∧ 8 + (3 + 11) + 0 ≤ lo) (d1 : decode cc pc = .ok (.getstatic 1053, 3)) (d2 : decode cc (pc + 3) = .ok (.invokestatic 1059, 3)) (d3 : decode cc (pc + 3 + 3) = .ok (.pop, 1)) (kk : g_Go X cc own nL ret fr lo res (pc + 3 + 3 + 1) lv st M) : g_Go X cc own nL ret fr lo res pc lv (.inl n :: .inl i :: st) M := by
  intro p e R s m args below meth c H locs cells slots Q ls F hP hS hl kr
  subst hown
  have k2 := kk p e R s m args below meth c H locs cells slots Q ls F hP hS hl kr
  obtain ⟨hx, hb, hml, hown, hw, hK, hfr, hlo, hce, hsl, hok, hSt⟩ := id F
  have key : ∀ v : Value, v.category = 1 → va_Z "jdk/internal/util/Preconditions" "SIOOBE_FORMATTER" "Ljava/util/function/BiFunction;" v (g_A X) s s.heap → W p X.1 e R s m args below meth c H locs cells slots Q (F0 m pc ls ((.inl n :: .inl i :: st : List g_V).map (g_tr X))) := by
    intro v hv hZ
    refine va_gets hx hb hZ hS hown (hw _ fs_1053) (fun _ h => h) d1 ?_
    obtain ⟨w1, w3, w4, w5, w6, w7⟩ := cw_J3_checkIndex_8e157
    have hr := va_runS (e := e) (R := R) (below := below) (meth := meth) (H := H) (locs := locs) (cells := cells) (slots := slots) (Ts := g_W) (own := RJ0) (As := [.int i, .int n, v]) (rest := st.map (g_tr X)) (g := F0 m (pc + 3) ls (v :: .int n :: .int i :: st.map (g_tr X))) ⟨hx, hb, hml, hown, hw⟩ (tx_J3 (X := X) hv h0 h1) ⟨callB_of 3 hw (g_goodIn w4) rfl rfl rfl (hw _ w3) (hw _ ml_J0_1059) ⟨w5, w6, w7⟩ ⟨Nat.le_trans hR.1 hfr, Nat.le_trans hR.2 hlo⟩, hw _ w1⟩ ⟨fun _ _ _ _ h => h, fun U hU hW => rfl⟩ rfl rfl hl.1 rfl (lv_room (by rw [g_cats]; omega)) d2 ⟨hce, hsl⟩
    intro T hT XX
    obtain ⟨v', st₀, t, T', L, e0, X', hL, e1, e2, ⟨hv', hh⟩, stp⟩ := hr T hT XX
    injection hv' with hv'
    subst hv'
    have k3 := lv_pop (cells := cells) (slots := slots) (va := .int i) hx hb d3 rfl k2
    obtain ⟨t2, a1, b1⟩ := k3 T' (by rw [e1, hh, e0]) (Stand.forget X' (fun q h => (hL q h).elim))
    exact ⟨t2, stp t2 a1, b1⟩
  rcases hSt.2.2.2 with h | ⟨t, h⟩
  · exact key .null rfl h
  · exact key (.ref t) rfl h
end TX
def g_sl (k : Nat) : Nat := g_lens.getD k 0
def g_sc (k j : Nat) : Int32 := (g_byts.getD k []).getD j 0 &&& 255
theorem tx_c2 : ∀ k, k < 6 → ∀ j, j < g_lens.getD k 0 → (((g_byts.getD k []).getD j 0 &&& 255).toUInt32.toUInt16.toUInt32.toInt32 = g_sc k j ∧ narrow .char (.int (g_sc k j)) = .int (g_sc k j)) := by decide +kernel
set_option maxRecDepth 100000 in
theorem z_J0_checkIndex_df160 {X : g_X} (hok : g_ok X) {i n : Int32} (h0 : 0 ≤ i) (h1 : i < n) {M : g_M} : g_Con X yJ0_checkIndex_df160 cJ0_checkIndex_df160 2 none 1 30 [.inl i, .inl n] M (0, M) := by
  refine g_con hok (plainFor_of_name (by decide +kernel)) (Nat.le_of_ble_eq_true rfl) (go_to (lv2 := [some (.inl i), some (.inl n)]) (own := RJ0) ?_ (And.intro rfl (And.intro rfl trivial)))
  refine go_iload_n (pc := 0) dJ0_checkIndex_df160_0 rfl ?_
  refine go_iload_n (pc := 1) dJ0_checkIndex_df160_1 rfl ?_
  refine go_chk (pc := 2) rfl h0 h1 (Nat.le_of_ble_eq_true rfl) (by decide) dJ0_checkIndex_df160_2 dJ0_checkIndex_df160_5 dJ0_checkIndex_df160_8 ?_
  exact go_vret (pc := 9) rfl rfl dJ0_checkIndex_df160_9
set_option maxRecDepth 100000 in
theorem z_J1_charAt_3b067 {X : g_X} (hok : g_ok X) {k : Nat} (hk : k < 6) {i : Int32} (hi : g_in i (g_sl k)) {M : g_M} : g_Con X yJ1_charAt_3b067 cJ1_charAt_3b067 2 (some .char) 2 60 [.inr (2000 + k), .inl i] M (g_sc k i.toNatClampNeg, M) := by
  have hn : g_sl k < 2 ^ 31 := by
    have : ∀ k, k < 6 → g_sl k < 2 ^ 31 := by decide +kernel
    exact this k hk
  have h1 : i < nI (g_sl k) := by
    rw [Int32.lt_iff_toInt_lt, nI_toInt hn]
    have h0 := Int32.le_iff_toInt_le.mp hi.1
    have h2 : i.toInt.toNat < g_sl k := hi.2
    rw [Int32.toInt_zero] at h0
    omega
  refine g_con hok (plainFor_of_name (by decide +kernel)) (Nat.le_of_ble_eq_true rfl) (go_to (lv2 := [some (.inr (2000 + k)), some (.inl i)]) (own := RJ1) ?_ (And.intro rfl (And.intro rfl trivial)))
  refine go_iload_n (pc := 0) dJ1_charAt_3b067_0 rfl ?_
  refine go_aload_n (pc := 1) dJ1_charAt_3b067_1 rfl ?_
  refine go_slen (pc := 2) (n := g_sl k) hk rfl dJ1_charAt_3b067_2 ?_
  refine go_callS (pc := 3) (as := [.inl i, .inl (nI (g_sl k))]) (st := []) (r := 0) (M1 := M) (z_J0_checkIndex_df160 hok hi.1 h1) cw_J0_checkIndex_df160 ml_J1_9 (by decide) (Nat.le_of_ble_eq_true rfl) rfl dJ1_charAt_3b067_3 ?_
  refine go_aload_n (pc := 6) dJ1_charAt_3b067_6 rfl ?_
  refine go_iload_n (pc := 7) dJ1_charAt_3b067_7 rfl ?_
  refine go_sbald (pc := 8) hk hi dJ1_charAt_3b067_8 ?_
  refine go_sipush (pc := 9) (v := 255) dJ1_charAt_3b067_9 (by decide) ?_
  refine go_iand (pc := 12) dJ1_charAt_3b067_12 ?_
  refine go_i2c (pc := 13) (tx_c2 k hk _ hi.2).1 dJ1_charAt_3b067_13 ?_
  exact go_iret (pc := 14) rfl rfl dJ1_charAt_3b067_14 (tx_c2 k hk _ hi.2).2
set_option maxRecDepth 100000 in
theorem z_J0_isLatin1_aae02 {X : g_X} (hok : g_ok X) {k : Nat} (hk : k < 6) {M : g_M} : g_Con X yJ0_isLatin1_aae02 cJ0_isLatin1_aae02 1 (some .boolean) 0 0 [.inr (1000 + k)] M (1, M) := by
  refine g_con hok (plainFor_of_name (by decide +kernel)) (Nat.le_of_ble_eq_true rfl) (go_to (lv2 := [some (.inr (1000 + k))]) (own := RJ0) ?_ (And.intro rfl trivial))
  refine go_scomp (pc := 0) fs_38 dJ0_isLatin1_aae02_0 ?_
  refine go_if_eq (pc := 3) (tgt := 17) dJ0_isLatin1_aae02_3 (by decide) (fun e => absurd e (by decide)) (fun _ => ?_)
  refine go_aload_n (pc := 6) dJ0_isLatin1_aae02_6 rfl ?_
  refine go_scod (pc := 7) hk rfl fs_15 dJ0_isLatin1_aae02_7 ?_
  refine go_if_ne (pc := 10) (tgt := 17) dJ0_isLatin1_aae02_10 (by decide) (fun e => absurd rfl e) (fun _ => ?_)
  refine go_iconst (pc := 13) (v := 1) dJ0_isLatin1_aae02_13 (by decide) ?_
  refine go_goto (pc := 14) (tgt := 18) dJ0_isLatin1_aae02_14 (by decide) ?_
  exact go_iret (pc := 18) rfl rfl dJ0_isLatin1_aae02_18 rfl
set_option maxRecDepth 100000 in
theorem z_J0_coder_7d493 {X : g_X} (hok : g_ok X) {k : Nat} (hk : k < 6) {M : g_M} : g_Con X yJ0_coder_7d493 cJ0_coder_7d493 1 (some .byte) 0 0 [.inr (1000 + k)] M (0, M) := by
  refine g_con hok (plainFor_of_name (by decide +kernel)) (Nat.le_of_ble_eq_true rfl) (go_to (lv2 := [some (.inr (1000 + k))]) (own := RJ0) ?_ (And.intro rfl trivial))
  refine go_scomp (pc := 0) fs_38 dJ0_coder_7d493_0 ?_
  refine go_if_eq (pc := 3) (tgt := 13) dJ0_coder_7d493_3 (by decide) (fun e => absurd e (by decide)) (fun _ => ?_)
  refine go_aload_n (pc := 6) dJ0_coder_7d493_6 rfl ?_
  refine go_scod (pc := 7) hk rfl fs_15 dJ0_coder_7d493_7 ?_
  refine go_goto (pc := 10) (tgt := 14) dJ0_coder_7d493_10 (by decide) ?_
  exact go_iret (pc := 14) rfl rfl dJ0_coder_7d493_14 rfl
set_option maxRecDepth 100000 in
theorem z_J0_length_8abf5 {X : g_X} (hok : g_ok X) {k : Nat} (hk : k < 6) {M : g_M} : g_Con X yJ0_length_8abf5 cJ0_length_8abf5 1 (some .int) 1 20 [.inr (1000 + k)] M (nI (g_sl k), M) := by
  have e : nI (g_sl k) >>> ((0 : Int32) &&& 31) = nI (g_sl k) := by
    have : ∀ k, k < 6 → nI (g_sl k) >>> ((0 : Int32) &&& 31) = nI (g_sl k) := by decide +kernel
    exact this k hk
  refine g_con hok (plainFor_of_name (by decide +kernel)) (Nat.le_of_ble_eq_true rfl) (go_to (lv2 := [some (.inr (1000 + k))]) (own := RJ0) ?_ (And.intro rfl trivial))
  refine go_aload_n (pc := 0) dJ0_length_8abf5_0 rfl ?_
  refine go_sval (pc := 1) hk rfl fs_9 dJ0_length_8abf5_1 ?_
  refine go_slen (pc := 4) (n := g_sl k) hk rfl dJ0_length_8abf5_4 ?_
  refine go_aload_n (pc := 5) dJ0_length_8abf5_5 rfl ?_
  refine go_callVS (pc := 6) (as := []) (st := [.inl (nI (g_sl k))]) (r := 0) (M1 := M) hk (z_J0_coder_7d493 hok hk) cw_J0_coder_7d493 ml_J0_335 rfl (by decide) (Nat.le_of_ble_eq_true rfl) rfl dJ0_length_8abf5_6 ?_
  refine go_ishr (pc := 9) dJ0_length_8abf5_9 ?_
  exact go_iret (pc := 10) (by rw [e]) rfl dJ0_length_8abf5_10 rfl
def g_se (k : Nat) : Int32 := if g_sl k = 0 then 1 else 0
set_option maxRecDepth 100000 in
theorem z_J0_isEmpty_aae02 {X : g_X} (hok : g_ok X) {k : Nat} (hk : k < 6) {M : g_M} : g_Con X yJ0_isEmpty_aae02 cJ0_isEmpty_aae02 1 (some .boolean) 0 0 [.inr (1000 + k)] M (g_se k, M) := by
  have e : g_se k = if nI (g_sl k) = 0 then 1 else 0 := by
    have : ∀ k, k < 6 → g_se k = if nI (g_sl k) = 0 then 1 else 0 := by decide +kernel
    exact this k hk
  refine g_con hok (plainFor_of_name (by decide +kernel)) (Nat.le_of_ble_eq_true rfl) (go_to (lv2 := [some (.inr (1000 + k))]) (own := RJ0) ?_ (And.intro rfl trivial))
  refine go_aload_n (pc := 0) dJ0_isEmpty_aae02_0 rfl ?_
  refine go_sval (pc := 1) hk rfl fs_9 dJ0_isEmpty_aae02_1 ?_
  refine go_slen (pc := 4) (n := g_sl k) hk rfl dJ0_isEmpty_aae02_4 ?_
  refine go_if_ne (pc := 5) (tgt := 12) dJ0_isEmpty_aae02_5 (by decide) (fun c => ?_) (fun c => ?_)
  · refine go_iconst (pc := 12) (v := 0) dJ0_isEmpty_aae02_12 (by decide) ?_
    exact go_iret (pc := 13) (by rw [e, if_neg c]) rfl dJ0_isEmpty_aae02_13 rfl
  · refine go_iconst (pc := 8) (v := 1) dJ0_isEmpty_aae02_8 (by decide) ?_
    refine go_goto (pc := 9) (tgt := 13) dJ0_isEmpty_aae02_9 (by decide) ?_
    exact go_iret (pc := 13) (by rw [e, if_pos c]) rfl dJ0_isEmpty_aae02_13 rfl
set_option maxRecDepth 100000 in
theorem z_J0_charAt_5068e {X : g_X} (hok : g_ok X) {k : Nat} (hk : k < 6) {i : Int32} (hi : g_in i (g_sl k)) {M : g_M} : g_Con X yJ0_charAt_5068e cJ0_charAt_5068e 2 (some .char) 3 90 [.inr (1000 + k), .inl i] M (g_sc k i.toNatClampNeg, M) := by
  refine g_con hok (plainFor_of_name (by decide +kernel)) (Nat.le_of_ble_eq_true rfl) (go_to (lv2 := [some (.inr (1000 + k)), some (.inl i)]) (own := RJ0) ?_ (And.intro rfl (And.intro rfl trivial)))
  refine go_aload_n (pc := 0) dJ0_charAt_5068e_0 rfl ?_
  refine go_callVS (pc := 1) (as := []) (st := []) (r := 1) (M1 := M) hk (z_J0_isLatin1_aae02 hok hk) cw_J0_isLatin1_aae02 ml_J0_492 rfl (by decide) (Nat.le_of_ble_eq_true rfl) rfl dJ0_charAt_5068e_1 ?_
  refine go_if_eq (pc := 4) (tgt := 16) dJ0_charAt_5068e_4 (by decide) (fun e => absurd e (by decide)) (fun _ => ?_)
  refine go_aload_n (pc := 7) dJ0_charAt_5068e_7 rfl ?_
  refine go_sval (pc := 8) hk rfl fs_9 dJ0_charAt_5068e_8 ?_
  refine go_iload_n (pc := 11) dJ0_charAt_5068e_11 rfl ?_
  refine go_callS (pc := 12) (as := [.inr (2000 + k), .inl i]) (st := []) (r := g_sc k i.toNatClampNeg) (M1 := M) (z_J1_charAt_3b067 hok hk hi) cw_J1_charAt_3b067 ml_J0_495 (by decide) (Nat.le_of_ble_eq_true rfl) rfl dJ0_charAt_5068e_12 ?_
  exact go_iret (pc := 15) rfl rfl dJ0_charAt_5068e_15 (tx_c2 k hk _ hi.2).2
