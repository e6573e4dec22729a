/-! THE CLAIM OUT OF ONE WALK OF THE LAW'S BODY. Your part is whole_start (and what it stands on); all else here is the same for every law, but numbers. -/
def R_law : String := "HangsAtLowWaterLaw"
def lw_P (b : Addr) (xs : List Int32) (args : Array Value) (s : State) : Prop := args = #[.ref b] ∧ s.IntsAt b xs ∧ xs.length ≤ 2560 ∧ (Jvm.Cond.and given_1 narrow_1).before args s = true
def lw_Q (_ : Array Value) (s : State) (o : Outcome) (t : State) : Prop := o = .returned (some (.int 1)) ∧ Framed s o t [] 75 2526
def lw_Z (below : List Frame) (a : Array Value) (s : State) : State → Prop := fun t => ∃ o, t.status = .running ∧ Ended t below o ∧ lw_Q a s o t
/-- the law's own end, with 1 on the stack, nothing written that was there before, its room as the claim has it -/
theorem lw_ret {p : Program} {l : Launch} {e : Env} {s : State} {m : MethodId} {below : List Frame} {meth : Method} {c : Code} {b : Nat} (hx : p.tables.exec = Jvm.exec) (hb : c.code = code) (hr : meth.sig.returnType = ret) (hlocks : meth.locks = false) {pc : Nat} {H : Heap} {ls : Array Slot} (hdg : decode code pc = .ok (.ireturn, 1)) : W p l e room_1 s m #[Value.ref b] below meth c H [] 75 2526 (lw_Z below #[Value.ref b] s) (F0 m pc ls [.int 1]) := by
  intro T hT X
  obtain ⟨fs, hret, hrun, hended, hW, hframe⟩ := X.leave (v := some (.int 1)) (hlocks := hlocks) (fun h => by rw [hr] at h; cases h)
  have hmeth' : T.vm.method? m = some meth := X.method'
  refine ⟨T.setFrames fs, ?_, .returned (some (.int 1)), hrun, hended, rfl, ⟨_, rfl⟩, hW, hframe⟩
  jvm_step X.here [X.here.top, hx, hb, hdg, hmeth', hr, ret, narrow_b1]
  (try refine ⟨rfl, ?_⟩); (try refine ⟨rfl, ?_⟩)
  first | (intro acts; rw [hret _ acts rfl rfl rfl]) | rw [hret _ _ rfl rfl rfl]
  exact Steps.refl _
/-- what holds at the law's entry: the machine, the code, the tables' words (any of lw_tbl by 'hts w (by decide +kernel)'), the script of L ints xs at the cell b, what the Statement gives of the start (any of its parts by flat_of_before) -/
def lw_At (p : Program) (s : State) (m : MethodId) (meth : Method) (c : Code) (b L : Nat) (xs : Nat → Int32) : Prop :=
  p.tables.exec = Jvm.exec ∧ c.code = code ∧ meth.sig.returnType = ret ∧ c.maxLocals = 4 ∧ s.vm.findClass R_law = some m.cls ∧ (∀ w ∈ lw_tbl, w.before #[Value.ref b] s = true) ∧ va_X b L xs s s.heap ∧ b < s.heap.size ∧ meth.locks = false ∧ (Jvm.Cond.and given_1 narrow_1).before #[Value.ref b] s = true
/-! the texts' premises -/
def st_ix (i : Nat) : Nat := (g_tx.getD i (0, "")).1
def st_tm (i : Nat) : Term := .string "HangsAtLowWater$Letters" (st_ix i)
def st_fl : List Cond := flatC (Jvm.Cond.and given_1 narrow_1)
theorem st_ex : ∀ i, i < 6 → Cond.exactly (st_tm i) "java/lang/String" ∈ st_fl := by decide +kernel
theorem st_co : ∀ i, i < 6 → Cond.eq (.field (st_tm i) "java/lang/String" "coder" "B") (.int 0) ∈ st_fl := by decide +kernel
theorem st_ar : ∀ i, i < 6 → Cond.arrayOf (.field (st_tm i) "java/lang/String" "value" "[B") .byte ∈ st_fl := by decide +kernel
theorem st_len0 : ∀ i, i < 6 → Cond.eq (.length (.field (st_tm i) "java/lang/String" "value" "[B")) (.int (Int32.ofNat (g_lens.getD i 0))) ∈ st_fl := by decide +kernel
theorem st_el : ∀ i, i < 6 → ∀ j, j < g_lens.getD i 0 → Cond.eq (.elem (.field (st_tm i) "java/lang/String" "value" "[B") (.int (Int32.ofNat j))) (.int ((g_byts.getD i []).getD j 0)) ∈ st_fl := by decide +kernel
theorem st_ne : ∀ i, i < 6 → ∀ j, j < 6 → i ≠ j → (Cond.not (Cond.eq (st_tm i) (st_tm j)) ∈ st_fl ∨ Cond.not (Cond.eq (st_tm j) (st_tm i)) ∈ st_fl) := by decide +kernel
theorem st_cs : Cond.eq (.static "java/lang/String" "COMPACT_STRINGS" "Z") (.int 1) ∈ st_fl := by decide +kernel
theorem st_si : Cond.isRef (.static "jdk/internal/util/Preconditions" "SIOOBE_FORMATTER" "Ljava/util/function/BiFunction;") ∈ st_fl := by decide +kernel
theorem st_sr : ∀ q ∈ g_tx, Cond.stringRef RX3 q.1 q.2 ∈ lw_tbl := by decide +kernel
theorem st_nest : ∀ w ∈ g_nest, w ∈ lw_tbl := by decide +kernel
theorem st_ls1 : Cond.laysStatic "java/lang/String" "COMPACT_STRINGS" "Z" ∈ lw_tbl := by decide +kernel
theorem st_ls2 : Cond.laysStatic "jdk/internal/util/Preconditions" "SIOOBE_FORMATTER" "Ljava/util/function/BiFunction;" ∈ lw_tbl := by decide +kernel
theorem st_in1 : Cond.initialized "java/lang/String" ∈ lw_tbl := by decide +kernel
theorem st_in2 : Cond.initialized "jdk/internal/util/Preconditions" ∈ lw_tbl := by decide +kernel
theorem st_arr : Cond.arrayClass .int ∈ lw_tbl := by decide +kernel
theorem st_inst0 : Cond.instantiable RX0 5 ∈ lw_tbl := by decide +kernel
theorem st_inst1 : Cond.instantiable RX1 7 ∈ lw_tbl := by decide +kernel
theorem st_inst2 : Cond.instantiable RX2 12 ∈ lw_tbl := by decide +kernel
theorem st_inst3 : Cond.instantiable RX3 2 ∈ lw_tbl := by decide +kernel
theorem st_inst4 : Cond.instantiable RX4 4 ∈ lw_tbl := by decide +kernel
theorem st_inst5 : Cond.instantiable RX5 9 ∈ lw_tbl := by decide +kernel
theorem st_inst6 : Cond.instantiable RX6 2 ∈ lw_tbl := by decide +kernel
theorem st_inst7 : Cond.instantiable RX7 3 ∈ lw_tbl := by decide +kernel
theorem st_inst8 : Cond.instantiable RX8 14 ∈ lw_tbl := by decide +kernel
theorem st_inst9 : Cond.instantiable RX9 46 ∈ lw_tbl := by decide +kernel
theorem st_W {w : Cond} (h : w ∈ g_W) : w ∈ lw_tbl := (List.mem_filter.mp h).1
def st_LX : List h_L := [.inr (8, [some (some (0 + 1)), some (some (0 + 7)), some (some (0 + 13)), none, some (some (0 + 19)), some (some (0 + 21)), some (some (0 + 23)), some (some (0 + 26)), some (some (0 + 27)), some (some (0 + 28)), some (some (0 + 29)), some (some (0 + 34)), some (some (0 + 37)), some (some (0 + 40))]), .inr (2, [some (some (0 + 1 + 1)), some (some (0 + 1 + 2)), some (some (0 + 1 + 3)), some (some (0 + 1 + 4)), some (some (0 + 1 + 5)), none, none, none, none, none, none, none]), .inl 12, .inl 12, .inl 12, .inl 35, .inl 6, .inr (2, [some (some (0 + 7 + 1)), some (some (0 + 7 + 2)), some (some (0 + 7 + 3)), some (some (0 + 7 + 4)), some (some (0 + 7 + 5)), none, none, none, none, none, none, none]), .inl 12, .inl 12, .inl 12, .inl 35, .inl 6, .inr (2, [some (some (0 + 13 + 1)), some (some (0 + 13 + 2)), some (some (0 + 13 + 3)), some (some (0 + 13 + 4)), some (some (0 + 13 + 5)), none, none, none, none, none, none, none]), .inl 12, .inl 12, .inl 12, .inl 35, .inl 6, .inr (3, [some (some (0 + 19 + 1)), none]), .inl 96, .inr (6, [some (some (0 + 21 + 1)), none]), .inl 12, .inr (7, [some (some (0 + 23 + 1)), some (some (0 + 23 + 2)), none]), .inl 8, .inl 8, .inl 7, .inr (5, [none, none, none, none, none, none, none, none, none]), .inr (5, [none, none, none, none, none, none, none, none, none]), .inr (4, [some (some (0 + 29 + 1)), some (some (0 + 29 + 2)), some (some (0 + 29 + 3)), some (some (0 + 29 + 4))]), .inl 12, .inl 12, .inl 400, .inl 4, .inr (0, [some (some (0 + 34 + 1)), some (some (0 + 34 + 2)), none, none, none]), .inl 30, .inl 384, .inr (1, [some (some (0 + 37 + 1)), some (some (0 + 37 + 2)), none, none, none, none, none]), .inl 25, .inl 25, .inl 5]
def st_LM : List h_L := st_LX ++ [.inr (9, [some (some (41 + 1)), some (some (41 + 2)), some (some (41 + 3)), some (some (41 + 4)), some (some (41 + 5)), some (some (41 + 6)), some (some (41 + 7)), some (some (41 + 8)), some (some (41 + 9)), some (some (41 + 10)), some (some (41 + 11)), some (some (41 + 12)), some (some (41 + 13)), some (some (41 + 14)), some (some (41 + 15)), none, none, none, none, none, some (some (41 + 16)), some (some (41 + 17)), some (some (41 + 18)), some (some (41 + 19)), none, none, none, some (some (41 + 20)), none, none, none, some (some (41 + 21)), some (some (41 + 22)), none, some (some (41 + 23)), some (some (41 + 24)), some (some (41 + 25)), none, some (some (41 + 26)), some (some (41 + 27)), some (some (41 + 28)), some (some (41 + 29)), some (some (41 + 30)), some (some (41 + 31)), some (some (41 + 32)), some (some (41 + 33))]), .inl 7, .inl 12, .inl 12, .inl 6, .inl 6, .inl 2, .inl 5, .inl 5, .inl 5, .inl 5, .inl 5, .inl 5, .inl 5, .inl 3, .inl 3, .inl 96, .inl 48, .inl 48, .inl 336, .inl 180, .inl 8, .inl 8, .inl 12, .inl 5, .inl 5, .inl 5, .inl 5, .inl 30, .inl 12, .inl 144, .inl 52, .inl 25, .inl 25]
def st_of : Nat ⊕ (Nat × List (Option Nat)) → h_L
  | .inl n => .inl n
  | .inr o => .inr (o.1, o.2.map fun x => match x with
    | some q => some (some q)
    | none => none)
theorem st_lay : st_LM = g_lay.map st_of := by decide +kernel
theorem st_enc (X : g_X) (M : g_M) : h_enc X st_LM M = g_enc X M := by
  rw [st_lay]
  unfold h_enc g_enc
  apply List.ext_getElem?
  intro j
  rw [List.getElem?_map, List.getElem?_map, List.getElem?_zipIdx, List.getElem?_zipIdx, List.getElem?_map]
  cases g_lay[j]? with
  | none => rfl
  | some e =>
    simp only [Option.map_some, Nat.zero_add]
    congr 2
    cases e with
    | inl n => rfl
    | inr o =>
      obtain ⟨ci, rf⟩ := o
      simp only [st_of, h_encE, g_encE]
      congr 2
      apply List.ext_getElem?
      intro k
      rw [List.getElem?_map, List.getElem?_map, List.getElem?_zipIdx, List.getElem?_zipIdx, List.getElem?_map]
      cases rf[k]? with
      | none => rfl
      | some x => cases x <;> rfl
def st_M0 : g_M := fun _ _ => 0
def st_M1 : g_M := h_MM (h_MC st_M0 0) 41
theorem st_z : ∀ j, 41 ≤ j → h_MC st_M0 0 j = fun _ => 0 := fun j hj => by
  unfold h_MC
  rw [g_upd_ne (by omega)]
  exact h_MH_hi (fun j hj => h_MH_hi (fun j hj => h_MH_hi (fun j _ => rfl) j (by omega)) j (by omega)) j (by omega)
set_option maxHeartbeats 8000000 in
set_option maxRecDepth 100000 in
/-- the walk of the law's body, with its pure part as a hypothesis -/
theorem start_open (hpure : ∀ (L : Nat) (xs : Nat → Int32), L ≤ 2560 → ∃ M' : g_M, x_L_law_L18 L xs g_F 0 st_M1 = some (1, M')) {p : Program} {e : Env} {s : State} {m : MethodId} {below : List Frame} {meth : Method} {c : Code} (l : Launch) {b L : Nat} {xs : Nat → Int32} (hL : L ≤ 2560) (C0 : lw_At p s m meth c b L xs) : W p l e room_1 s m #[Value.ref b] below meth c s.heap [] 0 0 (lw_Z below #[Value.ref b] s) (entryFrame m ([Value.ref b] : List Value).toArray 4) := by
  obtain ⟨hx, hb, hr, hml, hown, hts, hX0, hbl, hlocks, hgv⟩ := id C0
  have hs : ∀ c ∈ st_fl, c.before #[Value.ref b] s = true := flat_of_before _ hgv
  have hw : ∀ w ∈ g_W, w.before #[Value.ref b] s = true := fun w h => hts w (st_W h)
  obtain ⟨c0, i0, n0⟩ := u_known (C := RX0) (T := TX0) (N := 5) (n := 5) hw g_hin0 (hts _ st_inst0)
  obtain ⟨c1, i1, n1⟩ := u_known (C := RX1) (T := TX1) (N := 7) (n := 7) hw g_hin1 (hts _ st_inst1)
  obtain ⟨c2, i2, n2⟩ := u_known (C := RX2) (T := TX2) (N := 12) (n := 12) hw g_hin2 (hts _ st_inst2)
  obtain ⟨c3, i3, n3⟩ := u_known (C := RX3) (T := TX3) (N := 2) (n := 2) hw g_hin3 (hts _ st_inst3)
  obtain ⟨c4, i4, n4⟩ := u_known (C := RX4) (T := TX4) (N := 4) (n := 4) hw g_hin4 (hts _ st_inst4)
  obtain ⟨c5, i5, n5⟩ := u_known (C := RX5) (T := TX5) (N := 9) (n := 9) hw g_hin5 (hts _ st_inst5)
  obtain ⟨c6, i6, n6⟩ := u_known (C := RX6) (T := TX6) (N := 2) (n := 2) hw g_hin6 (hts _ st_inst6)
  obtain ⟨c7, i7, n7⟩ := u_known (C := RX7) (T := TX7) (N := 3) (n := 3) hw g_hin7 (hts _ st_inst7)
  obtain ⟨c8, i8, n8⟩ := u_known (C := RX8) (T := TX8) (N := 14) (n := 14) hw g_hin8 (hts _ st_inst8)
  obtain ⟨c9, i9, n9⟩ := u_known (C := RX9) (T := TX9) (N := 46) (n := 46) hw g_hin9 (hts _ st_inst9)
  obtain ⟨dC, dI, hKc⟩ : ∃ (dC : Nat → ClassId) (dI : Nat → Nat → Nat), ∀ (k : Nat) (q : vw_C), vwCl[k]? = some q → u_Kn s q.1 q.2.1 q.2.2 (dC k) (dI k) := by
    refine ⟨fun k => [c0, c1, c2, c3, c4, c5, c6, c7, c8, c9].getD k 0, fun k => [i0, i1, i2, i3, i4, i5, i6, i7, i8, i9].getD k (fun _ => 0), ?_⟩
    intro k q hq
    match k, hq with
    | 0, hq => cases hq; exact n0
    | 1, hq => cases hq; exact n1
    | 2, hq => cases hq; exact n2
    | 3, hq => cases hq; exact n3
    | 4, hq => cases hq; exact n4
    | 5, hq => cases hq; exact n5
    | 6, hq => cases hq; exact n6
    | 7, hq => cases hq; exact n7
    | 8, hq => cases hq; exact n8
    | 9, hq => cases hq; exact n9
    | k + 10, hq => simp [vwCl] at hq
  obtain ⟨cA, kA, comp, g1, g2, g3⟩ := Cond.arrayClass_spec (hts _ st_arr)
  have hA0 : ∀ a : Nat, a < s.heap.size → ¬ (fun q : Nat => s.heap.size ≤ q) a := fun a h1 h2 => absurd h1 (Nat.not_lt.mpr h2)
  obtain ⟨adK, adV, hV, hVe⟩ := vk_Sof (args := #[Value.ref b]) (s := s) (N := 6) (tm := st_tm) (len := g_lens) (byt := g_byts) (A := fun q : Nat => s.heap.size ≤ q) (by decide +kernel) (fun i h => hs _ (st_ex i h)) (fun i h => hs _ (st_co i h)) (fun i h => hs _ (st_ar i h)) (fun i h => hs _ (st_len0 i h)) (fun i h j hj => hs _ (st_el i h j hj)) (fun i j hi hj hij => (st_ne i hi j hj hij).imp (fun h => hs _ h) (fun h => hs _ h)) hA0
  have hZ1 := va_Zof (v := .int 1) (A := fun q : Nat => s.heap.size ≤ q) (hts _ st_ls1) (hts _ st_in1) (va_eqt (hs _ st_cs)) hA0
  have hZ2 := va_Zqof (A := fun q : Nat => s.heap.size ≤ q) (hts _ st_ls2) (hts _ st_in2) (hs _ st_si) hA0
  obtain ⟨ad, ead⟩ : ∃ ad : Nat → Nat, ad = fun k => if k < 75 then s.heap.size + k else if k < 2000 then adK (k - 1000) else if k < 5000 then adV (k - 2000) else b := ⟨_, rfl⟩
  have ad0 : ∀ k, k < 75 → ad k = s.heap.size + k := fun k hk => by rw [ead]; exact if_pos hk
  have ad1 : ∀ k, k < 6 → ad (1000 + k) = adK k := fun k hk => by
    rw [ead]
    show (if 1000 + k < 75 then _ else if 1000 + k < 2000 then adK (1000 + k - 1000) else _) = _
    rw [if_neg (by omega), if_pos (by omega), Nat.add_sub_cancel_left]
  have ad2 : ∀ k, k < 6 → ad (2000 + k) = adV k := fun k hk => by
    rw [ead]
    show (if 2000 + k < 75 then _ else if 2000 + k < 2000 then _ else if 2000 + k < 5000 then adV (2000 + k - 2000) else _) = _
    rw [if_neg (by omega), if_neg (by omega), if_pos (by omega), Nat.add_sub_cancel_left]
  have ad5 : ad 5000 = b := by rw [ead]; rfl
  obtain ⟨X, eX⟩ : ∃ X : g_X, X = (l, (dC, dI), ad, cA, L, xs) := ⟨_, rfl⟩
  have xad : X.2.2.1 = ad := by rw [eX]
  have hX : h_ad X s.heap.size := fun k hk => by rw [xad]; exact ad0 k hk
  have hok : g_ok X := fun i j hi hj h => by
    have hi : i < 75 := hi
    have hj : j < 75 := hj
    rw [hX i hi, hX j hj] at h
    omega
  have hAX : ∀ q, g_A X q → s.heap.size ≤ q := fun q h => by
    obtain ⟨k, hk, e⟩ := h
    have hk : k < 75 := hk
    rw [e, hX k hk]
    exact Nat.le_add_right _ _
  have hSt : g_St X s s.heap := by
    refine ⟨⟨fun i hi => ?_, fun i j hi hj h => ?_⟩, fun i q hq => ?_, hZ1.narrow hAX, hZ2.narrow hAX, ?_, ?_, ?_⟩
    · show va_O _ (X.2.2.1 (1000 + i)) _ _ _ ∧ va_OF _ _ _ _ (X.2.2.1 (1000 + i)) _ _ _ ∧ va_OF _ _ _ (.ref (X.2.2.1 (2000 + i))) (X.2.2.1 (1000 + i)) _ _ _ ∧ va_T _ (X.2.2.1 (2000 + i)) _ _ _ _ _
      rw [xad, ad1 i hi, ad2 i hi]
      exact (hV.narrow hAX).1 i hi
    · have h : X.2.2.1 (1000 + i) = X.2.2.1 (1000 + j) := h
      rw [xad, ad1 i hi, ad1 j hj] at h
      exact hV.2 i j hi hj h
    · have hi : i < 6 := (List.getElem?_eq_some_iff.mp hq).1
      rw [xad, ad1 i hi]
      refine vk_R.of (hts _ (st_sr q (List.mem_of_getElem? hq))) ?_
      have h1 := hVe i hi
      have h2 : st_tm i = .string RX3 q.1 := by
        unfold st_tm st_ix
        rw [List.getD_eq_getElem?_getD, hq]
        rfl
      rw [h2] at h1
      exact h1
    · rw [xad, ad5, eX]
      exact hX0
    · rw [xad, ad5]
      exact hbl
    · rw [xad, ad5]
      exact fun h => absurd (hAX _ h) (Nat.not_le.mpr hbl)
  have hK : g_K X s := by
    refine ⟨⟨?_, fun k q hq => ?_⟩, fun w hw => ?_⟩
    · rw [eX]
      exact hKc
    · match k, hq with
      | 0, hq =>
        cases hq
        rw [eX]
        exact ⟨fun n z => ⟨fun k h => (by cases h), kA, g2, comp, g3⟩, g1⟩
      | k + 1, hq => simp at hq
    · have h1 := hts w (st_nest w hw)
      rcases g_nest_ok hw with ⟨a, i, b, n, d, g, rfl⟩ | ⟨a, i, x, g, rfl⟩
      · exact va_Nw.of rfl h1
      · exact va_Nw.of rfl h1
  have xl : X.1 = l := by rw [eX]
  have F : h_Fix X s.heap.size p s m #[Value.ref b] c code RL 4 := ⟨hx, hb, hml, hown, hw, hK, hX, Nat.le_refl _⟩
  have I : h_In X s.heap.size [] st_M0 s s.heap [] := ⟨fun k q h => by simp [h_enc] at h, rfl, va_S.rf, by decide⟩
  have hl := lv_entry ([.ref b]) (n := 4) (Nat.le_of_ble_eq_true rfl)
  rw [lg_entry_eq]
  generalize (lg_sl ([.ref b]) ++ List.replicate (4 - (lg_sl ([.ref b])).length) Slot.unset).toArray = ls at hl ⊢
  have hl : lv_has ls 4 [(0, .ref b)] := hl
  rw [← xl]
  refine h_new F I (C := RX8) (T := TX8) (N := 14) (ci := 8) (q' := 0) (L' := [.inr (8, [some none, some none, some none, none, some none, some none, some none, some none, some none, some none, some none, some none, some none, some none])]) g_hin8 tyX8 tyX8_ok (by decide +kernel) (g_W1 19 (by decide +kernel) rfl) (g_W1 20 (by decide +kernel) rfl) (g_W1 1 (by decide +kernel) rfl) rfl (by decide +kernel) rfl (rfl) (by decide) (Nat.le_of_ble_eq_true rfl) (Nat.le_of_ble_eq_true rfl) dL_law_0 (fun H I => ?_)
  refine lv_dup hx hb dL_law_3 rfl ?_
  have k0 := k_X8_init hX (L0 := []) (M := st_M0) (q := 0) rfl (by decide) (fun j _ => rfl)
  refine h_callI F I (q := 0) (L' := st_LX) (M' := (h_MC st_M0 0)) k0 (g_W1 21 (by decide +kernel) rfl) (g_W1 22 (by decide +kernel) rfl) (g_W1 1 (by decide +kernel) rfl) (g_W1 23 rfl rfl) (by decide +kernel) rfl hl.1 ⟨Nat.le_of_ble_eq_true rfl, Nat.le_of_ble_eq_true rfl⟩ (Nat.le_of_ble_eq_true rfl) ⟨Nat.le_of_ble_eq_true rfl, Nat.le_of_ble_eq_true rfl⟩ (by decide +kernel) dL_law_4 (fun H locs I => ?_)
  refine lv_astore_n (lv' := [(1, .ref (X.2.2.1 0)), (0, .ref b)]) hx hb dL_law_7 rfl hl (by decide) rfl (fun ls hl => ?_)
  refine h_new F I (C := RX9) (T := TX9) (N := 46) (ci := 9) (q' := 41) (L' := st_LX ++ [.inr (9, [some none, some none, some none, some none, some none, some none, some none, some none, some none, some none, some none, some none, some none, some none, some none, none, none, none, none, none, some none, some none, some none, some none, none, none, none, some none, none, none, none, some none, some none, none, some none, some none, some none, none, some none, some none, some none, some none, some none, some none, some none, some none])]) g_hin9 tyX9 tyX9_ok (by decide +kernel) (g_W5 45 (by decide +kernel) rfl) (g_W5 46 (by decide +kernel) rfl) (g_W1 11 (by decide +kernel) rfl) rfl (by decide +kernel) rfl (st_z 41 (Nat.le_refl _)) (by decide) (Nat.le_of_ble_eq_true rfl) (Nat.le_of_ble_eq_true rfl) dL_law_8 (fun H I => ?_)
  refine lv_dup hx hb dL_law_11 rfl ?_
  have k0 := k_X9_init hX (L0 := st_LX) (M := h_MC st_M0 0) (q := 41) (by decide +kernel) (by decide) st_z
  refine h_callI F I (q := 41) (L' := st_LM) (M' := st_M1) k0 (g_W5 47 (by decide +kernel) rfl) (g_W5 48 (by decide +kernel) rfl) (g_W1 11 (by decide +kernel) rfl) (g_W5 49 rfl rfl) (by decide +kernel) rfl hl.1 ⟨Nat.le_of_ble_eq_true rfl, Nat.le_of_ble_eq_true rfl⟩ (Nat.le_of_ble_eq_true rfl) ⟨Nat.le_of_ble_eq_true rfl, Nat.le_of_ble_eq_true rfl⟩ (by decide +kernel) dL_law_12 (fun H locs I => ?_)
  refine lv_astore_n (lv' := [(2, .ref (X.2.2.1 41)), (1, .ref (X.2.2.1 0)), (0, .ref b)]) hx hb dL_law_15 rfl hl (by decide) rfl (fun ls hl => ?_)
  refine lv_iconst (v := 0) hx hb dL_law_16 (by decide) ?_
  refine lv_istore_n (lv' := [(3, .int 0), (2, .ref (X.2.2.1 41)), (1, .ref (X.2.2.1 0)), (0, .ref b)]) hx hb dL_law_17 rfl hl (by decide) rfl (fun ls hl => ?_)
  obtain ⟨M', hM'⟩ := hpure L xs hL
  have G := z_L_law_L18 (X := X) hok (n0 := L) (xs0 := xs) (by rw [eX]) (by rw [eX]) g_F 0 st_M1 hM'
  refine va_forget (fun q hq => I.2.2.1.2.2 q hq) ?_
  have hP : g_P X st_M1 H := by
    unfold g_P
    rw [← st_enc]
    exact I.1
  refine G p e room_1 s m #[Value.ref b] below meth c H [] _ _ (lw_Z below #[Value.ref b] s) ls ⟨hx, hb, hml, hown, hw, hK, Nat.le_of_ble_eq_true rfl, Nat.le_of_ble_eq_true rfl, Nat.le_of_ble_eq_true rfl, Nat.le_of_ble_eq_true rfl, hok, hSt⟩ hP ⟨I.2.2.1.1, fun q h1 h2 => I.2.2.1.2.1 q h1 (Nat.not_le.mpr h1), fun q h => by cases h⟩ ?_ ?_
  · refine ⟨hl.1, hl.2.1, fun q hq => ?_⟩
    obtain ⟨v, h1, h2⟩ := g_al_mem.mp hq
    obtain ⟨k, w⟩ := q
    match k, h1 with
    | 0, h1 =>
      cases h1
      refine hl.2.2 (0, w) ?_
      have h2 : w = .ref (X.2.2.1 5000) := h2
      rw [h2, xad, ad5]
      simp
    | 1, h1 =>
      cases h1
      refine hl.2.2 (1, w) ?_
      have h2 : w = .ref (X.2.2.1 0) := h2
      rw [h2]
      simp
    | 2, h1 =>
      cases h1
      refine hl.2.2 (2, w) ?_
      have h2 : w = .ref (X.2.2.1 41) := h2
      rw [h2]
      simp
    | 3, h1 =>
      cases h1
      refine hl.2.2 (3, w) ?_
      have h2 : w = .int 0 := h2
      rw [h2]
      simp
    | k + 4, h1 => simp at h1
  · intro pc' H' locs' ls' hP' hS' hend
    refine va_forget (fun q hq => hAX _ (hS'.2.2 q hq)) ?_
    rw [xl]
    exact lw_ret hx hb hr hlocks hend.1
-- then: whole_start out of start_open and the pure part, and the skeleton's end
