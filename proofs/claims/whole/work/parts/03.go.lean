/-! the abstract machine: memory, layout, worlds -/
abbrev g_V : Type := Int32 ⊕ Nat
abbrev g_M : Type := Nat → Nat → Int32
abbrev g_L : Type := Nat ⊕ (Nat × List (Option Nat))
/-- the launch, the tables' numbers, the addresses, the int arrays' class, what the heap holds besides -/
abbrev g_X : Type := Launch × va_G × (Nat → Nat) × ClassId × Nat × (Nat → Int32)
def g_tr (X : g_X) : g_V → Value
  | .inl x => .int x
  | .inr q => .ref (X.2.2.1 q)
theorem g_tr_cat (X : g_X) (v : g_V) : (g_tr X v).category = 1 := by cases v <;> rfl
def g_upd (M : g_M) (c i : Nat) (v : Int32) : g_M := fun q => if q = c then upd (M q) i v else M q
theorem g_upd_at (M : g_M) (c i : Nat) (v : Int32) : g_upd M c i v c = upd (M c) i v := if_pos rfl
theorem g_upd_ne {M : g_M} {c i : Nat} {v : Int32} {q : Nat} (h : q ≠ c) : g_upd M c i v q = M q := if_neg h
theorem g_upd_get (M : g_M) (c i : Nat) (v : Int32) (q j : Nat) : g_upd M c i v q j = if q = c ∧ j = i then v else M q j := by
  unfold g_upd upd
  by_cases h : q = c
  · by_cases h2 : j = i
    · simp [h, h2]
    · simp [h, h2]
  · simp [h]
def g_encE (X : g_X) (f : Nat → Int32) : g_L → va_E
  | .inl n => .inl (X.2.2.2.1, n, .inl f)
  | .inr o => .inr (o.1, o.2.zipIdx.map fun x => match x.1 with
    | some q => Value.ref (X.2.2.1 q)
    | none => Value.int (f x.2))
def g_enc (X : g_X) (M : g_M) : va_W := g_lay.zipIdx.map fun x => (X.2.2.1 x.2, g_encE X (M x.2) x.1)
theorem g_enc_at {X : g_X} {M : g_M} {c : Nat} {L : g_L} (h : g_lay[c]? = some L) : (g_enc X M)[c]? = some (X.2.2.1 c, g_encE X (M c) L) := by
  simp [g_enc, h]
theorem g_enc_len (X : g_X) (M : g_M) : (g_enc X M).length = g_lay.length := by simp [g_enc]
theorem g_enc_get {X : g_X} {M : g_M} {c : Nat} {q : Nat × va_E} (h : (g_enc X M)[c]? = some q) : c < g_lay.length ∧ q.1 = X.2.2.1 c := by
  have hl : c < g_lay.length := by
    rw [← g_enc_len X M]
    exact (List.getElem?_eq_some_iff.mp h).1
  refine ⟨hl, ?_⟩
  rw [g_enc_at (List.getElem?_eq_getElem hl)] at h
  cases h
  rfl
theorem g_enc_set {X : g_X} {M M' : g_M} {c : Nat} {L : g_L} (h : g_lay[c]? = some L) (hM : ∀ q, q ≠ c → M' q = M q) : (g_enc X M).set c (X.2.2.1 c, g_encE X (M' c) L) = g_enc X M' := by
  have hl : c < (g_enc X M).length := by
    rw [g_enc_len]
    exact (List.getElem?_eq_some_iff.mp h).1
  apply List.ext_getElem?
  intro k
  by_cases hk : k = c
  · subst hk
    rw [List.getElem?_set_self hl, g_enc_at h]
  · rw [List.getElem?_set_ne (Ne.symm hk)]
    simp only [g_enc, List.getElem?_map, List.getElem?_zipIdx]
    cases g_lay[k]? with
    | none => rfl
    | some L => simp [hM k hk]
def g_P (X : g_X) (M : g_M) (H : Heap) : Prop := va_P X.2.1 vwCl (g_enc X M) H
def g_A (X : g_X) : Nat → Prop := fun q => ∃ c, c < g_lay.length ∧ q = X.2.2.1 c
/-- the addresses are apart -/
def g_ok (X : g_X) : Prop := ∀ i j, i < g_lay.length → j < g_lay.length → X.2.2.1 i = X.2.2.1 j → i = j
theorem g_D {X : g_X} (h : g_ok X) (M : g_M) : va_D (g_A X) (g_enc X M) := by
  refine ⟨fun i j p q hi hj hpq => ?_, fun k q hk => ?_⟩
  · obtain ⟨li, ei⟩ := g_enc_get hi
    obtain ⟨lj, ej⟩ := g_enc_get hj
    exact h i j li lj (by rw [← ei, ← ej, hpq])
  · obtain ⟨lk, ek⟩ := g_enc_get hk
    exact ⟨k, lk, ek⟩
def g_W : List Cond := lw_tbl.filter goodWord
theorem g_Win {w : Cond} (i : Nat) (h : lw_tbl[i]? = some w) (hg : goodWord w = true) : w ∈ g_W := List.mem_filter.mpr ⟨List.mem_of_getElem? h, hg⟩
def g_K (X : g_X) (U : State) : Prop := va_K X.2.1 vwCl [(X.2.2.2.1, .int)] U ∧ ∀ w ∈ g_nest, va_Nw w U
theorem g_nest_ok {w : Cond} (h : w ∈ g_nest) : (∃ a i b n d h, w = .fieldLinkNest a i b n d h) ∨ ∃ a i x h, w = .methodLinkNest a i x h := by
  have h2 : ∀ w ∈ g_nest, g_isNest w = true := by decide +kernel
  have h1 := h2 w h
  unfold g_isNest at h1
  split at h1
  · exact Or.inl ⟨_, _, _, _, _, _, rfl⟩
  · exact Or.inr ⟨_, _, _, _, rfl⟩
  · cases h1
theorem g_K.warm {X : g_X} {s U : State} (hW : s.WarmedH U.vm) (h : g_K X s) : g_K X U := by
  refine ⟨va_K.moved hW.alike h.1, fun w hw => ?_⟩
  rcases g_nest_ok hw with ⟨a, i, b, n, d, g, rfl⟩ | ⟨a, i, x, g, rfl⟩
  · exact va_Nw.warmF hW (h.2 _ hw)
  · exact va_Nw.warmM hW (h.2 _ hw)
theorem g_K.same {X : g_X} {u U : State} (hvm : u.vm = U.vm) (h : g_K X u) : g_K X U := by
  refine ⟨va_K.moved (hvm ▸ Vm.Alike.refl u.vm) h.1, fun w hw => ?_⟩
  rcases g_nest_ok hw with ⟨a, i, b, n, d, g, rfl⟩ | ⟨a, i, x, g, rfl⟩
  · exact va_Nw.same rfl hvm (h.2 _ hw)
  · exact va_Nw.same rfl hvm (h.2 _ hw)
/-! the texts that the heap holds besides, and what the statics hold -/
def g_lens : List Nat := [5, 5, 11, 4, 3, 0]
def g_byts : List (List Int32) := [[35, 35, 35, 35, 59], [35, 35, 43, 35, 59], [35, 35, 35, 35, 35, 35, 35, 35, 35, 35, 59], [35, 35, 35, 59], [35, 35, 59], []]
def g_tx : List (Nat × String) := [(19, "####;"), (21, "##+#;"), (23, "##########;"), (25, "###;"), (27, "##;"), (29, "")]
def g_St (X : g_X) (U : State) (H : Heap) : Prop := vk_S 6 g_lens g_byts (fun i => X.2.2.1 (1000 + i)) (fun i => X.2.2.1 (2000 + i)) (g_A X) U H ∧ (∀ (i : Nat) (q : Nat × String), g_tx[i]? = some q → vk_R RX3 q.1 q.2 (X.2.2.1 (1000 + i)) U) ∧ va_Z "java/lang/String" "COMPACT_STRINGS" "Z" (.int 1) (g_A X) U H ∧ va_Zq "jdk/internal/util/Preconditions" "SIOOBE_FORMATTER" "Ljava/util/function/BiFunction;" (g_A X) U H ∧ va_X (X.2.2.1 5000) X.2.2.2.2.1 X.2.2.2.2.2 U H ∧ X.2.2.1 5000 < H.size ∧ ¬ g_A X (X.2.2.1 5000)
theorem g_St.kept {X : g_X} {U : State} {H H1 : Heap} (h : g_St X U H) (hz : H.size ≤ H1.size) (hq : ∀ a : Nat, a < H.size → ¬ g_A X a → H1[a]? = H[a]?) : g_St X U H1 := ⟨h.1.kept hq, h.2.1, h.2.2.1.kept hq, h.2.2.2.1.kept hq, h.2.2.2.2.1.kept (hq _ h.2.2.2.2.2.1 h.2.2.2.2.2.2), Nat.lt_of_lt_of_le h.2.2.2.2.2.1 hz, h.2.2.2.2.2.2⟩
theorem g_St.warm {X : g_X} {s U : State} {H : Heap} (hW : s.WarmedH U.vm) (h : g_St X s H) : g_St X U H := ⟨vk_S.moved hW.alike h.1, fun i q hq => vk_R.warm hW (h.2.1 i q hq), va_Z.moved hW.alike h.2.2.1, va_Zq.moved hW.alike h.2.2.2.1, va_X.moved hW.alike h.2.2.2.2.1, h.2.2.2.2.2⟩
theorem g_St.same {X : g_X} {u U : State} {H : Heap} (hvm : u.vm = U.vm) (h : g_St X u H) : g_St X U H := ⟨vk_S.moved (hvm ▸ Vm.Alike.refl u.vm) h.1, fun i q hq => vk_R.same hvm.symm (h.2.1 i q hq), va_Z.moved (hvm ▸ Vm.Alike.refl u.vm) h.2.2.1, va_Zq.moved (hvm ▸ Vm.Alike.refl u.vm) h.2.2.2.1, va_X.moved (hvm ▸ Vm.Alike.refl u.vm) h.2.2.2.2.1, h.2.2.2.2.2⟩
/-! locals, by places -/
def g_al (X : g_X) (lv : List (Option g_V)) : List (Nat × Value) := lv.zipIdx.filterMap fun x => x.1.map fun v => (x.2, g_tr X v)
theorem g_al_mem {X : g_X} {lv : List (Option g_V)} {q : Nat × Value} : q ∈ g_al X lv ↔ ∃ v, lv[q.1]? = some (some v) ∧ q.2 = g_tr X v := by
  unfold g_al
  rw [List.mem_filterMap]
  constructor
  · rintro ⟨x, hx, h⟩
    obtain ⟨a, k⟩ := x
    cases a with
    | none => cases h
    | some v =>
      cases h
      exact ⟨v, List.mk_mem_zipIdx_iff_getElem?.mp hx, rfl⟩
  · rintro ⟨v, h1, h2⟩
    exact ⟨(some v, q.1), List.mk_mem_zipIdx_iff_getElem?.mpr h1, by show some (q.1, g_tr X v) = some q; rw [← h2]⟩
theorem g_ld {X : g_X} {lv : List (Option g_V)} {ls : Array Slot} {nL i : Nat} {v : g_V} (h : lv_has ls nL (g_al X lv)) (hi : lv[i]? = some (some v)) : ls[i]? = some (.val (g_tr X v)) := h.2.2 (i, g_tr X v) (g_al_mem.mpr ⟨v, hi, rfl⟩)
theorem g_sto {X : g_X} {lv : List (Option g_V)} {ls : Array Slot} {nL i : Nat} {v : g_V} (h : lv_has ls nL ((i, g_tr X v) :: (g_al X lv).filter (fun q => !(q.1 == i) && !(q.1 + 1 == i && q.2.category == 2)))) : lv_has ls nL (g_al X (lv.set i (some v))) := by
  refine ⟨h.1, h.2.1, fun q hq => ?_⟩
  obtain ⟨w, h1, h2⟩ := g_al_mem.mp hq
  by_cases e : q.1 = i
  · have hl : i < lv.length := by
      have := (List.getElem?_eq_some_iff.mp h1).1
      rw [List.length_set] at this
      omega
    rw [e, List.getElem?_set_self hl] at h1
    cases h1
    have := h.2.2 (i, g_tr X v) List.mem_cons_self
    rw [e, h2]
    exact this
  · rw [List.getElem?_set_ne (Ne.symm e)] at h1
    refine h.2.2 q (List.mem_cons_of_mem _ (List.mem_filter.mpr ⟨g_al_mem.mpr ⟨w, h1, h2⟩, ?_⟩))
    rw [h2, g_tr_cat]
    simp [e]
theorem g_cats (X : g_X) (st : List g_V) : ((st.map (g_tr X)).map fun v => v.category).sum = st.length := by
  induction st with
  | nil => rfl
  | cons a l ih =>
    rw [List.map_cons, List.map_cons, List.sum_cons, ih, g_tr_cat, List.length_cons]
    omega
/-! what a method does, from a place in its code -/
def g_rs (X : g_X) (ret : Option FieldType) (r : Int32) : List Value := match ret with
  | none => []
  | some (.object _) => [.ref (X.2.2.1 (1000 + r.toNatClampNeg))]
  | some _ => [.int r]
def g_rv (X : g_X) (ret : Option FieldType) (r : Int32) : Option Value := match ret with
  | none => none
  | some (.object _) => some (.ref (X.2.2.1 (1000 + r.toNatClampNeg)))
  | some _ => some (.int r)
def g_end (cc : ByteArray) (ret : Option FieldType) (pc : Nat) (r : Int32) : Prop := match ret with
  | none => decode cc pc = .ok (.return_, 1)
  | some (.object _) => decode cc pc = .ok (.areturn, 1)
  | some ty => decode cc pc = .ok (.ireturn, 1) ∧ narrow ty (.int r) = .int r
def g_Fix (X : g_X) (p : Program) (R : Room) (s : State) (m : MethodId) (args : Array Value) (c : Code) (cells slots : Nat) (cc : ByteArray) (own : String) (nL fr lo : Nat) : Prop :=
  p.tables.exec = Jvm.exec ∧ c.code = cc ∧ c.maxLocals = nL ∧ s.vm.findClass own = some m.cls ∧ (∀ w ∈ g_W, w.before args s = true) ∧ g_K X s ∧ fr ≤ R.frames ∧ lo ≤ R.locals ∧ cells ≤ R.cells ∧ slots ≤ R.slots ∧ g_ok X ∧ g_St X s s.heap
def g_Go (X : g_X) (cc : ByteArray) (own : String) (nL : Nat) (ret : Option FieldType) (fr lo : Nat) (res : Int32 × g_M) (pc : Nat) (lv : List (Option g_V)) (st : List g_V) (M : g_M) : Prop :=
  ∀ (p : Program) (e : Env) (R : Room) (s : State) (m : MethodId) (args : Array Value) (below : List Frame) (meth : Method) (c : Code) (H : Heap) (locs : List Loc) (cells slots : Nat) (Q : State → Prop) (ls : Array Slot),
    g_Fix X p R s m args c cells slots cc own nL fr lo → g_P X M H → va_S (g_A X) s.heap H locs → lv_has ls nL (g_al X lv) →
    (∀ (pc' : Nat) (H' : Heap) (locs' : List Loc) (ls' : Array Slot), g_P X res.2 H' → va_S (g_A X) s.heap H' locs' → g_end cc ret pc' res.1 → W p X.1 e R s m args below meth c H' locs' cells slots Q (F0 m pc' ls' (g_rs X ret res.1))) →
    W p X.1 e R s m args below meth c H locs cells slots Q (F0 m pc ls (st.map (g_tr X)))
def g_ws (y : MethodName) (cc : ByteArray) (nL : Nat) (ret : Option FieldType) : List Cond := .code y cc nL ret :: g_W
def g_Pc (X : g_X) (as : List g_V) (M : g_M) : Array Value → State → Prop := fun v U => v = (as.map (g_tr X)).toArray ∧ g_P X M U.heap ∧ g_K X U ∧ g_St X U U.heap
def g_Qc (X : g_X) (ret : Option FieldType) (res : Int32 × g_M) : Array Value → State → Outcome → State → Prop := fun _ st oc t => oc = .returned (g_rv X ret res.1) ∧ g_P X res.2 t.heap ∧ va_F (g_A X) st t
def g_Con (X : g_X) (y : MethodName) (cc : ByteArray) (nL : Nat) (ret : Option FieldType) (fr lo : Nat) (as : List g_V) (M : g_M) (res : Int32 × g_M) : Prop :=
  Met X.1 y (g_ws y cc nL ret) { frames := fr, cells := 0, slots := 0, locals := lo } (g_Pc X as M) (g_Qc X ret res) 0 0 (g_A X)
theorem g_lg (X : g_X) (as : List g_V) : lg_sl (as.map (g_tr X)) = (as.map (g_tr X)).map Slot.val := by
  induction as with
  | nil => rfl
  | cons a l ih =>
    rw [List.map_cons, List.map_cons, ← ih]
    unfold lg_sl
    rw [List.flatMap_cons, g_tr_cat]
    simp
theorem g_lvargs (X : g_X) : ∀ (as : List g_V) (k : Nat), lv_args k (as.map (g_tr X)) = (as.zipIdx k).map fun x => (x.2, g_tr X x.1)
  | [], k => rfl
  | a :: l, k => by
    rw [List.zipIdx_cons, List.map_cons, List.map_cons, ← g_lvargs X l (k + 1)]
    simp [lv_args, g_tr_cat]
theorem g_blind (X : g_X) (as : List g_V) (M : g_M) : FrameBlind (g_Pc X as M) := fun _ U g mk h => ⟨h.1, h.2.1, g_K.same (u := U) (U := U.calling g mk _) rfl h.2.2.1, g_St.same (u := U) (U := U.calling g mk _) rfl h.2.2.2⟩
/-- a contract out of a walk, for any method that no native stands for -/
theorem g_ofW {l : Launch} {y : MethodName} {ws ws' : List Cond} {rm : Room} {Pc : Array Value → State → Prop} {Qc : Array Value → State → Outcome → State → Prop} {mc ms : Nat} {free : Addr → Prop} {cc : ByteArray} {maxL : Nat} {ret : Option FieldType}
    (hy : plainFor y = true) (hw : ws = Cond.code y cc maxL ret :: ws')
    (body : ∀ p e s m args below meth c s₁, BodyLoose p l y (headSpec ws rm) cc maxL ret e s m args below meth c s₁ → c.maxLocals = maxL → Pc args s →
      W p l e (headSpec ws rm).room s m args below meth c s.heap [] 0 0 (MQ below Qc args s mc ms free) (entryFrame m args maxL)) : Met l y ws rm Pc Qc mc ms free := by
  refine MetFree.of_bodySF (code := cc) (maxLocals := maxL) (ret := ret) hy (fun args s m h hn => ?_) (fun p e s m args below meth c s₁ B hml hP _ => ?_)
  · have h0 := atoms_spec (ws := ws) h (Cond.code y cc maxL ret) (hw ▸ List.mem_cons_self)
    obtain ⟨meth, c, h1, h2, h3, h4, h5, h6, -, -⟩ := Cond.code_spec hn h0
    exact ⟨meth, c, h1, h2, h3, h4, h5, h6⟩
  · have hh0 : s₁.heap = s.heap := by rw [B.state]; rfl
    obtain ⟨t, a1, o, b1, b2, b3⟩ := body p e s m args below meth c s₁ B hml hP s₁ hh0 (Stand.of_body B)
    exact ⟨t, o, a1, b1, b2, b3⟩
theorem g_con {X : g_X} {y : MethodName} {cc : ByteArray} {nL : Nat} {ret : Option FieldType} {fr lo : Nat} {as : List g_V} {M : g_M} {res : Int32 × g_M} (hok : g_ok X) (hy : plainFor y = true) (hn : as.length ≤ nL)
    (h : g_Go X cc y.cls nL ret fr lo res 0 (as.map some) [] M) : g_Con X y cc nL ret fr lo as M res := by
  refine g_ofW (cc := cc) (maxL := nL) (ret := ret) hy rfl ?_
  intro p e s m args below meth c s₁ B hml hv
  obtain ⟨rfl, hP, hK, hSt⟩ := hv
  have hx := B.exec
  have hb := B.bytes
  have hr := B.returns
  have hlocks := B.notSynchronized
  have hts := atoms_spec (ws := g_ws y cc nL ret) B.pre
  have hown : s.vm.findClass y.cls = some m.cls := findClass_of_methodNamed B.named
  have hlen : (lg_sl (as.map (g_tr X))).length ≤ nL := by
    rw [g_lg, List.length_map, List.length_map]
    exact hn
  have hl := lv_entry (as.map (g_tr X)) (n := nL) hlen
  rw [lg_entry_eq]
  generalize (lg_sl (as.map (g_tr X)) ++ List.replicate (nL - (lg_sl (as.map (g_tr X))).length) Slot.unset).toArray = ls at hl ⊢
  have hl2 : lv_has ls nL (g_al X (as.map some)) := by
    refine ⟨hl.1, hl.2.1, fun q hq => ?_⟩
    obtain ⟨v, h1, h2⟩ := g_al_mem.mp hq
    refine hl.2.2 q ?_
    rw [g_lvargs, List.mem_map]
    refine ⟨(v, q.1), List.mk_mem_zipIdx_iff_getElem?.mpr ?_, by show (q.1, g_tr X v) = q; rw [← h2]⟩
    rw [List.getElem?_map] at h1
    cases h3 : as[q.1]? with
    | none => rw [h3] at h1; cases h1
    | some w => rw [h3] at h1; cases h1; rfl
  refine h p e _ s m _ below meth c s.heap [] 0 0 _ ls ⟨hx, hb, hml, hown, fun w hw => hts w (List.mem_cons_of_mem _ hw), hK, Nat.le_refl _, Nat.le_refl _, Nat.zero_le _, Nat.zero_le _, hok, hSt⟩ hP va_S.rf hl2 ?_
  intro pc' H' locs' ls' hP' hS' hend
  cases ret with
  | none => exact W.vret hx hb hr (fun t ht hW => ⟨rfl, by rw [ht]; exact hP', hS'.F ht⟩) hS'.2.2 hend
  | some ty =>
    cases ty with
    | object n => exact W.aret (v := .ref _) hx hb hr (Or.inl ⟨_, rfl⟩) (Or.inr ⟨_, rfl⟩) (fun t ht hW => ⟨rfl, by rw [ht]; exact hP', hS'.F ht⟩) hS'.2.2 hend
    | _ => exact W.zret (v := res.1) hx hb hr hend.2 (fun t ht hW => ⟨rfl, by rw [ht]; exact hP', hS'.F ht⟩) hS'.2.2 hend.1
section GO
variable {X : g_X} {cc : ByteArray} {own : String} {nL fr lo pc : Nat} {ret : Option FieldType} {res : Int32 × g_M} {lv : List (Option g_V)} {st : List g_V} {M : g_M}
/-- the end of a method that answers -/
theorem go_iret {v : Int32} {ty : FieldType} (hr : res = (v, M)) (hret : ret = some ty) (hdg : decode cc pc = .ok (.ireturn, 1)) (hn : narrow ty (.int v) = .int v) (hty : (match ty with | .object _ => false | _ => true) = true := by rfl) : g_Go X cc own nL ret fr lo res pc lv [.inl v] M := by
  intro p e R s m args below meth c H locs cells slots Q ls F hP hS hl kr
  subst hr; subst hret
  cases ty with
  | object n => cases hty
  | _ => exact kr pc H locs ls hP hS ⟨hdg, hn⟩
theorem go_aret {v : Int32} {n : String} (hr : res = (v, M)) (hret : ret = some (.object n)) (hdg : decode cc pc = .ok (.areturn, 1)) : g_Go X cc own nL ret fr lo res pc lv [.inr (1000 + v.toNatClampNeg)] M := by
  intro p e R s m args below meth c H locs cells slots Q ls F hP hS hl kr
  subst hr; subst hret
  exact kr pc H locs ls hP hS hdg
theorem go_vret {v : Int32} (hr : res = (v, M)) (hret : ret = none) (hdg : decode cc pc = .ok (.return_, 1)) : g_Go X cc own nL ret fr lo res pc lv [] M := by
  intro p e R s m args below meth c H locs cells slots Q ls F hP hS hl kr
  subst hr; subst hret
  exact kr pc H locs ls hP hS hdg
theorem go_eq {lv2 : List (Option g_V)} {st2 : List g_V} {M2 : g_M} (h : g_Go X cc own nL ret fr lo res pc lv2 st2 M2) (h1 : lv = lv2) (h2 : st = st2) (h3 : M = M2) : g_Go X cc own nL ret fr lo res pc lv st M := by
  subst h1; subst h2; subst h3
  exact h
/-- fewer known locals -/
theorem go_sub {lv2 : List (Option g_V)} (h : g_Go X cc own nL ret fr lo res pc lv2 st M) (h1 : ∀ (i : Nat) (v : g_V), lv2[i]? = some (some v) → lv[i]? = some (some v)) : g_Go X cc own nL ret fr lo res pc lv st M := by
  intro p e R s m args below meth c H locs cells slots Q ls F hP hS hl kr
  refine h p e R s m args below meth c H locs cells slots Q ls F hP hS ⟨hl.1, hl.2.1, fun q hq => ?_⟩ kr
  obtain ⟨v, a, b⟩ := g_al_mem.mp hq
  exact hl.2.2 q (g_al_mem.mpr ⟨v, h1 _ _ a, b⟩)
theorem go_iload_n {k : Fin 4} {x : Int32} (hdg : decode cc pc = .ok (.iload_n k, 1)) (hv : lv[(k : Nat)]? = some (some (.inl x))) (kk : g_Go X cc own nL ret fr lo res (pc + 1) lv (.inl x :: st) M) : g_Go X cc own nL ret fr lo res pc lv st M := by
  intro p e R s m args below meth c H locs cells slots Q ls F hP hS hl kr
  exact lv_iload_n F.1 F.2.1 hdg rfl (g_ld hl hv) (kk p e R s m args below meth c H locs cells slots Q ls F hP hS hl kr)
theorem go_iload {k : Nat} {x : Int32} (hdg : decode cc pc = .ok (.iload k, 2)) (hv : lv[k]? = some (some (.inl x))) (kk : g_Go X cc own nL ret fr lo res (pc + 2) lv (.inl x :: st) M) : g_Go X cc own nL ret fr lo res pc lv st M := by
  intro p e R s m args below meth c H locs cells slots Q ls F hP hS hl kr
  exact lv_iload F.1 F.2.1 hdg (g_ld hl hv) (kk p e R s m args below meth c H locs cells slots Q ls F hP hS hl kr)
theorem go_aload_n {k : Fin 4} {x : Nat} (hdg : decode cc pc = .ok (.aload_n k, 1)) (hv : lv[(k : Nat)]? = some (some (.inr x))) (kk : g_Go X cc own nL ret fr lo res (pc + 1) lv (.inr x :: st) M) : g_Go X cc own nL ret fr lo res pc lv st M := by
  intro p e R s m args below meth c H locs cells slots Q ls F hP hS hl kr
  exact lv_aload_n F.1 F.2.1 hdg rfl (g_ld hl hv) (kk p e R s m args below meth c H locs cells slots Q ls F hP hS hl kr)
theorem go_aload {k : Nat} {x : Nat} (hdg : decode cc pc = .ok (.aload k, 2)) (hv : lv[k]? = some (some (.inr x))) (kk : g_Go X cc own nL ret fr lo res (pc + 2) lv (.inr x :: st) M) : g_Go X cc own nL ret fr lo res pc lv st M := by
  intro p e R s m args below meth c H locs cells slots Q ls F hP hS hl kr
  exact lv_aload F.1 F.2.1 hdg (g_ld hl hv) (kk p e R s m args below meth c H locs cells slots Q ls F hP hS hl kr)
theorem go_istore_n {k : Fin 4} {x : Int32} {lv' : List (Option g_V)} (hdg : decode cc pc = .ok (.istore_n k, 1)) (hn : (k : Nat) < nL) (hlv : lv.set k (some (.inl x)) = lv') (kk : g_Go X cc own nL ret fr lo res (pc + 1) lv' st M) : g_Go X cc own nL ret fr lo res pc lv (.inl x :: st) M := by
  intro p e R s m args below meth c H locs cells slots Q ls F hP hS hl kr
  subst hlv
  exact lv_istore_n F.1 F.2.1 hdg rfl hl hn rfl fun ls' hl' => kk p e R s m args below meth c H locs cells slots Q ls' F hP hS (g_sto (v := .inl x) hl') kr
theorem go_istore {k : Nat} {x : Int32} {lv' : List (Option g_V)} (hdg : decode cc pc = .ok (.istore k, 2)) (hn : k < nL) (hlv : lv.set k (some (.inl x)) = lv') (kk : g_Go X cc own nL ret fr lo res (pc + 2) lv' st M) : g_Go X cc own nL ret fr lo res pc lv (.inl x :: st) M := by
  intro p e R s m args below meth c H locs cells slots Q ls F hP hS hl kr
  subst hlv
  exact lv_istore F.1 F.2.1 hdg hl hn rfl fun ls' hl' => kk p e R s m args below meth c H locs cells slots Q ls' F hP hS (g_sto (v := .inl x) hl') kr
theorem go_astore_n {k : Fin 4} {x : Nat} {lv' : List (Option g_V)} (hdg : decode cc pc = .ok (.astore_n k, 1)) (hn : (k : Nat) < nL) (hlv : lv.set k (some (.inr x)) = lv') (kk : g_Go X cc own nL ret fr lo res (pc + 1) lv' st M) : g_Go X cc own nL ret fr lo res pc lv (.inr x :: st) M := by
  intro p e R s m args below meth c H locs cells slots Q ls F hP hS hl kr
  subst hlv
  exact lv_astore_n F.1 F.2.1 hdg rfl hl hn rfl fun ls' hl' => kk p e R s m args below meth c H locs cells slots Q ls' F hP hS (g_sto (v := .inr x) hl') kr
theorem go_iinc {k : Nat} {n : Int} {x v : Int32} (hdg : decode cc pc = .ok (.iinc k n, 3)) (hv : lv[k]? = some (some (.inl x))) {lv' : List (Option g_V)} (he : Int32.ofInt n = v) (hn : k < nL) (hlv : lv.set k (some (.inl (x + v))) = lv') (kk : g_Go X cc own nL ret fr lo res (pc + 3) lv' st M) : g_Go X cc own nL ret fr lo res pc lv st M := by
  intro p e R s m args below meth c H locs cells slots Q ls F hP hS hl kr
  subst hlv
  subst he
  obtain ⟨j, hj⟩ := List.getElem?_of_mem (g_al_mem.mpr ⟨.inl x, hv, rfl⟩ : (k, g_tr X (.inl x)) ∈ g_al X lv)
  exact lv_iinc F.1 F.2.1 hdg hl hj rfl hn rfl fun ls' hl' => kk p e R s m args below meth c H locs cells slots Q ls' F hP hS (g_sto (v := .inl _) hl') kr
theorem go_iconst {n : Int} {v : Int32} (hdg : decode cc pc = .ok (.iconst n, 1)) (hv : Int32.ofInt n = v) (kk : g_Go X cc own nL ret fr lo res (pc + 1) lv (.inl v :: st) M) : g_Go X cc own nL ret fr lo res pc lv st M := by
  intro p e R s m args below meth c H locs cells slots Q ls F hP hS hl kr
  exact lv_iconst F.1 F.2.1 hdg hv (kk p e R s m args below meth c H locs cells slots Q ls F hP hS hl kr)
theorem go_bipush {n : Int} {v : Int32} (hdg : decode cc pc = .ok (.bipush n, 2)) (hv : (Int8.ofInt n).toInt32 = v) (kk : g_Go X cc own nL ret fr lo res (pc + 2) lv (.inl v :: st) M) : g_Go X cc own nL ret fr lo res pc lv st M := by
  intro p e R s m args below meth c H locs cells slots Q ls F hP hS hl kr
  exact lv_bipush F.1 F.2.1 hdg hv (kk p e R s m args below meth c H locs cells slots Q ls F hP hS hl kr)
theorem go_sipush {n : Int} {v : Int32} (hdg : decode cc pc = .ok (.sipush n, 3)) (hv : (Int16.ofInt n).toInt32 = v) (kk : g_Go X cc own nL ret fr lo res (pc + 3) lv (.inl v :: st) M) : g_Go X cc own nL ret fr lo res pc lv st M := by
  intro p e R s m args below meth c H locs cells slots Q ls F hP hS hl kr
  exact lv_sipush F.1 F.2.1 hdg hv (kk p e R s m args below meth c H locs cells slots Q ls F hP hS hl kr)
theorem go_ldc {i : Nat} {v : Int32} (hw : Cond.constant own i v ∈ g_W) (hdg : decode cc pc = .ok (.ldc i, 2)) (kk : g_Go X cc own nL ret fr lo res (pc + 2) lv (.inl v :: st) M) : g_Go X cc own nL ret fr lo res pc lv st M := by
  intro p e R s m args below meth c H locs cells slots Q ls F hP hS hl kr
  exact lv_ldc F.1 F.2.1 F.2.2.2.1 (F.2.2.2.2.1 _ hw) hdg (kk p e R s m args below meth c H locs cells slots Q ls F hP hS hl kr)
theorem go_ldcw {i : Nat} {v : Int32} (hw : Cond.constant own i v ∈ g_W) (hdg : decode cc pc = .ok (.ldc_w i, 3)) (kk : g_Go X cc own nL ret fr lo res (pc + 3) lv (.inl v :: st) M) : g_Go X cc own nL ret fr lo res pc lv st M := by
  intro p e R s m args below meth c H locs cells slots Q ls F hP hS hl kr
  exact lv_ldcw F.1 F.2.1 F.2.2.2.1 (F.2.2.2.2.1 _ hw) hdg (kk p e R s m args below meth c H locs cells slots Q ls F hP hS hl kr)
theorem go_iadd {x y : Int32} (hdg : decode cc pc = .ok (.iadd, 1)) (kk : g_Go X cc own nL ret fr lo res (pc + 1) lv (.inl (x + y) :: st) M) : g_Go X cc own nL ret fr lo res pc lv (.inl y :: .inl x :: st) M := by
  intro p e R s m args below meth c H locs cells slots Q ls F hP hS hl kr
  exact lv_iadd F.1 F.2.1 hdg (kk p e R s m args below meth c H locs cells slots Q ls F hP hS hl kr)
theorem go_isub {x y : Int32} (hdg : decode cc pc = .ok (.isub, 1)) (kk : g_Go X cc own nL ret fr lo res (pc + 1) lv (.inl (x - y) :: st) M) : g_Go X cc own nL ret fr lo res pc lv (.inl y :: .inl x :: st) M := by
  intro p e R s m args below meth c H locs cells slots Q ls F hP hS hl kr
  exact lv_isub F.1 F.2.1 hdg (kk p e R s m args below meth c H locs cells slots Q ls F hP hS hl kr)
theorem go_imul {x y : Int32} (hdg : decode cc pc = .ok (.imul, 1)) (kk : g_Go X cc own nL ret fr lo res (pc + 1) lv (.inl (x * y) :: st) M) : g_Go X cc own nL ret fr lo res pc lv (.inl y :: .inl x :: st) M := by
  intro p e R s m args below meth c H locs cells slots Q ls F hP hS hl kr
  exact lv_imul F.1 F.2.1 hdg (kk p e R s m args below meth c H locs cells slots Q ls F hP hS hl kr)
theorem go_iand {x y : Int32} (hdg : decode cc pc = .ok (.iand, 1)) (kk : g_Go X cc own nL ret fr lo res (pc + 1) lv (.inl (x &&& y) :: st) M) : g_Go X cc own nL ret fr lo res pc lv (.inl y :: .inl x :: st) M := by
  intro p e R s m args below meth c H locs cells slots Q ls F hP hS hl kr
  exact lv_iand F.1 F.2.1 hdg (kk p e R s m args below meth c H locs cells slots Q ls F hP hS hl kr)
theorem go_ior {x y : Int32} (hdg : decode cc pc = .ok (.ior, 1)) (kk : g_Go X cc own nL ret fr lo res (pc + 1) lv (.inl (x ||| y) :: st) M) : g_Go X cc own nL ret fr lo res pc lv (.inl y :: .inl x :: st) M := by
  intro p e R s m args below meth c H locs cells slots Q ls F hP hS hl kr
  exact lv_ior F.1 F.2.1 hdg (kk p e R s m args below meth c H locs cells slots Q ls F hP hS hl kr)
theorem go_ixor {x y : Int32} (hdg : decode cc pc = .ok (.ixor, 1)) (kk : g_Go X cc own nL ret fr lo res (pc + 1) lv (.inl (x ^^^ y) :: st) M) : g_Go X cc own nL ret fr lo res pc lv (.inl y :: .inl x :: st) M := by
  intro p e R s m args below meth c H locs cells slots Q ls F hP hS hl kr
  exact lv_ixor F.1 F.2.1 hdg (kk p e R s m args below meth c H locs cells slots Q ls F hP hS hl kr)
theorem go_ishl {x y : Int32} (hdg : decode cc pc = .ok (.ishl, 1)) (kk : g_Go X cc own nL ret fr lo res (pc + 1) lv (.inl (x <<< (y &&& 31)) :: st) M) : g_Go X cc own nL ret fr lo res pc lv (.inl y :: .inl x :: st) M := by
  intro p e R s m args below meth c H locs cells slots Q ls F hP hS hl kr
  exact lv_ishl F.1 F.2.1 hdg (kk p e R s m args below meth c H locs cells slots Q ls F hP hS hl kr)
theorem go_ishr {x y : Int32} (hdg : decode cc pc = .ok (.ishr, 1)) (kk : g_Go X cc own nL ret fr lo res (pc + 1) lv (.inl (x >>> (y &&& 31)) :: st) M) : g_Go X cc own nL ret fr lo res pc lv (.inl y :: .inl x :: st) M := by
  intro p e R s m args below meth c H locs cells slots Q ls F hP hS hl kr
  exact lv_ishr F.1 F.2.1 hdg (kk p e R s m args below meth c H locs cells slots Q ls F hP hS hl kr)
theorem go_idiv {x y : Int32} (hdg : decode cc pc = .ok (.idiv, 1)) (hne : ¬ y = 0) (kk : g_Go X cc own nL ret fr lo res (pc + 1) lv (.inl (x / y) :: st) M) : g_Go X cc own nL ret fr lo res pc lv (.inl y :: .inl x :: st) M := by
  intro p e R s m args below meth c H locs cells slots Q ls F hP hS hl kr
  exact lv_idiv F.1 F.2.1 hdg hne (kk p e R s m args below meth c H locs cells slots Q ls F hP hS hl kr)
theorem go_irem {x y : Int32} (hdg : decode cc pc = .ok (.irem, 1)) (hne : ¬ y = 0) (kk : g_Go X cc own nL ret fr lo res (pc + 1) lv (.inl (x - x / y * y) :: st) M) : g_Go X cc own nL ret fr lo res pc lv (.inl y :: .inl x :: st) M := by
  intro p e R s m args below meth c H locs cells slots Q ls F hP hS hl kr
  exact lv_irem F.1 F.2.1 hdg hne (kk p e R s m args below meth c H locs cells slots Q ls F hP hS hl kr)
theorem go_ineg {x : Int32} (hdg : decode cc pc = .ok (.ineg, 1)) (kk : g_Go X cc own nL ret fr lo res (pc + 1) lv (.inl (-x) :: st) M) : g_Go X cc own nL ret fr lo res pc lv (.inl x :: st) M := by
  intro p e R s m args below meth c H locs cells slots Q ls F hP hS hl kr
  exact lv_ineg F.1 F.2.1 hdg (kk p e R s m args below meth c H locs cells slots Q ls F hP hS hl kr)
theorem go_if_eq {x : Int32} {off : Int} {tgt : Nat} (hdg : decode cc pc = .ok (.ifCond .eq off, 3)) (ht : (pc : Int) + off = (tgt : Int)) (kt : x = 0 → g_Go X cc own nL ret fr lo res tgt lv st M) (kf : ¬ x = 0 → g_Go X cc own nL ret fr lo res (pc + 3) lv st M) : g_Go X cc own nL ret fr lo res pc lv (.inl x :: st) M := by
  intro p e R s m args below meth c H locs cells slots Q ls F hP hS hl kr
  exact lv_if_eq F.1 F.2.1 hdg ht (fun h => kt h p e R s m args below meth c H locs cells slots Q ls F hP hS hl kr) (fun h => kf h p e R s m args below meth c H locs cells slots Q ls F hP hS hl kr)
theorem go_if_ne {x : Int32} {off : Int} {tgt : Nat} (hdg : decode cc pc = .ok (.ifCond .ne off, 3)) (ht : (pc : Int) + off = (tgt : Int)) (kt : ¬ x = 0 → g_Go X cc own nL ret fr lo res tgt lv st M) (kf : x = 0 → g_Go X cc own nL ret fr lo res (pc + 3) lv st M) : g_Go X cc own nL ret fr lo res pc lv (.inl x :: st) M := by
  intro p e R s m args below meth c H locs cells slots Q ls F hP hS hl kr
  exact lv_if_ne F.1 F.2.1 hdg ht (fun h => kt h p e R s m args below meth c H locs cells slots Q ls F hP hS hl kr) (fun h => kf h p e R s m args below meth c H locs cells slots Q ls F hP hS hl kr)
theorem go_if_lt {x : Int32} {off : Int} {tgt : Nat} (hdg : decode cc pc = .ok (.ifCond .lt off, 3)) (ht : (pc : Int) + off = (tgt : Int)) (kt : x < 0 → g_Go X cc own nL ret fr lo res tgt lv st M) (kf : ¬ x < 0 → g_Go X cc own nL ret fr lo res (pc + 3) lv st M) : g_Go X cc own nL ret fr lo res pc lv (.inl x :: st) M := by
  intro p e R s m args below meth c H locs cells slots Q ls F hP hS hl kr
  exact lv_if_lt F.1 F.2.1 hdg ht (fun h => kt h p e R s m args below meth c H locs cells slots Q ls F hP hS hl kr) (fun h => kf h p e R s m args below meth c H locs cells slots Q ls F hP hS hl kr)
theorem go_if_ge {x : Int32} {off : Int} {tgt : Nat} (hdg : decode cc pc = .ok (.ifCond .ge off, 3)) (ht : (pc : Int) + off = (tgt : Int)) (kt : 0 ≤ x → g_Go X cc own nL ret fr lo res tgt lv st M) (kf : ¬ 0 ≤ x → g_Go X cc own nL ret fr lo res (pc + 3) lv st M) : g_Go X cc own nL ret fr lo res pc lv (.inl x :: st) M := by
  intro p e R s m args below meth c H locs cells slots Q ls F hP hS hl kr
  exact lv_if_ge F.1 F.2.1 hdg ht (fun h => kt h p e R s m args below meth c H locs cells slots Q ls F hP hS hl kr) (fun h => kf h p e R s m args below meth c H locs cells slots Q ls F hP hS hl kr)
theorem go_if_gt {x : Int32} {off : Int} {tgt : Nat} (hdg : decode cc pc = .ok (.ifCond .gt off, 3)) (ht : (pc : Int) + off = (tgt : Int)) (kt : 0 < x → g_Go X cc own nL ret fr lo res tgt lv st M) (kf : ¬ 0 < x → g_Go X cc own nL ret fr lo res (pc + 3) lv st M) : g_Go X cc own nL ret fr lo res pc lv (.inl x :: st) M := by
  intro p e R s m args below meth c H locs cells slots Q ls F hP hS hl kr
  exact lv_if_gt F.1 F.2.1 hdg ht (fun h => kt h p e R s m args below meth c H locs cells slots Q ls F hP hS hl kr) (fun h => kf h p e R s m args below meth c H locs cells slots Q ls F hP hS hl kr)
theorem go_if_le {x : Int32} {off : Int} {tgt : Nat} (hdg : decode cc pc = .ok (.ifCond .le off, 3)) (ht : (pc : Int) + off = (tgt : Int)) (kt : x ≤ 0 → g_Go X cc own nL ret fr lo res tgt lv st M) (kf : ¬ x ≤ 0 → g_Go X cc own nL ret fr lo res (pc + 3) lv st M) : g_Go X cc own nL ret fr lo res pc lv (.inl x :: st) M := by
  intro p e R s m args below meth c H locs cells slots Q ls F hP hS hl kr
  exact lv_if_le F.1 F.2.1 hdg ht (fun h => kt h p e R s m args below meth c H locs cells slots Q ls F hP hS hl kr) (fun h => kf h p e R s m args below meth c H locs cells slots Q ls F hP hS hl kr)
theorem go_icmp_eq {x y : Int32} {off : Int} {tgt : Nat} (hdg : decode cc pc = .ok (.if_icmp .eq off, 3)) (ht : (pc : Int) + off = (tgt : Int)) (kt : x = y → g_Go X cc own nL ret fr lo res tgt lv st M) (kf : ¬ x = y → g_Go X cc own nL ret fr lo res (pc + 3) lv st M) : g_Go X cc own nL ret fr lo res pc lv (.inl y :: .inl x :: st) M := by
  intro p e R s m args below meth c H locs cells slots Q ls F hP hS hl kr
  exact lv_icmp_eq F.1 F.2.1 hdg ht (fun h => kt h p e R s m args below meth c H locs cells slots Q ls F hP hS hl kr) (fun h => kf h p e R s m args below meth c H locs cells slots Q ls F hP hS hl kr)
theorem go_icmp_ne {x y : Int32} {off : Int} {tgt : Nat} (hdg : decode cc pc = .ok (.if_icmp .ne off, 3)) (ht : (pc : Int) + off = (tgt : Int)) (kt : ¬ x = y → g_Go X cc own nL ret fr lo res tgt lv st M) (kf : x = y → g_Go X cc own nL ret fr lo res (pc + 3) lv st M) : g_Go X cc own nL ret fr lo res pc lv (.inl y :: .inl x :: st) M := by
  intro p e R s m args below meth c H locs cells slots Q ls F hP hS hl kr
  exact lv_icmp_ne F.1 F.2.1 hdg ht (fun h => kt h p e R s m args below meth c H locs cells slots Q ls F hP hS hl kr) (fun h => kf h p e R s m args below meth c H locs cells slots Q ls F hP hS hl kr)
theorem go_icmp_lt {x y : Int32} {off : Int} {tgt : Nat} (hdg : decode cc pc = .ok (.if_icmp .lt off, 3)) (ht : (pc : Int) + off = (tgt : Int)) (kt : x < y → g_Go X cc own nL ret fr lo res tgt lv st M) (kf : ¬ x < y → g_Go X cc own nL ret fr lo res (pc + 3) lv st M) : g_Go X cc own nL ret fr lo res pc lv (.inl y :: .inl x :: st) M := by
  intro p e R s m args below meth c H locs cells slots Q ls F hP hS hl kr
  exact lv_icmp_lt F.1 F.2.1 hdg ht (fun h => kt h p e R s m args below meth c H locs cells slots Q ls F hP hS hl kr) (fun h => kf h p e R s m args below meth c H locs cells slots Q ls F hP hS hl kr)
theorem go_icmp_ge {x y : Int32} {off : Int} {tgt : Nat} (hdg : decode cc pc = .ok (.if_icmp .ge off, 3)) (ht : (pc : Int) + off = (tgt : Int)) (kt : y ≤ x → g_Go X cc own nL ret fr lo res tgt lv st M) (kf : ¬ y ≤ x → g_Go X cc own nL ret fr lo res (pc + 3) lv st M) : g_Go X cc own nL ret fr lo res pc lv (.inl y :: .inl x :: st) M := by
  intro p e R s m args below meth c H locs cells slots Q ls F hP hS hl kr
  exact lv_icmp_ge F.1 F.2.1 hdg ht (fun h => kt h p e R s m args below meth c H locs cells slots Q ls F hP hS hl kr) (fun h => kf h p e R s m args below meth c H locs cells slots Q ls F hP hS hl kr)
theorem go_icmp_gt {x y : Int32} {off : Int} {tgt : Nat} (hdg : decode cc pc = .ok (.if_icmp .gt off, 3)) (ht : (pc : Int) + off = (tgt : Int)) (kt : y < x → g_Go X cc own nL ret fr lo res tgt lv st M) (kf : ¬ y < x → g_Go X cc own nL ret fr lo res (pc + 3) lv st M) : g_Go X cc own nL ret fr lo res pc lv (.inl y :: .inl x :: st) M := by
  intro p e R s m args below meth c H locs cells slots Q ls F hP hS hl kr
  exact lv_icmp_gt F.1 F.2.1 hdg ht (fun h => kt h p e R s m args below meth c H locs cells slots Q ls F hP hS hl kr) (fun h => kf h p e R s m args below meth c H locs cells slots Q ls F hP hS hl kr)
theorem go_icmp_le {x y : Int32} {off : Int} {tgt : Nat} (hdg : decode cc pc = .ok (.if_icmp .le off, 3)) (ht : (pc : Int) + off = (tgt : Int)) (kt : x ≤ y → g_Go X cc own nL ret fr lo res tgt lv st M) (kf : ¬ x ≤ y → g_Go X cc own nL ret fr lo res (pc + 3) lv st M) : g_Go X cc own nL ret fr lo res pc lv (.inl y :: .inl x :: st) M := by
  intro p e R s m args below meth c H locs cells slots Q ls F hP hS hl kr
  exact lv_icmp_le F.1 F.2.1 hdg ht (fun h => kt h p e R s m args below meth c H locs cells slots Q ls F hP hS hl kr) (fun h => kf h p e R s m args below meth c H locs cells slots Q ls F hP hS hl kr)
theorem go_goto {off : Int} {tgt : Nat} (hdg : decode cc pc = .ok (.goto off, 3)) (ht : (pc : Int) + off = (tgt : Int)) (kk : g_Go X cc own nL ret fr lo res tgt lv st M) : g_Go X cc own nL ret fr lo res pc lv st M := by
  intro p e R s m args below meth c H locs cells slots Q ls F hP hS hl kr
  exact lv_goto F.1 F.2.1 hdg ht (kk p e R s m args below meth c H locs cells slots Q ls F hP hS hl kr)
theorem go_dup {v : g_V} (hdg : decode cc pc = .ok (.dup, 1)) (kk : g_Go X cc own nL ret fr lo res (pc + 1) lv (v :: v :: st) M) : g_Go X cc own nL ret fr lo res pc lv (v :: st) M := by
  intro p e R s m args below meth c H locs cells slots Q ls F hP hS hl kr
  exact lv_dup F.1 F.2.1 hdg (g_tr_cat X v) (kk p e R s m args below meth c H locs cells slots Q ls F hP hS hl kr)
theorem go_dup2 {v w : g_V} (hdg : decode cc pc = .ok (.dup2, 1)) (kk : g_Go X cc own nL ret fr lo res (pc + 1) lv (v :: w :: v :: w :: st) M) : g_Go X cc own nL ret fr lo res pc lv (v :: w :: st) M := by
  intro p e R s m args below meth c H locs cells slots Q ls F hP hS hl kr
  exact lv_dup2_11 F.1 F.2.1 hdg (g_tr_cat X v) (g_tr_cat X w) (kk p e R s m args below meth c H locs cells slots Q ls F hP hS hl kr)
theorem go_pop {v : g_V} (hdg : decode cc pc = .ok (.pop, 1)) (kk : g_Go X cc own nL ret fr lo res (pc + 1) lv st M) : g_Go X cc own nL ret fr lo res pc lv (v :: st) M := by
  intro p e R s m args below meth c H locs cells slots Q ls F hP hS hl kr
  exact lv_pop F.1 F.2.1 hdg (g_tr_cat X v) (kk p e R s m args below meth c H locs cells slots Q ls F hP hS hl kr)
theorem go_iushr {x y : Int32} (hdg : decode cc pc = .ok (.iushr, 1)) (kk : g_Go X cc own nL ret fr lo res (pc + 1) lv (.inl (x.toUInt32 >>> (y.toUInt32 &&& Int32.toUInt32 31)).toInt32 :: st) M) : g_Go X cc own nL ret fr lo res pc lv (.inl y :: .inl x :: st) M := by
  intro p e R s m args below meth c H locs cells slots Q ls F hP hS hl kr
  exact lv_iushr F.1 F.2.1 hdg rfl (kk p e R s m args below meth c H locs cells slots Q ls F hP hS hl kr)
/-! fields -/
def g_fv (M : g_M) (q k : Nat) : Option Nat → g_V
  | some r => .inr r
  | none => .inl (M q k)
theorem g_fs {X : g_X} {M : g_M} {q k : Nat} {rf : List (Option Nat)} {o : Option Nat} (h : rf[k]? = some o) : (rf.zipIdx.map fun x => match x.1 with
    | some q => Value.ref (X.2.2.1 q)
    | none => Value.int (M q x.2))[k]? = some (g_tr X (g_fv M q k o)) := by
  rw [List.getElem?_map, List.getElem?_zipIdx, h]
  cases o <;> simp [g_fv, g_tr]
theorem go_getf {index ci N : Nat} {C : String} {T : u_T} (hin : ∀ w ∈ u_ws C T N, w ∈ g_W) (hc : vwCl[ci]? = some (C, T, N)) (k : Nat) (hk : k < N) (hlink : Cond.fieldLink own index C (T k).2.1 (T k).2.2.1 ∈ g_W) (hdecl : (T k).1 = C) {q : Nat} {rf : List (Option Nat)} (hlay : g_lay[q]? = some (.inr (ci, rf))) {o : Option Nat} (ho : rf[k]? = some o) (hdg : decode cc pc = .ok (.getfield index, 3))
    (kk : g_Go X cc own nL ret fr lo res (pc + 3) lv (g_fv M q k o :: st) M) : g_Go X cc own nL ret fr lo res pc lv (.inr q :: st) M := by
  intro p e R s m args below meth c H locs cells slots Q ls F hP hS hl kr
  exact va_get (C := C) (T := T) (N := N) (ci := ci) (ref := C) F.1 F.2.1 F.2.2.2.2.1 hin F.2.2.2.1 F.2.2.2.2.2.1.1 hP q (g_enc_at hlay) hc k hk (F.2.2.2.2.1 _ hlink) (fun x h => by rw [hdecl] at h; exact h) (g_fs ho) hdg (kk p e R s m args below meth c H locs cells slots Q ls F hP hS hl kr)
theorem go_getfN {index ci N : Nat} {C host : String} {T : u_T} (hin : ∀ w ∈ u_ws C T N, w ∈ g_W) (hc : vwCl[ci]? = some (C, T, N)) (k : Nat) (hk : k < N) (hlink : Cond.fieldLinkNest own index C (T k).2.1 (T k).2.2.1 host ∈ g_nest) (hdecl : (T k).1 = C) {q : Nat} {rf : List (Option Nat)} (hlay : g_lay[q]? = some (.inr (ci, rf))) {o : Option Nat} (ho : rf[k]? = some o) (hdg : decode cc pc = .ok (.getfield index, 3))
    (kk : g_Go X cc own nL ret fr lo res (pc + 3) lv (g_fv M q k o :: st) M) : g_Go X cc own nL ret fr lo res pc lv (.inr q :: st) M := by
  intro p e R s m args below meth c H locs cells slots Q ls F hP hS hl kr
  exact va_getN (C := C) (T := T) (N := N) (ci := ci) (ref := C) F.1 F.2.1 F.2.2.2.2.1 hin F.2.2.2.1 F.2.2.2.2.2.1.1 hP q (g_enc_at hlay) hc k hk (va_Nw.use rfl (F.2.2.2.2.2.1.2 _ hlink)) (fun x h => by rw [hdecl] at h; exact h) (g_fs ho) hdg (kk p e R s m args below meth c H locs cells slots Q ls F hP hS hl kr)
theorem g_fset {X : g_X} {f : Nat → Int32} {k : Nat} {rf : List (Option Nat)} {x : Int32} (h : rf[k]? = some none) : (rf.zipIdx.map fun y => match y.1 with
    | some q => Value.ref (X.2.2.1 q)
    | none => Value.int (f y.2)).set k (.int x) = rf.zipIdx.map fun y => match y.1 with
    | some q => Value.ref (X.2.2.1 q)
    | none => Value.int (upd f k x y.2) := by
  apply List.ext_getElem?
  intro j
  have hl := (List.getElem?_eq_some_iff.mp h).1
  by_cases hj : j = k
  · subst hj
    rw [List.getElem?_set_self (by simpa using hl), List.getElem?_map, List.getElem?_zipIdx, h]
    simp [upd]
  · rw [List.getElem?_set_ne (Ne.symm hj), List.getElem?_map, List.getElem?_map, List.getElem?_zipIdx]
    cases h2 : rf[j]? with
    | none => rfl
    | some o => cases o <;> simp [upd, hj]
theorem g_put {X : g_X} {M : g_M} {q ci k : Nat} {rf : List (Option Nat)} {x : Int32} (hlay : g_lay[q]? = some (.inr (ci, rf))) (ho : rf[k]? = some none) : (g_enc X M).set q (X.2.2.1 q, .inr (ci, (rf.zipIdx.map fun y => match y.1 with
    | some r => Value.ref (X.2.2.1 r)
    | none => Value.int (M q y.2)).set k (.int x))) = g_enc X (g_upd M q k x) := by
  rw [← g_enc_set (M' := g_upd M q k x) hlay (fun r hr => g_upd_ne hr), g_upd_at, g_fset ho]
  rfl
theorem go_put {index ci N : Nat} {C : String} {T : u_T} (hin : ∀ w ∈ u_ws C T N, w ∈ g_W) (ty0 : Nat → FieldType) (hty : ∀ k, k < N → parseFieldDescriptor (T k).2.2.1 = some (ty0 k)) (hnm : ∀ a, a < N → ∀ b, b < N → a ≠ b → (T a).2.1 ≠ (T b).2.1) (hc : vwCl[ci]? = some (C, T, N)) (k : Nat) (hk : k < N) (hlink : Cond.fieldLink own index C (T k).2.1 (T k).2.2.1 ∈ g_W) (hdecl : (T k).1 = C) (hfin : (T k).2.2.2 = false) {ty : FieldType} (hd : parseFieldDescriptor (T k).2.2.1 = some ty) {x : Int32} (hn : narrow ty (.int x) = .int x) (hfit : fits ty (.int x) = true) {q : Nat} {rf : List (Option Nat)} (hlay : g_lay[q]? = some (.inr (ci, rf))) (ho : rf[k]? = some none) (hdg : decode cc pc = .ok (.putfield index, 3))
    (kk : g_Go X cc own nL ret fr lo res (pc + 3) lv st (g_upd M q k x)) : g_Go X cc own nL ret fr lo res pc lv (.inl x :: .inr q :: st) M := by
  intro p e R s m args below meth c H locs cells slots Q ls F hP hS hl kr
  refine va_put (C := C) (T := T) (N := N) (ci := ci) (ref := C) F.1 F.2.1 F.2.2.2.2.1 hin ty0 hty hnm F.2.2.2.1 F.2.2.2.2.2.1.1 hP (g_D F.2.2.2.2.2.2.2.2.2.2.1 M) hS q (g_enc_at hlay) hc k hk (F.2.2.2.2.1 _ hlink) (fun x h => by rw [hdecl] at h; exact h) hfin hd hn hfit (by rw [List.length_map, List.length_zipIdx]; exact (List.getElem?_eq_some_iff.mp ho).1) hdg fun H1 locs1 hP1 hD1 hS1 => ?_
  have hP2 : va_P X.2.1 vwCl (g_enc X (g_upd M q k x)) H1 := by
    rw [← g_put hlay ho]
    exact hP1
  exact kk p e R s m args below meth c H1 locs1 cells slots Q ls F hP2 hS1 hl kr
theorem go_putN {index ci N : Nat} {C host : String} {T : u_T} (hin : ∀ w ∈ u_ws C T N, w ∈ g_W) (ty0 : Nat → FieldType) (hty : ∀ k, k < N → parseFieldDescriptor (T k).2.2.1 = some (ty0 k)) (hnm : ∀ a, a < N → ∀ b, b < N → a ≠ b → (T a).2.1 ≠ (T b).2.1) (hc : vwCl[ci]? = some (C, T, N)) (k : Nat) (hk : k < N) (hlink : Cond.fieldLinkNest own index C (T k).2.1 (T k).2.2.1 host ∈ g_nest) (hdecl : (T k).1 = C) (hfin : (T k).2.2.2 = false) {ty : FieldType} (hd : parseFieldDescriptor (T k).2.2.1 = some ty) {x : Int32} (hn : narrow ty (.int x) = .int x) (hfit : fits ty (.int x) = true) {q : Nat} {rf : List (Option Nat)} (hlay : g_lay[q]? = some (.inr (ci, rf))) (ho : rf[k]? = some none) (hdg : decode cc pc = .ok (.putfield index, 3))
    (kk : g_Go X cc own nL ret fr lo res (pc + 3) lv st (g_upd M q k x)) : g_Go X cc own nL ret fr lo res pc lv (.inl x :: .inr q :: st) M := by
  intro p e R s m args below meth c H locs cells slots Q ls F hP hS hl kr
  refine va_putN (C := C) (T := T) (N := N) (ci := ci) (ref := C) F.1 F.2.1 F.2.2.2.2.1 hin ty0 hty hnm F.2.2.2.1 F.2.2.2.2.2.1.1 hP (g_D F.2.2.2.2.2.2.2.2.2.2.1 M) hS q (g_enc_at hlay) hc k hk (va_Nw.use rfl (F.2.2.2.2.2.1.2 _ hlink)) (fun x h => by rw [hdecl] at h; exact h) hfin hd hn hfit (by rw [List.length_map, List.length_zipIdx]; exact (List.getElem?_eq_some_iff.mp ho).1) hdg fun H1 locs1 hP1 hD1 hS1 => ?_
  have hP2 : va_P X.2.1 vwCl (g_enc X (g_upd M q k x)) H1 := by
    rw [← g_put hlay ho]
    exact hP1
  exact kk p e R s m args below meth c H1 locs1 cells slots Q ls F hP2 hS1 hl kr
/-! arrays of ints -/
def g_in (i : Int32) (n : Nat) : Prop := 0 ≤ i ∧ i.toNatClampNeg < n
theorem g_in_vp {i : Int32} {n : Nat} (h : g_in i n) : vp_in i n := by
  intro q
  rcases q with q | q
  · exact absurd h.1 (by rw [Int32.not_le]; exact q)
  · exact absurd h.2 (by omega)
theorem go_iald {q n : Nat} {i : Int32} (hlay : g_lay[q]? = some (.inl n)) (hi : g_in i n) (hdg : decode cc pc = .ok (.iaload, 1)) (kk : g_Go X cc own nL ret fr lo res (pc + 1) lv (.inl (M q i.toNatClampNeg) :: st) M) : g_Go X cc own nL ret fr lo res pc lv (.inl i :: .inr q :: st) M := by
  intro p e R s m args below meth c H locs cells slots Q ls F hP hS hl kr
  exact va_iald F.1 F.2.1 F.2.2.2.2.2.1.1 hP q 0 (g_enc_at hlay) rfl (g_in_vp hi) hdg (kk p e R s m args below meth c H locs cells slots Q ls F hP hS hl kr)
theorem go_alen {q n : Nat} {v : Int32} (hlay : g_lay[q]? = some (.inl n)) (hv : Int32.ofNat n = v) (hdg : decode cc pc = .ok (.arraylength, 1)) (kk : g_Go X cc own nL ret fr lo res (pc + 1) lv (.inl v :: st) M) : g_Go X cc own nL ret fr lo res pc lv (.inr q :: st) M := by
  intro p e R s m args below meth c H locs cells slots Q ls F hP hS hl kr
  exact va_alen F.1 F.2.1 F.2.2.2.2.2.1.1 hP q 0 (g_enc_at hlay) (ty := .int) rfl hv hdg (kk p e R s m args below meth c H locs cells slots Q ls F hP hS hl kr)
theorem go_iast {q n : Nat} {i x : Int32} (hlay : g_lay[q]? = some (.inl n)) (hi : g_in i n) (hdg : decode cc pc = .ok (.iastore, 1)) (kk : g_Go X cc own nL ret fr lo res (pc + 1) lv st (g_upd M q i.toNatClampNeg x)) : g_Go X cc own nL ret fr lo res pc lv (.inl x :: .inl i :: .inr q :: st) M := by
  intro p e R s m args below meth c H locs cells slots Q ls F hP hS hl kr
  refine va_iast F.1 F.2.1 F.2.2.2.2.2.1.1 hP (g_D F.2.2.2.2.2.2.2.2.2.2.1 M) hS q 0 (g_enc_at hlay) rfl (g_in_vp hi) hdg fun H1 locs1 hP1 hD1 hS1 => ?_
  have ee : (g_enc X M).set q (X.2.2.1 q, .inl (X.2.2.2.1, n, .inl (upd (M q) i.toNatClampNeg x))) = g_enc X (g_upd M q i.toNatClampNeg x) := by
    rw [← g_enc_set (M' := g_upd M q i.toNatClampNeg x) hlay (fun r hr => g_upd_ne hr), g_upd_at]
    rfl
  rw [ee] at hP1
  exact kk p e R s m args below meth c H1 locs1 cells slots Q ls F hP1 hS1 hl kr
/-! switches -/
theorem go_look {dflt : Int} {ps : Array (Int × Int)} {len : Nat} {x : Int32} {off : Int} {tgt : Nat} (hdg : decode cc pc = .ok (.lookupswitch dflt ps, len)) (hp : (ps.toList.zip (ps.toList.drop 1)).all (fun (a, next) => a.1 < next.1) = true) (ho : Op.lookupswitch.offset ps.toList dflt x.toInt = off) (ht : (pc : Int) + off = (tgt : Int)) (kk : g_Go X cc own nL ret fr lo res tgt lv st M) : g_Go X cc own nL ret fr lo res pc lv (.inl x :: st) M := by
  intro p e R s m args below meth c H locs cells slots Q ls F hP hS hl kr
  exact lv_lookup F.1 F.2.1 hdg hp ho ht (kk p e R s m args below meth c H locs cells slots Q ls F hP hS hl kr)
theorem go_tabOut {dflt lo' hi' : Int} {offs : Array Int} {len : Nat} {x : Int32} {tgt : Nat} (hdg : decode cc pc = .ok (.tableswitch dflt lo' hi' offs, len)) (h : x.toInt < lo' ∨ hi' < x.toInt) (ht : (pc : Int) + dflt = (tgt : Int)) (kk : g_Go X cc own nL ret fr lo res tgt lv st M) : g_Go X cc own nL ret fr lo res pc lv (.inl x :: st) M := by
  intro p e R s m args below meth c H locs cells slots Q ls F hP hS hl kr
  exact lv_tableOut F.1 F.2.1 hdg h ht (kk p e R s m args below meth c H locs cells slots Q ls F hP hS hl kr)
theorem go_tabIn {dflt lo' hi' : Int} {offs : Array Int} {len : Nat} {x : Int32} {off : Int} {tgt : Nat} (hdg : decode cc pc = .ok (.tableswitch dflt lo' hi' offs, len)) (h1 : ¬ x.toInt < lo') (h2 : ¬ hi' < x.toInt) (ho : offs[(x.toInt - lo').toNat]? = some off) (ht : (pc : Int) + off = (tgt : Int)) (kk : g_Go X cc own nL ret fr lo res tgt lv st M) : g_Go X cc own nL ret fr lo res pc lv (.inl x :: st) M := by
  intro p e R s m args below meth c H locs cells slots Q ls F hP hS hl kr
  exact lv_tableIn F.1 F.2.1 hdg h1 h2 ho ht (kk p e R s m args below meth c H locs cells slots Q ls F hP hS hl kr)
/-! Math -/
theorem go_mmax {index : Nat} {x y : Int32} (hlink : Cond.methodLink own index Lib.Math.max.name ∈ g_W) (hstat : Cond.static Lib.Math.max.name ∈ g_W) (hini : Cond.initialized "java/lang/Math" ∈ g_W) (hcode : Cond.code Lib.Math.max.name Lib.Math.max.code 2 (some .int) ∈ g_W) (hfr : 1 ≤ fr) (hlo : st.length + 13 ≤ lo) (hdg : decode cc pc = .ok (.invokestatic index, 3)) (kk : g_Go X cc own nL ret fr lo res (pc + 3) lv (.inl (g_max x y) :: st) M) : g_Go X cc own nL ret fr lo res pc lv (.inl y :: .inl x :: st) M := by
  intro p e R s m args below meth c H locs cells slots Q ls F hP hS hl kr
  exact va_mmax F.1 F.2.1 (F.2.2.1.trans hl.1.symm) F.2.2.2.1 (F.2.2.2.2.1 _ hlink) (F.2.2.2.2.1 _ hstat) (F.2.2.2.2.1 _ hini) (F.2.2.2.2.1 _ hcode) (Nat.le_trans hfr F.2.2.2.2.2.2.1) (by rw [g_cats]; exact Nat.le_trans hlo F.2.2.2.2.2.2.2.1) F.2.2.2.2.2.2.2.2.1 F.2.2.2.2.2.2.2.2.2.1 hdg (kk p e R s m args below meth c H locs cells slots Q ls F hP hS hl kr)
theorem go_mmin {index : Nat} {x y : Int32} (hlink : Cond.methodLink own index Lib.Math.min.name ∈ g_W) (hstat : Cond.static Lib.Math.min.name ∈ g_W) (hini : Cond.initialized "java/lang/Math" ∈ g_W) (hcode : Cond.code Lib.Math.min.name Lib.Math.min.code 2 (some .int) ∈ g_W) (hfr : 1 ≤ fr) (hlo : st.length + 13 ≤ lo) (hdg : decode cc pc = .ok (.invokestatic index, 3)) (kk : g_Go X cc own nL ret fr lo res (pc + 3) lv (.inl (g_min x y) :: st) M) : g_Go X cc own nL ret fr lo res pc lv (.inl y :: .inl x :: st) M := by
  intro p e R s m args below meth c H locs cells slots Q ls F hP hS hl kr
  exact va_mmin F.1 F.2.1 (F.2.2.1.trans hl.1.symm) F.2.2.2.1 (F.2.2.2.2.1 _ hlink) (F.2.2.2.2.1 _ hstat) (F.2.2.2.2.1 _ hini) (F.2.2.2.2.1 _ hcode) (Nat.le_trans hfr F.2.2.2.2.2.2.1) (by rw [g_cats]; exact Nat.le_trans hlo F.2.2.2.2.2.2.2.1) F.2.2.2.2.2.2.2.2.1 F.2.2.2.2.2.2.2.2.2.1 hdg (kk p e R s m args below meth c H locs cells slots Q ls F hP hS hl kr)
theorem go_mabs {index : Nat} {x : Int32} (hlink : Cond.methodLink own index Lib.Math.abs.name ∈ g_W) (hstat : Cond.static Lib.Math.abs.name ∈ g_W) (hini : Cond.initialized "java/lang/Math" ∈ g_W) (hcode : Cond.code Lib.Math.abs.name Lib.Math.abs.code 1 (some .int) ∈ g_W) (hfr : 1 ≤ fr) (hlo : st.length + 13 ≤ lo) (hdg : decode cc pc = .ok (.invokestatic index, 3)) (kk : g_Go X cc own nL ret fr lo res (pc + 3) lv (.inl (g_abs x) :: st) M) : g_Go X cc own nL ret fr lo res pc lv (.inl x :: st) M := by
  intro p e R s m args below meth c H locs cells slots Q ls F hP hS hl kr
  exact va_mabs F.1 F.2.1 (F.2.2.1.trans hl.1.symm) F.2.2.2.1 (F.2.2.2.2.1 _ hlink) (F.2.2.2.2.1 _ hstat) (F.2.2.2.2.1 _ hini) (F.2.2.2.2.1 _ hcode) (Nat.le_trans hfr F.2.2.2.2.2.2.1) (by rw [g_cats]; exact Nat.le_trans hlo F.2.2.2.2.2.2.2.1) F.2.2.2.2.2.2.2.2.1 F.2.2.2.2.2.2.2.2.2.1 hdg (kk p e R s m args below meth c H locs cells slots Q ls F hP hS hl kr)
/-! copies -/
def g_cpb (sp dp n : Int32) (n0 n1 : Nat) : Bool := decide (0 ≤ sp) && decide (0 ≤ dp) && decide (0 ≤ n) && decide (sp.toNatClampNeg + n.toNatClampNeg ≤ n0) && decide (dp.toNatClampNeg + n.toNatClampNeg ≤ n1)
def g_cpy (M : g_M) (a b : Nat) (sp dp n : Int32) : g_M := fun q => if q = b then va_cpy (M a) (M b) sp.toNatClampNeg dp.toNatClampNeg n.toNatClampNeg else M q
theorem go_copy {index q0 q1 n0 n1 : Nat} {sp dp n : Int32} (hl0 : g_lay[q0]? = some (.inl n0)) (hl1 : g_lay[q1]? = some (.inl n1)) (hb : g_cpb sp dp n n0 n1 = true) (hlink : Cond.methodLink own index arraycopyName ∈ g_W) (hnat : Cond.native arraycopyName ∈ g_W) (hstat : Cond.static arraycopyName ∈ g_W) (hini : Cond.initialized "java/lang/System" ∈ g_W) (hfr : 1 ≤ fr) (hst : st.length ≤ 4) (hlo : 4 + (nativeFrameWords "java/lang/System" "arraycopy" 5 + 11) ≤ lo) (hdg : decode cc pc = .ok (.invokestatic index, 3)) (kk : g_Go X cc own nL ret fr lo res (pc + 3) lv st (g_cpy M q0 q1 sp dp n)) : g_Go X cc own nL ret fr lo res pc lv (.inl n :: .inl dp :: .inr q1 :: .inl sp :: .inr q0 :: st) M := by
  intro p e R s m args below meth c H locs cells slots Q ls F hP hS hl kr
  unfold g_cpb at hb
  simp only [Bool.and_eq_true, decide_eq_true_eq] at hb
  obtain ⟨⟨⟨⟨b1, b2⟩, b3⟩, b4⟩, b5⟩ := hb
  refine va_copyi F.1 F.2.1 (F.2.2.1.trans hl.1.symm) F.2.2.2.1 (F.2.2.2.2.1 _ hlink) (F.2.2.2.2.1 _ hnat) (F.2.2.2.2.1 _ hstat) (F.2.2.2.2.1 _ hini) F.2.2.2.2.2.1.1 hP (g_D F.2.2.2.2.2.2.2.2.2.2.1 M) hS q0 q1 0 0 (ty := .int) (g_enc_at hl0) (g_enc_at hl1) rfl rfl rfl (by rw [Int32.not_lt]; exact b1) (by rw [Int32.not_lt]; exact b2) (by rw [Int32.not_lt]; exact b3) b4 b5 (fun _ _ => rfl) (Nat.le_trans hfr F.2.2.2.2.2.2.1) (by rw [g_cats]; exact Nat.le_trans (Nat.add_le_add_right hst _) (Nat.le_trans hlo F.2.2.2.2.2.2.2.1)) hdg fun H1 locs1 hP1 hD1 hS1 => ?_
  have ee : (g_enc X M).set q1 (X.2.2.1 q1, .inl (X.2.2.2.1, n1, .inl (va_cpy (M q0) (M q1) sp.toNatClampNeg dp.toNatClampNeg n.toNatClampNeg))) = g_enc X (g_cpy M q0 q1 sp dp n) := by
    rw [← g_enc_set (M' := g_cpy M q0 q1 sp dp n) hl1 (fun r hr => if_neg hr)]
    unfold g_cpy
    rw [if_pos rfl]
    rfl
  rw [ee] at hP1
  exact kk p e R s m args below meth c H1 locs1 cells slots Q ls F hP1 hS1 hl kr
/-! texts -/
theorem go_ldcs {i index : Nat} {tx : String} (hown : own = RX3) (hi : g_tx[i]? = some (index, tx)) (hdg : decode cc pc = .ok (.ldc index, 2)) (kk : g_Go X cc own nL ret fr lo res (pc + 2) lv (.inr (1000 + i) :: st) M) : g_Go X cc own nL ret fr lo res pc lv st M := by
  intro p e R s m args below meth c H locs cells slots Q ls F hP hS hl kr
  subst hown
  exact va_ldcS F.1 F.2.1 F.2.2.2.1 (F.2.2.2.2.2.2.2.2.2.2.2.2.1 _ _ hi) hdg (kk p e R s m args below meth c H locs cells slots Q ls F hP hS hl kr)
theorem go_sval {i : Nat} (hi : i < 6) (hown : own = "java/lang/String") (hlink : Cond.fieldLink own 9 "java/lang/String" "value" "[B" ∈ g_W) (hdg : decode cc pc = .ok (.getfield 9, 3)) (kk : g_Go X cc own nL ret fr lo res (pc + 3) lv (.inr (2000 + i) :: st) M) : g_Go X cc own nL ret fr lo res pc lv (.inr (1000 + i) :: st) M := by
  intro p e R s m args below meth c H locs cells slots Q ls F hP hS hl kr
  exact vk_getf F.1 F.2.1 (F.2.2.2.2.2.2.2.2.2.2.2.1.1 i hi).2.2.1 hS F.2.2.2.1 (F.2.2.2.2.1 _ hlink) (fun _ h => h) hdg (kk p e R s m args below meth c H locs cells slots Q ls F hP hS hl kr)
theorem go_scod {i : Nat} (hi : i < 6) (hown : own = "java/lang/String") (hlink : Cond.fieldLink own 15 "java/lang/String" "coder" "B" ∈ g_W) (hdg : decode cc pc = .ok (.getfield 15, 3)) (kk : g_Go X cc own nL ret fr lo res (pc + 3) lv (.inl 0 :: st) M) : g_Go X cc own nL ret fr lo res pc lv (.inr (1000 + i) :: st) M := by
  intro p e R s m args below meth c H locs cells slots Q ls F hP hS hl kr
  exact vk_getf F.1 F.2.1 (F.2.2.2.2.2.2.2.2.2.2.2.1.1 i hi).2.1 hS F.2.2.2.1 (F.2.2.2.2.1 _ hlink) (fun _ h => h) hdg (kk p e R s m args below meth c H locs cells slots Q ls F hP hS hl kr)
theorem go_scomp (hlink : Cond.fieldLink own 38 "java/lang/String" "COMPACT_STRINGS" "Z" ∈ g_W) (hdg : decode cc pc = .ok (.getstatic 38, 3)) (kk : g_Go X cc own nL ret fr lo res (pc + 3) lv (.inl 1 :: st) M) : g_Go X cc own nL ret fr lo res pc lv st M := by
  intro p e R s m args below meth c H locs cells slots Q ls F hP hS hl kr
  exact va_gets F.1 F.2.1 F.2.2.2.2.2.2.2.2.2.2.2.2.2.1 hS F.2.2.2.1 (F.2.2.2.2.1 _ hlink) (fun _ h => h) hdg (kk p e R s m args below meth c H locs cells slots Q ls F hP hS hl kr)
theorem go_slen {i n : Nat} (hi : i < 6) (hn : g_lens.getD i 0 = n) (hdg : decode cc pc = .ok (.arraylength, 1)) (kk : g_Go X cc own nL ret fr lo res (pc + 1) lv (.inl (nI n) :: st) M) : g_Go X cc own nL ret fr lo res pc lv (.inr (2000 + i) :: st) M := by
  intro p e R s m args below meth c H locs cells slots Q ls F hP hS hl kr
  subst hn
  obtain ⟨cell, h1, h2, h3, h4, h5, h6, h7⟩ := (F.2.2.2.2.2.2.2.2.2.2.2.1.1 i hi).2.2.2.kept hS.2.1
  exact W.alen (n := nI (g_lens.getD i 0)) F.1 F.2.1 h1 h2 h5 rfl rfl hdg (kk p e R s m args below meth c H locs cells slots Q ls F hP hS hl kr)
theorem go_sbald {i : Nat} {j : Int32} (hi : i < 6) (hj : g_in j (g_lens.getD i 0)) (hdg : decode cc pc = .ok (.baload, 1)) (kk : g_Go X cc own nL ret fr lo res (pc + 1) lv (.inl ((g_byts.getD i []).getD j.toNatClampNeg 0) :: st) M) : g_Go X cc own nL ret fr lo res pc lv (.inl j :: .inr (2000 + i) :: st) M := by
  intro p e R s m args below meth c H locs cells slots Q ls F hP hS hl kr
  obtain ⟨cell, h1, h2, h3, h4, h5, h6, h7⟩ := (F.2.2.2.2.2.2.2.2.2.2.2.1.1 i hi).2.2.2.kept hS.2.1
  exact W.bald (v := .int ((g_byts.getD i []).getD j.toNatClampNeg 0)) F.1 F.2.1 h1 h2 h3 (by intro q; rcases q with q | q; exact absurd hj.1 (by rw [Int32.not_le]; exact q); exact absurd hj.2 (by omega)) (h6 _ hj.2) rfl rfl hdg (kk p e R s m args below meth c H locs cells slots Q ls F hP hS hl kr)
theorem go_i2c {x y : Int32} (hy : x.toUInt32.toUInt16.toUInt32.toInt32 = y) (hdg : decode cc pc = .ok (.i2c, 1)) (kk : g_Go X cc own nL ret fr lo res (pc + 1) lv (.inl y :: st) M) : g_Go X cc own nL ret fr lo res pc lv (.inl x :: st) M := by
  intro p e R s m args below meth c H locs cells slots Q ls F hP hS hl kr
  exact lv_i2c F.1 F.2.1 hdg hy (kk p e R s m args below meth c H locs cells slots Q ls F hP hS hl kr)
/-! the script -/
theorem go_xlen {n : Nat} (hn : X.2.2.2.2.1 = n) (hdg : decode cc pc = .ok (.arraylength, 1)) (kk : g_Go X cc own nL ret fr lo res (pc + 1) lv (.inl (Int32.ofNat n) :: st) M) : g_Go X cc own nL ret fr lo res pc lv (.inr 5000 :: st) M := by
  intro p e R s m args below meth c H locs cells slots Q ls F hP hS hl kr
  subst hn
  exact va_slen F.1 F.2.1 F.2.2.2.2.2.2.2.2.2.2.2.2.2.2.2.1 F.2.2.2.2.2.2.2.2.2.2.2.2.2.2.2.2.1 F.2.2.2.2.2.2.2.2.2.2.2.2.2.2.2.2.2 hS hdg (kk p e R s m args below meth c H locs cells slots Q ls F hP hS hl kr)
theorem go_xld {n : Nat} {xs : Nat → Int32} {i : Int32} (hn : X.2.2.2.2.1 = n) (hx : X.2.2.2.2.2 = xs) (hi : g_in i n) (hdg : decode cc pc = .ok (.iaload, 1)) (kk : g_Go X cc own nL ret fr lo res (pc + 1) lv (.inl (xs i.toNatClampNeg) :: st) M) : g_Go X cc own nL ret fr lo res pc lv (.inl i :: .inr 5000 :: st) M := by
  intro p e R s m args below meth c H locs cells slots Q ls F hP hS hl kr
  subst hn; subst hx
  exact va_sld F.1 F.2.1 F.2.2.2.2.2.2.2.2.2.2.2.2.2.2.2.1 F.2.2.2.2.2.2.2.2.2.2.2.2.2.2.2.2.1 F.2.2.2.2.2.2.2.2.2.2.2.2.2.2.2.2.2 hS (g_in_vp hi) hdg (kk p e R s m args below meth c H locs cells slots Q ls F hP hS hl kr)
end GO
/-! calls -/
def g_rst (ret : Option FieldType) (r : Int32) : List g_V := match ret with
  | none => []
  | some (.object _) => [.inr (1000 + r.toNatClampNeg)]
  | some _ => [.inl r]
theorem g_rst_eq (X : g_X) (ret : Option FieldType) (r : Int32) (st : List g_V) : (g_rst ret r ++ st).map (g_tr X) = (g_rv X ret r).toList ++ st.map (g_tr X) := by
  cases ret with
  | none => rfl
  | some ty => cases ty <;> rfl
def g_cwV (y : MethodName) (cc : ByteArray) (nL : Nat) (ret : Option FieldType) (n : Nat) : Prop :=
  Cond.instanceMethod y ∈ g_W ∧ Cond.selects y.cls y y ∈ g_W ∧ Cond.initialized y.cls ∈ g_W ∧ Cond.code y cc nL ret ∈ g_W ∧ y.cls ≠ "java/lang/invoke/MethodHandle" ∧ y.cls ≠ "java/lang/invoke/VarHandle" ∧ (parseMethodDescriptor y.desc).map (fun d => d.parameters.length) = some n
def g_cwS (y : MethodName) (cc : ByteArray) (nL : Nat) (ret : Option FieldType) (n : Nat) : Prop :=
  Cond.static y ∈ g_W ∧ Cond.initialized y.cls ∈ g_W ∧ Cond.code y cc nL ret ∈ g_W ∧ y.cls ≠ "java/lang/invoke/MethodHandle" ∧ y.cls ≠ "java/lang/invoke/VarHandle" ∧ (parseMethodDescriptor y.desc).map (fun d => d.parameters.length) = some n
theorem g_goodIn {y : MethodName} {cc : ByteArray} {nL : Nat} {ret : Option FieldType} (h : Cond.code y cc nL ret ∈ g_W) : GoodIn g_W (g_ws y cc nL ret) := by
  intro w hw
  have h1 : w ∈ g_W := by
    rcases List.mem_cons.mp hw with rfl | hw
    · exact h
    · exact hw
  exact ⟨h1, good_of_word (List.mem_filter.mp h1).2⟩
section CALLS
variable {X : g_X} {cc : ByteArray} {own : String} {nL fr lo pc : Nat} {ret : Option FieldType} {res : Int32 × g_M} {lv : List (Option g_V)} {st stk : List g_V} {M : g_M}
/-- behind a call -/
theorem g_back {p : Program} {e : Env} {R : Room} {s : State} {m : MethodId} {args : Array Value} {below : List Frame} {meth : Method} {c : Code} {H : Heap} {locs : List Loc} {cells slots : Nat} {Q : State → Prop} {ls : Array Slot} {ret' : Option FieldType} {r : Int32} {M1 : g_M} {stk' : List Value} {a : Array Value}
    (F : g_Fix X p R s m args c cells slots cc own nL fr lo) (hS : va_S (g_A X) s.heap H locs) (hl : lv_has ls nL (g_al X lv))
    (hr : va_Run p X.1 e R s m args below meth c H locs cells slots 0 0 (F0 m pc ls stk') (st.map (g_tr X)) (g_Qc X ret' (r, M1) a) (g_A X))
    (kr : ∀ (pc' : Nat) (H' : Heap) (locs' : List Loc) (ls' : Array Slot), g_P X res.2 H' → va_S (g_A X) s.heap H' locs' → g_end cc ret pc' res.1 → W p X.1 e R s m args below meth c H' locs' cells slots Q (F0 m pc' ls' (g_rs X ret res.1)))
    (kk : g_Go X cc own nL ret fr lo res (pc + 3) lv (g_rst ret' r ++ st) M1) : W p X.1 e R s m args below meth c H locs cells slots Q (F0 m pc ls stk') := by
  intro T hT XX
  obtain ⟨v, st₀, t, T', L, h0, X', hL, e1, e2, ⟨hv, hp1, hz, hk⟩, stp⟩ := hr T hT XX
  injection hv with hv
  subst hv
  rw [h0] at hz hk
  have hS' : va_S (g_A X) s.heap T'.heap (locs ++ L) := by
    rw [e1]
    refine ⟨Nat.le_trans hS.1 hz, fun q h1 h2 => ?_, fun q hq => ?_⟩
    · rw [hk q (Nat.lt_of_lt_of_le h1 hS.1) h2]
      exact hS.2.1 q h1 h2
    · rcases List.mem_append.mp hq with h | h
      · exact hS.2.2 q h
      · exact hL q h
  have hP' : g_P X M1 T'.heap := by rw [e1]; exact hp1
  have k2 := kk p e R s m args below meth c T'.heap (locs ++ L) cells slots Q ls F hP' hS' hl kr
  rw [g_rst_eq] at k2
  obtain ⟨t2, a1, b1⟩ := k2 T' rfl X'
  exact ⟨t2, stp t2 a1, b1⟩
theorem go_callV {index nL' fr' lo' b ci : Nat} {ret' : Option FieldType} {y : MethodName} {cc' : ByteArray} {as : List g_V} {r : Int32} {M1 : g_M} {q : vw_C} {rf : List (Option Nat)} (hcon : g_Con X y cc' nL' ret' fr' lo' (.inr b :: as) M (r, M1)) (cw : g_cwV y cc' nL' ret' as.length) (hlink : Cond.methodLink own index y ∈ g_W)
    (hlay : g_lay[b]? = some (.inr (ci, rf))) (hq : vwCl[ci]? = some q) (hqy : q.1 = y.cls) (hR : fr' + 1 ≤ fr ∧ 8 + (nL' + 11) + lo' ≤ lo) (hst : st.length ≤ 8) (hstk : stk = as.reverse ++ .inr b :: st) (hdg : decode cc pc = .ok (.invokevirtual index, 3))
    (kk : g_Go X cc own nL ret fr lo res (pc + 3) lv (g_rst ret' r ++ st) M1) : g_Go X cc own nL ret fr lo res pc lv stk M := by
  intro p e R s m args below meth c H locs cells slots Q ls F hP hS hl kr
  subst hstk
  obtain ⟨hx, hb, hml, hown, hw, hK, hfr, hlo, hce, hsl, hok, hSt⟩ := id F
  obtain ⟨w1, w2, w3, w4, w5, w6, w7⟩ := cw
  refine g_back F hS hl (va_runV (Ts := g_W) (own := own) (C := y.cls) (As := as.map (g_tr X)) (b := X.2.2.1 b) ⟨hx, hb, hml, hown, hw⟩ hcon ⟨callB_of as.length hw (g_goodIn w4) rfl rfl rfl (hw _ w3) (hw _ hlink) ⟨w5, w6, w7⟩ ⟨Nat.le_trans hR.1 hfr, Nat.le_trans hR.2 hlo⟩, hw _ w1, hw _ w2⟩ ⟨g_blind X _ M, ?_, fun U hU hW => ⟨rfl, by rw [hU]; exact hP, hK.warm hW, by rw [hU]; exact (hSt.kept hS.1 hS.2.1).warm hW⟩⟩ rfl (List.length_map _) hl.1 ?_ (lv_room (by rw [g_cats]; exact hst)) hdg ⟨hce, hsl⟩) kr kk
  · have h := va_recv hK.1 hP hq (g_enc_at hlay)
    rw [hqy] at h
    exact h
  · show (as.reverse ++ .inr b :: st).map (g_tr X) = (as.map (g_tr X)).reverse ++ _
    rw [List.map_append, List.map_reverse]
    rfl
theorem go_callS {index nL' fr' lo' : Nat} {ret' : Option FieldType} {y : MethodName} {cc' : ByteArray} {as : List g_V} {r : Int32} {M1 : g_M} (hcon : g_Con X y cc' nL' ret' fr' lo' as M (r, M1)) (cw : g_cwS y cc' nL' ret' as.length) (hlink : Cond.methodLink own index y ∈ g_W)
    (hR : fr' + 1 ≤ fr ∧ 8 + (nL' + 11) + lo' ≤ lo) (hst : st.length ≤ 8) (hstk : stk = as.reverse ++ st) (hdg : decode cc pc = .ok (.invokestatic index, 3))
    (kk : g_Go X cc own nL ret fr lo res (pc + 3) lv (g_rst ret' r ++ st) M1) : g_Go X cc own nL ret fr lo res pc lv stk M := by
  intro p e R s m args below meth c H locs cells slots Q ls F hP hS hl kr
  subst hstk
  obtain ⟨hx, hb, hml, hown, hw, hK, hfr, hlo, hce, hsl, hok, hSt⟩ := id F
  obtain ⟨w1, w3, w4, w5, w6, w7⟩ := cw
  refine g_back F hS hl (va_runS (Ts := g_W) (own := own) (As := as.map (g_tr X)) ⟨hx, hb, hml, hown, hw⟩ hcon ⟨callB_of as.length hw (g_goodIn w4) rfl rfl rfl (hw _ w3) (hw _ hlink) ⟨w5, w6, w7⟩ ⟨Nat.le_trans hR.1 hfr, Nat.le_trans hR.2 hlo⟩, hw _ w1⟩ ⟨g_blind X _ M, fun U hU hW => ⟨rfl, by rw [hU]; exact hP, hK.warm hW, by rw [hU]; exact (hSt.kept hS.1 hS.2.1).warm hW⟩⟩ rfl (List.length_map _) hl.1 ?_ (lv_room (by rw [g_cats]; exact hst)) hdg ⟨hce, hsl⟩) kr kk
  · show (as.reverse ++ st).map (g_tr X) = (as.map (g_tr X)).reverse ++ _
    rw [List.map_append, List.map_reverse]
theorem go_callSN {index nL' fr' lo' : Nat} {host : String} {ret' : Option FieldType} {y : MethodName} {cc' : ByteArray} {as : List g_V} {r : Int32} {M1 : g_M} (hcon : g_Con X y cc' nL' ret' fr' lo' as M (r, M1)) (cw : g_cwS y cc' nL' ret' as.length) (hlink : Cond.methodLinkNest own index y host ∈ g_nest)
    (hR : fr' + 1 ≤ fr ∧ 8 + (nL' + 11) + lo' ≤ lo) (hst : st.length ≤ 8) (hstk : stk = as.reverse ++ st) (hdg : decode cc pc = .ok (.invokestatic index, 3))
    (kk : g_Go X cc own nL ret fr lo res (pc + 3) lv (g_rst ret' r ++ st) M1) : g_Go X cc own nL ret fr lo res pc lv stk M := by
  intro p e R s m args below meth c H locs cells slots Q ls F hP hS hl kr
  subst hstk
  obtain ⟨hx, hb, hml, hown, hw, hK, hfr, hlo, hce, hsl, hok, hSt⟩ := id F
  obtain ⟨w1, w3, w4, w5, w6, w7⟩ := cw
  refine g_back F hS hl (va_runSN (Ts := g_W) (own := own) (As := as.map (g_tr X)) ⟨hx, hb, hml, hown, hw⟩ hcon ⟨va_cnB as.length hw (g_goodIn w4) rfl rfl rfl (hK.2 _ hlink) (hw _ w3) ⟨w5, w6, w7⟩ ⟨Nat.le_trans hR.1 hfr, Nat.le_trans hR.2 hlo⟩, hw _ w1, trivial⟩ ⟨g_blind X _ M, fun U hU hW => ⟨rfl, by rw [hU]; exact hP, hK.warm hW, by rw [hU]; exact (hSt.kept hS.1 hS.2.1).warm hW⟩⟩ rfl (List.length_map _) hl.1 ?_ (lv_room (by rw [g_cats]; exact hst)) hdg ⟨hce, hsl⟩) kr kk
  · show (as.reverse ++ st).map (g_tr X) = (as.map (g_tr X)).reverse ++ _
    rw [List.map_append, List.map_reverse]
end CALLS
/-- a call on a text -/
theorem go_callVS {X : g_X} {cc : ByteArray} {own : String} {nL fr lo pc : Nat} {ret : Option FieldType} {res : Int32 × g_M} {lv : List (Option g_V)} {st stk : List g_V} {M : g_M} {index nL' fr' lo' k : Nat} {ret' : Option FieldType} {y : MethodName} {cc' : ByteArray} {as : List g_V} {r : Int32} {M1 : g_M} (hk : k < 6) (hcon : g_Con X y cc' nL' ret' fr' lo' (.inr (1000 + k) :: as) M (r, M1)) (cw : g_cwV y cc' nL' ret' as.length) (hlink : Cond.methodLink own index y ∈ g_W)
    (hqy : y.cls = "java/lang/String") (hR : fr' + 1 ≤ fr ∧ 8 + (nL' + 11) + lo' ≤ lo) (hst : st.length ≤ 8) (hstk : stk = as.reverse ++ .inr (1000 + k) :: st) (hdg : decode cc pc = .ok (.invokevirtual index, 3))
    (kk : g_Go X cc own nL ret fr lo res (pc + 3) lv (g_rst ret' r ++ st) M1) : g_Go X cc own nL ret fr lo res pc lv stk M := by
  intro p e R s m args below meth c H locs cells slots Q ls F hP hS hl kr
  subst hstk
  obtain ⟨hx, hb, hml, hown, hw, hK, hfr, hlo, hce, hsl, hok, hSt⟩ := id F
  obtain ⟨w1, w2, w3, w4, w5, w6, w7⟩ := cw
  refine g_back F hS hl (va_runV (Ts := g_W) (own := own) (C := y.cls) (As := as.map (g_tr X)) (b := X.2.2.1 (1000 + k)) ⟨hx, hb, hml, hown, hw⟩ hcon ⟨callB_of as.length hw (g_goodIn w4) rfl rfl rfl (hw _ w3) (hw _ hlink) ⟨w5, w6, w7⟩ ⟨Nat.le_trans hR.1 hfr, Nat.le_trans hR.2 hlo⟩, hw _ w1, hw _ w2⟩ ⟨g_blind X _ M, ?_, fun U hU hW => ⟨rfl, by rw [hU]; exact hP, hK.warm hW, by rw [hU]; exact (hSt.kept hS.1 hS.2.1).warm hW⟩⟩ rfl (List.length_map _) hl.1 ?_ (lv_room (by rw [g_cats]; exact hst)) hdg ⟨hce, hsl⟩) kr kk
  · have h := vk_recv hSt.1 hk hS
    rw [hqy]
    exact h
  · show (as.reverse ++ .inr (1000 + k) :: st).map (g_tr X) = (as.map (g_tr X)).reverse ++ _
    rw [List.map_append, List.map_reverse]
    rfl
