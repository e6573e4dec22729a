/-! worlds that grow: the layout is a list, its cells lie one behind another from b on -/
abbrev h_F : Type := Option (Option Nat)
abbrev h_L : Type := Nat ⊕ (Nat × List h_F)
def h_fv (X : g_X) (f : Nat → Int32) (x : h_F × Nat) : Value := match x.1 with
  | some (some q) => Value.ref (X.2.2.1 q)
  | some none => .null
  | none => Value.int (f x.2)
def h_encE (X : g_X) (f : Nat → Int32) : h_L → va_E
  | .inl n => .inl (X.2.2.2.1, n, .inl f)
  | .inr o => .inr (o.1, o.2.zipIdx.map (h_fv X f))
def h_enc (X : g_X) (L : List h_L) (M : g_M) : va_W := L.zipIdx.map fun x => (X.2.2.1 x.2, h_encE X (M x.2) x.1)
theorem h_enc_at {X : g_X} {L : List h_L} {M : g_M} {c : Nat} {e : h_L} (h : L[c]? = some e) : (h_enc X L M)[c]? = some (X.2.2.1 c, h_encE X (M c) e) := by
  simp [h_enc, h]
theorem h_enc_len (X : g_X) (L : List h_L) (M : g_M) : (h_enc X L M).length = L.length := by simp [h_enc]
theorem h_enc_get {X : g_X} {L : List h_L} {M : g_M} {c : Nat} {q : Nat × va_E} (h : (h_enc X L M)[c]? = some q) : c < L.length ∧ q.1 = X.2.2.1 c := by
  have hl : c < L.length := by
    rw [← h_enc_len X L M]
    exact (List.getElem?_eq_some_iff.mp h).1
  refine ⟨hl, ?_⟩
  rw [h_enc_at (List.getElem?_eq_getElem hl)] at h
  cases h
  rfl
theorem h_enc_set {X : g_X} {L : List h_L} {M M' : g_M} {c : Nat} {e e' : h_L} (h : L[c]? = some e) (hM : ∀ q, q ≠ c → M' q = M q) : (h_enc X L M).set c (X.2.2.1 c, h_encE X (M' c) e') = h_enc X (L.set c e') M' := by
  have hl0 := (List.getElem?_eq_some_iff.mp h).1
  have hl : c < (h_enc X L M).length := by rw [h_enc_len]; exact hl0
  apply List.ext_getElem?
  intro k
  by_cases hk : k = c
  · subst hk
    rw [List.getElem?_set_self hl, h_enc_at (e := e') (by rw [List.getElem?_set_self hl0])]
  · rw [List.getElem?_set_ne (Ne.symm hk)]
    simp only [h_enc, List.getElem?_map, List.getElem?_zipIdx]
    rw [List.getElem?_set_ne (Ne.symm hk)]
    cases L[k]? with
    | none => rfl
    | some e2 => simp [hM k hk]
theorem h_enc_push (X : g_X) (L : List h_L) (M : g_M) (e : h_L) : h_enc X (L ++ [e]) M = h_enc X L M ++ [(X.2.2.1 L.length, h_encE X (M L.length) e)] := by
  simp [h_enc, List.zipIdx_append]
def h_A (b : Nat) : Nat → Prop := fun q => b ≤ q
def h_ad (X : g_X) (b : Nat) : Prop := ∀ k, k < 75 → X.2.2.1 k = b + k
theorem h_D {X : g_X} {b : Nat} {L : List h_L} (hX : h_ad X b) (hL : L.length ≤ 75) (M : g_M) : va_D (h_A b) (h_enc X L M) := by
  refine ⟨fun i j p q hi hj hpq => ?_, fun k q hk => ?_⟩
  · obtain ⟨li, ei⟩ := h_enc_get hi
    obtain ⟨lj, ej⟩ := h_enc_get hj
    rw [ei, ej, hX i (by omega), hX j (by omega)] at hpq
    omega
  · obtain ⟨lk, ek⟩ := h_enc_get hk
    rw [ek, hX k (by omega)]
    show b ≤ b + k
    omega
def h_In (X : g_X) (b : Nat) (L : List h_L) (M : g_M) (s : State) (H : Heap) (locs : List Loc) : Prop := va_P X.2.1 vwCl (h_enc X L M) H ∧ H.size = b + L.length ∧ va_S (h_A b) s.heap H locs ∧ L.length ≤ 75
def h_Fix (X : g_X) (b : Nat) (p : Program) (s : State) (m : MethodId) (args : Array Value) (c : Code) (cc : ByteArray) (own : String) (nL : Nat) : Prop :=
  p.tables.exec = Jvm.exec ∧ c.code = cc ∧ c.maxLocals = nL ∧ s.vm.findClass own = some m.cls ∧ (∀ w ∈ g_W, w.before args s = true) ∧ g_K X s ∧ h_ad X b ∧ b ≤ s.heap.size
/-- a new object's fields -/
def h_blank (ty : Nat → FieldType) (N : Nat) : List h_F := (List.range N).map fun j => match ty j with
  | .int => none
  | .boolean => none
  | _ => some none
def h_okT (ty : Nat → FieldType) (N : Nat) : Bool := (List.range N).all fun j => match ty j with
  | .int => true
  | .boolean => true
  | .object _ => true
  | .array _ => true
  | _ => false
theorem h_dv {X : g_X} {ty : Nat → FieldType} {N : Nat} (h : h_okT ty N = true) {j : Nat} (hj : j < N) : defaultValue (ty j) = vp_V ((h_blank ty N).zipIdx.map (h_fv X (fun _ => 0))) j := by
  have h1 := List.all_eq_true.mp h j (List.mem_range.mpr hj)
  have h2 : ((h_blank ty N).zipIdx.map (h_fv X (fun _ => 0)))[j]? = some (h_fv X (fun _ => 0) ((match ty j with
      | .int => none
      | .boolean => none
      | _ => some none), j)) := by
    rw [List.getElem?_map, List.getElem?_zipIdx]
    unfold h_blank
    rw [List.getElem?_map, List.getElem?_range hj]
    simp
  unfold vp_V
  rw [List.getD_eq_getElem?_getD, h2]
  revert h1
  cases ty j <;> simp [h_fv, defaultValue]
theorem g_upd_same {M : g_M} {q k : Nat} {v : Int32} (h : M q k = v) : g_upd M q k v = M := by
  funext a j
  rw [g_upd_get]
  by_cases hh : a = q ∧ j = k
  · rw [if_pos hh, hh.1, hh.2, h]
  · rw [if_neg hh]
section HN
variable {X : g_X} {b : Nat} {p : Program} {e : Env} {R : Room} {s : State} {m : MethodId} {args : Array Value} {below : List Frame} {meth : Method} {c : Code} {H : Heap} {locs : List Loc} {cells slots : Nat} {Q : State → Prop} {cc : ByteArray} {own : String} {nL pc : Nat} {ls : Array Slot} {rest : List Value} {L : List h_L} {M : g_M}
theorem h_new (F : h_Fix X b p s m args c cc own nL) (I : h_In X b L M s H locs) {index ci N : Nat} {C : String} {T : u_T} (hin : ∀ w ∈ u_ws C T N, w ∈ g_W) (ty : Nat → FieldType) (hty : ∀ k, k < N → parseFieldDescriptor (T k).2.2.1 = some (ty k)) (hok : h_okT ty N = true) (hcl : Cond.classLink own index C ∈ g_W) (hinst : Cond.instantiable C N ∈ g_W) (hini : Cond.initialized C ∈ g_W) (hc : vwCl[ci]? = some (C, T, N)) {q' : Nat} {L' : List h_L} (hq' : L.length = q') (hL' : L ++ [.inr (ci, h_blank ty N)] = L') (hM : M q' = fun _ => 0) (hL : q' < 75) (hcells : cells + 1 ≤ R.cells) (hslots : slots + N ≤ R.slots) (hdg : decode cc pc = .ok (.new index, 3))
    (kk : ∀ H1 : Heap, h_In X b L' M s H1 locs → W p X.1 e R s m args below meth c H1 locs (cells + 1) (slots + N) Q (F0 m (pc + 3) ls (.ref (X.2.2.1 q') :: rest))) : W p X.1 e R s m args below meth c H locs cells slots Q (F0 m pc ls rest) := by
  subst hq'; subst hL'
  obtain ⟨hx, hb, hml, hown, hw, hK, hX, hbs⟩ := F
  obtain ⟨hP, hz, hS, hLl⟩ := I
  have hKn := hK.1.1 ci _ hc
  have ha : X.2.2.1 L.length = H.size := by rw [hX _ hL, hz]
  rw [ha] at kk
  refine W.newcK hx hb hown (hw _ hcl) (hw _ hinst) (hw _ hini) rfl hdg hcells hslots hKn.2.1 rfl fun H1 kC hkC e1 z1 o1 => ?_
  refine kk H1 ⟨?_, by rw [z1, hz, List.length_append]; rfl, ⟨Nat.le_trans hS.1 (by omega), fun x h1 h2 => (o1 x (Nat.lt_of_lt_of_le h1 hS.1)).trans (hS.2.1 x h1 h2), hS.2.2⟩, by rw [List.length_append]; exact hL⟩
  rw [h_enc_push]
  refine (hP.kept (fun k x hk => o1 x.1 ((hP k x hk).lt))).app (fun k x hk => ?_)
  have hk1 : k < 1 := (List.getElem?_eq_some_iff.mp hk).1
  rw [show k = 0 by omega] at hk
  cases hk
  rw [ha]
  refine ⟨_, hc, (u_born ty hw hin hKn hkC e1 hty).to (fun j hj => ?_)⟩
  rw [hM]
  exact h_dv hok hj
theorem h_newa (F : h_Fix X b p s m args c cc own nL) (I : h_In X b L M s H locs) {n : Int32} {N : Nat} (harr : Cond.arrayClass .int ∈ g_W) {q' : Nat} {L' : List h_L} (hq' : L.length = q') (hL' : L ++ [.inl N] = L') (hM : M q' = fun _ => 0) (hL : q' < 75) (hn : ¬ n < 0) (hN : n.toNatClampNeg = N) (hbytes : N * 4 ≤ 536870912) (hcells : cells + 1 ≤ R.cells) (hslots : slots + N ≤ R.slots) (hdg : decode cc pc = .ok (.newarray .int, 2))
    (kk : ∀ H1 : Heap, h_In X b L' M s H1 locs → W p X.1 e R s m args below meth c H1 locs (cells + 1) (slots + N) Q (F0 m (pc + 2) ls (.ref (X.2.2.1 q') :: rest))) : W p X.1 e R s m args below meth c H locs cells slots Q (F0 m pc ls (.int n :: rest)) := by
  subst hq'; subst hL'
  obtain ⟨hx, hb, hml, hown, hw, hK, hX, hbs⟩ := F
  obtain ⟨hP, hz, hS, hLl⟩ := I
  have ha : X.2.2.1 L.length = H.size := by rw [hX _ hL, hz]
  rw [ha] at kk
  refine va_newaK (atype := .int) hx hb (hw _ harr) rfl hdg rfl hn hN hbytes hcells hslots rfl fun H1 cA e1 z1 o1 hAr hNm => ?_
  have hcA : cA = X.2.2.2.1 := by
    have h2 : s.vm.findClass ("[" ++ (FieldType.int).toString) = some X.2.2.2.1 := (hK.1.2 0 _ rfl).2
    exact Option.some.inj (hNm.symm.trans h2)
  subst hcA
  refine kk H1 ⟨?_, by rw [z1, hz, List.length_append]; rfl, ⟨Nat.le_trans hS.1 (by omega), fun x h1 h2 => (o1 x (Nat.lt_of_lt_of_le h1 hS.1)).trans (hS.2.1 x h1 h2), hS.2.2⟩, by rw [List.length_append]; exact hL⟩
  rw [h_enc_push]
  refine (hP.kept (fun k x hk => o1 x.1 ((hP k x hk).lt))).app (fun k x hk => ?_)
  have hk1 : k < 1 := (List.getElem?_eq_some_iff.mp hk).1
  rw [show k = 0 by omega] at hk
  cases hk
  rw [ha, hM]
  show H1[H.size]? = some (vp_cell _ _)
  rw [e1]
  rfl
theorem h_fsetI {f : Nat → Int32} {k : Nat} {rf : List h_F} {x : Int32} (h : rf[k]? = some none) : (rf.zipIdx.map (h_fv X f)).set k (.int x) = rf.zipIdx.map (h_fv X (upd f k x)) := by
  apply List.ext_getElem?
  intro j
  have hl := (List.getElem?_eq_some_iff.mp h).1
  by_cases hj : j = k
  · subst hj
    rw [List.getElem?_set_self (by simpa using hl), List.getElem?_map, List.getElem?_zipIdx, h]
    simp [upd, h_fv]
  · rw [List.getElem?_set_ne (Ne.symm hj), List.getElem?_map, List.getElem?_map, List.getElem?_zipIdx]
    cases h2 : rf[j]? with
    | none => rfl
    | some o => rcases o with _ | _ | _ <;> simp [upd, hj, h_fv]
theorem h_fsetR {f : Nat → Int32} {k r : Nat} {rf : List h_F} (hl : k < rf.length) : (rf.zipIdx.map (h_fv X f)).set k (.ref (X.2.2.1 r)) = (rf.set k (some (some r))).zipIdx.map (h_fv X f) := by
  apply List.ext_getElem?
  intro j
  by_cases hj : j = k
  · subst hj
    rw [List.getElem?_set_self (by simpa using hl), List.getElem?_map, List.getElem?_zipIdx, List.getElem?_set_self hl]
    simp [h_fv]
  · rw [List.getElem?_set_ne (Ne.symm hj), List.getElem?_map, List.getElem?_map, List.getElem?_zipIdx, List.getElem?_zipIdx, List.getElem?_set_ne (Ne.symm hj)]
/-- what stands behind a store into a field: its new world and its size -/
def h_Sto (X : g_X) (s : State) (H H1 : Heap) (b : Nat) (L L' : List h_L) (M M' : g_M) : Prop := va_P X.2.1 vwCl (h_enc X L' M') H1 ∧ H1.size = H.size
theorem h_sto {D : va_G} {cl : List vw_C} {A : Nat → Prop} {ws : va_W} {a q ci N k : Nat} {C : String} {T : u_T} {fs : List Value} {v : Value} {H H1 : Heap} {cell : Cell} (ty : Nat → FieldType) (hw : ∀ w ∈ g_W, w.before args s = true) (hin : ∀ w ∈ u_ws C T N, w ∈ g_W) (hty : ∀ k, k < N → parseFieldDescriptor (T k).2.2.1 = some (ty k)) (hnm : ∀ a, a < N → ∀ b, b < N → a ≠ b → (T a).2.1 ≠ (T b).2.1) {tys : List (ClassId × FieldType)} (hK : va_K D cl tys s) (hP : va_P D cl ws H) (hD : va_D A ws) (he : ws[q]? = some (a, .inr (ci, fs))) (hc : cl[ci]? = some (C, T, N)) (hk : k < N) (hl : k < fs.length)
    (q2 : cell.cls = D.1 ci) (q3 : cell.vm = .none) (q4 : ∀ k, k < N → cell.slots[D.2 ci k]? = some (vp_V fs k)) (e1 : H1[a]? = some (cell.setSlot (D.2 ci k) v)) (e3 : ∀ q, q ≠ a → H1[q]? = H[q]?) : va_P D cl (ws.set q (a, .inr (ci, fs.set k v))) H1 :=
  hP.set hD he ⟨_, hc, t_OB.to (V := updV (vp_V fs) k v) ⟨_, e1, q2, q3, t_set q4 (va_apart (own := C) hw hin ty hty hnm hK hc) hk v⟩ (fun j _ => vp_updV_set hl v j)⟩ e3
theorem h_put (F : h_Fix X b p s m args c cc own nL) (I : h_In X b L M s H locs) {index ci N : Nat} {C : String} {T : u_T} (hin : ∀ w ∈ u_ws C T N, w ∈ g_W) (ty0 : Nat → FieldType) (hty : ∀ k, k < N → parseFieldDescriptor (T k).2.2.1 = some (ty0 k)) (hnm : ∀ a, a < N → ∀ b, b < N → a ≠ b → (T a).2.1 ≠ (T b).2.1) (hc : vwCl[ci]? = some (C, T, N)) (k : Nat) (hk : k < N) (hlink : Cond.fieldLink own index C (T k).2.1 (T k).2.2.1 ∈ g_W) (hdecl : (T k).1 = C) (hfin : (T k).2.2.2 = false) {ty : FieldType} (hd : parseFieldDescriptor (T k).2.2.1 = some ty) {x : Int32} (hn : narrow ty (.int x) = .int x) (hfit : fits ty (.int x) = true) {q : Nat} {rf : List h_F} (hlay : L[q]? = some (.inr (ci, rf))) (ho : rf[k]? = some none) {M' : g_M} (hM' : g_upd M q k x = M') (hdg : decode cc pc = .ok (.putfield index, 3))
    (kk : ∀ (H1 : Heap) (locs1 : List Loc), h_In X b L M' s H1 locs1 → W p X.1 e R s m args below meth c H1 locs1 cells slots Q (F0 m (pc + 3) ls rest)) : W p X.1 e R s m args below meth c H locs cells slots Q (F0 m pc ls (.int x :: .ref (X.2.2.1 q) :: rest)) := by
  subst hM'
  obtain ⟨hx, hb, hml, hown, hw, hK, hX, hbs⟩ := F
  obtain ⟨hP, hz, hS, hLl⟩ := I
  obtain ⟨r, h1, cell, q1, q2, q3, q4⟩ := hP q _ (h_enc_at hlay)
  have hr : r = (C, T, N) := Option.some.inj (h1.symm.trans hc)
  subst hr
  obtain ⟨hSl, hfc, kC, hkC, hkind⟩ := hK.1.1 ci _ hc
  obtain ⟨cf, kf, fi, f, hi, hsl⟩ := hSl k hk
  have hlay2 := hw _ (hin _ (u_in_lay hk))
  unfold u_lay at hlay2
  rw [if_neg (by rw [hfin]; decide)] at hlay2
  have hst := (u_facts hfc hkC (u_lays hw hin hk) hi).1
  have h6 := u_store hfc hkC hkind hlay2 hi hd hn hfit
  refine W.putK hx hb (f := f) ⟨hown, hw _ hlink, ⟨_, _, _, by rw [hdecl] at hi; exact hi⟩, hst⟩ (by rw [q2]; exact h6) q1 q3 (by rw [hsl]; exact k2_hasslot (q4 k hk)) rfl rfl hdg fun H' e1 e2 e3 => ?_
  rw [hsl] at e1 ⊢
  have hl : k < (rf.zipIdx.map (h_fv X (M q))).length := by rw [List.length_map, List.length_zipIdx]; exact (List.getElem?_eq_some_iff.mp ho).1
  have hP1 := h_sto (fs := rf.zipIdx.map (h_fv X (M q))) ty0 hw hin hty hnm hK.1 hP (h_D hX hLl M) (h_enc_at hlay) hc hk hl q2 q3 q4 e1 e3
  refine kk H' _ ⟨?_, by rw [e2, hz], hS.put e2 e3 ((h_D hX hLl M).2 q _ (h_enc_at hlay)), hLl⟩
  have e5 : L.set q (.inr (ci, rf)) = L := by
    apply List.ext_getElem?
    intro j
    by_cases hj : j = q
    · subst hj
      rw [List.getElem?_set_self (List.getElem?_eq_some_iff.mp hlay).1, hlay]
    · rw [List.getElem?_set_ne (Ne.symm hj)]
  have e4 := h_enc_set (X := X) (M := M) (M' := g_upd M q k x) (e' := .inr (ci, rf)) hlay (fun r hr => g_upd_ne hr)
  rw [e5, g_upd_at] at e4
  rw [← e4]
  show va_P _ _ ((h_enc X L M).set q (X.2.2.1 q, .inr (ci, rf.zipIdx.map (h_fv X (upd (M q) k x))))) H'
  rw [← h_fsetI ho]
  exact hP1
theorem h_putr (F : h_Fix X b p s m args c cc own nL) (I : h_In X b L M s H locs) {index ci N : Nat} {C : String} {T : u_T} (hin : ∀ w ∈ u_ws C T N, w ∈ g_W) (ty0 : Nat → FieldType) (hty : ∀ k, k < N → parseFieldDescriptor (T k).2.2.1 = some (ty0 k)) (hnm : ∀ a, a < N → ∀ b, b < N → a ≠ b → (T a).2.1 ≠ (T b).2.1) (hc : vwCl[ci]? = some (C, T, N)) (k : Nat) (hk : k < N) (hlink : Cond.fieldLink own index C (T k).2.1 (T k).2.2.1 ∈ g_W) (hdecl : (T k).1 = C) (hownC : own = C) (hfin : (T k).2.2.2 = true) (hin2 : meth.name = "<init>") {ty : FieldType} (hd : parseFieldDescriptor (T k).2.2.1 = some ty) {r0 : Nat} (hn : ∀ a : Nat, narrow ty (.ref a) = .ref a) (hfit : ∀ a : Nat, fits ty (.ref a) = true) {q : Nat} {rf : List h_F} (hlay : L[q]? = some (.inr (ci, rf))) (ho : k < rf.length) {L' : List h_L} (hL' : L.set q (.inr (ci, rf.set k (some (some r0)))) = L') (hdg : decode cc pc = .ok (.putfield index, 3))
    (kk : ∀ (H1 : Heap) (locs1 : List Loc), h_In X b L' M s H1 locs1 → W p X.1 e R s m args below meth c H1 locs1 cells slots Q (F0 m (pc + 3) ls rest)) : W p X.1 e R s m args below meth c H locs cells slots Q (F0 m pc ls (.ref (X.2.2.1 r0) :: .ref (X.2.2.1 q) :: rest)) := by
  subst hL'
  subst hownC
  obtain ⟨hx, hb, hml, hown, hw, hK, hX, hbs⟩ := F
  obtain ⟨hP, hz, hS, hLl⟩ := I
  obtain ⟨r, h1, cell, q1, q2, q3, q4⟩ := hP q _ (h_enc_at hlay)
  have hr : r = (own, T, N) := Option.some.inj (h1.symm.trans hc)
  subst hr
  obtain ⟨hSl, hfc, kC, hkC, hkind⟩ := hK.1.1 ci _ hc
  obtain ⟨cf, kf, fi, f, hi, hsl⟩ := hSl k hk
  have hlay2 := hw _ (hin _ (u_in_lay hk))
  unfold u_lay at hlay2
  rw [if_pos hfin] at hlay2
  have hst := (u_facts hfc hkC (u_lays hw hin hk) hi).1
  have hcf : m.cls = cf := by
    obtain ⟨_, _, c', _, _, _, -, -, hf', -, -, -, hown2, -⟩ := Cond.laysFinal_spec hlay2
    have e1 : c' = cf := by have := hi.symm.trans hf'; simp at this; exact this.1.symm
    rw [hdecl] at hown2
    rw [← e1]
    exact Option.some.inj (hown.symm.trans hown2)
  have h6 := u_fits hfc hkC hkind (Or.inr hlay2) hi hd (hn (X.2.2.1 r0)) (hfit _)
  refine W.putFinK hx hb hown (hw _ hlink) (by rw [hdecl] at hi; exact hi) hst hcf hin2 (by rw [q2]; exact h6) q1 q3 (by rw [hsl]; exact k2_hasslot (q4 k hk)) rfl rfl hdg fun H' e1 e2 e3 => ?_
  rw [hsl] at e1 ⊢
  have hl : k < (rf.zipIdx.map (h_fv X (M q))).length := by rw [List.length_map, List.length_zipIdx]; exact ho
  have hP1 := h_sto (fs := rf.zipIdx.map (h_fv X (M q))) ty0 hw hin hty hnm hK.1 hP (h_D hX hLl M) (h_enc_at hlay) hc hk hl q2 q3 q4 e1 e3
  refine kk H' _ ⟨?_, by rw [e2, hz, List.length_set], hS.put e2 e3 ((h_D hX hLl M).2 q _ (h_enc_at hlay)), by rw [List.length_set]; exact hLl⟩
  have e4 := h_enc_set (X := X) (M := M) (M' := M) (e' := .inr (ci, rf.set k (some (some r0)))) hlay (fun r hr => rfl)
  rw [← e4]
  show va_P _ _ ((h_enc X L M).set q (X.2.2.1 q, .inr (ci, (rf.set k (some (some r0))).zipIdx.map (h_fv X (M q))))) H'
  rw [← h_fsetR ho]
  exact hP1
theorem h_getr (F : h_Fix X b p s m args c cc own nL) (I : h_In X b L M s H locs) {index ci N : Nat} {C : String} {T : u_T} (hin : ∀ w ∈ u_ws C T N, w ∈ g_W) (hc : vwCl[ci]? = some (C, T, N)) (k : Nat) (hk : k < N) (hlink : Cond.fieldLink own index C (T k).2.1 (T k).2.2.1 ∈ g_W) (hdecl : (T k).1 = C) {q r0 : Nat} {rf : List h_F} (hlay : L[q]? = some (.inr (ci, rf))) (ho : rf[k]? = some (some (some r0))) (hdg : decode cc pc = .ok (.getfield index, 3))
    (kk : W p X.1 e R s m args below meth c H locs cells slots Q (F0 m (pc + 3) ls (.ref (X.2.2.1 r0) :: rest))) : W p X.1 e R s m args below meth c H locs cells slots Q (F0 m pc ls (.ref (X.2.2.1 q) :: rest)) := by
  obtain ⟨hx, hb, hml, hown, hw, hK, hX, hbs⟩ := F
  refine va_get (C := C) (T := T) (N := N) (ci := ci) (ref := C) hx hb hw hin hown hK.1 I.1 q (h_enc_at hlay) hc k hk (hw _ hlink) (fun x h => by rw [hdecl] at h; exact h) (v := .ref (X.2.2.1 r0)) ?_ hdg kk
  rw [List.getElem?_map, List.getElem?_zipIdx, ho]
  simp [h_fv]
theorem h_alen (F : h_Fix X b p s m args c cc own nL) (I : h_In X b L M s H locs) {q n : Nat} (hlay : L[q]? = some (.inl n)) (hdg : decode cc pc = .ok (.arraylength, 1)) (kk : W p X.1 e R s m args below meth c H locs cells slots Q (F0 m (pc + 1) ls (.int (nI n) :: rest))) : W p X.1 e R s m args below meth c H locs cells slots Q (F0 m pc ls (.ref (X.2.2.1 q) :: rest)) :=
  va_alen F.1 F.2.1 F.2.2.2.2.2.1.1 I.1 q 0 (h_enc_at hlay) (ty := .int) rfl rfl hdg kk
theorem h_iast (F : h_Fix X b p s m args c cc own nL) (I : h_In X b L M s H locs) {q n : Nat} {i x : Int32} (hlay : L[q]? = some (.inl n)) (hi : vp_in i n) (hdg : decode cc pc = .ok (.iastore, 1))
    (kk : ∀ (H1 : Heap) (locs1 : List Loc), h_In X b L (g_upd M q i.toNatClampNeg x) s H1 locs1 → W p X.1 e R s m args below meth c H1 locs1 cells slots Q (F0 m (pc + 1) ls rest)) : W p X.1 e R s m args below meth c H locs cells slots Q (F0 m pc ls (.int x :: .int i :: .ref (X.2.2.1 q) :: rest)) := by
  obtain ⟨hx, hb, hml, hown, hw, hK, hX, hbs⟩ := F
  obtain ⟨hP, hz, hS, hLl⟩ := I
  refine W.iast hx hb (hP q _ (h_enc_at hlay)) ((hK.1.2 0 _ rfl).1 n (fun j => .int (M q j))) (fun q => by cases q) (by show ¬ (i < 0 ∨ (arrV _ _ _).slots.size ≤ _); rw [arrV_size]; exact hi) rfl rfl hdg fun H1 e1 z oq => ?_
  refine kk H1 _ ⟨?_, by rw [z, hz], hS.put z oq ((h_D hX hLl M).2 q _ (h_enc_at hlay)), hLl⟩
  have e5 : L.set q (.inl n) = L := by
    apply List.ext_getElem?
    intro j
    by_cases hj : j = q
    · subst hj
      rw [List.getElem?_set_self (List.getElem?_eq_some_iff.mp hlay).1, hlay]
    · rw [List.getElem?_set_ne (Ne.symm hj)]
  have e4 := h_enc_set (X := X) (M := M) (M' := g_upd M q i.toNatClampNeg x) (e' := .inl n) hlay (fun r hr => g_upd_ne hr)
  rw [e5] at e4
  rw [← e4]
  refine hP.set (h_D hX hLl M) (h_enc_at hlay) ?_ oq
  show H1[_]? = some (vp_cell _ _)
  rw [e1, g_upd_at, vp_cell_i, vp_cell_i, arrV_store]
  congr 2
  funext j
  by_cases hj : j = i.toNatClampNeg
  · subst hj
    simp [updV, upd]
  · simp [updV, upd, hj]
/-! constructors -/
def h_Qc (X : g_X) (b : Nat) (L' : List h_L) (M' : g_M) : Array Value → State → Outcome → State → Prop := fun _ st oc t => oc = .returned none ∧ va_P X.2.1 vwCl (h_enc X L' M') t.heap ∧ t.heap.size = b + L'.length ∧ va_F (h_A b) st t
def h_Con (X : g_X) (b : Nat) (y : MethodName) (cc : ByteArray) (nL K S fr lo : Nat) (as : List Value) (L : List h_L) (M : g_M) (L' : List h_L) (M' : g_M) : Prop :=
  Met X.1 y (g_ws y cc nL none) { frames := fr, cells := K, slots := S, locals := lo } (fun v U => v = as.toArray ∧ va_P X.2.1 vwCl (h_enc X L M) U.heap ∧ U.heap.size = b + L.length ∧ g_K X U) (h_Qc X b L' M') K S (h_A b)
theorem h_blind {as : List Value} : FrameBlind (fun v U => v = as.toArray ∧ va_P X.2.1 vwCl (h_enc X L M) U.heap ∧ U.heap.size = b + L.length ∧ g_K X U) := fun _ U g mk h => ⟨h.1, h.2.1, h.2.2.1, g_K.same (u := U) (U := U.calling g mk _) rfl h.2.2.2⟩
theorem h_backC {L' : List h_L} {M' : g_M} {K S : Nat} {st0 : List Value} (I : h_In X b L M s H locs) (hL' : L'.length ≤ 75)
    {av : Array Value} (hr : va_Run p X.1 e R s m args below meth c H locs cells slots K S (F0 m pc ls st0) rest (h_Qc X b L' M' av) (h_A b))
    (kk : ∀ (H1 : Heap) (locs1 : List Loc), h_In X b L' M' s H1 locs1 → W p X.1 e R s m args below meth c H1 locs1 (cells + K) (slots + S) Q (F0 m (pc + 3) ls rest)) : W p X.1 e R s m args below meth c H locs cells slots Q (F0 m pc ls st0) := by
  intro T hT XX
  obtain ⟨v, st₀, t, T', L1, h0, X', hL, e1, e2, ⟨hv, hp1, hsz, hzz, hk⟩, stp⟩ := hr T hT XX
  injection hv with hv
  subst hv
  obtain ⟨hP, hz, hS, hLl⟩ := I
  rw [h0] at hzz hk
  obtain ⟨t2, a1, b1⟩ := kk T'.heap (locs ++ L1) ⟨by rw [e1]; exact hp1, by rw [e1]; exact hsz, by
    rw [e1]
    refine ⟨Nat.le_trans hS.1 hzz, fun q h1 h2 => ?_, fun q hq => ?_⟩
    · rw [hk q (Nat.lt_of_lt_of_le h1 hS.1) h2]
      exact hS.2.1 q h1 h2
    · rcases List.mem_append.mp hq with h | h
      · exact hS.2.2 q h
      · exact hL q h, hL'⟩ T' rfl X'
  exact ⟨t2, stp t2 a1, b1⟩
theorem h_callI (F : h_Fix X b p s m args c cc own nL) (I : h_In X b L M s H locs) {index nL' K S fr' lo' q : Nat} {y : MethodName} {cc' : ByteArray} {L' : List h_L} {M' : g_M} (hcon : h_Con X b y cc' nL' K S fr' lo' [.ref (X.2.2.1 q)] L M L' M') (hlink : Cond.methodLink own index y ∈ g_W) (hinst : Cond.instanceMethod y ∈ g_W) (hini : Cond.initialized y.cls ∈ g_W) (hcode : Cond.code y cc' nL' none ∈ g_W) (hd : y.cls ≠ "java/lang/invoke/MethodHandle" ∧ y.cls ≠ "java/lang/invoke/VarHandle" ∧ (parseMethodDescriptor y.desc).map (fun d => d.parameters.length) = some 0) (hy1 : y.name = "<init>") (hsize : ls.size = nL)
    (hR : fr' + 1 ≤ R.frames ∧ 8 + (nL' + 11) + lo' ≤ R.locals) (hst : (rest.map fun v => v.category).sum ≤ 8) (hcells : cells + K ≤ R.cells ∧ slots + S ≤ R.slots) (hL' : L'.length ≤ 75) (hdg : decode cc pc = .ok (.invokespecial index, 3))
    (kk : ∀ (H1 : Heap) (locs1 : List Loc), h_In X b L' M' s H1 locs1 → W p X.1 e R s m args below meth c H1 locs1 (cells + K) (slots + S) Q (F0 m (pc + 3) ls rest)) : W p X.1 e R s m args below meth c H locs cells slots Q (F0 m pc ls (.ref (X.2.2.1 q) :: rest)) := by
  obtain ⟨hx, hb, hml, hown, hw, hK, hX, hbs⟩ := F
  exact h_backC I hL' (va_runI (Ts := g_W) (own := own) (As := []) (rest := rest) ⟨hx, hb, hml, hown, hw⟩ hcon ⟨callB_of 0 hw (g_goodIn hcode) rfl rfl rfl (hw _ hini) (hw _ hlink) hd hR, hy1, hw _ hinst⟩ ⟨h_blind, fun U hU hW => ⟨rfl, by rw [hU]; exact I.1, by rw [hU]; exact I.2.1, hK.warm hW⟩⟩ rfl rfl hsize rfl (lv_room hst) hdg hcells) kk
theorem h_callS (F : h_Fix X b p s m args c cc own nL) (I : h_In X b L M s H locs) {index nL' fr' lo' : Nat} {y : MethodName} {cc' : ByteArray} {as : List Value} {L' : List h_L} {M' : g_M} (hcon : h_Con X b y cc' nL' 0 0 fr' lo' as L M L' M') (cw : g_cwS y cc' nL' none as.length) (hlink : Cond.methodLink own index y ∈ g_W) (hsize : ls.size = nL)
    (hR : fr' + 1 ≤ R.frames ∧ 8 + (nL' + 11) + lo' ≤ R.locals) (hst : (rest.map fun v => v.category).sum ≤ 8) (hcells : cells ≤ R.cells ∧ slots ≤ R.slots) (hL' : L'.length ≤ 75) {stk : List Value} (hstk : stk = as.reverse ++ rest) (hdg : decode cc pc = .ok (.invokestatic index, 3))
    (kk : ∀ (H1 : Heap) (locs1 : List Loc), h_In X b L' M' s H1 locs1 → W p X.1 e R s m args below meth c H1 locs1 cells slots Q (F0 m (pc + 3) ls rest)) : W p X.1 e R s m args below meth c H locs cells slots Q (F0 m pc ls stk) := by
  obtain ⟨hx, hb, hml, hown, hw, hK, hX, hbs⟩ := F
  obtain ⟨w1, w3, w4, w5, w6, w7⟩ := cw
  exact h_backC (K := 0) (S := 0) I hL' (va_runS (Ts := g_W) (own := own) (As := as) (rest := rest) ⟨hx, hb, hml, hown, hw⟩ hcon ⟨callB_of as.length hw (g_goodIn w4) rfl rfl rfl (hw _ w3) (hw _ hlink) ⟨w5, w6, w7⟩ hR, hw _ w1⟩ ⟨h_blind, fun U hU hW => ⟨rfl, by rw [hU]; exact I.1, by rw [hU]; exact I.2.1, hK.warm hW⟩⟩ rfl rfl hsize hstk (lv_room hst) hdg hcells) kk
end HN
theorem h_ix {L0 : List h_L} {q : Nat} (hq : L0.length = q) (r : List h_L) (j : Nat) : (L0 ++ r)[q + j]? = r[j]? := by
  subst hq
  rw [List.getElem?_append_right (Nat.le_add_right _ _), Nat.add_sub_cancel_left]
theorem h_sx {L0 : List h_L} {q : Nat} (hq : L0.length = q) (r : List h_L) (j : Nat) (e : h_L) : (L0 ++ r).set (q + j) e = L0 ++ r.set j e := by
  subst hq
  rw [List.set_append_right _ _ (Nat.le_add_right _ _), Nat.add_sub_cancel_left]
theorem h_lx {L0 : List h_L} {q : Nat} (hq : L0.length = q) (r : List h_L) : (L0 ++ r).length = q + r.length := by
  rw [List.length_append, hq]
def h_fill (M : g_M) (a n : Nat) (x : Int32) : g_M := fun q => if q = a then (fun j => if j < n then x else M a j) else M q
theorem h_fill_0 (M : g_M) (a : Nat) (x : Int32) : h_fill M a 0 x = M := by
  funext q j
  unfold h_fill
  by_cases h : q = a
  · simp [h]
  · simp [h]
theorem h_fill_s (M : g_M) (a n : Nat) (x : Int32) : g_upd (h_fill M a n x) a n x = h_fill M a (n + 1) x := by
  funext q j
  rw [g_upd_get]
  unfold h_fill
  by_cases h : q = a
  · by_cases h2 : j = n
    · subst h; subst h2; simp
    · by_cases h3 : j < n
      · have h4 : j < n + 1 := by omega
        simp [h, h2, h3, h4]
      · have h4 : ¬ j < n + 1 := by omega
        simp [h, h2, h3, h4]
  · simp [h]
theorem h_fill_ne {M : g_M} {a n q : Nat} {x : Int32} (h : q ≠ a) : h_fill M a n x q = M q := if_neg h
