/-! ===== the class's own tables, as the Statement gives them ===== -/
def rF : Nat → Int32 := fun j => if j = 1 then 1 else if j = 3 then 1 else 0
def rT : Nat → Int32 := fun j => if j = 0 then 5 else if j = 1 then 20 else if j = 2 then 20 else if j = 3 then 60 else 1
def rA : Nat → Int32 := fun j => if j = 0 then 5 else if j = 1 then 4 else if j = 2 then 8 else if j = 3 then 3 else 1
def cT (cA : ClassId) (t : Nat) (A : Nat → Prop) (H : Heap) : Prop := ∃ cell : Cell, H[t]? = some cell ∧ (∀ k, cell.vm ≠ .statics k) ∧ cell.vm ≠ .unknown ∧ cell.cls = cA ∧ cell.slots = (vp_cell cA (6, .inl rA)).slots ∧ ¬ A t
theorem cT_kept {cA : ClassId} {t : Nat} {A : Nat → Prop} {H H1 : Heap} (h : cT cA t A H) (hq : ∀ a : Nat, a < H.size → ¬ A a → H1[a]? = H[a]?) : cT cA t A H1 := by
  obtain ⟨cell, h1, h2, h3, h4, h5, h6⟩ := h
  exact ⟨cell, by rw [hq t (Array.getElem?_eq_some_iff.mp h1).1 h6]; exact h1, h2, h3, h4, h5, h6⟩
theorem cT_narrow {cA : ClassId} {t : Nat} {A B : Nat → Prop} {H : Heap} (h : cT cA t A H) (hAB : ∀ q, B q → A q) : cT cA t B H := by
  obtain ⟨cell, h1, h2, h3, h4, h5, h6⟩ := h
  exact ⟨cell, h1, h2, h3, h4, h5, fun z => h6 (hAB t z)⟩
def stQ (cA : ClassId) (A : Nat → Prop) (U : State) (H : Heap) : Prop :=
  (∃ t, va_Z "LightBursts" "RULE_FROM" "[I" (.ref t) A U H ∧ va_T .int t 6 (fun j => .int (rF j)) A U H) ∧
  (∃ t, va_Z "LightBursts" "RULE_TO" "[I" (.ref t) A U H ∧ va_T .int t 6 (fun j => .int (rT j)) A U H) ∧
  (∃ t, va_Z "LightBursts" "RULE_AT_FIRST" "[I" (.ref t) A U H ∧ cT cA t A H)
theorem stQ_moved {cA : ClassId} {A : Nat → Prop} {u U : State} {H : Heap} (hvm : u.vm.Alike U.vm) (h : stQ cA A u H) : stQ cA A U H := by
  obtain ⟨⟨t1, a1, b1⟩, ⟨t2, a2, b2⟩, ⟨t3, a3, b3⟩⟩ := h
  exact ⟨⟨t1, a1.moved hvm, b1.moved hvm⟩, ⟨t2, a2.moved hvm, b2.moved hvm⟩, ⟨t3, a3.moved hvm, b3⟩⟩
theorem stQ_kept {cA : ClassId} {A : Nat → Prop} {U : State} {H H1 : Heap} (h : stQ cA A U H) (hq : ∀ a : Nat, a < H.size → ¬ A a → H1[a]? = H[a]?) : stQ cA A U H1 := by
  obtain ⟨⟨t1, a1, b1⟩, ⟨t2, a2, b2⟩, ⟨t3, a3, b3⟩⟩ := h
  exact ⟨⟨t1, a1.kept hq, b1.kept hq⟩, ⟨t2, a2.kept hq, b2.kept hq⟩, ⟨t3, a3.kept hq, cT_kept b3 hq⟩⟩
theorem stQ_narrow {cA : ClassId} {A B : Nat → Prop} {U : State} {H : Heap} (h : stQ cA A U H) (hAB : ∀ q, B q → A q) : stQ cA B U H := by
  obtain ⟨⟨t1, a1, b1⟩, ⟨t2, a2, b2⟩, ⟨t3, a3, b3⟩⟩ := h
  exact ⟨⟨t1, a1.narrow hAB, b1.narrow hAB⟩, ⟨t2, a2.narrow hAB, b2.narrow hAB⟩, ⟨t3, a3.narrow hAB, cT_narrow b3 hAB⟩⟩
theorem stQ_at {cA : ClassId} {A B : Nat → Prop} {s U : State} {H : Heap} {locs : List Loc} (h : stQ cA A s s.heap) (hS : va_S A s.heap H locs) (hAB : ∀ q, B q → A q) (hU : U.heap = H) (hvm : s.vm.Alike U.vm) : stQ cA B U U.heap := by
  rw [hU]
  exact stQ_moved hvm (stQ_narrow (stQ_kept h (fun a h1 h2 => hS.2.1 a h1 h2)) hAB)
abbrev clW : Cond := .castable "[I" "java/lang/Cloneable"
theorem clW_warm {s U : State} (hW : s.WarmedH U.vm) (h : va_Nw clW s) : va_Nw clW U := va_Nw.warmC hW h
theorem nm_uniq {s : State} {c1 c2 : ClassId} (h1 : va_RA s c1 .int) (h2 : va_RA s c2 .int) : c1 = c2 := by
  have e1 := va_nm_int h1
  have e2 := va_nm_int h2
  exact Option.some.inj (e1.symm.trans e2)
theorem nm_uniqZ {s : State} {c1 c2 : ClassId} (h1 : va_RA s c1 .boolean) (h2 : va_RA s c2 .boolean) : c1 = c2 := by
  have e1 := va_nm_boolean h1
  have e2 := va_nm_boolean h2
  exact Option.some.inj (e1.symm.trans e2)
abbrev cPreS (cA : ClassId) (D : va_G) (tys : List (ClassId × FieldType)) (av : List Value) (W0 : va_W) (sz : Nat) : Array Value → State → Prop := va_Pc av (fun U => U.heap.size = sz ∧ va_P D vwCl W0 U.heap ∧ va_K D vwCl tys U ∧ va_D (fun _ => True) W0 ∧ nst U ∧ stQ cA (va_A W0 sz) U U.heap ∧ va_Nw clW U)
abbrev MetIS (cA : ClassId) (l : Launch) (y : MethodName) (ws : List Cond) (fr lo : Nat) (D : va_G) (tys : List (ClassId × FieldType)) (av : List Value) (W0 : va_W) (sz : Nat) (r0 : Int32) (W1 : va_W) : Prop := Met l y ws ({ frames := fr, cells := 0, slots := 0, locals := lo }) (cPreS cA D tys av W0 sz) (cPi D tys W0 sz r0 W1 (va_A W0 sz)) 0 0 (va_A W0 sz)
/-- a constructor: new cells at places u, the world W1 u behind it -/
abbrev cPn {S : Type} (D : va_G) (tys : List (ClassId × FieldType)) (W1 : S → va_W) (A : Nat → Prop) : Array Value → State → Outcome → State → Prop := va_Qv (S := S) (fun _ => True) (fun u t => va_P D vwCl (W1 u) t.heap ∧ va_K D vwCl tys t ∧ va_D A (W1 u)) A
abbrev MetN {S : Type} (l : Launch) (y : MethodName) (ws : List Cond) (fr lo mc ms : Nat) (D : va_G) (tys : List (ClassId × FieldType)) (av : List Value) (W0 : va_W) (sz : Nat) (W1 : S → va_W) : Prop := Met l y ws ({ frames := fr, cells := mc, slots := ms, locals := lo }) (cPre D tys av W0 sz) (cPn D tys W1 (va_A W0 sz)) mc ms (va_A W0 sz)
abbrev MetNS {S : Type} (cA : ClassId) (l : Launch) (y : MethodName) (ws : List Cond) (fr lo mc ms : Nat) (D : va_G) (tys : List (ClassId × FieldType)) (av : List Value) (W0 : va_W) (sz : Nat) (W1 : S → va_W) : Prop := Met l y ws ({ frames := fr, cells := mc, slots := ms, locals := lo }) (cPreS cA D tys av W0 sz) (cPn D tys W1 (va_A W0 sz)) mc ms (va_A W0 sz)
section CS
variable {p : Program} {l : Launch} {e : Env} {R : Room} {s : State} {m : MethodId} {args : Array Value} {below : List Frame} {meth : Method} {c : Code} {H : Heap} {locs : List Loc} {cells slots : Nat} {Q : State → Prop} {pc : Nat} {ls : Array Slot} {rest st0 : List Value} {D : va_G} {tys : List (ClassId × FieldType)} {W0 wsx : va_W} {A : Nat → Prop} {a : Array Value} {cA : ClassId}
theorem fblindS {av : List Value} {W0 : va_W} {sz : Nat} : FrameBlind (cPreS cA D tys av W0 sz) := fun a U g mk q => by
  obtain ⟨q0, q1, qP, qK, qD, qN, qQ, qC⟩ := q
  exact ⟨q0, q1, qP, va_K.moved (u := U) (U := U.calling g mk a) (Vm.Alike.refl U.vm) qK, qD, nst_same (u := U) (U := U.calling g mk a) rfl qN, stQ_moved (u := U) (U := U.calling g mk a) (Vm.Alike.refl U.vm) qQ, va_Nw.same (u := U) (U := U.calling g mk a) rfl rfl qC⟩
theorem pre_atS {av : List Value} (hP : va_P D vwCl wsx H) (hD : va_D A wsx) (hK : va_K D vwCl tys s) (hN : nst s) (hS : va_S A s.heap H locs) (hA : ∀ q, s.heap.size ≤ q → A q) (hQ : stQ cA A s s.heap) (hCa : va_Nw clW s) (isC : List Nat) (hC : isC.map (fun i => wsx[i]?) = W0.map some) (hnC : va_nd isC = true) : ∀ U : State, U.heap = H → s.WarmedH U.vm → cPreS cA D tys av W0 H.size av.toArray U := fun U hU hW => ⟨rfl, by rw [hU], by rw [hU]; exact hP.sub isC (fm_of hC), va_K.moved hW.alike hK, (hD.sub isC hnC hC).weaken (fun _ _ _ _ => trivial), nst_warm hW hN, stQ_at hQ hS (va_free (wc := W0) hD hS hA isC hC) hU hW.alike, clW_warm hW hCa⟩
theorem kN {S : Type} {W1 : S → va_W} {wr : va_W} {mc ms : Nat} (hr : va_Run p l e R s m args below meth c H locs cells slots mc ms (F0 m pc ls st0) rest (cPn D tys W1 (va_A W0 H.size) a) (va_A W0 H.size)) (hP : va_P D vwCl wsx H) (hD : va_D A wsx) (hS : va_S A s.heap H locs) (hA : ∀ q, s.heap.size ≤ q → A q) (isC isR : List Nat) (hC : isC.map (fun i => wsx[i]?) = W0.map some) (hR : isR.map (fun i => wsx[i]?) = wr.map some) (hn : va_nd isR = true) (hdis : ∀ i ∈ isR, i ∉ isC)
    (kk : ∀ (u : S) (H1 : Heap) (locs1 : List Loc), va_P D vwCl (wr ++ W1 u) H1 → va_D A (wr ++ W1 u) → va_S A s.heap H1 locs1 → W p l e R s m args below meth c H1 locs1 (cells + mc) (slots + ms) Q (F0 m (pc + 3) ls rest)) : W p l e R s m args below meth c H locs cells slots Q (F0 m pc ls st0) := by
  have hFc := va_free (wc := W0) hD hS hA isC hC
  refine va_callv hr hS (fun q _ h => hFc q h) hFc (fun u t H1 locs1 ht hvm hw hB hz1 hk1 hS1 => ?_)
  obtain ⟨hP1, hK1, hD1⟩ := hB
  rw [ht] at hP1
  obtain ⟨hPj, hDj⟩ := va_join (wr := wr) (w1 := W1 u) hP hD isC isR hC hR hn hdis hk1 hFc hP1 hD1
  exact kk u H1 locs1 hPj hDj hS1
variable {y : MethodName} {bytes cc : ByteArray} {maxL nL n index mc ms : Nat} {ret : Option FieldType} {ws : List Cond} {rm : Room} {Qc : Array Value → State → Outcome → State → Prop} {free : Addr → Prop} {Ts : List Cond} {own C host : String} {b : Addr} {As : List Value}
theorem rVS (S : CallFix p m c cc nL s args Ts own) (hM : Met l y ws rm (cPreS cA D tys (.ref b :: As) W0 H.size) Qc 0 0 free) (cw : CallW R s args own C index y bytes maxL ret ws rm 0 0 n) (hP : va_P D vwCl wsx H) (hD : va_D A wsx) (hK : va_K D vwCl tys s) (hN : nst s) (hS : va_S A s.heap H locs) (hA : ∀ q, s.heap.size ≤ q → A q) (hQ : stQ cA A s s.heap) (hCa : va_Nw clW s) (isC : List Nat) (hC : isC.map (fun i => wsx[i]?) = W0.map some) (hnC : va_nd isC = true) (ci q0 : Nat) {fs : List Value} {T : u_T} {N : Nat} (hci : vwCl[ci]? = some (C, T, N)) (he : W0[q0]? = some (b, .inr (ci, fs))) (hn : As.length = n) (hsize : ls.size = nL) (hstack : st0 = As.reverse ++ .ref b :: rest) (hW : (rest.map fun v => v.category).sum ≤ 8) (hdg : decode cc pc = .ok (.invokevirtual index, 3)) (hf : cells + 0 ≤ R.cells ∧ slots + 0 ≤ R.slots) : va_Run p l e R s m args below meth c H locs cells slots 0 0 (F0 m pc ls st0) rest (Qc (Value.ref b :: As).toArray) free :=
  va_runV S hM cw ⟨fblindS, va_recv hK (hP.sub isC (fm_of hC)) hci he, pre_atS hP hD hK hN hS hA hQ hCa isC hC hnC⟩ rfl hn hsize hstack (lv_room hW) hdg hf
theorem rI (S : CallFix p m c cc nL s args Ts own) (hM : Met l y ws rm (cPre D tys (.ref b :: As) W0 H.size) Qc mc ms free) (cw : CallB R s args own index y bytes maxL none ws rm mc ms n ∧ y.name = "<init>" ∧ (Cond.instanceMethod y).before args s = true) (hP : va_P D vwCl wsx H) (hD : va_D A wsx) (hK : va_K D vwCl tys s) (hN : nst s) (isC : List Nat) (hC : isC.map (fun i => wsx[i]?) = W0.map some) (hnC : va_nd isC = true) (hn : As.length = n) (hsize : ls.size = nL) (hstack : st0 = As.reverse ++ .ref b :: rest) (hW : (rest.map fun v => v.category).sum ≤ 8) (hdg : decode cc pc = .ok (.invokespecial index, 3)) (hf : cells + mc ≤ R.cells ∧ slots + ms ≤ R.slots) : va_Run p l e R s m args below meth c H locs cells slots mc ms (F0 m pc ls st0) rest (Qc (Value.ref b :: As).toArray) free :=
  va_runI S hM cw ⟨fblind, pre_at hP hD hK hN isC hC hnC⟩ rfl hn hsize hstack (lv_room hW) hdg hf
theorem rIS (S : CallFix p m c cc nL s args Ts own) (hM : Met l y ws rm (cPreS cA D tys (.ref b :: As) W0 H.size) Qc mc ms free) (cw : CallB R s args own index y bytes maxL none ws rm mc ms n ∧ y.name = "<init>" ∧ (Cond.instanceMethod y).before args s = true) (hP : va_P D vwCl wsx H) (hD : va_D A wsx) (hK : va_K D vwCl tys s) (hN : nst s) (hS : va_S A s.heap H locs) (hA : ∀ q, s.heap.size ≤ q → A q) (hQ : stQ cA A s s.heap) (hCa : va_Nw clW s) (isC : List Nat) (hC : isC.map (fun i => wsx[i]?) = W0.map some) (hnC : va_nd isC = true) (hn : As.length = n) (hsize : ls.size = nL) (hstack : st0 = As.reverse ++ .ref b :: rest) (hW : (rest.map fun v => v.category).sum ≤ 8) (hdg : decode cc pc = .ok (.invokespecial index, 3)) (hf : cells + mc ≤ R.cells ∧ slots + ms ≤ R.slots) : va_Run p l e R s m args below meth c H locs cells slots mc ms (F0 m pc ls st0) rest (Qc (Value.ref b :: As).toArray) free :=
  va_runI S hM cw ⟨fblindS, pre_atS hP hD hK hN hS hA hQ hCa isC hC hnC⟩ rfl hn hsize hstack (lv_room hW) hdg hf
theorem rIN (S : CallFix p m c cc nL s args Ts own) (hM : Met l y ws rm (cPre D tys (.ref b :: As) W0 H.size) Qc mc ms free) (cw : va_CN R s args own index y host bytes maxL none ws rm mc ms n ∧ y.name = "<init>" ∧ (Cond.instanceMethod y).before args s = true) (hP : va_P D vwCl wsx H) (hD : va_D A wsx) (hK : va_K D vwCl tys s) (hN : nst s) (isC : List Nat) (hC : isC.map (fun i => wsx[i]?) = W0.map some) (hnC : va_nd isC = true) (hn : As.length = n) (hsize : ls.size = nL) (hstack : st0 = As.reverse ++ .ref b :: rest) (hW : (rest.map fun v => v.category).sum ≤ 8) (hdg : decode cc pc = .ok (.invokespecial index, 3)) (hf : cells + mc ≤ R.cells ∧ slots + ms ≤ R.slots) : va_Run p l e R s m args below meth c H locs cells slots mc ms (F0 m pc ls st0) rest (Qc (Value.ref b :: As).toArray) free :=
  va_runIN S hM cw ⟨fblind, pre_at hP hD hK hN isC hC hnC⟩ rfl hn hsize hstack (lv_room hW) hdg hf
theorem rINS (S : CallFix p m c cc nL s args Ts own) (hM : Met l y ws rm (cPreS cA D tys (.ref b :: As) W0 H.size) Qc mc ms free) (cw : va_CN R s args own index y host bytes maxL none ws rm mc ms n ∧ y.name = "<init>" ∧ (Cond.instanceMethod y).before args s = true) (hP : va_P D vwCl wsx H) (hD : va_D A wsx) (hK : va_K D vwCl tys s) (hN : nst s) (hS : va_S A s.heap H locs) (hA : ∀ q, s.heap.size ≤ q → A q) (hQ : stQ cA A s s.heap) (hCa : va_Nw clW s) (isC : List Nat) (hC : isC.map (fun i => wsx[i]?) = W0.map some) (hnC : va_nd isC = true) (hn : As.length = n) (hsize : ls.size = nL) (hstack : st0 = As.reverse ++ .ref b :: rest) (hW : (rest.map fun v => v.category).sum ≤ 8) (hdg : decode cc pc = .ok (.invokespecial index, 3)) (hf : cells + mc ≤ R.cells ∧ slots + ms ≤ R.slots) : va_Run p l e R s m args below meth c H locs cells slots mc ms (F0 m pc ls st0) rest (Qc (Value.ref b :: As).toArray) free :=
  va_runIN S hM cw ⟨fblindS, pre_atS hP hD hK hN hS hA hQ hCa isC hC hnC⟩ rfl hn hsize hstack (lv_room hW) hdg hf
/-- clone of the table: a new row with what it holds -/
theorem cl_stat {H0 : Heap} (hexec : p.tables.exec = Jvm.exec) (hb : c.code = cc) (hml : c.maxLocals = ls.size) (hown : s.vm.findClass own = some m.cls) (hlink : (Cond.methodLink own index ⟨"[I", "clone", "()Ljava/lang/Object;"⟩).before args s = true) (hsame : (Cond.sameMethod "[I" "java/lang/Object" "clone" "()Ljava/lang/Object;").before args s = true)
    (hnat : (Cond.native ⟨"java/lang/Object", "clone", "()Ljava/lang/Object;"⟩).before args s = true) (hinst : (Cond.instanceMethod ⟨"java/lang/Object", "clone", "()Ljava/lang/Object;"⟩).before args s = true)
    (hsel : (Cond.selects "[I" ⟨"[I", "clone", "()Ljava/lang/Object;"⟩ ⟨"java/lang/Object", "clone", "()Ljava/lang/Object;"⟩).before args s = true) (hcl : va_Nw clW s)
    (hK : va_K D vwCl tys s) (hP : va_P D vwCl wsx H) (hD : va_D A wsx) (hS : va_S A s.heap H locs) (hA : ∀ q, s.heap.size ≤ q → A q) {t : Nat} (hT : cT cA t A s.heap) (t0 : Nat) (ht : tys[t0]? = some (cA, .int))
    (hframes : 1 ≤ R.frames) (hlocals : (rest.map fun v => v.category).sum + 14 ≤ R.locals) (hcells : cells + 1 ≤ R.cells) (hslots : slots + 6 ≤ R.slots) (hdg : decode cc pc = .ok (.invokevirtual index, 3))
    (kk : ∀ (q : Nat) (H1 : Heap), va_P D vwCl (wsx ++ [(q, .inl (cA, 6, .inl rA))]) H1 → va_D A (wsx ++ [(q, .inl (cA, 6, .inl rA))]) → va_S A s.heap H1 locs →
      W p l e R s m args below meth c H1 locs (cells + 1) (slots + 6) Q (F0 m (pc + 3) ls (.ref q :: rest))) : W p l e R s m args below meth c H locs cells slots Q (F0 m pc ls (.ref t :: rest)) := by
  obtain ⟨cell, e1, e2, e3, e4, e5, e6⟩ := cT_kept hT (fun a h1 h2 => hS.2.1 a h1 h2)
  have hsz : cell.slots.size = 6 := by rw [e5]; exact arrV_size _ _ _
  have hcellE : ({ cls := cell.cls, slots := cell.slots } : Cell) = vp_cell cA (6, .inl rA) := by rw [e4, e5]; rfl
  have hnm : s.vm.findClass "[I" = some cA := va_nm_int (hK.2 t0 _ ht).2
  obtain ⟨c0, t0', f1, f2, f3⟩ := Cond.castable_spec (va_Nw.use (A := args) rfl hcl)
  cases hnm.symm.trans f1
  intro T hTh X
  have hcellT : T.heap[t]? = some cell := by rw [hTh]; exact e1
  obtain ⟨-, kA, hkA, comp, hkind⟩ := State.isArrayOf_alike X.warmed.alike ((hK.2 t0 _ ht).1 0 (fun _ => .null))
  obtain ⟨-, kS, hkS, compS, hkindS⟩ := (hK.2 t0 _ ht).1 0 (fun _ => .null)
  obtain ⟨vm', X', st⟩ := X.cloneArray hexec hown hlink hsame hnat hinst hsel (a := t) (cell := cell) hcellT e2 e3 (by rw [e4]; exact hnm) f2 (by rw [e4]; exact f3)
    (fun i v hv => by
      rw [e4]
      have hk' : T.vm.classes[cA]? = some kA := hkA
      have hfit : fits .int v = true := by
        rw [e5] at hv
        exact va_fit (cA := cA) (n := 6) (F := fun k => .int (rA k)) (fun i _ => rfl) i v hv
      simpa [State.fitsSlot, State.slotType?, hk', hkind] using hfit)
    (g := F0 m pc ls (.ref t :: rest)) rfl (by rw [hml]) rfl (by rw [hb]; exact hdg) hframes (by show 2 * 0 + _ + 14 ≤ _; omega) hcells (by rw [hsz]; exact hslots) (hloader := by rw [e4]; exact Vm.clonesLoader_of_array hkS hkindS)
  rw [hcellE, hsz] at X'
  generalize hH1 : H.push (vp_cell cA (6, .inl rA)) = H1
  have z1 : H1.size = H.size + 1 := by rw [← hH1, Array.size_push]
  have d1 : H1[H.size]? = some (vp_cell cA (6, .inl rA)) := by rw [← hH1, Array.getElem?_push_size]
  have o1 : ∀ q : Nat, q < H.size → H1[q]? = H[q]? := fun q hq => by rw [← hH1, Array.getElem?_push, if_neg (Nat.ne_of_lt hq)]
  have hk : ∀ (k : Nat) (y : Nat × va_E), wsx[k]? = some y → H1[y.1]? = H[y.1]? := fun k y hy => o1 y.1 ((hP k y hy).lt)
  obtain ⟨t', b1, b2⟩ := kk H.size H1 ((hP.kept hk).app (fun k y hy => by
      have hz : k < 1 := (List.getElem?_eq_some_iff.mp hy).1
      rw [show k = 0 by omega] at hy
      cases hy
      exact d1)) (hD.push hP rfl (hA _ hS.1)) ⟨Nat.le_trans hS.1 (by omega), fun y h1 h2 => (o1 y (Nat.lt_of_lt_of_le h1 hS.1)).trans (hS.2.1 y h1 h2), hS.2.2⟩
    ((T.setVm vm').pushCell (vp_cell cA (6, .inl rA))) (by rw [← hH1, ← hTh]; rfl) X'
  refine ⟨t', st t' ?_, b2⟩
  rw [hcellE, hTh]
  exact b1
end CS
