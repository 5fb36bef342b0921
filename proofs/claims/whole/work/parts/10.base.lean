/-! ===== the words of nest mates, carried by every contract ===== -/
def nsW : List Cond := [.methodLinkNest RX3 9 yX1_init RX3, .methodLinkNest RX1 11 yX0_init RX3, .fieldLinkNest RX0 18 "LightBursts" "RULE_AT_FIRST" "[I" RX3, .fieldLinkNest RX3 67 "LightBursts$Book" "now" "I" RX3, .fieldLinkNest RX1 110 "LightBursts$Book" "now" "I" RX3, .fieldLinkNest RX3 77 "LightBursts$Book" "told" "I" RX3, .fieldLinkNest RX3 50 "LightBursts$Book" "rules" "[I" RX3, .fieldLinkNest RX3 70 "LightBursts$Book" "lengths" "[I" RX3, .methodLinkNest RX1 20 yX2_init RX3, .fieldLinkNest RX3 16 "LightBursts$Placer" "book" "LLightBursts$Book;" RX3, .fieldLinkNest RX3 21 "LightBursts$Placer" "track" "LLightBursts$Track;" RX3, .fieldLinkNest RX3 96 "LightBursts$Placer" "fate" "I" RX3, .methodLinkNest RX3 28 yX0_init RX3, .methodLinkNest RX3 57 yX0_showLine RX3, .methodLinkNest RX0 54 yX2_clear RX3, .methodLinkNest RX0 42 yX3_isBelow RX3, .methodLinkNest RX0 63 yX2_add RX3, .methodLinkNest RX2 25 yX3_isBelow RX3, .methodLinkNest RX3 61 yX2_lastEnd RX3, .methodLinkNest RX3 80 yX0_comingTick RX3, .methodLinkNest RX3 84 yX1_place RX3, .methodLinkNest RX1 63 yX0_ruleNow RX3, .methodLinkNest RX1 87 yX0_showColour RX3, .methodLinkNest RX1 106 yX2_isFree RX3, .methodLinkNest RX1 113 yX2_lastEndUpTo RX3, .methodLinkNest RX1 77 yX0_lengthNow RX3, .methodLinkNest RX1 117 yX0_showLine RX3, .methodLinkNest RX1 95 yX2_pieceBegin RX3, .methodLinkNest RX1 99 yX2_room RX3, .methodLinkNest RX3 88 yX0_setFact RX3, .methodLinkNest RX3 92 yX1_writeTo RX3, .methodLinkNest RX1 70 yX0_setFact RX3, .methodLinkNest RX3 99 yX0_fact RX3, .methodLinkNest RX3 102 yX0_takeBack RX3, .methodLinkNest RX3 108 yX0_showColour RX3, .methodLinkNest RX3 134 yX2_begin RX3, .methodLinkNest RX3 171 yX2_ticks RX3, .methodLinkNest RX3 174 yX2_burstOf RX3, .methodLinkNest RX3 118 yX2_bookedTicks RX3, .methodLinkNest RX3 121 yX2_isFree RX3, .methodLinkNest RX3 125 yX2_firstFree RX3, .methodLinkNest RX3 128 yX2_closingOfVoid RX3, .methodLinkNest RX3 131 yX2_voidBefore RX3, .methodLinkNest RX3 138 yX0_burstsOfClass RX3, .methodLinkNest RX3 141 yX0_sumOfClass RX3, .methodLinkNest RX3 144 yX0_lostOfClass RX3, .methodLinkNest RX3 151 yX0_burstsOfFate RX3, .methodLinkNest RX3 154 yX0_ruleNow RX3, .methodLinkNest RX3 157 yX0_lengthNow RX3, .methodLinkNest RX3 160 yX0_burstsWith RX3, .methodLinkNest RX3 167 yX0_copyFrom RX3]
def nsIs : Cond → Bool
  | .fieldLinkNest _ _ _ _ _ _ => true
  | .methodLinkNest _ _ _ _ => true
  | _ => false
theorem nsW_is : ∀ w ∈ nsW, nsIs w = true := by
  intro w hw
  have h : nsW.all nsIs = true := rfl
  exact List.all_eq_true.mp h w hw
theorem nsW_on : ∀ w ∈ nsW, w.onTables = true := by
  intro w hw
  have h : nsW.all Cond.onTables = true := rfl
  exact List.all_eq_true.mp h w hw
set_option maxRecDepth 20000 in
theorem nsW_in : ∀ w ∈ nsW, w ∈ lw_tbl := wl_mem [82, 88, 92, 102, 103, 105, 107, 109, 125, 143, 145, 151, 180, 218, 222, 230, 231, 235, 236, 258, 266, 289, 290, 298, 312, 324, 332, 337, 341, 342, 346, 350, 359, 360, 373, 378, 382, 386, 401, 409, 414, 422, 430, 435, 443, 447, 462, 470, 471, 472, 484] rfl
def nst (U : State) : Prop := ∀ w ∈ nsW, va_Nw w U
theorem nst_same {u U : State} (h : u.vm = U.vm) (hn : nst u) : nst U := fun w hw => va_Nw.same (nsW_on w hw) h (hn w hw)
theorem nst_warm {s U : State} (hW : s.WarmedH U.vm) (hn : nst s) : nst U := by
  intro w hw
  have h1 := nsW_is w hw
  have h2 := hn w hw
  cases w <;> first | exact va_Nw.warmF hW h2 | exact va_Nw.warmM hW h2 | (simp [nsIs] at h1; done)
theorem nst_of {args : Array Value} {s : State} (h : ∀ w ∈ lw_tbl, w.before args s = true) : nst s := fun w hw => va_Nw.of (nsW_on w hw) (h w (nsW_in w hw))
/-! ===== worlds ===== -/
abbrev tyA (cA cZ : ClassId) : List (ClassId × FieldType) := [(cA, .int), (cZ, .boolean)]
abbrev BKw (cA : ClassId) (aB aR aL aF : Nat) (now told : Int32) (rf lf ff : Nat → Int32) : va_W := [(aB, .inr (0, [.int now, .int told, .ref aR, .ref aL, .ref aF])), (aR, .inl (cA, 6, .inl rf)), (aL, .inl (cA, 3, .inl lf)), (aF, .inl (cA, 528, .inl ff))]
abbrev TRw (cA : ClassId) (aT aU aG aE : Nat) (sz : Int32) (bf gf ef : Nat → Int32) : va_W := [(aT, .inr (2, [.int sz, .ref aU, .ref aG, .ref aE])), (aU, .inl (cA, 48, .inl bf)), (aG, .inl (cA, 48, .inl gf)), (aE, .inl (cA, 48, .inl ef))]
abbrev PLw (aP aB aT : Nat) (q0 q1 q2 q3 q4 q5 q6 q7 q8 : Int32) : va_W := [(aP, .inr (1, [.ref aB, .ref aT, .int q0, .int q1, .int q2, .int q3, .int q4, .int q5, .int q6, .int q7, .int q8]))]
abbrev LBw (aX aB aB1 aB2 aT aP : Nat) (kp : Int32) : va_W := [(aX, .inr (3, [.ref aP, .ref aB, .ref aT, .ref aB1, .ref aB2, .int kp]))]
abbrev MDw (cA cZ : ClassId) (aM aS aI aK : Nat) (sf mf kf : Nat → Int32) (m0 m1 m2 m3 m4 : Int32) : va_W := [(aM, .inr (4, [.ref aS, .ref aI, .ref aK, .int m0, .int m1, .int m2, .int m3, .int m4])), (aS, .inl (cA, 539, .inl sf)), (aI, .inl (cA, 1078, .inl mf)), (aK, .inl (cZ, 2, .inl kf))]
/-! ===== contracts of one form, and their calls ===== -/
theorem fm_of {β : Type} {f : Nat → Option β} {is : List Nat} {w : List β} (h : is.map f = w.map some) : is.filterMap f = w := by
  have e : is.filterMap f = (is.map f).filterMap id := by rw [List.filterMap_map]; rfl
  rw [e, h, List.filterMap_map]
  induction w with
  | nil => rfl
  | cons a t ih => simp
abbrev cPre (D : va_G) (tys : List (ClassId × FieldType)) (av : List Value) (W0 : va_W) (sz : Nat) : Array Value → State → Prop := va_Pc av (fun U => U.heap.size = sz ∧ va_P D vwCl W0 U.heap ∧ va_K D vwCl tys U ∧ va_D (fun _ => True) W0 ∧ nst U)
abbrev cPi (D : va_G) (tys : List (ClassId × FieldType)) (W0 : va_W) (sz : Nat) (r0 : Int32) (W1 : va_W) (A : Nat → Prop) : Array Value → State → Outcome → State → Prop := va_Qi (S := Unit) (fun r _ => r = r0) (fun _ t => va_P D vwCl W1 t.heap ∧ va_K D vwCl tys t ∧ va_D A W1) A
abbrev cPv (D : va_G) (tys : List (ClassId × FieldType)) (W0 : va_W) (sz : Nat) (W1 : va_W) (A : Nat → Prop) : Array Value → State → Outcome → State → Prop := va_Qv (S := Unit) (fun _ => True) (fun _ t => va_P D vwCl W1 t.heap ∧ va_K D vwCl tys t ∧ va_D A W1) A
abbrev MetI (l : Launch) (y : MethodName) (ws : List Cond) (fr lo : Nat) (D : va_G) (tys : List (ClassId × FieldType)) (av : List Value) (W0 : va_W) (sz : Nat) (r0 : Int32) (W1 : va_W) : Prop := Met l y ws ({ frames := fr, cells := 0, slots := 0, locals := lo }) (cPre D tys av W0 sz) (cPi D tys W0 sz r0 W1 (va_A W0 sz)) 0 0 (va_A W0 sz)
abbrev MetV (l : Launch) (y : MethodName) (ws : List Cond) (fr lo : Nat) (D : va_G) (tys : List (ClassId × FieldType)) (av : List Value) (W0 : va_W) (sz : Nat) (W1 : va_W) : Prop := Met l y ws ({ frames := fr, cells := 0, slots := 0, locals := lo }) (cPre D tys av W0 sz) (cPv D tys W0 sz W1 (va_A W0 sz)) 0 0 (va_A W0 sz)
section CK
variable {p : Program} {l : Launch} {e : Env} {R : Room} {s : State} {m : MethodId} {args : Array Value} {below : List Frame} {meth : Method} {c : Code} {H : Heap} {locs : List Loc} {cells slots : Nat} {Q : State → Prop} {pc : Nat} {ls : Array Slot} {rest st0 : List Value} {D : va_G} {tys : List (ClassId × FieldType)} {W0 W1 wsx : va_W} {A : Nat → Prop} {a : Array Value}
theorem lv_eqi {x : Int32} (y : Int32) (h : x = y) (k : W p l e R s m args below meth c H locs cells slots Q (F0 m pc ls (.int y :: rest))) : W p l e R s m args below meth c H locs cells slots Q (F0 m pc ls (.int x :: rest)) := h ▸ k
theorem fblind {av : List Value} {W0 : va_W} {sz : Nat} : FrameBlind (cPre D tys av W0 sz) := fun a U g mk q => by
  obtain ⟨q0, q1, qP, qK, qD, qN⟩ := q
  exact ⟨q0, q1, qP, va_K.moved (u := U) (U := U.calling g mk a) (Vm.Alike.refl U.vm) qK, qD, nst_same (u := U) (U := U.calling g mk a) rfl qN⟩
theorem pre_at {av : List Value} (hP : va_P D vwCl wsx H) (hD : va_D A wsx) (hK : va_K D vwCl tys s) (hN : nst s) (isC : List Nat) (hC : isC.map (fun i => wsx[i]?) = W0.map some) (hnC : va_nd isC = true) : ∀ U : State, U.heap = H → s.WarmedH U.vm → cPre D tys av W0 H.size av.toArray U := fun U hU hW => ⟨rfl, by rw [hU], by rw [hU]; exact hP.sub isC (fm_of hC), va_K.moved hW.alike hK, (hD.sub isC hnC hC).weaken (fun _ _ _ _ => trivial), nst_warm hW hN⟩
theorem kI {wr wsN : va_W} {r0 : Int32} (hr : va_Run p l e R s m args below meth c H locs cells slots 0 0 (F0 m pc ls st0) rest (cPi D tys W0 H.size r0 W1 (va_A W0 H.size) a) (va_A W0 H.size)) (hP : va_P D vwCl wsx H) (hD : va_D A wsx) (hS : va_S A s.heap H locs) (hA : ∀ q, s.heap.size ≤ q → A q) (isC isR isN : List Nat) (hC : isC.map (fun i => wsx[i]?) = W0.map some) (hR : isR.map (fun i => wsx[i]?) = wr.map some) (hn : va_nd isR = true) (hdis : ∀ i ∈ isR, i ∉ isC) (hN : isN.map (fun i => (wr ++ W1)[i]?) = wsN.map some) (hnN : va_nd isN = true)
    (kk : ∀ (H1 : Heap) (locs1 : List Loc), va_P D vwCl wsN H1 → va_D A wsN → va_S A s.heap H1 locs1 → W p l e R s m args below meth c H1 locs1 cells slots Q (F0 m (pc + 3) ls (.int r0 :: rest))) : W p l e R s m args below meth c H locs cells slots Q (F0 m pc ls st0) := by
  have hFc := va_free (wc := W0) hD hS hA isC hC
  refine va_calli hr hS (fun q _ h => hFc q h) hFc (fun r u t H1 locs1 ht hvm hw hB hz1 hk1 hS1 => ?_)
  obtain ⟨hP1, hK1, hD1⟩ := hB
  rw [ht] at hP1
  obtain ⟨hPj, hDj⟩ := va_join (wr := wr) (w1 := W1) hP hD isC isR hC hR hn hdis hk1 hFc hP1 hD1
  subst hw
  exact kk H1 locs1 (hPj.sub isN (fm_of hN)) (hDj.sub isN hnN hN) hS1
theorem kV {wr wsN : va_W} (hr : va_Run p l e R s m args below meth c H locs cells slots 0 0 (F0 m pc ls st0) rest (cPv D tys W0 H.size W1 (va_A W0 H.size) a) (va_A W0 H.size)) (hP : va_P D vwCl wsx H) (hD : va_D A wsx) (hS : va_S A s.heap H locs) (hA : ∀ q, s.heap.size ≤ q → A q) (isC isR isN : List Nat) (hC : isC.map (fun i => wsx[i]?) = W0.map some) (hR : isR.map (fun i => wsx[i]?) = wr.map some) (hn : va_nd isR = true) (hdis : ∀ i ∈ isR, i ∉ isC) (hN : isN.map (fun i => (wr ++ W1)[i]?) = wsN.map some) (hnN : va_nd isN = true)
    (kk : ∀ (H1 : Heap) (locs1 : List Loc), va_P D vwCl wsN H1 → va_D A wsN → va_S A s.heap H1 locs1 → W p l e R s m args below meth c H1 locs1 cells slots Q (F0 m (pc + 3) ls rest)) : W p l e R s m args below meth c H locs cells slots Q (F0 m pc ls st0) := by
  have hFc := va_free (wc := W0) hD hS hA isC hC
  refine va_callv hr hS (fun q _ h => hFc q h) hFc (fun u t H1 locs1 ht hvm hw hB hz1 hk1 hS1 => ?_)
  obtain ⟨hP1, hK1, hD1⟩ := hB
  rw [ht] at hP1
  obtain ⟨hPj, hDj⟩ := va_join (wr := wr) (w1 := W1) hP hD isC isR hC hR hn hdis hk1 hFc hP1 hD1
  exact kk H1 locs1 (hPj.sub isN (fm_of hN)) (hDj.sub isN hnN hN) hS1
variable {y : MethodName} {bytes cc : ByteArray} {maxL nL n index : Nat} {ret : Option FieldType} {ws : List Cond} {rm : Room} {Qc : Array Value → State → Outcome → State → Prop} {free : Addr → Prop} {Ts : List Cond} {own C host : String} {b : Addr} {As : List Value}
theorem rV (S : CallFix p m c cc nL s args Ts own) (hM : Met l y ws rm (cPre D tys (.ref b :: As) W0 H.size) Qc 0 0 free) (cw : CallW R s args own C index y bytes maxL ret ws rm 0 0 n) (hP : va_P D vwCl wsx H) (hD : va_D A wsx) (hK : va_K D vwCl tys s) (hN : nst s) (isC : List Nat) (hC : isC.map (fun i => wsx[i]?) = W0.map some) (hnC : va_nd isC = true) (ci q0 : Nat) {fs : List Value} {T : u_T} {N : Nat} (hci : vwCl[ci]? = some (C, T, N)) (he : W0[q0]? = some (b, .inr (ci, fs))) (hn : As.length = n) (hsize : ls.size = nL) (hstack : st0 = As.reverse ++ .ref b :: rest) (hW : (rest.map fun v => v.category).sum ≤ 8) (hdg : decode cc pc = .ok (.invokevirtual index, 3)) (hf : cells + 0 ≤ R.cells ∧ slots + 0 ≤ R.slots) : va_Run p l e R s m args below meth c H locs cells slots 0 0 (F0 m pc ls st0) rest (Qc (Value.ref b :: As).toArray) free :=
  va_runV S hM cw ⟨fblind, va_recv hK (hP.sub isC (fm_of hC)) hci he, pre_at hP hD hK hN isC hC hnC⟩ rfl hn hsize hstack (lv_room hW) hdg hf
theorem rVN (S : CallFix p m c cc nL s args Ts own) (hM : Met l y ws rm (cPre D tys (.ref b :: As) W0 H.size) Qc 0 0 free) (cw : va_CN R s args own index y host bytes maxL ret ws rm 0 0 n ∧ (Cond.instanceMethod y).before args s = true ∧ (Cond.selects C y y).before args s = true) (hP : va_P D vwCl wsx H) (hD : va_D A wsx) (hK : va_K D vwCl tys s) (hN : nst s) (isC : List Nat) (hC : isC.map (fun i => wsx[i]?) = W0.map some) (hnC : va_nd isC = true) (ci q0 : Nat) {fs : List Value} {T : u_T} {N : Nat} (hci : vwCl[ci]? = some (C, T, N)) (he : W0[q0]? = some (b, .inr (ci, fs))) (hn : As.length = n) (hsize : ls.size = nL) (hstack : st0 = As.reverse ++ .ref b :: rest) (hW : (rest.map fun v => v.category).sum ≤ 8) (hdg : decode cc pc = .ok (.invokevirtual index, 3)) (hf : cells + 0 ≤ R.cells ∧ slots + 0 ≤ R.slots) : va_Run p l e R s m args below meth c H locs cells slots 0 0 (F0 m pc ls st0) rest (Qc (Value.ref b :: As).toArray) free :=
  va_runVN S hM cw ⟨fblind, va_recv hK (hP.sub isC (fm_of hC)) hci he, pre_at hP hD hK hN isC hC hnC⟩ rfl hn hsize hstack (lv_room hW) hdg hf
theorem rS (S : CallFix p m c cc nL s args Ts own) (hM : Met l y ws rm (cPre D tys As W0 H.size) Qc 0 0 free) (cw : CallB R s args own index y bytes maxL ret ws rm 0 0 n ∧ (Cond.static y).before args s = true) (hP : va_P D vwCl wsx H) (hD : va_D A wsx) (hK : va_K D vwCl tys s) (hN : nst s) (isC : List Nat) (hC : isC.map (fun i => wsx[i]?) = W0.map some) (hnC : va_nd isC = true) (hn : As.length = n) (hsize : ls.size = nL) (hstack : st0 = As.reverse ++ rest) (hW : (rest.map fun v => v.category).sum ≤ 8) (hdg : decode cc pc = .ok (.invokestatic index, 3)) (hf : cells + 0 ≤ R.cells ∧ slots + 0 ≤ R.slots) : va_Run p l e R s m args below meth c H locs cells slots 0 0 (F0 m pc ls st0) rest (Qc As.toArray) free :=
  va_runS S hM cw ⟨fblind, pre_at hP hD hK hN isC hC hnC⟩ rfl hn hsize hstack (lv_room hW) hdg hf
theorem rSN (S : CallFix p m c cc nL s args Ts own) (hM : Met l y ws rm (cPre D tys As W0 H.size) Qc 0 0 free) (cw : va_CN R s args own index y host bytes maxL ret ws rm 0 0 n ∧ (Cond.static y).before args s = true ∧ True) (hP : va_P D vwCl wsx H) (hD : va_D A wsx) (hK : va_K D vwCl tys s) (hN : nst s) (isC : List Nat) (hC : isC.map (fun i => wsx[i]?) = W0.map some) (hnC : va_nd isC = true) (hn : As.length = n) (hsize : ls.size = nL) (hstack : st0 = As.reverse ++ rest) (hW : (rest.map fun v => v.category).sum ≤ 8) (hdg : decode cc pc = .ok (.invokestatic index, 3)) (hf : cells + 0 ≤ R.cells ∧ slots + 0 ≤ R.slots) : va_Run p l e R s m args below meth c H locs cells slots 0 0 (F0 m pc ls st0) rest (Qc As.toArray) free :=
  va_runSN S hM cw ⟨fblind, pre_at hP hD hK hN isC hC hnC⟩ rfl hn hsize hstack (lv_room hW) hdg hf
end CK
