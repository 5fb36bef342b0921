abbrev MetR (l : Launch) (y : MethodName) (ws : List Cond) (fr lo : Nat) (D : va_G) (tys : List (ClassId × FieldType)) (av : List Value) (W0 : va_W) (sz : Nat) (r0 : Nat) (W1 : va_W) : Prop := Met l y ws ({ frames := fr, cells := 0, slots := 0, locals := lo }) (cPre D tys av W0 sz) (va_Qr (S := Unit) (fun _ => True) (fun _ a t => a = r0 ∧ va_P D vwCl W1 t.heap ∧ va_K D vwCl tys t ∧ va_D (va_A W0 sz) W1) (va_A W0 sz)) 0 0 (va_A W0 sz)
section CR
variable {p : Program} {l : Launch} {e : Env} {R : Room} {s : State} {m : MethodId} {args : Array Value} {below : List Frame} {meth : Method} {c : Code} {H : Heap} {locs : List Loc} {cells slots : Nat} {Q : State → Prop} {pc : Nat} {ls : Array Slot} {rest st0 : List Value} {D : va_G} {tys : List (ClassId × FieldType)} {W0 W1 wsx : va_W} {A : Nat → Prop} {a : Array Value}
theorem kR {wr wsN : va_W} {r0 : Nat} (hr : va_Run p l e R s m args below meth c H locs cells slots 0 0 (F0 m pc ls st0) rest (va_Qr (S := Unit) (fun _ => True) (fun _ a t => a = r0 ∧ va_P D vwCl W1 t.heap ∧ va_K D vwCl tys t ∧ va_D (va_A W0 H.size) W1) (va_A W0 H.size) a) (va_A W0 H.size)) (hP : va_P D vwCl wsx H) (hD : va_D A wsx) (hS : va_S A s.heap H locs) (hA : ∀ q, s.heap.size ≤ q → A q) (isC isR isN : List Nat) (hC : isC.map (fun i => wsx[i]?) = W0.map some) (hR : isR.map (fun i => wsx[i]?) = wr.map some) (hn : va_nd isR = true) (hdis : ∀ i ∈ isR, i ∉ isC) (hN : isN.map (fun i => (wr ++ W1)[i]?) = wsN.map some) (hnN : va_nd isN = true)
    (kk : ∀ (H1 : Heap) (locs1 : List Loc), va_P D vwCl wsN H1 → va_D A wsN → va_S A s.heap H1 locs1 → W p l e R s m args below meth c H1 locs1 cells slots Q (F0 m (pc + 3) ls (.ref r0 :: rest))) : W p l e R s m args below meth c H locs cells slots Q (F0 m pc ls st0) := by
  have hFc := va_free (wc := W0) hD hS hA isC hC
  refine va_callr hr hS (fun q _ h => hFc q h) hFc (fun u ra t H1 locs1 ht hvm hw hB hz1 hk1 hS1 => ?_)
  obtain ⟨hra, hP1, hK1, hD1⟩ := hB
  rw [ht] at hP1
  obtain ⟨hPj, hDj⟩ := va_join (wr := wr) (w1 := W1) hP hD isC isR hC hR hn hdis hk1 hFc hP1 hD1
  subst hra
  exact kk H1 locs1 (hPj.sub isN (fm_of hN)) (hDj.sub isN hnN hN) hS1
end CR

def g_X0_copyFrom (rf : (Nat → Int32)) (lf : (Nat → Int32)) (ff : (Nat → Int32)) (onow : Int32) (otold : Int32) (orf : (Nat → Int32)) (olf : (Nat → Int32)) (off : (Nat → Int32)) : Int32 × Int32 × (Nat → Int32) × (Nat → Int32) × (Nat → Int32) := (onow, otold, (va_cpy orf rf 0 0 6), (va_cpy olf lf 0 0 3), (va_cpy off ff 0 0 528))
set_option maxHeartbeats 4000000 in
set_option maxRecDepth 100000 in
theorem c_X0_copyFrom (l : Launch) (D : va_G) (cA cZ : ClassId) (aB : Nat) (aR : Nat) (aL : Nat) (aF : Nat) (aO : Nat) (aOR : Nat) (aOL : Nat) (aOF : Nat) (szz : Nat) (now : Int32) (told : Int32) (rf : (Nat → Int32)) (lf : (Nat → Int32)) (ff : (Nat → Int32)) (onow : Int32) (otold : Int32) (orf : (Nat → Int32)) (olf : (Nat → Int32)) (off : (Nat → Int32)) : MetV l yX0_copyFrom wsX0_copyFrom 1 60 D (tyA cA cZ) [.ref aB, .ref aO] (BKw cA aB aR aL aF now told rf lf ff ++ BKw cA aO aOR aOL aOF onow otold orf olf off) szz (BKw cA aB aR aL aF ((g_X0_copyFrom rf lf ff onow otold orf olf off).1) ((g_X0_copyFrom rf lf ff onow otold orf olf off).2.1) ((g_X0_copyFrom rf lf ff onow otold orf olf off).2.2.1) ((g_X0_copyFrom rf lf ff onow otold orf olf off).2.2.2.1) ((g_X0_copyFrom rf lf ff onow otold orf olf off).2.2.2.2) ++ BKw cA aO aOR aOL aOF onow otold orf olf off) := by
  refine Met.ofW (cc := cX0_copyFrom) (maxL := 2) (ret := none) (by decide) rfl ?_
  intro p e s m args below meth c s₁ B hml hv
  obtain ⟨rfl, hsz, hP, hK, hD0, hN⟩ := hv
  have hx := B.exec
  have hb := B.bytes
  have hr := B.returns
  have hts := atoms_spec (ws := wsX0_copyFrom) B.pre
  have hown : s.vm.findClass RX0 = some m.cls := findClass_of_methodNamed B.named
  have hlocks := B.notSynchronized
  have iX0 : ∀ w ∈ wsX00, w ∈ wsX0_copyFrom := fun _ h => List.mem_cons_of_mem _ (List.mem_append_right _ h)
  subst hsz
  have hD := hD0.self (sz := s.heap.size)
  generalize hAe : va_A (BKw cA aB aR aL aF now told rf lf ff ++ BKw cA aO aOR aOL aOF onow otold orf olf off) s.heap.size = A at hD ⊢
  have hA : ∀ q : Nat, s.heap.size ≤ q → A q := fun q h => by rw [← hAe]; exact Or.inr h
  have hS : va_S A s.heap s.heap [] := va_S.rf
  have hP : va_P D vwCl (BKw cA aB aR aL aF now told rf lf ff ++ BKw cA aO aOR aOL aOF onow otold orf olf off) s.heap := hP
  obtain ⟨G, hG⟩ : ∃ G, G = (g_X0_copyFrom rf lf ff onow otold orf olf off) := ⟨_, rfl⟩
  rw [← hG]
  have hl := lv_entry ([.ref aB, .ref aO]) (n := 2) (Nat.le_of_ble_eq_true rfl)
  rw [lg_entry_eq]
  generalize (lg_sl ([.ref aB, .ref aO]) ++ List.replicate (2 - (lg_sl ([.ref aB, .ref aO])).length) Slot.unset).toArray = ls at hl ⊢
  have hl : lv_has ls 2 [(0, .ref aB), (1, .ref aO)] := hl
  refine lv_aload_n hx hb dX0_copyFrom_0 rfl (lv_at hl 0 rfl) ?_
  refine lv_aload_n hx hb dX0_copyFrom_1 rfl (lv_at hl 1 rfl) ?_
  refine va_get (D := D) (ci := 0) (v := .int onow) (C := RX0) (T := TX0) (N := 5) hx hb hts iX0 hown hK hP 4 rfl rfl 0 (by decide) (hts (.fieldLink RX0 9 "LightBursts$Book" "now" "I") (List.mem_of_getElem? (i := 1) rfl)) (fun _ h9 => h9) rfl dX0_copyFrom_2 ?_
  refine va_put (D := D) (ci := 0) (v := .int onow) (ty := .int) (C := RX0) (T := TX0) (N := 5) hx hb hts iX0 tyX0 tyX0_ok nmX0 hown hK hP hD hS 0 rfl rfl 0 (by decide) (hts (.fieldLink RX0 9 "LightBursts$Book" "now" "I") (List.mem_of_getElem? (i := 1) rfl)) (fun _ h9 => h9) rfl (tyX0_ok 0 (by decide)) rfl rfl (Nat.le_of_ble_eq_true rfl) dX0_copyFrom_5 (fun H locs hP hD hS => ?_)
  have hP : va_P D vwCl (BKw cA aB aR aL aF onow told rf lf ff ++ BKw cA aO aOR aOL aOF onow otold orf olf off) H := hP
  have hD : va_D A (BKw cA aB aR aL aF onow told rf lf ff ++ BKw cA aO aOR aOL aOF onow otold orf olf off) := hD
  refine lv_aload_n hx hb dX0_copyFrom_8 rfl (lv_at hl 0 rfl) ?_
  refine lv_aload_n hx hb dX0_copyFrom_9 rfl (lv_at hl 1 rfl) ?_
  refine va_get (D := D) (ci := 0) (v := .int otold) (C := RX0) (T := TX0) (N := 5) hx hb hts iX0 hown hK hP 4 rfl rfl 1 (by decide) (hts (.fieldLink RX0 15 "LightBursts$Book" "told" "I") (List.mem_of_getElem? (i := 2) rfl)) (fun _ h9 => h9) rfl dX0_copyFrom_10 ?_
  refine va_put (D := D) (ci := 0) (v := .int otold) (ty := .int) (C := RX0) (T := TX0) (N := 5) hx hb hts iX0 tyX0 tyX0_ok nmX0 hown hK hP hD hS 0 rfl rfl 1 (by decide) (hts (.fieldLink RX0 15 "LightBursts$Book" "told" "I") (List.mem_of_getElem? (i := 2) rfl)) (fun _ h9 => h9) rfl (tyX0_ok 1 (by decide)) rfl rfl (Nat.le_of_ble_eq_true rfl) dX0_copyFrom_13 (fun H locs hP hD hS => ?_)
  have hP : va_P D vwCl (BKw cA aB aR aL aF onow otold rf lf ff ++ BKw cA aO aOR aOL aOF onow otold orf olf off) H := hP
  have hD : va_D A (BKw cA aB aR aL aF onow otold rf lf ff ++ BKw cA aO aOR aOL aOF onow otold orf olf off) := hD
  refine lv_aload_n hx hb dX0_copyFrom_16 rfl (lv_at hl 1 rfl) ?_
  refine va_get (D := D) (ci := 0) (v := .ref aOR) (C := RX0) (T := TX0) (N := 5) hx hb hts iX0 hown hK hP 4 rfl rfl 2 (by decide) (hts (.fieldLink RX0 27 "LightBursts$Book" "rules" "[I") (List.mem_of_getElem? (i := 3) rfl)) (fun _ h9 => h9) rfl dX0_copyFrom_17 ?_
  refine lv_iconst (v := 0) hx hb dX0_copyFrom_20 (by decide) ?_
  refine lv_aload_n hx hb dX0_copyFrom_21 rfl (lv_at hl 0 rfl) ?_
  refine va_get (D := D) (ci := 0) (v := .ref aR) (C := RX0) (T := TX0) (N := 5) hx hb hts iX0 hown hK hP 0 rfl rfl 2 (by decide) (hts (.fieldLink RX0 27 "LightBursts$Book" "rules" "[I") (List.mem_of_getElem? (i := 3) rfl)) (fun _ h9 => h9) rfl dX0_copyFrom_22 ?_
  refine lv_iconst (v := 0) hx hb dX0_copyFrom_25 (by decide) ?_
  refine lv_bipush (v := 6) hx hb dX0_copyFrom_26 (by decide) ?_
  refine va_copyi hx hb (hml.trans hl.1.symm) hown (hts (.methodLink RX0 36 arraycopyName) (List.mem_of_getElem? (i := 4) rfl)) (hts (.native arraycopyName) (List.mem_of_getElem? (i := 5) rfl)) (hts (.static arraycopyName) (List.mem_of_getElem? (i := 6) rfl)) (hts (.initialized "java/lang/System") (List.mem_of_getElem? (i := 7) rfl)) hK hP hD hS 5 1 0 0 rfl rfl rfl rfl rfl (by decide) (by decide) (by decide) (by decide) (by decide) (fun _ _ => rfl) (Nat.le_of_ble_eq_true rfl) (Nat.le_of_ble_eq_true rfl) dX0_copyFrom_28 (fun H locs hP hD hS => ?_)
  have hP : va_P D vwCl (BKw cA aB aR aL aF onow otold (va_cpy orf rf 0 0 6) lf ff ++ BKw cA aO aOR aOL aOF onow otold orf olf off) H := hP
  have hD : va_D A (BKw cA aB aR aL aF onow otold (va_cpy orf rf 0 0 6) lf ff ++ BKw cA aO aOR aOL aOF onow otold orf olf off) := hD
  refine lv_aload_n hx hb dX0_copyFrom_31 rfl (lv_at hl 1 rfl) ?_
  refine va_get (D := D) (ci := 0) (v := .ref aOL) (C := RX0) (T := TX0) (N := 5) hx hb hts iX0 hown hK hP 4 rfl rfl 3 (by decide) (hts (.fieldLink RX0 30 "LightBursts$Book" "lengths" "[I") (List.mem_of_getElem? (i := 8) rfl)) (fun _ h9 => h9) rfl dX0_copyFrom_32 ?_
  refine lv_iconst (v := 0) hx hb dX0_copyFrom_35 (by decide) ?_
  refine lv_aload_n hx hb dX0_copyFrom_36 rfl (lv_at hl 0 rfl) ?_
  refine va_get (D := D) (ci := 0) (v := .ref aL) (C := RX0) (T := TX0) (N := 5) hx hb hts iX0 hown hK hP 0 rfl rfl 3 (by decide) (hts (.fieldLink RX0 30 "LightBursts$Book" "lengths" "[I") (List.mem_of_getElem? (i := 8) rfl)) (fun _ h9 => h9) rfl dX0_copyFrom_37 ?_
  refine lv_iconst (v := 0) hx hb dX0_copyFrom_40 (by decide) ?_
  refine lv_iconst (v := 3) hx hb dX0_copyFrom_41 (by decide) ?_
  refine va_copyi hx hb (hml.trans hl.1.symm) hown (hts (.methodLink RX0 36 arraycopyName) (List.mem_of_getElem? (i := 4) rfl)) (hts (.native arraycopyName) (List.mem_of_getElem? (i := 5) rfl)) (hts (.static arraycopyName) (List.mem_of_getElem? (i := 6) rfl)) (hts (.initialized "java/lang/System") (List.mem_of_getElem? (i := 7) rfl)) hK hP hD hS 6 2 0 0 rfl rfl rfl rfl rfl (by decide) (by decide) (by decide) (by decide) (by decide) (fun _ _ => rfl) (Nat.le_of_ble_eq_true rfl) (Nat.le_of_ble_eq_true rfl) dX0_copyFrom_42 (fun H locs hP hD hS => ?_)
  have hP : va_P D vwCl (BKw cA aB aR aL aF onow otold (va_cpy orf rf 0 0 6) (va_cpy olf lf 0 0 3) ff ++ BKw cA aO aOR aOL aOF onow otold orf olf off) H := hP
  have hD : va_D A (BKw cA aB aR aL aF onow otold (va_cpy orf rf 0 0 6) (va_cpy olf lf 0 0 3) ff ++ BKw cA aO aOR aOL aOF onow otold orf olf off) := hD
  refine lv_aload_n hx hb dX0_copyFrom_45 rfl (lv_at hl 1 rfl) ?_
  refine va_get (D := D) (ci := 0) (v := .ref aOF) (C := RX0) (T := TX0) (N := 5) hx hb hts iX0 hown hK hP 4 rfl rfl 4 (by decide) (hts (.fieldLink RX0 33 "LightBursts$Book" "facts" "[I") (List.mem_of_getElem? (i := 9) rfl)) (fun _ h9 => h9) rfl dX0_copyFrom_46 ?_
  refine lv_iconst (v := 0) hx hb dX0_copyFrom_49 (by decide) ?_
  refine lv_aload_n hx hb dX0_copyFrom_50 rfl (lv_at hl 0 rfl) ?_
  refine va_get (D := D) (ci := 0) (v := .ref aF) (C := RX0) (T := TX0) (N := 5) hx hb hts iX0 hown hK hP 0 rfl rfl 4 (by decide) (hts (.fieldLink RX0 33 "LightBursts$Book" "facts" "[I") (List.mem_of_getElem? (i := 9) rfl)) (fun _ h9 => h9) rfl dX0_copyFrom_51 ?_
  refine lv_iconst (v := 0) hx hb dX0_copyFrom_54 (by decide) ?_
  refine lv_sipush (v := 528) hx hb dX0_copyFrom_55 (by decide) ?_
  refine va_copyi hx hb (hml.trans hl.1.symm) hown (hts (.methodLink RX0 36 arraycopyName) (List.mem_of_getElem? (i := 4) rfl)) (hts (.native arraycopyName) (List.mem_of_getElem? (i := 5) rfl)) (hts (.static arraycopyName) (List.mem_of_getElem? (i := 6) rfl)) (hts (.initialized "java/lang/System") (List.mem_of_getElem? (i := 7) rfl)) hK hP hD hS 7 3 0 0 rfl rfl rfl rfl rfl (by decide) (by decide) (by decide) (by decide) (by decide) (fun _ _ => rfl) (Nat.le_of_ble_eq_true rfl) (Nat.le_of_ble_eq_true rfl) dX0_copyFrom_58 (fun H locs hP hD hS => ?_)
  have hP : va_P D vwCl (BKw cA aB aR aL aF onow otold (va_cpy orf rf 0 0 6) (va_cpy olf lf 0 0 3) (va_cpy off ff 0 0 528) ++ BKw cA aO aOR aOL aOF onow otold orf olf off) H := hP
  have hD : va_D A (BKw cA aB aR aL aF onow otold (va_cpy orf rf 0 0 6) (va_cpy olf lf 0 0 3) (va_cpy off ff 0 0 528) ++ BKw cA aO aOR aOL aOF onow otold orf olf off) := hD
  rw [g_X0_copyFrom] at hG
  rw [hG]
  exact W.vret hx hb hr (fun t ht hW => ⟨⟨(), rfl, trivial, by rw [ht]; exact hP, va_K.moved hW.alike hK, hD⟩, hS.F ht⟩) hS.2.2 dX0_copyFrom_61

def g_X3_imageOf (x1 : Int32) (aB1 : Nat) (aB2 : Nat) : Nat := (if x1 = 0 then aB1 else aB2)
set_option maxHeartbeats 4000000 in
set_option maxRecDepth 100000 in
theorem c_X3_imageOf (l : Launch) (D : va_G) (cA cZ : ClassId) (aX : Nat) (aB : Nat) (aB1 : Nat) (aB2 : Nat) (aT : Nat) (aP : Nat) (szz : Nat) (kp : Int32) (x1 : Int32) : MetR l yX3_imageOf wsX3_imageOf 0 0 D (tyA cA cZ) [.ref aX, .int x1] (LBw aX aB aB1 aB2 aT aP kp) szz (g_X3_imageOf x1 aB1 aB2) (LBw aX aB aB1 aB2 aT aP kp) := by
  refine Met.ofW (cc := cX3_imageOf) (maxL := 2) (ret := (some (.object "LightBursts$Book"))) (by decide) rfl ?_
  intro p e s m args below meth c s₁ B hml hv
  obtain ⟨rfl, hsz, hP, hK, hD0, hN⟩ := hv
  have hx := B.exec
  have hb := B.bytes
  have hr := B.returns
  have hts := atoms_spec (ws := wsX3_imageOf) B.pre
  have hown : s.vm.findClass RX3 = some m.cls := findClass_of_methodNamed B.named
  have hlocks := B.notSynchronized
  have iX3 : ∀ w ∈ wsX30, w ∈ wsX3_imageOf := fun _ h => List.mem_cons_of_mem _ (List.mem_append_right _ h)
  subst hsz
  have hD := hD0.self (sz := s.heap.size)
  generalize hAe : va_A (LBw aX aB aB1 aB2 aT aP kp) s.heap.size = A at hD ⊢
  have hA : ∀ q : Nat, s.heap.size ≤ q → A q := fun q h => by rw [← hAe]; exact Or.inr h
  have hS : va_S A s.heap s.heap [] := va_S.rf
  have hP : va_P D vwCl (LBw aX aB aB1 aB2 aT aP kp) s.heap := hP
  obtain ⟨G, hG⟩ : ∃ G, G = (g_X3_imageOf x1 aB1 aB2) := ⟨_, rfl⟩
  rw [← hG]
  have hl := lv_entry ([.ref aX, .int x1]) (n := 2) (Nat.le_of_ble_eq_true rfl)
  rw [lg_entry_eq]
  generalize (lg_sl ([.ref aX, .int x1]) ++ List.replicate (2 - (lg_sl ([.ref aX, .int x1])).length) Slot.unset).toArray = ls at hl ⊢
  have hl : lv_has ls 2 [(0, .ref aX), (1, .int x1)] := hl
  refine lv_iload_n hx hb dX3_imageOf_0 rfl (lv_at hl 1 rfl) ?_
  refine lv_if_ne (tgt := 11) hx hb dX3_imageOf_1 (by decide) (fun c_1 => ?_) (fun c_1 => ?_)
  · refine lv_aload_n hx hb dX3_imageOf_11 rfl (lv_at hl 0 rfl) ?_
    refine va_get (D := D) (ci := 3) (v := .ref aB2) (C := RX3) (T := TX3) (N := 6) hx hb hts iX3 hown hK hP 0 rfl rfl 4 (by decide) (hts (.fieldLink RX3 32 "LightBursts" "secondImage" "LLightBursts$Book;") (List.mem_of_getElem? (i := 2) rfl)) (fun _ h9 => h9) rfl dX3_imageOf_12 ?_
    rw [g_X3_imageOf, if_neg c_1] at hG
    rw [hG]
    exact W.aret (v := .ref aB2) hx hb hr (Or.inl ⟨_, rfl⟩) (Or.inr ⟨_, rfl⟩) (fun t ht hW => ⟨⟨(), _, rfl, trivial, rfl, by rw [ht]; exact hP, va_K.moved hW.alike hK, hD⟩, hS.F ht⟩) hS.2.2 dX3_imageOf_15
  · refine lv_aload_n hx hb dX3_imageOf_4 rfl (lv_at hl 0 rfl) ?_
    refine va_get (D := D) (ci := 3) (v := .ref aB1) (C := RX3) (T := TX3) (N := 6) hx hb hts iX3 hown hK hP 0 rfl rfl 3 (by decide) (hts (.fieldLink RX3 29 "LightBursts" "firstImage" "LLightBursts$Book;") (List.mem_of_getElem? (i := 1) rfl)) (fun _ h9 => h9) rfl dX3_imageOf_5 ?_
    refine lv_goto (tgt := 15) hx hb dX3_imageOf_8 (by decide) ?_
    rw [g_X3_imageOf, if_pos c_1] at hG
    rw [hG]
    exact W.aret (v := .ref aB1) hx hb hr (Or.inl ⟨_, rfl⟩) (Or.inr ⟨_, rfl⟩) (fun t ht hW => ⟨⟨(), _, rfl, trivial, rfl, by rw [ht]; exact hP, va_K.moved hW.alike hK, hD⟩, hS.F ht⟩) hS.2.2 dX3_imageOf_15

def g_X3_image (kp : Int32) (now : Int32) (told : Int32) (rf : (Nat → Int32)) (lf : (Nat → Int32)) (ff : (Nat → Int32)) (now1 : Int32) (told1 : Int32) (rf1 : (Nat → Int32)) (lf1 : (Nat → Int32)) (ff1 : (Nat → Int32)) (now2 : Int32) (told2 : Int32) (rf2 : (Nat → Int32)) (lf2 : (Nat → Int32)) (ff2 : (Nat → Int32)) (x1 : Int32) : Int32 × Int32 × Int32 × Int32 × (Nat → Int32) × (Nat → Int32) × (Nat → Int32) × Int32 × Int32 × (Nat → Int32) × (Nat → Int32) × (Nat → Int32) := (if (g_X3_isBelow x1 2) = 0 then ((-2), kp, now1, told1, rf1, lf1, ff1, now2, told2, rf2, lf2, ff2) else (if x1 = 0 then (1, (kp ||| (1 <<< (x1 &&& 31))), (g_X0_copyFrom rf1 lf1 ff1 now told rf lf ff).1, (g_X0_copyFrom rf1 lf1 ff1 now told rf lf ff).2.1, (g_X0_copyFrom rf1 lf1 ff1 now told rf lf ff).2.2.1, (g_X0_copyFrom rf1 lf1 ff1 now told rf lf ff).2.2.2.1, (g_X0_copyFrom rf1 lf1 ff1 now told rf lf ff).2.2.2.2, now2, told2, rf2, lf2, ff2) else (1, (kp ||| (1 <<< (x1 &&& 31))), now1, told1, rf1, lf1, ff1, (g_X0_copyFrom rf2 lf2 ff2 now told rf lf ff).1, (g_X0_copyFrom rf2 lf2 ff2 now told rf lf ff).2.1, (g_X0_copyFrom rf2 lf2 ff2 now told rf lf ff).2.2.1, (g_X0_copyFrom rf2 lf2 ff2 now told rf lf ff).2.2.2.1, (g_X0_copyFrom rf2 lf2 ff2 now told rf lf ff).2.2.2.2)))
set_option maxHeartbeats 4000000 in
set_option maxRecDepth 100000 in
theorem c_X3_image (l : Launch) (D : va_G) (cA cZ : ClassId) (aX : Nat) (aB : Nat) (aB1 : Nat) (aB2 : Nat) (aT : Nat) (aP : Nat) (aR : Nat) (aL : Nat) (aF : Nat) (aR1 : Nat) (aL1 : Nat) (aF1 : Nat) (aR2 : Nat) (aL2 : Nat) (aF2 : Nat) (szz : Nat) (kp : Int32) (now : Int32) (told : Int32) (rf : (Nat → Int32)) (lf : (Nat → Int32)) (ff : (Nat → Int32)) (now1 : Int32) (told1 : Int32) (rf1 : (Nat → Int32)) (lf1 : (Nat → Int32)) (ff1 : (Nat → Int32)) (now2 : Int32) (told2 : Int32) (rf2 : (Nat → Int32)) (lf2 : (Nat → Int32)) (ff2 : (Nat → Int32)) (x1 : Int32) : MetI l yX3_image wsX3_image 2 81 D (tyA cA cZ) [.ref aX, .int x1] (LBw aX aB aB1 aB2 aT aP kp ++ BKw cA aB aR aL aF now told rf lf ff ++ BKw cA aB1 aR1 aL1 aF1 now1 told1 rf1 lf1 ff1 ++ BKw cA aB2 aR2 aL2 aF2 now2 told2 rf2 lf2 ff2) szz (g_X3_image kp now told rf lf ff now1 told1 rf1 lf1 ff1 now2 told2 rf2 lf2 ff2 x1).1 (LBw aX aB aB1 aB2 aT aP ((g_X3_image kp now told rf lf ff now1 told1 rf1 lf1 ff1 now2 told2 rf2 lf2 ff2 x1).2.1) ++ BKw cA aB aR aL aF now told rf lf ff ++ BKw cA aB1 aR1 aL1 aF1 ((g_X3_image kp now told rf lf ff now1 told1 rf1 lf1 ff1 now2 told2 rf2 lf2 ff2 x1).2.2.1) ((g_X3_image kp now told rf lf ff now1 told1 rf1 lf1 ff1 now2 told2 rf2 lf2 ff2 x1).2.2.2.1) ((g_X3_image kp now told rf lf ff now1 told1 rf1 lf1 ff1 now2 told2 rf2 lf2 ff2 x1).2.2.2.2.1) ((g_X3_image kp now told rf lf ff now1 told1 rf1 lf1 ff1 now2 told2 rf2 lf2 ff2 x1).2.2.2.2.2.1) ((g_X3_image kp now told rf lf ff now1 told1 rf1 lf1 ff1 now2 told2 rf2 lf2 ff2 x1).2.2.2.2.2.2.1) ++ BKw cA aB2 aR2 aL2 aF2 ((g_X3_image kp now told rf lf ff now1 told1 rf1 lf1 ff1 now2 told2 rf2 lf2 ff2 x1).2.2.2.2.2.2.2.1) ((g_X3_image kp now told rf lf ff now1 told1 rf1 lf1 ff1 now2 told2 rf2 lf2 ff2 x1).2.2.2.2.2.2.2.2.1) ((g_X3_image kp now told rf lf ff now1 told1 rf1 lf1 ff1 now2 told2 rf2 lf2 ff2 x1).2.2.2.2.2.2.2.2.2.1) ((g_X3_image kp now told rf lf ff now1 told1 rf1 lf1 ff1 now2 told2 rf2 lf2 ff2 x1).2.2.2.2.2.2.2.2.2.2.1) ((g_X3_image kp now told rf lf ff now1 told1 rf1 lf1 ff1 now2 told2 rf2 lf2 ff2 x1).2.2.2.2.2.2.2.2.2.2.2)) := by
  refine Met.ofW (cc := cX3_image) (maxL := 2) (ret := (some .int)) (by decide) rfl ?_
  intro p e s m args below meth c s₁ B hml hv
  obtain ⟨rfl, hsz, hP, hK, hD0, hN⟩ := hv
  have hx := B.exec
  have hb := B.bytes
  have hr := B.returns
  have hts := atoms_spec (ws := wsX3_image) B.pre
  have hown : s.vm.findClass RX3 = some m.cls := findClass_of_methodNamed B.named
  have hlocks := B.notSynchronized
  have iX3 : ∀ w ∈ wsX30, w ∈ wsX3_image := fun _ h => List.mem_cons_of_mem _ (List.mem_append_left _ (List.mem_append_right _ h))
  have iX0 : ∀ w ∈ wsX00, w ∈ wsX3_image := fun _ h => List.mem_cons_of_mem _ (List.mem_append_right _ h)
  subst hsz
  have hD := hD0.self (sz := s.heap.size)
  generalize hAe : va_A (LBw aX aB aB1 aB2 aT aP kp ++ BKw cA aB aR aL aF now told rf lf ff ++ BKw cA aB1 aR1 aL1 aF1 now1 told1 rf1 lf1 ff1 ++ BKw cA aB2 aR2 aL2 aF2 now2 told2 rf2 lf2 ff2) s.heap.size = A at hD ⊢
  have hA : ∀ q : Nat, s.heap.size ≤ q → A q := fun q h => by rw [← hAe]; exact Or.inr h
  have hS : va_S A s.heap s.heap [] := va_S.rf
  have hP : va_P D vwCl (LBw aX aB aB1 aB2 aT aP kp ++ BKw cA aB aR aL aF now told rf lf ff ++ BKw cA aB1 aR1 aL1 aF1 now1 told1 rf1 lf1 ff1 ++ BKw cA aB2 aR2 aL2 aF2 now2 told2 rf2 lf2 ff2) s.heap := hP
  obtain ⟨G, hG⟩ : ∃ G, G = (g_X3_image kp now told rf lf ff now1 told1 rf1 lf1 ff1 now2 told2 rf2 lf2 ff2 x1) := ⟨_, rfl⟩
  rw [← hG]
  have hl := lv_entry ([.ref aX, .int x1]) (n := 2) (Nat.le_of_ble_eq_true rfl)
  rw [lg_entry_eq]
  generalize (lg_sl ([.ref aX, .int x1]) ++ List.replicate (2 - (lg_sl ([.ref aX, .int x1])).length) Slot.unset).toArray = ls at hl ⊢
  have hl : lv_has ls 2 [(0, .ref aX), (1, .int x1)] := hl
  refine lv_iload_n hx hb dX3_image_0 rfl (lv_at hl 1 rfl) ?_
  refine lv_iconst (v := 2) hx hb dX3_image_1 (by decide) ?_
  refine kI (wr := LBw aX aB aB1 aB2 aT aP kp ++ BKw cA aB aR aL aF now told rf lf ff ++ BKw cA aB1 aR1 aL1 aF1 now1 told1 rf1 lf1 ff1 ++ BKw cA aB2 aR2 aL2 aF2 now2 told2 rf2 lf2 ff2) (W1 := ([] : va_W)) (wsN := LBw aX aB aB1 aB2 aT aP kp ++ BKw cA aB aR aL aF now told rf lf ff ++ BKw cA aB1 aR1 aL1 aF1 now1 told1 rf1 lf1 ff1 ++ BKw cA aB2 aR2 aL2 aF2 now2 told2 rf2 lf2 ff2) (rS (As := [.int x1, .int 2]) (rest := []) (W0 := ([] : va_W)) ⟨hx, hb, hml, hown, hts⟩ (c_X3_isBelow l D cA cZ s.heap.size x1 2) (cwS 2 hts gX3_image_X3_isBelow rfl rfl rfl (by decide +kernel) ⟨Nat.le_of_ble_eq_true rfl, Nat.le_of_ble_eq_true rfl⟩) hP hD hK hN ([] : List Nat) rfl rfl rfl hl.1 rfl (Nat.le_of_ble_eq_true rfl) dX3_image_2 ⟨Nat.zero_le _, Nat.zero_le _⟩) hP hD hS hA [] [0, 1, 2, 3, 4, 5, 6, 7, 8, 9, 10, 11, 12] [0, 1, 2, 3, 4, 5, 6, 7, 8, 9, 10, 11, 12] rfl rfl rfl (by decide) rfl rfl (fun H locs hP hD hS => ?_)
  refine lv_if_ne (tgt := 11) hx hb dX3_image_5 (by decide) (fun c_1 => ?_) (fun c_1 => ?_)
  · refine lv_aload_n hx hb dX3_image_11 rfl (lv_at hl 0 rfl) ?_
    refine lv_iload_n hx hb dX3_image_12 rfl (lv_at hl 1 rfl) ?_
    refine kR (wr := BKw cA aB aR aL aF now told rf lf ff ++ BKw cA aB1 aR1 aL1 aF1 now1 told1 rf1 lf1 ff1 ++ BKw cA aB2 aR2 aL2 aF2 now2 told2 rf2 lf2 ff2) (W1 := LBw aX aB aB1 aB2 aT aP kp) (wsN := LBw aX aB aB1 aB2 aT aP kp ++ BKw cA aB aR aL aF now told rf lf ff ++ BKw cA aB1 aR1 aL1 aF1 now1 told1 rf1 lf1 ff1 ++ BKw cA aB2 aR2 aL2 aF2 now2 told2 rf2 lf2 ff2) (rV (As := [.int x1]) (rest := []) (W0 := LBw aX aB aB1 aB2 aT aP kp) ⟨hx, hb, hml, hown, hts⟩ (c_X3_imageOf l D cA cZ aX aB aB1 aB2 aT aP H.size kp x1) (cwV 1 hts gX3_image_X3_imageOf rfl rfl rfl (by decide +kernel) ⟨Nat.le_of_ble_eq_true rfl, Nat.le_of_ble_eq_true rfl⟩) hP hD hK hN ([0] : List Nat) rfl rfl 3 0 rfl rfl rfl hl.1 rfl (Nat.le_of_ble_eq_true rfl) dX3_image_13 ⟨Nat.zero_le _, Nat.zero_le _⟩) hP hD hS hA [0] [1, 2, 3, 4, 5, 6, 7, 8, 9, 10, 11, 12] [12, 0, 1, 2, 3, 4, 5, 6, 7, 8, 9, 10, 11] rfl rfl rfl (by decide) rfl rfl (fun H locs hP hD hS => ?_)
    rcases Decidable.em (x1 = 0) with c_2 | c_2
    · rw [show (g_X3_imageOf x1 aB1 aB2) = aB1 from if_pos c_2]
      refine lv_aload_n hx hb dX3_image_16 rfl (lv_at hl 0 rfl) ?_
      refine va_get (D := D) (ci := 3) (v := .ref aB) (C := RX3) (T := TX3) (N := 6) hx hb hts iX3 hown hK hP 0 rfl rfl 1 (by decide) (hts (.fieldLink RX3 20 "LightBursts" "book" "LLightBursts$Book;") (List.mem_of_getElem? (i := 1) rfl)) (fun _ h9 => h9) rfl dX3_image_17 ?_
      refine kV (wr := LBw aX aB aB1 aB2 aT aP kp ++ BKw cA aB2 aR2 aL2 aF2 now2 told2 rf2 lf2 ff2) (W1 := BKw cA aB1 aR1 aL1 aF1 ((g_X0_copyFrom rf1 lf1 ff1 now told rf lf ff).1) ((g_X0_copyFrom rf1 lf1 ff1 now told rf lf ff).2.1) ((g_X0_copyFrom rf1 lf1 ff1 now told rf lf ff).2.2.1) ((g_X0_copyFrom rf1 lf1 ff1 now told rf lf ff).2.2.2.1) ((g_X0_copyFrom rf1 lf1 ff1 now told rf lf ff).2.2.2.2) ++ BKw cA aB aR aL aF now told rf lf ff) (wsN := LBw aX aB aB1 aB2 aT aP kp ++ BKw cA aB aR aL aF now told rf lf ff ++ BKw cA aB1 aR1 aL1 aF1 ((g_X0_copyFrom rf1 lf1 ff1 now told rf lf ff).1) ((g_X0_copyFrom rf1 lf1 ff1 now told rf lf ff).2.1) ((g_X0_copyFrom rf1 lf1 ff1 now told rf lf ff).2.2.1) ((g_X0_copyFrom rf1 lf1 ff1 now told rf lf ff).2.2.2.1) ((g_X0_copyFrom rf1 lf1 ff1 now told rf lf ff).2.2.2.2) ++ BKw cA aB2 aR2 aL2 aF2 now2 told2 rf2 lf2 ff2) (rVN (As := [.ref aB]) (rest := []) (W0 := BKw cA aB1 aR1 aL1 aF1 now1 told1 rf1 lf1 ff1 ++ BKw cA aB aR aL aF now told rf lf ff) ⟨hx, hb, hml, hown, hts⟩ (c_X0_copyFrom l D cA cZ aB1 aR1 aL1 aF1 aB aR aL aF H.size now1 told1 rf1 lf1 ff1 now told rf lf ff) ⟨va_cnB 1 hts gX3_image_X0_copyFrom_n167 rfl rfl rfl (hN (.methodLinkNest RX3 167 yX0_copyFrom RX3) (List.mem_of_getElem? (i := 50) rfl)) (hts (.initialized RX0) (List.mem_of_getElem? (i := 14) rfl)) (by decide +kernel) ⟨Nat.le_of_ble_eq_true rfl, Nat.le_of_ble_eq_true rfl⟩, (hts (.instanceMethod yX0_copyFrom) (List.mem_of_getElem? (i := 13) rfl)), (hts (.selects RX0 yX0_copyFrom yX0_copyFrom) (List.mem_of_getElem? (i := 15) rfl))⟩ hP hD hK hN ([5, 6, 7, 8, 1, 2, 3, 4] : List Nat) rfl rfl 0 0 rfl rfl rfl hl.1 rfl (Nat.le_of_ble_eq_true rfl) dX3_image_20 ⟨Nat.zero_le _, Nat.zero_le _⟩) hP hD hS hA [5, 6, 7, 8, 1, 2, 3, 4] [0, 9, 10, 11, 12] [0, 9, 10, 11, 12, 5, 6, 7, 8, 1, 2, 3, 4] rfl rfl rfl (by decide) rfl rfl (fun H locs hP hD hS => ?_)
      refine lv_aload_n hx hb dX3_image_23 rfl (lv_at hl 0 rfl) ?_
      refine lv_dup hx hb dX3_image_24 rfl ?_
      refine va_get (D := D) (ci := 3) (v := .int kp) (C := RX3) (T := TX3) (N := 6) hx hb hts iX3 hown hK hP 0 rfl rfl 5 (by decide) (hts (.fieldLink RX3 35 "LightBursts" "keptImages" "I") (List.mem_of_getElem? (i := 2) rfl)) (fun _ h9 => h9) rfl dX3_image_25 ?_
      refine lv_iconst (v := 1) hx hb dX3_image_28 (by decide) ?_
      refine lv_iload_n hx hb dX3_image_29 rfl (lv_at hl 1 rfl) ?_
      refine lv_ishl hx hb dX3_image_30 ?_
      refine lv_ior hx hb dX3_image_31 ?_
      refine va_put (D := D) (ci := 3) (v := .int (kp ||| (1 <<< (x1 &&& 31)))) (ty := .int) (C := RX3) (T := TX3) (N := 6) hx hb hts iX3 tyX3 tyX3_ok nmX3 hown hK hP hD hS 0 rfl rfl 5 (by decide) (hts (.fieldLink RX3 35 "LightBursts" "keptImages" "I") (List.mem_of_getElem? (i := 2) rfl)) (fun _ h9 => h9) rfl (tyX3_ok 5 (by decide)) rfl rfl (Nat.le_of_ble_eq_true rfl) dX3_image_32 (fun H locs hP hD hS => ?_)
      have hP : va_P D vwCl (LBw aX aB aB1 aB2 aT aP (kp ||| (1 <<< (x1 &&& 31))) ++ BKw cA aB aR aL aF now told rf lf ff ++ BKw cA aB1 aR1 aL1 aF1 ((g_X0_copyFrom rf1 lf1 ff1 now told rf lf ff).1) ((g_X0_copyFrom rf1 lf1 ff1 now told rf lf ff).2.1) ((g_X0_copyFrom rf1 lf1 ff1 now told rf lf ff).2.2.1) ((g_X0_copyFrom rf1 lf1 ff1 now told rf lf ff).2.2.2.1) ((g_X0_copyFrom rf1 lf1 ff1 now told rf lf ff).2.2.2.2) ++ BKw cA aB2 aR2 aL2 aF2 now2 told2 rf2 lf2 ff2) H := hP
      have hD : va_D A (LBw aX aB aB1 aB2 aT aP (kp ||| (1 <<< (x1 &&& 31))) ++ BKw cA aB aR aL aF now told rf lf ff ++ BKw cA aB1 aR1 aL1 aF1 ((g_X0_copyFrom rf1 lf1 ff1 now told rf lf ff).1) ((g_X0_copyFrom rf1 lf1 ff1 now told rf lf ff).2.1) ((g_X0_copyFrom rf1 lf1 ff1 now told rf lf ff).2.2.1) ((g_X0_copyFrom rf1 lf1 ff1 now told rf lf ff).2.2.2.1) ((g_X0_copyFrom rf1 lf1 ff1 now told rf lf ff).2.2.2.2) ++ BKw cA aB2 aR2 aL2 aF2 now2 told2 rf2 lf2 ff2) := hD
      refine lv_iconst (v := 1) hx hb dX3_image_35 (by decide) ?_
      rw [g_X3_image, if_neg c_1, if_pos c_2] at hG
      rw [hG]
      exact W.iret (v := 1) hx hb hr (fun t ht hW => ⟨⟨_, (), rfl, rfl, by rw [ht]; exact hP, va_K.moved hW.alike hK, hD⟩, hS.F ht⟩) hS.2.2 dX3_image_36
    · rw [show (g_X3_imageOf x1 aB1 aB2) = aB2 from if_neg c_2]
      refine lv_aload_n hx hb dX3_image_16 rfl (lv_at hl 0 rfl) ?_
      refine va_get (D := D) (ci := 3) (v := .ref aB) (C := RX3) (T := TX3) (N := 6) hx hb hts iX3 hown hK hP 0 rfl rfl 1 (by decide) (hts (.fieldLink RX3 20 "LightBursts" "book" "LLightBursts$Book;") (List.mem_of_getElem? (i := 1) rfl)) (fun _ h9 => h9) rfl dX3_image_17 ?_
      refine kV (wr := LBw aX aB aB1 aB2 aT aP kp ++ BKw cA aB1 aR1 aL1 aF1 now1 told1 rf1 lf1 ff1) (W1 := BKw cA aB2 aR2 aL2 aF2 ((g_X0_copyFrom rf2 lf2 ff2 now told rf lf ff).1) ((g_X0_copyFrom rf2 lf2 ff2 now told rf lf ff).2.1) ((g_X0_copyFrom rf2 lf2 ff2 now told rf lf ff).2.2.1) ((g_X0_copyFrom rf2 lf2 ff2 now told rf lf ff).2.2.2.1) ((g_X0_copyFrom rf2 lf2 ff2 now told rf lf ff).2.2.2.2) ++ BKw cA aB aR aL aF now told rf lf ff) (wsN := LBw aX aB aB1 aB2 aT aP kp ++ BKw cA aB aR aL aF now told rf lf ff ++ BKw cA aB1 aR1 aL1 aF1 now1 told1 rf1 lf1 ff1 ++ BKw cA aB2 aR2 aL2 aF2 ((g_X0_copyFrom rf2 lf2 ff2 now told rf lf ff).1) ((g_X0_copyFrom rf2 lf2 ff2 now told rf lf ff).2.1) ((g_X0_copyFrom rf2 lf2 ff2 now told rf lf ff).2.2.1) ((g_X0_copyFrom rf2 lf2 ff2 now told rf lf ff).2.2.2.1) ((g_X0_copyFrom rf2 lf2 ff2 now told rf lf ff).2.2.2.2)) (rVN (As := [.ref aB]) (rest := []) (W0 := BKw cA aB2 aR2 aL2 aF2 now2 told2 rf2 lf2 ff2 ++ BKw cA aB aR aL aF now told rf lf ff) ⟨hx, hb, hml, hown, hts⟩ (c_X0_copyFrom l D cA cZ aB2 aR2 aL2 aF2 aB aR aL aF H.size now2 told2 rf2 lf2 ff2 now told rf lf ff) ⟨va_cnB 1 hts gX3_image_X0_copyFrom_n167 rfl rfl rfl (hN (.methodLinkNest RX3 167 yX0_copyFrom RX3) (List.mem_of_getElem? (i := 50) rfl)) (hts (.initialized RX0) (List.mem_of_getElem? (i := 14) rfl)) (by decide +kernel) ⟨Nat.le_of_ble_eq_true rfl, Nat.le_of_ble_eq_true rfl⟩, (hts (.instanceMethod yX0_copyFrom) (List.mem_of_getElem? (i := 13) rfl)), (hts (.selects RX0 yX0_copyFrom yX0_copyFrom) (List.mem_of_getElem? (i := 15) rfl))⟩ hP hD hK hN ([9, 10, 11, 12, 1, 2, 3, 4] : List Nat) rfl rfl 0 0 rfl rfl rfl hl.1 rfl (Nat.le_of_ble_eq_true rfl) dX3_image_20 ⟨Nat.zero_le _, Nat.zero_le _⟩) hP hD hS hA [9, 10, 11, 12, 1, 2, 3, 4] [0, 5, 6, 7, 8] [0, 9, 10, 11, 12, 1, 2, 3, 4, 5, 6, 7, 8] rfl rfl rfl (by decide) rfl rfl (fun H locs hP hD hS => ?_)
      refine lv_aload_n hx hb dX3_image_23 rfl (lv_at hl 0 rfl) ?_
      refine lv_dup hx hb dX3_image_24 rfl ?_
      refine va_get (D := D) (ci := 3) (v := .int kp) (C := RX3) (T := TX3) (N := 6) hx hb hts iX3 hown hK hP 0 rfl rfl 5 (by decide) (hts (.fieldLink RX3 35 "LightBursts" "keptImages" "I") (List.mem_of_getElem? (i := 2) rfl)) (fun _ h9 => h9) rfl dX3_image_25 ?_
      refine lv_iconst (v := 1) hx hb dX3_image_28 (by decide) ?_
      refine lv_iload_n hx hb dX3_image_29 rfl (lv_at hl 1 rfl) ?_
      refine lv_ishl hx hb dX3_image_30 ?_
      refine lv_ior hx hb dX3_image_31 ?_
      refine va_put (D := D) (ci := 3) (v := .int (kp ||| (1 <<< (x1 &&& 31)))) (ty := .int) (C := RX3) (T := TX3) (N := 6) hx hb hts iX3 tyX3 tyX3_ok nmX3 hown hK hP hD hS 0 rfl rfl 5 (by decide) (hts (.fieldLink RX3 35 "LightBursts" "keptImages" "I") (List.mem_of_getElem? (i := 2) rfl)) (fun _ h9 => h9) rfl (tyX3_ok 5 (by decide)) rfl rfl (Nat.le_of_ble_eq_true rfl) dX3_image_32 (fun H locs hP hD hS => ?_)
      have hP : va_P D vwCl (LBw aX aB aB1 aB2 aT aP (kp ||| (1 <<< (x1 &&& 31))) ++ BKw cA aB aR aL aF now told rf lf ff ++ BKw cA aB1 aR1 aL1 aF1 now1 told1 rf1 lf1 ff1 ++ BKw cA aB2 aR2 aL2 aF2 ((g_X0_copyFrom rf2 lf2 ff2 now told rf lf ff).1) ((g_X0_copyFrom rf2 lf2 ff2 now told rf lf ff).2.1) ((g_X0_copyFrom rf2 lf2 ff2 now told rf lf ff).2.2.1) ((g_X0_copyFrom rf2 lf2 ff2 now told rf lf ff).2.2.2.1) ((g_X0_copyFrom rf2 lf2 ff2 now told rf lf ff).2.2.2.2)) H := hP
      have hD : va_D A (LBw aX aB aB1 aB2 aT aP (kp ||| (1 <<< (x1 &&& 31))) ++ BKw cA aB aR aL aF now told rf lf ff ++ BKw cA aB1 aR1 aL1 aF1 now1 told1 rf1 lf1 ff1 ++ BKw cA aB2 aR2 aL2 aF2 ((g_X0_copyFrom rf2 lf2 ff2 now told rf lf ff).1) ((g_X0_copyFrom rf2 lf2 ff2 now told rf lf ff).2.1) ((g_X0_copyFrom rf2 lf2 ff2 now told rf lf ff).2.2.1) ((g_X0_copyFrom rf2 lf2 ff2 now told rf lf ff).2.2.2.1) ((g_X0_copyFrom rf2 lf2 ff2 now told rf lf ff).2.2.2.2)) := hD
      refine lv_iconst (v := 1) hx hb dX3_image_35 (by decide) ?_
      rw [g_X3_image, if_neg c_1, if_neg c_2] at hG
      rw [hG]
      exact W.iret (v := 1) hx hb hr (fun t ht hW => ⟨⟨_, (), rfl, rfl, by rw [ht]; exact hP, va_K.moved hW.alike hK, hD⟩, hS.F ht⟩) hS.2.2 dX3_image_36
  · refine lv_bipush (v := (-2)) hx hb dX3_image_8 (by decide) ?_
    rw [g_X3_image, if_pos c_1] at hG
    rw [hG]
    exact W.iret (v := (-2)) hx hb hr (fun t ht hW => ⟨⟨_, (), rfl, rfl, by rw [ht]; exact hP, va_K.moved hW.alike hK, hD⟩, hS.F ht⟩) hS.2.2 dX3_image_10

def g_X3_restore (kp : Int32) (now : Int32) (told : Int32) (rf : (Nat → Int32)) (lf : (Nat → Int32)) (ff : (Nat → Int32)) (now1 : Int32) (told1 : Int32) (rf1 : (Nat → Int32)) (lf1 : (Nat → Int32)) (ff1 : (Nat → Int32)) (now2 : Int32) (told2 : Int32) (rf2 : (Nat → Int32)) (lf2 : (Nat → Int32)) (ff2 : (Nat → Int32)) (x1 : Int32) : Int32 × Int32 × Int32 × (Nat → Int32) × (Nat → Int32) × (Nat → Int32) := (if (g_X3_isBelow x1 2) = 0 then ((-2), now, told, rf, lf, ff) else (if (kp &&& (1 <<< (x1 &&& 31))) = 0 then ((-3), now, told, rf, lf, ff) else (if x1 = 0 then (1, (g_X0_copyFrom rf lf ff now1 told1 rf1 lf1 ff1).1, (g_X0_copyFrom rf lf ff now1 told1 rf1 lf1 ff1).2.1, (g_X0_copyFrom rf lf ff now1 told1 rf1 lf1 ff1).2.2.1, (g_X0_copyFrom rf lf ff now1 told1 rf1 lf1 ff1).2.2.2.1, (g_X0_copyFrom rf lf ff now1 told1 rf1 lf1 ff1).2.2.2.2) else (1, (g_X0_copyFrom rf lf ff now2 told2 rf2 lf2 ff2).1, (g_X0_copyFrom rf lf ff now2 told2 rf2 lf2 ff2).2.1, (g_X0_copyFrom rf lf ff now2 told2 rf2 lf2 ff2).2.2.1, (g_X0_copyFrom rf lf ff now2 told2 rf2 lf2 ff2).2.2.2.1, (g_X0_copyFrom rf lf ff now2 told2 rf2 lf2 ff2).2.2.2.2))))
set_option maxHeartbeats 4000000 in
set_option maxRecDepth 100000 in
theorem c_X3_restore (l : Launch) (D : va_G) (cA cZ : ClassId) (aX : Nat) (aB : Nat) (aB1 : Nat) (aB2 : Nat) (aT : Nat) (aP : Nat) (aR : Nat) (aL : Nat) (aF : Nat) (aR1 : Nat) (aL1 : Nat) (aF1 : Nat) (aR2 : Nat) (aL2 : Nat) (aF2 : Nat) (szz : Nat) (kp : Int32) (now : Int32) (told : Int32) (rf : (Nat → Int32)) (lf : (Nat → Int32)) (ff : (Nat → Int32)) (now1 : Int32) (told1 : Int32) (rf1 : (Nat → Int32)) (lf1 : (Nat → Int32)) (ff1 : (Nat → Int32)) (now2 : Int32) (told2 : Int32) (rf2 : (Nat → Int32)) (lf2 : (Nat → Int32)) (ff2 : (Nat → Int32)) (x1 : Int32) : MetI l yX3_restore wsX3_restore 2 81 D (tyA cA cZ) [.ref aX, .int x1] (LBw aX aB aB1 aB2 aT aP kp ++ BKw cA aB aR aL aF now told rf lf ff ++ BKw cA aB1 aR1 aL1 aF1 now1 told1 rf1 lf1 ff1 ++ BKw cA aB2 aR2 aL2 aF2 now2 told2 rf2 lf2 ff2) szz (g_X3_restore kp now told rf lf ff now1 told1 rf1 lf1 ff1 now2 told2 rf2 lf2 ff2 x1).1 (LBw aX aB aB1 aB2 aT aP kp ++ BKw cA aB aR aL aF ((g_X3_restore kp now told rf lf ff now1 told1 rf1 lf1 ff1 now2 told2 rf2 lf2 ff2 x1).2.1) ((g_X3_restore kp now told rf lf ff now1 told1 rf1 lf1 ff1 now2 told2 rf2 lf2 ff2 x1).2.2.1) ((g_X3_restore kp now told rf lf ff now1 told1 rf1 lf1 ff1 now2 told2 rf2 lf2 ff2 x1).2.2.2.1) ((g_X3_restore kp now told rf lf ff now1 told1 rf1 lf1 ff1 now2 told2 rf2 lf2 ff2 x1).2.2.2.2.1) ((g_X3_restore kp now told rf lf ff now1 told1 rf1 lf1 ff1 now2 told2 rf2 lf2 ff2 x1).2.2.2.2.2) ++ BKw cA aB1 aR1 aL1 aF1 now1 told1 rf1 lf1 ff1 ++ BKw cA aB2 aR2 aL2 aF2 now2 told2 rf2 lf2 ff2) := by
  refine Met.ofW (cc := cX3_restore) (maxL := 2) (ret := (some .int)) (by decide) rfl ?_
  intro p e s m args below meth c s₁ B hml hv
  obtain ⟨rfl, hsz, hP, hK, hD0, hN⟩ := hv
  have hx := B.exec
  have hb := B.bytes
  have hr := B.returns
  have hts := atoms_spec (ws := wsX3_restore) B.pre
  have hown : s.vm.findClass RX3 = some m.cls := findClass_of_methodNamed B.named
  have hlocks := B.notSynchronized
  have iX3 : ∀ w ∈ wsX30, w ∈ wsX3_restore := fun _ h => List.mem_cons_of_mem _ (List.mem_append_left _ (List.mem_append_right _ h))
  have iX0 : ∀ w ∈ wsX00, w ∈ wsX3_restore := fun _ h => List.mem_cons_of_mem _ (List.mem_append_right _ h)
  subst hsz
  have hD := hD0.self (sz := s.heap.size)
  generalize hAe : va_A (LBw aX aB aB1 aB2 aT aP kp ++ BKw cA aB aR aL aF now told rf lf ff ++ BKw cA aB1 aR1 aL1 aF1 now1 told1 rf1 lf1 ff1 ++ BKw cA aB2 aR2 aL2 aF2 now2 told2 rf2 lf2 ff2) s.heap.size = A at hD ⊢
  have hA : ∀ q : Nat, s.heap.size ≤ q → A q := fun q h => by rw [← hAe]; exact Or.inr h
  have hS : va_S A s.heap s.heap [] := va_S.rf
  have hP : va_P D vwCl (LBw aX aB aB1 aB2 aT aP kp ++ BKw cA aB aR aL aF now told rf lf ff ++ BKw cA aB1 aR1 aL1 aF1 now1 told1 rf1 lf1 ff1 ++ BKw cA aB2 aR2 aL2 aF2 now2 told2 rf2 lf2 ff2) s.heap := hP
  obtain ⟨G, hG⟩ : ∃ G, G = (g_X3_restore kp now told rf lf ff now1 told1 rf1 lf1 ff1 now2 told2 rf2 lf2 ff2 x1) := ⟨_, rfl⟩
  rw [← hG]
  have hl := lv_entry ([.ref aX, .int x1]) (n := 2) (Nat.le_of_ble_eq_true rfl)
  rw [lg_entry_eq]
  generalize (lg_sl ([.ref aX, .int x1]) ++ List.replicate (2 - (lg_sl ([.ref aX, .int x1])).length) Slot.unset).toArray = ls at hl ⊢
  have hl : lv_has ls 2 [(0, .ref aX), (1, .int x1)] := hl
  refine lv_iload_n hx hb dX3_restore_0 rfl (lv_at hl 1 rfl) ?_
  refine lv_iconst (v := 2) hx hb dX3_restore_1 (by decide) ?_
  refine kI (wr := LBw aX aB aB1 aB2 aT aP kp ++ BKw cA aB aR aL aF now told rf lf ff ++ BKw cA aB1 aR1 aL1 aF1 now1 told1 rf1 lf1 ff1 ++ BKw cA aB2 aR2 aL2 aF2 now2 told2 rf2 lf2 ff2) (W1 := ([] : va_W)) (wsN := LBw aX aB aB1 aB2 aT aP kp ++ BKw cA aB aR aL aF now told rf lf ff ++ BKw cA aB1 aR1 aL1 aF1 now1 told1 rf1 lf1 ff1 ++ BKw cA aB2 aR2 aL2 aF2 now2 told2 rf2 lf2 ff2) (rS (As := [.int x1, .int 2]) (rest := []) (W0 := ([] : va_W)) ⟨hx, hb, hml, hown, hts⟩ (c_X3_isBelow l D cA cZ s.heap.size x1 2) (cwS 2 hts gX3_restore_X3_isBelow rfl rfl rfl (by decide +kernel) ⟨Nat.le_of_ble_eq_true rfl, Nat.le_of_ble_eq_true rfl⟩) hP hD hK hN ([] : List Nat) rfl rfl rfl hl.1 rfl (Nat.le_of_ble_eq_true rfl) dX3_restore_2 ⟨Nat.zero_le _, Nat.zero_le _⟩) hP hD hS hA [] [0, 1, 2, 3, 4, 5, 6, 7, 8, 9, 10, 11, 12] [0, 1, 2, 3, 4, 5, 6, 7, 8, 9, 10, 11, 12] rfl rfl rfl (by decide) rfl rfl (fun H locs hP hD hS => ?_)
  refine lv_if_ne (tgt := 11) hx hb dX3_restore_5 (by decide) (fun c_1 => ?_) (fun c_1 => ?_)
  · refine lv_aload_n hx hb dX3_restore_11 rfl (lv_at hl 0 rfl) ?_
    refine va_get (D := D) (ci := 3) (v := .int kp) (C := RX3) (T := TX3) (N := 6) hx hb hts iX3 hown hK hP 0 rfl rfl 5 (by decide) (hts (.fieldLink RX3 35 "LightBursts" "keptImages" "I") (List.mem_of_getElem? (i := 1) rfl)) (fun _ h9 => h9) rfl dX3_restore_12 ?_
    refine lv_iconst (v := 1) hx hb dX3_restore_15 (by decide) ?_
    refine lv_iload_n hx hb dX3_restore_16 rfl (lv_at hl 1 rfl) ?_
    refine lv_ishl hx hb dX3_restore_17 ?_
    refine lv_iand hx hb dX3_restore_18 ?_
    refine lv_if_ne (tgt := 25) hx hb dX3_restore_19 (by decide) (fun c_2 => ?_) (fun c_2 => ?_)
    · refine lv_aload_n hx hb dX3_restore_25 rfl (lv_at hl 0 rfl) ?_
      refine va_get (D := D) (ci := 3) (v := .ref aB) (C := RX3) (T := TX3) (N := 6) hx hb hts iX3 hown hK hP 0 rfl rfl 1 (by decide) (hts (.fieldLink RX3 20 "LightBursts" "book" "LLightBursts$Book;") (List.mem_of_getElem? (i := 2) rfl)) (fun _ h9 => h9) rfl dX3_restore_26 ?_
      refine lv_aload_n hx hb dX3_restore_29 rfl (lv_at hl 0 rfl) ?_
      refine lv_iload_n hx hb dX3_restore_30 rfl (lv_at hl 1 rfl) ?_
      refine kR (wr := BKw cA aB aR aL aF now told rf lf ff ++ BKw cA aB1 aR1 aL1 aF1 now1 told1 rf1 lf1 ff1 ++ BKw cA aB2 aR2 aL2 aF2 now2 told2 rf2 lf2 ff2) (W1 := LBw aX aB aB1 aB2 aT aP kp) (wsN := LBw aX aB aB1 aB2 aT aP kp ++ BKw cA aB aR aL aF now told rf lf ff ++ BKw cA aB1 aR1 aL1 aF1 now1 told1 rf1 lf1 ff1 ++ BKw cA aB2 aR2 aL2 aF2 now2 told2 rf2 lf2 ff2) (rV (As := [.int x1]) (rest := [.ref aB]) (W0 := LBw aX aB aB1 aB2 aT aP kp) ⟨hx, hb, hml, hown, hts⟩ (c_X3_imageOf l D cA cZ aX aB aB1 aB2 aT aP H.size kp x1) (cwV 1 hts gX3_restore_X3_imageOf rfl rfl rfl (by decide +kernel) ⟨Nat.le_of_ble_eq_true rfl, Nat.le_of_ble_eq_true rfl⟩) hP hD hK hN ([0] : List Nat) rfl rfl 3 0 rfl rfl rfl hl.1 rfl (Nat.le_of_ble_eq_true rfl) dX3_restore_31 ⟨Nat.zero_le _, Nat.zero_le _⟩) hP hD hS hA [0] [1, 2, 3, 4, 5, 6, 7, 8, 9, 10, 11, 12] [12, 0, 1, 2, 3, 4, 5, 6, 7, 8, 9, 10, 11] rfl rfl rfl (by decide) rfl rfl (fun H locs hP hD hS => ?_)
      rcases Decidable.em (x1 = 0) with c_3 | c_3
      · rw [show (g_X3_imageOf x1 aB1 aB2) = aB1 from if_pos c_3]
        refine kV (wr := LBw aX aB aB1 aB2 aT aP kp ++ BKw cA aB2 aR2 aL2 aF2 now2 told2 rf2 lf2 ff2) (W1 := BKw cA aB aR aL aF ((g_X0_copyFrom rf lf ff now1 told1 rf1 lf1 ff1).1) ((g_X0_copyFrom rf lf ff now1 told1 rf1 lf1 ff1).2.1) ((g_X0_copyFrom rf lf ff now1 told1 rf1 lf1 ff1).2.2.1) ((g_X0_copyFrom rf lf ff now1 told1 rf1 lf1 ff1).2.2.2.1) ((g_X0_copyFrom rf lf ff now1 told1 rf1 lf1 ff1).2.2.2.2) ++ BKw cA aB1 aR1 aL1 aF1 now1 told1 rf1 lf1 ff1) (wsN := LBw aX aB aB1 aB2 aT aP kp ++ BKw cA aB aR aL aF ((g_X0_copyFrom rf lf ff now1 told1 rf1 lf1 ff1).1) ((g_X0_copyFrom rf lf ff now1 told1 rf1 lf1 ff1).2.1) ((g_X0_copyFrom rf lf ff now1 told1 rf1 lf1 ff1).2.2.1) ((g_X0_copyFrom rf lf ff now1 told1 rf1 lf1 ff1).2.2.2.1) ((g_X0_copyFrom rf lf ff now1 told1 rf1 lf1 ff1).2.2.2.2) ++ BKw cA aB1 aR1 aL1 aF1 now1 told1 rf1 lf1 ff1 ++ BKw cA aB2 aR2 aL2 aF2 now2 told2 rf2 lf2 ff2) (rVN (As := [.ref aB1]) (rest := []) (W0 := BKw cA aB aR aL aF now told rf lf ff ++ BKw cA aB1 aR1 aL1 aF1 now1 told1 rf1 lf1 ff1) ⟨hx, hb, hml, hown, hts⟩ (c_X0_copyFrom l D cA cZ aB aR aL aF aB1 aR1 aL1 aF1 H.size now told rf lf ff now1 told1 rf1 lf1 ff1) ⟨va_cnB 1 hts gX3_restore_X0_copyFrom_n167 rfl rfl rfl (hN (.methodLinkNest RX3 167 yX0_copyFrom RX3) (List.mem_of_getElem? (i := 50) rfl)) (hts (.initialized RX0) (List.mem_of_getElem? (i := 14) rfl)) (by decide +kernel) ⟨Nat.le_of_ble_eq_true rfl, Nat.le_of_ble_eq_true rfl⟩, (hts (.instanceMethod yX0_copyFrom) (List.mem_of_getElem? (i := 13) rfl)), (hts (.selects RX0 yX0_copyFrom yX0_copyFrom) (List.mem_of_getElem? (i := 15) rfl))⟩ hP hD hK hN ([1, 2, 3, 4, 5, 6, 7, 8] : List Nat) rfl rfl 0 0 rfl rfl rfl hl.1 rfl (Nat.le_of_ble_eq_true rfl) dX3_restore_34 ⟨Nat.zero_le _, Nat.zero_le _⟩) hP hD hS hA [1, 2, 3, 4, 5, 6, 7, 8] [0, 9, 10, 11, 12] [0, 5, 6, 7, 8, 9, 10, 11, 12, 1, 2, 3, 4] rfl rfl rfl (by decide) rfl rfl (fun H locs hP hD hS => ?_)
        refine lv_iconst (v := 1) hx hb dX3_restore_37 (by decide) ?_
        rw [g_X3_restore, if_neg c_1, if_neg c_2, if_pos c_3] at hG
        rw [hG]
        exact W.iret (v := 1) hx hb hr (fun t ht hW => ⟨⟨_, (), rfl, rfl, by rw [ht]; exact hP, va_K.moved hW.alike hK, hD⟩, hS.F ht⟩) hS.2.2 dX3_restore_38
      · rw [show (g_X3_imageOf x1 aB1 aB2) = aB2 from if_neg c_3]
        refine kV (wr := LBw aX aB aB1 aB2 aT aP kp ++ BKw cA aB1 aR1 aL1 aF1 now1 told1 rf1 lf1 ff1) (W1 := BKw cA aB aR aL aF ((g_X0_copyFrom rf lf ff now2 told2 rf2 lf2 ff2).1) ((g_X0_copyFrom rf lf ff now2 told2 rf2 lf2 ff2).2.1) ((g_X0_copyFrom rf lf ff now2 told2 rf2 lf2 ff2).2.2.1) ((g_X0_copyFrom rf lf ff now2 told2 rf2 lf2 ff2).2.2.2.1) ((g_X0_copyFrom rf lf ff now2 told2 rf2 lf2 ff2).2.2.2.2) ++ BKw cA aB2 aR2 aL2 aF2 now2 told2 rf2 lf2 ff2) (wsN := LBw aX aB aB1 aB2 aT aP kp ++ BKw cA aB aR aL aF ((g_X0_copyFrom rf lf ff now2 told2 rf2 lf2 ff2).1) ((g_X0_copyFrom rf lf ff now2 told2 rf2 lf2 ff2).2.1) ((g_X0_copyFrom rf lf ff now2 told2 rf2 lf2 ff2).2.2.1) ((g_X0_copyFrom rf lf ff now2 told2 rf2 lf2 ff2).2.2.2.1) ((g_X0_copyFrom rf lf ff now2 told2 rf2 lf2 ff2).2.2.2.2) ++ BKw cA aB1 aR1 aL1 aF1 now1 told1 rf1 lf1 ff1 ++ BKw cA aB2 aR2 aL2 aF2 now2 told2 rf2 lf2 ff2) (rVN (As := [.ref aB2]) (rest := []) (W0 := BKw cA aB aR aL aF now told rf lf ff ++ BKw cA aB2 aR2 aL2 aF2 now2 told2 rf2 lf2 ff2) ⟨hx, hb, hml, hown, hts⟩ (c_X0_copyFrom l D cA cZ aB aR aL aF aB2 aR2 aL2 aF2 H.size now told rf lf ff now2 told2 rf2 lf2 ff2) ⟨va_cnB 1 hts gX3_restore_X0_copyFrom_n167 rfl rfl rfl (hN (.methodLinkNest RX3 167 yX0_copyFrom RX3) (List.mem_of_getElem? (i := 50) rfl)) (hts (.initialized RX0) (List.mem_of_getElem? (i := 14) rfl)) (by decide +kernel) ⟨Nat.le_of_ble_eq_true rfl, Nat.le_of_ble_eq_true rfl⟩, (hts (.instanceMethod yX0_copyFrom) (List.mem_of_getElem? (i := 13) rfl)), (hts (.selects RX0 yX0_copyFrom yX0_copyFrom) (List.mem_of_getElem? (i := 15) rfl))⟩ hP hD hK hN ([1, 2, 3, 4, 9, 10, 11, 12] : List Nat) rfl rfl 0 0 rfl rfl rfl hl.1 rfl (Nat.le_of_ble_eq_true rfl) dX3_restore_34 ⟨Nat.zero_le _, Nat.zero_le _⟩) hP hD hS hA [1, 2, 3, 4, 9, 10, 11, 12] [0, 5, 6, 7, 8] [0, 5, 6, 7, 8, 1, 2, 3, 4, 9, 10, 11, 12] rfl rfl rfl (by decide) rfl rfl (fun H locs hP hD hS => ?_)
        refine lv_iconst (v := 1) hx hb dX3_restore_37 (by decide) ?_
        rw [g_X3_restore, if_neg c_1, if_neg c_2, if_neg c_3] at hG
        rw [hG]
        exact W.iret (v := 1) hx hb hr (fun t ht hW => ⟨⟨_, (), rfl, rfl, by rw [ht]; exact hP, va_K.moved hW.alike hK, hD⟩, hS.F ht⟩) hS.2.2 dX3_restore_38
    · refine lv_bipush (v := (-3)) hx hb dX3_restore_22 (by decide) ?_
      rw [g_X3_restore, if_neg c_1, if_pos c_2] at hG
      rw [hG]
      exact W.iret (v := (-3)) hx hb hr (fun t ht hW => ⟨⟨_, (), rfl, rfl, by rw [ht]; exact hP, va_K.moved hW.alike hK, hD⟩, hS.F ht⟩) hS.2.2 dX3_restore_24
  · refine lv_bipush (v := (-2)) hx hb dX3_restore_8 (by decide) ?_
    rw [g_X3_restore, if_pos c_1] at hG
    rw [hG]
    exact W.iret (v := (-2)) hx hb hr (fun t ht hW => ⟨⟨_, (), rfl, rfl, by rw [ht]; exact hP, va_K.moved hW.alike hK, hD⟩, hS.F ht⟩) hS.2.2 dX3_restore_10

def g_X3_rule (rf : (Nat → Int32)) (x1 : Int32) (x2 : Int32) : Int32 × (Nat → Int32) := (if (g_X3_isBelow x1 6) = 0 then ((-2), rf) else (if x2 < (rF x1.toNatClampNeg) then ((-2), rf) else (if x2 ≤ (rT x1.toNatClampNeg) then ((rf x1.toNatClampNeg), (upd rf x1.toNatClampNeg x2)) else ((-2), rf))))
set_option maxHeartbeats 4000000 in
set_option maxRecDepth 100000 in
theorem c_X3_rule (l : Launch) (D : va_G) (cA cZ : ClassId) (aX : Nat) (aB : Nat) (aB1 : Nat) (aB2 : Nat) (aT : Nat) (aP : Nat) (aR : Nat) (aL : Nat) (aF : Nat) (szz : Nat) (kp : Int32) (now : Int32) (told : Int32) (rf : (Nat → Int32)) (lf : (Nat → Int32)) (ff : (Nat → Int32)) (x1 : Int32) (x2 : Int32) : MetIS cA l yX3_rule wsX3_rule 1 21 D (tyA cA cZ) [.ref aX, .int x1, .int x2] (LBw aX aB aB1 aB2 aT aP kp ++ BKw cA aB aR aL aF now told rf lf ff) szz (g_X3_rule rf x1 x2).1 (LBw aX aB aB1 aB2 aT aP kp ++ BKw cA aB aR aL aF now told ((g_X3_rule rf x1 x2).2) lf ff) := by
  refine Met.ofW (cc := cX3_rule) (maxL := 4) (ret := (some .int)) (by decide) rfl ?_
  intro p e s m args below meth c s₁ B hml hv
  obtain ⟨rfl, hsz, hP, hK, hD0, hN, hQ, hCa⟩ := hv
  have hx := B.exec
  have hb := B.bytes
  have hr := B.returns
  have hts := atoms_spec (ws := wsX3_rule) B.pre
  have hown : s.vm.findClass RX3 = some m.cls := findClass_of_methodNamed B.named
  have hlocks := B.notSynchronized
  have iX3 : ∀ w ∈ wsX30, w ∈ wsX3_rule := fun _ h => List.mem_cons_of_mem _ (List.mem_append_left _ (List.mem_append_right _ h))
  have iX0 : ∀ w ∈ wsX00, w ∈ wsX3_rule := fun _ h => List.mem_cons_of_mem _ (List.mem_append_right _ h)
  subst hsz
  have hD := hD0.self (sz := s.heap.size)
  generalize hAe : va_A (LBw aX aB aB1 aB2 aT aP kp ++ BKw cA aB aR aL aF now told rf lf ff) s.heap.size = A at hD hQ ⊢
  have hA : ∀ q : Nat, s.heap.size ≤ q → A q := fun q h => by rw [← hAe]; exact Or.inr h
  have hS : va_S A s.heap s.heap [] := va_S.rf
  obtain ⟨⟨tF, hZF, hTF⟩, ⟨tT, hZT, hTT⟩, ⟨tA, hZA, hTA⟩⟩ := hQ
  have hP : va_P D vwCl (LBw aX aB aB1 aB2 aT aP kp ++ BKw cA aB aR aL aF now told rf lf ff) s.heap := hP
  obtain ⟨G, hG⟩ : ∃ G, G = (g_X3_rule rf x1 x2) := ⟨_, rfl⟩
  rw [← hG]
  have hl := lv_entry ([.ref aX, .int x1, .int x2]) (n := 4) (Nat.le_of_ble_eq_true rfl)
  rw [lg_entry_eq]
  generalize (lg_sl ([.ref aX, .int x1, .int x2]) ++ List.replicate (4 - (lg_sl ([.ref aX, .int x1, .int x2])).length) Slot.unset).toArray = ls at hl ⊢
  have hl : lv_has ls 4 [(0, .ref aX), (1, .int x1), (2, .int x2)] := hl
  refine lv_iload_n hx hb dX3_rule_0 rfl (lv_at hl 1 rfl) ?_
  refine lv_bipush (v := 6) hx hb dX3_rule_1 (by decide) ?_
  refine kI (wr := LBw aX aB aB1 aB2 aT aP kp ++ BKw cA aB aR aL aF now told rf lf ff) (W1 := ([] : va_W)) (wsN := LBw aX aB aB1 aB2 aT aP kp ++ BKw cA aB aR aL aF now told rf lf ff) (rS (As := [.int x1, .int 6]) (rest := []) (W0 := ([] : va_W)) ⟨hx, hb, hml, hown, hts⟩ (c_X3_isBelow l D cA cZ s.heap.size x1 6) (cwS 2 hts gX3_rule_X3_isBelow rfl rfl rfl (by decide +kernel) ⟨Nat.le_of_ble_eq_true rfl, Nat.le_of_ble_eq_true rfl⟩) hP hD hK hN ([] : List Nat) rfl rfl rfl hl.1 rfl (Nat.le_of_ble_eq_true rfl) dX3_rule_3 ⟨Nat.zero_le _, Nat.zero_le _⟩) hP hD hS hA [] [0, 1, 2, 3, 4] [0, 1, 2, 3, 4] rfl rfl rfl (by decide) rfl rfl (fun H locs hP hD hS => ?_)
  refine lv_if_eq (tgt := 27) hx hb dX3_rule_6 (by decide) (fun c_1 => ?_) (fun c_1 => ?_)
  · refine lv_bipush (v := (-2)) hx hb dX3_rule_27 (by decide) ?_
    rw [g_X3_rule, if_pos c_1] at hG
    rw [hG]
    exact W.iret (v := (-2)) hx hb hr (fun t ht hW => ⟨⟨_, (), rfl, rfl, by rw [ht]; exact hP, va_K.moved hW.alike hK, hD⟩, hS.F ht⟩) hS.2.2 dX3_rule_29
  · refine lv_iload_n hx hb dX3_rule_9 rfl (lv_at hl 2 rfl) ?_
    refine va_gets hx hb hZF hS hown (hts (.fieldLink RX3 43 "LightBursts" "RULE_FROM" "[I") (List.mem_of_getElem? (i := 1) rfl)) (fun _ h9 => h9) dX3_rule_10 ?_
    refine lv_iload_n hx hb dX3_rule_13 rfl (lv_at hl 1 rfl) ?_
    refine va_ti hx hb hTF hS (below_in c_1 rfl) (v := .int (rF x1.toNatClampNeg)) rfl dX3_rule_14 ?_
    refine lv_icmp_lt (tgt := 27) hx hb dX3_rule_15 (by decide) (fun c_2 => ?_) (fun c_2 => ?_)
    · refine lv_bipush (v := (-2)) hx hb dX3_rule_27 (by decide) ?_
      rw [g_X3_rule, if_neg c_1, if_pos c_2] at hG
      rw [hG]
      exact W.iret (v := (-2)) hx hb hr (fun t ht hW => ⟨⟨_, (), rfl, rfl, by rw [ht]; exact hP, va_K.moved hW.alike hK, hD⟩, hS.F ht⟩) hS.2.2 dX3_rule_29
    · refine lv_iload_n hx hb dX3_rule_18 rfl (lv_at hl 2 rfl) ?_
      refine va_gets hx hb hZT hS hown (hts (.fieldLink RX3 47 "LightBursts" "RULE_TO" "[I") (List.mem_of_getElem? (i := 2) rfl)) (fun _ h9 => h9) dX3_rule_19 ?_
      refine lv_iload_n hx hb dX3_rule_22 rfl (lv_at hl 1 rfl) ?_
      refine va_ti hx hb hTT hS (below_in c_1 rfl) (v := .int (rT x1.toNatClampNeg)) rfl dX3_rule_23 ?_
      refine lv_icmp_le (tgt := 30) hx hb dX3_rule_24 (by decide) (fun c_3 => ?_) (fun c_3 => ?_)
      · refine lv_aload_n hx hb dX3_rule_30 rfl (lv_at hl 0 rfl) ?_
        refine va_get (D := D) (ci := 3) (v := .ref aB) (C := RX3) (T := TX3) (N := 6) hx hb hts iX3 hown hK hP 0 rfl rfl 1 (by decide) (hts (.fieldLink RX3 20 "LightBursts" "book" "LLightBursts$Book;") (List.mem_of_getElem? (i := 3) rfl)) (fun _ h9 => h9) rfl dX3_rule_31 ?_
        refine va_getN (D := D) (ci := 0) (v := .ref aR) (C := RX0) (T := TX0) (N := 5) hx hb hts iX0 hown hK hP 1 rfl rfl 2 (by decide) (va_Nw.use rfl (hN (.fieldLinkNest RX3 50 "LightBursts$Book" "rules" "[I" RX3) (List.mem_of_getElem? (i := 6) rfl))) (fun _ h9 => h9) rfl dX3_rule_34 ?_
        refine lv_iload_n hx hb dX3_rule_37 rfl (lv_at hl 1 rfl) ?_
        refine va_iald hx hb hK hP 2 0 rfl rfl (below_in c_1 rfl) dX3_rule_38 ?_
        refine lv_istore_n (lv' := [(3, .int (rf x1.toNatClampNeg)), (0, .ref aX), (1, .int x1), (2, .int x2)]) hx hb dX3_rule_39 rfl hl (by decide) rfl (fun ls hl => ?_)
        refine lv_aload_n hx hb dX3_rule_40 rfl (lv_at hl 1 rfl) ?_
        refine va_get (D := D) (ci := 3) (v := .ref aB) (C := RX3) (T := TX3) (N := 6) hx hb hts iX3 hown hK hP 0 rfl rfl 1 (by decide) (hts (.fieldLink RX3 20 "LightBursts" "book" "LLightBursts$Book;") (List.mem_of_getElem? (i := 3) rfl)) (fun _ h9 => h9) rfl dX3_rule_41 ?_
        refine va_getN (D := D) (ci := 0) (v := .ref aR) (C := RX0) (T := TX0) (N := 5) hx hb hts iX0 hown hK hP 1 rfl rfl 2 (by decide) (va_Nw.use rfl (hN (.fieldLinkNest RX3 50 "LightBursts$Book" "rules" "[I" RX3) (List.mem_of_getElem? (i := 6) rfl))) (fun _ h9 => h9) rfl dX3_rule_44 ?_
        refine lv_iload_n hx hb dX3_rule_47 rfl (lv_at hl 2 rfl) ?_
        refine lv_iload_n hx hb dX3_rule_48 rfl (lv_at hl 3 rfl) ?_
        refine va_iast hx hb hK hP hD hS 2 0 rfl rfl (below_in c_1 rfl) dX3_rule_49 (fun H locs hP hD hS => ?_)
        have hP : va_P D vwCl (LBw aX aB aB1 aB2 aT aP kp ++ BKw cA aB aR aL aF now told (upd rf x1.toNatClampNeg x2) lf ff) H := hP
        have hD : va_D A (LBw aX aB aB1 aB2 aT aP kp ++ BKw cA aB aR aL aF now told (upd rf x1.toNatClampNeg x2) lf ff) := hD
        refine lv_iload_n hx hb dX3_rule_50 rfl (lv_at hl 0 rfl) ?_
        rw [g_X3_rule, if_neg c_1, if_neg c_2, if_pos c_3] at hG
        rw [hG]
        exact W.iret (v := (rf x1.toNatClampNeg)) hx hb hr (fun t ht hW => ⟨⟨_, (), rfl, rfl, by rw [ht]; exact hP, va_K.moved hW.alike hK, hD⟩, hS.F ht⟩) hS.2.2 dX3_rule_51
      · refine lv_bipush (v := (-2)) hx hb dX3_rule_27 (by decide) ?_
        rw [g_X3_rule, if_neg c_1, if_neg c_2, if_neg c_3] at hG
        rw [hG]
        exact W.iret (v := (-2)) hx hb hr (fun t ht hW => ⟨⟨_, (), rfl, rfl, by rw [ht]; exact hP, va_K.moved hW.alike hK, hD⟩, hS.F ht⟩) hS.2.2 dX3_rule_29
