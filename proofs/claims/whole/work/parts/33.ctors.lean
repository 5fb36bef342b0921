set_option maxHeartbeats 4000000 in
set_option maxRecDepth 100000 in
theorem c_X0_init (l : Launch) (D : va_G) (cA cZ : ClassId) (aB : Nat) (szz : Nat) : MetNS (S := Nat × Nat × Nat) cA l yX0_init wsX0_init 1 20 3 537 D (tyA cA cZ) [.ref aB] [(aB, .inr (0, [.int 0, .int 0, .null, .null, .null]))] szz (fun u => BKw cA aB u.1 u.2.1 u.2.2 0 0 rA (fun _ => 0) (fun _ => 0)) := by
  refine Met.ofW (cc := cX0_init) (maxL := 1) (ret := none) (by decide) rfl ?_
  intro p e s m args below meth c s₁ B hml hv
  obtain ⟨rfl, hsz, hP, hK, hD0, hN, hQ, hCa⟩ := hv
  have hx := B.exec
  have hb := B.bytes
  have hr := B.returns
  have hts := atoms_spec (ws := wsX0_init) B.pre
  have hown : s.vm.findClass RX0 = some m.cls := findClass_of_methodNamed B.named
  have hlocks := B.notSynchronized
  have hin : meth.name = "<init>" := (name_of_methodNamed B.named B.method).1
  have iX0 : ∀ w ∈ wsX00, w ∈ wsX0_init := fun _ h => List.mem_cons_of_mem _ (List.mem_append_right _ h)
  subst hsz
  have hD := hD0.self (sz := s.heap.size)
  generalize hAe : va_A ([(aB, .inr (0, [.int 0, .int 0, .null, .null, .null]))]) s.heap.size = A at hD hQ ⊢
  have hA : ∀ q : Nat, s.heap.size ≤ q → A q := fun q h => by rw [← hAe]; exact Or.inr h
  have hS : va_S A s.heap s.heap [] := va_S.rf
  obtain ⟨tA, hZA, hTA⟩ := hQ.2.2
  have hP : va_P D vwCl ([(aB, .inr (0, [.int 0, .int 0, .null, .null, .null]))]) s.heap := hP
  have hl := lv_entry ([.ref aB]) (n := 1) (Nat.le_of_ble_eq_true rfl)
  rw [lg_entry_eq]
  generalize (lg_sl ([.ref aB]) ++ List.replicate (1 - (lg_sl ([.ref aB])).length) Slot.unset).toArray = ls at hl ⊢
  have hl : lv_has ls 1 [(0, .ref aB)] := hl
  refine lv_aload_n hx hb dX0_init_0 rfl (lv_at hl 0 rfl) ?_
  refine W.objInit hx hb hown (hts (.methodLink RX0 3 objectInit) (List.mem_of_getElem? (i := 1) rfl)) (hts (.instanceMethod objectInit) (List.mem_of_getElem? (i := 2) rfl)) (hts (.code objectInit ⟨#[0xb1]⟩ 1 none) (List.mem_of_getElem? (i := 3) rfl)) rfl (by rw [hml]; exact hl.1) rfl dX0_init_1 (Nat.le_of_ble_eq_true rfl) (Nat.le_of_ble_eq_true rfl) ?_
  refine W.eq (g2 := F0 m 4 ls []) rfl ?_
  refine lv_aload_n hx hb dX0_init_4 rfl (lv_at hl 0 rfl) ?_
  refine lv_iconst (v := 0) hx hb dX0_init_5 (by decide) ?_
  refine va_put (D := D) (ci := 0) (v := .int 0) (ty := .int) (C := RX0) (T := TX0) (N := 5) hx hb hts iX0 tyX0 tyX0_ok nmX0 hown hK hP hD hS 0 rfl rfl 0 (by decide) (hts (.fieldLink RX0 9 "LightBursts$Book" "now" "I") (List.mem_of_getElem? (i := 4) rfl)) (fun _ h9 => h9) rfl (tyX0_ok 0 (by decide)) rfl rfl (Nat.le_of_ble_eq_true rfl) dX0_init_6 (fun H locs hP hD hS => ?_)
  have hP : va_P D vwCl ([(aB, .inr (0, [.int 0, .int 0, .null, .null, .null]))]) H := hP
  have hD : va_D A ([(aB, .inr (0, [.int 0, .int 0, .null, .null, .null]))]) := hD
  refine lv_aload_n hx hb dX0_init_9 rfl (lv_at hl 0 rfl) ?_
  refine lv_iconst (v := 0) hx hb dX0_init_10 (by decide) ?_
  refine va_put (D := D) (ci := 0) (v := .int 0) (ty := .int) (C := RX0) (T := TX0) (N := 5) hx hb hts iX0 tyX0 tyX0_ok nmX0 hown hK hP hD hS 0 rfl rfl 1 (by decide) (hts (.fieldLink RX0 15 "LightBursts$Book" "told" "I") (List.mem_of_getElem? (i := 5) rfl)) (fun _ h9 => h9) rfl (tyX0_ok 1 (by decide)) rfl rfl (Nat.le_of_ble_eq_true rfl) dX0_init_11 (fun H locs hP hD hS => ?_)
  have hP : va_P D vwCl ([(aB, .inr (0, [.int 0, .int 0, .null, .null, .null]))]) H := hP
  have hD : va_D A ([(aB, .inr (0, [.int 0, .int 0, .null, .null, .null]))]) := hD
  refine lv_aload_n hx hb dX0_init_14 rfl (lv_at hl 0 rfl) ?_
  refine va_getsN hx hb hZA hS hown (va_Nw.use rfl (hN (.fieldLinkNest RX0 18 "LightBursts" "RULE_AT_FIRST" "[I" RX3) (List.mem_of_getElem? (i := 2) rfl))) (fun _ h9 => h9) dX0_init_15 ?_
  refine cl_stat (H0 := H) hx hb (hml.trans hl.1.symm) hown (hts (.methodLink RX0 22 ⟨"[I", "clone", "()Ljava/lang/Object;"⟩) (List.mem_of_getElem? (i := 6) rfl)) (hts (.sameMethod "[I" "java/lang/Object" "clone" "()Ljava/lang/Object;") (List.mem_of_getElem? (i := 7) rfl)) (hts (.native ⟨"java/lang/Object", "clone", "()Ljava/lang/Object;"⟩) (List.mem_of_getElem? (i := 8) rfl)) (hts (.instanceMethod ⟨"java/lang/Object", "clone", "()Ljava/lang/Object;"⟩) (List.mem_of_getElem? (i := 9) rfl)) (hts (.selects "[I" ⟨"[I", "clone", "()Ljava/lang/Object;"⟩ ⟨"java/lang/Object", "clone", "()Ljava/lang/Object;"⟩) (List.mem_of_getElem? (i := 10) rfl)) hCa hK hP hD hS hA hTA 0 rfl (Nat.le_of_ble_eq_true rfl) (Nat.le_of_ble_eq_true rfl) (Nat.le_of_ble_eq_true rfl) (Nat.le_of_ble_eq_true rfl) dX0_init_18 (fun q18 H hP hD hS => ?_)
  have hP : va_P D vwCl ([(aB, .inr (0, [.int 0, .int 0, .null, .null, .null])), (q18, .inl (cA, 6, .inl rA))]) H := hP
  have hD : va_D A ([(aB, .inr (0, [.int 0, .int 0, .null, .null, .null])), (q18, .inl (cA, 6, .inl rA))]) := hD
  refine W.widen (k := 1) (n := 6) (Nat.le_of_ble_eq_true rfl) (Nat.le_of_ble_eq_true rfl) ?_
  refine va_castA hx hb hown (hts (.classLink RX0 23 "[I") (List.mem_of_getElem? (i := 11) rfl)) hP 1 rfl (va_nm_int (hK.2 0 _ rfl).2) dX0_init_21 ?_
  refine va_putF (D := D) (ci := 0) (v := .ref q18) (ty := .array .int) (C := RX0) (T := TX0) (N := 5) hx hb hts iX0 tyX0 tyX0_ok nmX0 hown hK hP hD hS 0 rfl rfl 2 (by decide) (hts (.fieldLink RX0 27 "LightBursts$Book" "rules" "[I") (List.mem_of_getElem? (i := 12) rfl)) (fun _ h9 => h9) rfl hin rfl (tyX0_ok 2 (by decide)) rfl rfl (Nat.le_of_ble_eq_true rfl) dX0_init_24 (fun H locs hP hD hS => ?_)
  have hP : va_P D vwCl ([(aB, .inr (0, [.int 0, .int 0, .ref q18, .null, .null])), (q18, .inl (cA, 6, .inl rA))]) H := hP
  have hD : va_D A ([(aB, .inr (0, [.int 0, .int 0, .ref q18, .null, .null])), (q18, .inl (cA, 6, .inl rA))]) := hD
  refine lv_aload_n hx hb dX0_init_27 rfl (lv_at hl 0 rfl) ?_
  refine lv_iconst (v := 3) hx hb dX0_init_28 (by decide) ?_
  refine va_newa (atype := .int) (ty := .int) (a0 := (3, .inl (fun _ => 0))) (N' := 3) hx hb (hts (.arrayClass .int) (List.mem_of_getElem? (i := 13) rfl)) rfl hK hP hD hS hA (fun _ => na_i _ _) (by decide) (by decide) (Nat.le_of_ble_eq_true rfl) (Nat.le_of_ble_eq_true rfl) (Nat.le_of_ble_eq_true rfl) dX0_init_29 (fun q29 cX H hK9 hP hD hS => ?_)
  obtain rfl : cA = cX := nm_uniq (hK.2 0 _ rfl).2 (hK9.2 2 _ rfl).2
  clear hK9
  have hP : va_P D vwCl ([(aB, .inr (0, [.int 0, .int 0, .ref q18, .null, .null])), (q18, .inl (cA, 6, .inl rA)), (q29, .inl (cA, 3, .inl (fun _ => 0)))]) H := hP
  have hD : va_D A ([(aB, .inr (0, [.int 0, .int 0, .ref q18, .null, .null])), (q18, .inl (cA, 6, .inl rA)), (q29, .inl (cA, 3, .inl (fun _ => 0)))]) := hD
  refine W.widen (k := 2) (n := 9) (Nat.le_of_ble_eq_true rfl) (Nat.le_of_ble_eq_true rfl) ?_
  refine va_putF (D := D) (ci := 0) (v := .ref q29) (ty := .array .int) (C := RX0) (T := TX0) (N := 5) hx hb hts iX0 tyX0 tyX0_ok nmX0 hown hK hP hD hS 0 rfl rfl 3 (by decide) (hts (.fieldLink RX0 30 "LightBursts$Book" "lengths" "[I") (List.mem_of_getElem? (i := 14) rfl)) (fun _ h9 => h9) rfl hin rfl (tyX0_ok 3 (by decide)) rfl rfl (Nat.le_of_ble_eq_true rfl) dX0_init_31 (fun H locs hP hD hS => ?_)
  have hP : va_P D vwCl ([(aB, .inr (0, [.int 0, .int 0, .ref q18, .ref q29, .null])), (q18, .inl (cA, 6, .inl rA)), (q29, .inl (cA, 3, .inl (fun _ => 0)))]) H := hP
  have hD : va_D A ([(aB, .inr (0, [.int 0, .int 0, .ref q18, .ref q29, .null])), (q18, .inl (cA, 6, .inl rA)), (q29, .inl (cA, 3, .inl (fun _ => 0)))]) := hD
  refine lv_aload_n hx hb dX0_init_34 rfl (lv_at hl 0 rfl) ?_
  refine lv_sipush (v := 528) hx hb dX0_init_35 (by decide) ?_
  refine va_newa (atype := .int) (ty := .int) (a0 := (528, .inl (fun _ => 0))) (N' := 528) hx hb (hts (.arrayClass .int) (List.mem_of_getElem? (i := 13) rfl)) rfl hK hP hD hS hA (fun _ => na_i _ _) (by decide) (by decide) (Nat.le_of_ble_eq_true rfl) (Nat.le_of_ble_eq_true rfl) (Nat.le_of_ble_eq_true rfl) dX0_init_38 (fun q38 cX H hK9 hP hD hS => ?_)
  obtain rfl : cA = cX := nm_uniq (hK.2 0 _ rfl).2 (hK9.2 2 _ rfl).2
  clear hK9
  have hP : va_P D vwCl ([(aB, .inr (0, [.int 0, .int 0, .ref q18, .ref q29, .null])), (q18, .inl (cA, 6, .inl rA)), (q29, .inl (cA, 3, .inl (fun _ => 0))), (q38, .inl (cA, 528, .inl (fun _ => 0)))]) H := hP
  have hD : va_D A ([(aB, .inr (0, [.int 0, .int 0, .ref q18, .ref q29, .null])), (q18, .inl (cA, 6, .inl rA)), (q29, .inl (cA, 3, .inl (fun _ => 0))), (q38, .inl (cA, 528, .inl (fun _ => 0)))]) := hD
  refine W.widen (k := 3) (n := 537) (Nat.le_of_ble_eq_true rfl) (Nat.le_of_ble_eq_true rfl) ?_
  refine va_putF (D := D) (ci := 0) (v := .ref q38) (ty := .array .int) (C := RX0) (T := TX0) (N := 5) hx hb hts iX0 tyX0 tyX0_ok nmX0 hown hK hP hD hS 0 rfl rfl 4 (by decide) (hts (.fieldLink RX0 33 "LightBursts$Book" "facts" "[I") (List.mem_of_getElem? (i := 15) rfl)) (fun _ h9 => h9) rfl hin rfl (tyX0_ok 4 (by decide)) rfl rfl (Nat.le_of_ble_eq_true rfl) dX0_init_40 (fun H locs hP hD hS => ?_)
  have hP : va_P D vwCl ([(aB, .inr (0, [.int 0, .int 0, .ref q18, .ref q29, .ref q38])), (q18, .inl (cA, 6, .inl rA)), (q29, .inl (cA, 3, .inl (fun _ => 0))), (q38, .inl (cA, 528, .inl (fun _ => 0)))]) H := hP
  have hD : va_D A ([(aB, .inr (0, [.int 0, .int 0, .ref q18, .ref q29, .ref q38])), (q18, .inl (cA, 6, .inl rA)), (q29, .inl (cA, 3, .inl (fun _ => 0))), (q38, .inl (cA, 528, .inl (fun _ => 0)))]) := hD
  have hP := hP.sub (ws' := BKw cA aB q18 q29 q38 0 0 rA (fun _ => 0) (fun _ => 0)) [0, 1, 2, 3] rfl
  have hD := hD.sub (ws' := BKw cA aB q18 q29 q38 0 0 rA (fun _ => 0) (fun _ => 0)) [0, 1, 2, 3] (by decide) rfl
  exact W.vret hx hb hr (fun t ht hW => ⟨⟨(q18, q29, q38), rfl, trivial, by rw [ht]; exact hP, va_K.moved hW.alike hK, hD⟩, hS.F ht⟩) hS.2.2 dX0_init_43

set_option maxHeartbeats 4000000 in
set_option maxRecDepth 100000 in
theorem c_X1_init (l : Launch) (D : va_G) (cA cZ : ClassId) (aP : Nat) (szz : Nat) : MetNS (S := Nat × Nat × Nat × Nat × Nat × Nat × Nat × Nat) cA l yX1_init wsX1_init 2 40 8 690 D (tyA cA cZ) [.ref aP] [(aP, .inr (1, [.null, .null, .int 0, .int 0, .int 0, .int 0, .int 0, .int 0, .int 0, .int 0, .int 0]))] szz (fun u => PLw aP u.1 u.2.2.2.2.1 0 0 0 0 3 (-6) (-6) 0 (-6) ++ BKw cA u.1 u.2.1 u.2.2.1 u.2.2.2.1 0 0 rA (fun _ => 0) (fun _ => 0) ++ TRw cA u.2.2.2.2.1 u.2.2.2.2.2.1 u.2.2.2.2.2.2.1 u.2.2.2.2.2.2.2 0 (fun _ => 0) (fun _ => 0) (fun _ => 0)) := by
  refine Met.ofW (cc := cX1_init) (maxL := 1) (ret := none) (by decide) rfl ?_
  intro p e s m args below meth c s₁ B hml hv
  obtain ⟨rfl, hsz, hP, hK, hD0, hN, hQ, hCa⟩ := hv
  have hx := B.exec
  have hb := B.bytes
  have hr := B.returns
  have hts := atoms_spec (ws := wsX1_init) B.pre
  have hown : s.vm.findClass RX1 = some m.cls := findClass_of_methodNamed B.named
  have hlocks := B.notSynchronized
  have hin : meth.name = "<init>" := (name_of_methodNamed B.named B.method).1
  have iX0 : ∀ w ∈ wsX00, w ∈ wsX1_init := fun _ h => List.mem_cons_of_mem _ (List.mem_append_left _ (List.mem_append_left _ (List.mem_append_right _ h)))
  have iX1 : ∀ w ∈ wsX10, w ∈ wsX1_init := fun _ h => List.mem_cons_of_mem _ (List.mem_append_left _ (List.mem_append_right _ h))
  have iX2 : ∀ w ∈ wsX20, w ∈ wsX1_init := fun _ h => List.mem_cons_of_mem _ (List.mem_append_right _ h)
  subst hsz
  have hD := hD0.self (sz := s.heap.size)
  generalize hAe : va_A ([(aP, .inr (1, [.null, .null, .int 0, .int 0, .int 0, .int 0, .int 0, .int 0, .int 0, .int 0, .int 0]))]) s.heap.size = A at hD hQ ⊢
  have hA : ∀ q : Nat, s.heap.size ≤ q → A q := fun q h => by rw [← hAe]; exact Or.inr h
  have hS : va_S A s.heap s.heap [] := va_S.rf
  obtain ⟨tA, hZA, hTA⟩ := hQ.2.2
  have hP : va_P D vwCl ([(aP, .inr (1, [.null, .null, .int 0, .int 0, .int 0, .int 0, .int 0, .int 0, .int 0, .int 0, .int 0]))]) s.heap := hP
  have hl := lv_entry ([.ref aP]) (n := 1) (Nat.le_of_ble_eq_true rfl)
  rw [lg_entry_eq]
  generalize (lg_sl ([.ref aP]) ++ List.replicate (1 - (lg_sl ([.ref aP])).length) Slot.unset).toArray = ls at hl ⊢
  have hl : lv_has ls 1 [(0, .ref aP)] := hl
  refine lv_aload_n hx hb dX1_init_0 rfl (lv_at hl 0 rfl) ?_
  refine W.objInit hx hb hown (hts (.methodLink RX1 3 objectInit) (List.mem_of_getElem? (i := 1) rfl)) (hts (.instanceMethod objectInit) (List.mem_of_getElem? (i := 2) rfl)) (hts (.code objectInit ⟨#[0xb1]⟩ 1 none) (List.mem_of_getElem? (i := 3) rfl)) rfl (by rw [hml]; exact hl.1) rfl dX1_init_1 (Nat.le_of_ble_eq_true rfl) (Nat.le_of_ble_eq_true rfl) ?_
  refine W.eq (g2 := F0 m 4 ls []) rfl ?_
  refine lv_aload_n hx hb dX1_init_4 rfl (lv_at hl 0 rfl) ?_
  refine va_new (ci := 0) (fs := [.int 0, .int 0, .null, .null, .null]) (C := RX0) (T := TX0) (N := 5) hx hb hts iX0 tyX0 tyX0_ok hown (hts (.classLink RX1 9 RX0) (List.mem_of_getElem? (i := 4) rfl)) (hts (.instantiable RX0 5) (List.mem_of_getElem? (i := 5) rfl)) (hts (.initialized RX0) (List.mem_of_getElem? (i := 6) rfl)) hK hP hD hS hA rfl (fun j hj => by rcases (show j = 0 ∨ j = 1 ∨ j = 2 ∨ j = 3 ∨ j = 4 by omega) with rfl | rfl | rfl | rfl | rfl <;> rfl) (Nat.le_of_ble_eq_true rfl) (Nat.le_of_ble_eq_true rfl) dX1_init_5 (fun q5 H hP hD hS => ?_)
  have hP : va_P D vwCl ([(aP, .inr (1, [.null, .null, .int 0, .int 0, .int 0, .int 0, .int 0, .int 0, .int 0, .int 0, .int 0])), (q5, .inr (0, [.int 0, .int 0, .null, .null, .null]))]) H := hP
  have hD : va_D A ([(aP, .inr (1, [.null, .null, .int 0, .int 0, .int 0, .int 0, .int 0, .int 0, .int 0, .int 0, .int 0])), (q5, .inr (0, [.int 0, .int 0, .null, .null, .null]))]) := hD
  refine W.widen (k := 1) (n := 5) (Nat.le_of_ble_eq_true rfl) (Nat.le_of_ble_eq_true rfl) ?_
  refine lv_dup hx hb dX1_init_8 rfl ?_
  refine kN (wr := [(aP, .inr (1, [.null, .null, .int 0, .int 0, .int 0, .int 0, .int 0, .int 0, .int 0, .int 0, .int 0]))]) (rINS (As := []) (rest := [.ref q5, .ref aP]) (W0 := [(q5, .inr (0, [.int 0, .int 0, .null, .null, .null]))]) ⟨hx, hb, hml, hown, hts⟩ (c_X0_init l D cA cZ q5 H.size) ⟨va_cnB 0 hts gX1_init_X0_init_n11 rfl rfl rfl (hN (.methodLinkNest RX1 11 yX0_init RX3) (List.mem_of_getElem? (i := 1) rfl)) (hts (.initialized RX0) (List.mem_of_getElem? (i := 6) rfl)) (by decide +kernel) ⟨Nat.le_of_ble_eq_true rfl, Nat.le_of_ble_eq_true rfl⟩, rfl, (hts (.instanceMethod yX0_init) (List.mem_of_getElem? (i := 21) rfl))⟩ hP hD hK hN hS hA hQ hCa ([1] : List Nat) rfl rfl rfl hl.1 rfl (Nat.le_of_ble_eq_true rfl) dX1_init_9 ⟨Nat.le_of_ble_eq_true rfl, Nat.le_of_ble_eq_true rfl⟩) hP hD hS hA [1] [0] rfl rfl rfl (by decide) (fun u H locs hP hD hS => ?_)
  obtain ⟨r_9, le_9, fa_9⟩ := u
  have hP : va_P D vwCl ([(aP, .inr (1, [.null, .null, .int 0, .int 0, .int 0, .int 0, .int 0, .int 0, .int 0, .int 0, .int 0])), (q5, .inr (0, [.int 0, .int 0, .ref r_9, .ref le_9, .ref fa_9])), (r_9, .inl (cA, 6, .inl rA)), (le_9, .inl (cA, 3, .inl (fun _ => 0))), (fa_9, .inl (cA, 528, .inl (fun _ => 0)))]) H := hP
  have hD : va_D A ([(aP, .inr (1, [.null, .null, .int 0, .int 0, .int 0, .int 0, .int 0, .int 0, .int 0, .int 0, .int 0])), (q5, .inr (0, [.int 0, .int 0, .ref r_9, .ref le_9, .ref fa_9])), (r_9, .inl (cA, 6, .inl rA)), (le_9, .inl (cA, 3, .inl (fun _ => 0))), (fa_9, .inl (cA, 528, .inl (fun _ => 0)))]) := hD
  refine W.widen (k := 4) (n := 542) (Nat.le_of_ble_eq_true rfl) (Nat.le_of_ble_eq_true rfl) ?_
  refine va_putF (D := D) (ci := 1) (v := .ref q5) (ty := .object "LightBursts$Book") (C := RX1) (T := TX1) (N := 11) hx hb hts iX1 tyX1 tyX1_ok nmX1 hown hK hP hD hS 0 rfl rfl 0 (by decide) (hts (.fieldLink RX1 12 "LightBursts$Placer" "book" "LLightBursts$Book;") (List.mem_of_getElem? (i := 7) rfl)) (fun _ h9 => h9) rfl hin rfl (tyX1_ok 0 (by decide)) rfl rfl (Nat.le_of_ble_eq_true rfl) dX1_init_12 (fun H locs hP hD hS => ?_)
  have hP : va_P D vwCl ([(aP, .inr (1, [.ref q5, .null, .int 0, .int 0, .int 0, .int 0, .int 0, .int 0, .int 0, .int 0, .int 0])), (q5, .inr (0, [.int 0, .int 0, .ref r_9, .ref le_9, .ref fa_9])), (r_9, .inl (cA, 6, .inl rA)), (le_9, .inl (cA, 3, .inl (fun _ => 0))), (fa_9, .inl (cA, 528, .inl (fun _ => 0)))]) H := hP
  have hD : va_D A ([(aP, .inr (1, [.ref q5, .null, .int 0, .int 0, .int 0, .int 0, .int 0, .int 0, .int 0, .int 0, .int 0])), (q5, .inr (0, [.int 0, .int 0, .ref r_9, .ref le_9, .ref fa_9])), (r_9, .inl (cA, 6, .inl rA)), (le_9, .inl (cA, 3, .inl (fun _ => 0))), (fa_9, .inl (cA, 528, .inl (fun _ => 0)))]) := hD
  refine lv_aload_n hx hb dX1_init_15 rfl (lv_at hl 0 rfl) ?_
  refine va_new (ci := 2) (fs := [.int 0, .null, .null, .null]) (C := RX2) (T := TX2) (N := 4) hx hb hts iX2 tyX2 tyX2_ok hown (hts (.classLink RX1 18 RX2) (List.mem_of_getElem? (i := 8) rfl)) (hts (.instantiable RX2 4) (List.mem_of_getElem? (i := 9) rfl)) (hts (.initialized RX2) (List.mem_of_getElem? (i := 10) rfl)) hK hP hD hS hA rfl (fun j hj => by rcases (show j = 0 ∨ j = 1 ∨ j = 2 ∨ j = 3 by omega) with rfl | rfl | rfl | rfl <;> rfl) (Nat.le_of_ble_eq_true rfl) (Nat.le_of_ble_eq_true rfl) dX1_init_16 (fun q16 H hP hD hS => ?_)
  have hP : va_P D vwCl ([(aP, .inr (1, [.ref q5, .null, .int 0, .int 0, .int 0, .int 0, .int 0, .int 0, .int 0, .int 0, .int 0])), (q5, .inr (0, [.int 0, .int 0, .ref r_9, .ref le_9, .ref fa_9])), (r_9, .inl (cA, 6, .inl rA)), (le_9, .inl (cA, 3, .inl (fun _ => 0))), (fa_9, .inl (cA, 528, .inl (fun _ => 0))), (q16, .inr (2, [.int 0, .null, .null, .null]))]) H := hP
  have hD : va_D A ([(aP, .inr (1, [.ref q5, .null, .int 0, .int 0, .int 0, .int 0, .int 0, .int 0, .int 0, .int 0, .int 0])), (q5, .inr (0, [.int 0, .int 0, .ref r_9, .ref le_9, .ref fa_9])), (r_9, .inl (cA, 6, .inl rA)), (le_9, .inl (cA, 3, .inl (fun _ => 0))), (fa_9, .inl (cA, 528, .inl (fun _ => 0))), (q16, .inr (2, [.int 0, .null, .null, .null]))]) := hD
  refine W.widen (k := 5) (n := 546) (Nat.le_of_ble_eq_true rfl) (Nat.le_of_ble_eq_true rfl) ?_
  refine lv_dup hx hb dX1_init_19 rfl ?_
  refine kN (wr := [(aP, .inr (1, [.ref q5, .null, .int 0, .int 0, .int 0, .int 0, .int 0, .int 0, .int 0, .int 0, .int 0])), (q5, .inr (0, [.int 0, .int 0, .ref r_9, .ref le_9, .ref fa_9])), (r_9, .inl (cA, 6, .inl rA)), (le_9, .inl (cA, 3, .inl (fun _ => 0))), (fa_9, .inl (cA, 528, .inl (fun _ => 0)))]) (rIN (As := []) (rest := [.ref q16, .ref aP]) (W0 := [(q16, .inr (2, [.int 0, .null, .null, .null]))]) ⟨hx, hb, hml, hown, hts⟩ (c_X2_init l D cA cZ q16 H.size) ⟨va_cnB 0 hts gX1_init_X2_init_n20 rfl rfl rfl (hN (.methodLinkNest RX1 20 yX2_init RX3) (List.mem_of_getElem? (i := 8) rfl)) (hts (.initialized RX2) (List.mem_of_getElem? (i := 10) rfl)) (by decide +kernel) ⟨Nat.le_of_ble_eq_true rfl, Nat.le_of_ble_eq_true rfl⟩, rfl, (hts (.instanceMethod yX2_init) (List.mem_of_getElem? (i := 36) rfl))⟩ hP hD hK hN ([5] : List Nat) rfl rfl rfl hl.1 rfl (Nat.le_of_ble_eq_true rfl) dX1_init_20 ⟨Nat.le_of_ble_eq_true rfl, Nat.le_of_ble_eq_true rfl⟩) hP hD hS hA [5] [0, 1, 2, 3, 4] rfl rfl rfl (by decide) (fun u H locs hP hD hS => ?_)
  obtain ⟨bu_20, be_20, en_20⟩ := u
  have hP : va_P D vwCl ([(aP, .inr (1, [.ref q5, .null, .int 0, .int 0, .int 0, .int 0, .int 0, .int 0, .int 0, .int 0, .int 0])), (q5, .inr (0, [.int 0, .int 0, .ref r_9, .ref le_9, .ref fa_9])), (r_9, .inl (cA, 6, .inl rA)), (le_9, .inl (cA, 3, .inl (fun _ => 0))), (fa_9, .inl (cA, 528, .inl (fun _ => 0))), (q16, .inr (2, [.int 0, .ref bu_20, .ref be_20, .ref en_20])), (bu_20, .inl (cA, 48, .inl (fun _ => 0))), (be_20, .inl (cA, 48, .inl (fun _ => 0))), (en_20, .inl (cA, 48, .inl (fun _ => 0)))]) H := hP
  have hD : va_D A ([(aP, .inr (1, [.ref q5, .null, .int 0, .int 0, .int 0, .int 0, .int 0, .int 0, .int 0, .int 0, .int 0])), (q5, .inr (0, [.int 0, .int 0, .ref r_9, .ref le_9, .ref fa_9])), (r_9, .inl (cA, 6, .inl rA)), (le_9, .inl (cA, 3, .inl (fun _ => 0))), (fa_9, .inl (cA, 528, .inl (fun _ => 0))), (q16, .inr (2, [.int 0, .ref bu_20, .ref be_20, .ref en_20])), (bu_20, .inl (cA, 48, .inl (fun _ => 0))), (be_20, .inl (cA, 48, .inl (fun _ => 0))), (en_20, .inl (cA, 48, .inl (fun _ => 0)))]) := hD
  refine W.widen (k := 8) (n := 690) (Nat.le_of_ble_eq_true rfl) (Nat.le_of_ble_eq_true rfl) ?_
  refine va_putF (D := D) (ci := 1) (v := .ref q16) (ty := .object "LightBursts$Track") (C := RX1) (T := TX1) (N := 11) hx hb hts iX1 tyX1 tyX1_ok nmX1 hown hK hP hD hS 0 rfl rfl 1 (by decide) (hts (.fieldLink RX1 21 "LightBursts$Placer" "track" "LLightBursts$Track;") (List.mem_of_getElem? (i := 11) rfl)) (fun _ h9 => h9) rfl hin rfl (tyX1_ok 1 (by decide)) rfl rfl (Nat.le_of_ble_eq_true rfl) dX1_init_23 (fun H locs hP hD hS => ?_)
  have hP : va_P D vwCl ([(aP, .inr (1, [.ref q5, .ref q16, .int 0, .int 0, .int 0, .int 0, .int 0, .int 0, .int 0, .int 0, .int 0])), (q5, .inr (0, [.int 0, .int 0, .ref r_9, .ref le_9, .ref fa_9])), (r_9, .inl (cA, 6, .inl rA)), (le_9, .inl (cA, 3, .inl (fun _ => 0))), (fa_9, .inl (cA, 528, .inl (fun _ => 0))), (q16, .inr (2, [.int 0, .ref bu_20, .ref be_20, .ref en_20])), (bu_20, .inl (cA, 48, .inl (fun _ => 0))), (be_20, .inl (cA, 48, .inl (fun _ => 0))), (en_20, .inl (cA, 48, .inl (fun _ => 0)))]) H := hP
  have hD : va_D A ([(aP, .inr (1, [.ref q5, .ref q16, .int 0, .int 0, .int 0, .int 0, .int 0, .int 0, .int 0, .int 0, .int 0])), (q5, .inr (0, [.int 0, .int 0, .ref r_9, .ref le_9, .ref fa_9])), (r_9, .inl (cA, 6, .inl rA)), (le_9, .inl (cA, 3, .inl (fun _ => 0))), (fa_9, .inl (cA, 528, .inl (fun _ => 0))), (q16, .inr (2, [.int 0, .ref bu_20, .ref be_20, .ref en_20])), (bu_20, .inl (cA, 48, .inl (fun _ => 0))), (be_20, .inl (cA, 48, .inl (fun _ => 0))), (en_20, .inl (cA, 48, .inl (fun _ => 0)))]) := hD
  refine lv_aload_n hx hb dX1_init_26 rfl (lv_at hl 0 rfl) ?_
  refine lv_iconst (v := 0) hx hb dX1_init_27 (by decide) ?_
  refine va_put (D := D) (ci := 1) (v := .int 0) (ty := .int) (C := RX1) (T := TX1) (N := 11) hx hb hts iX1 tyX1 tyX1_ok nmX1 hown hK hP hD hS 0 rfl rfl 2 (by decide) (hts (.fieldLink RX1 25 "LightBursts$Placer" "out" "I") (List.mem_of_getElem? (i := 12) rfl)) (fun _ h9 => h9) rfl (tyX1_ok 2 (by decide)) rfl rfl (Nat.le_of_ble_eq_true rfl) dX1_init_28 (fun H locs hP hD hS => ?_)
  have hP : va_P D vwCl ([(aP, .inr (1, [.ref q5, .ref q16, .int 0, .int 0, .int 0, .int 0, .int 0, .int 0, .int 0, .int 0, .int 0])), (q5, .inr (0, [.int 0, .int 0, .ref r_9, .ref le_9, .ref fa_9])), (r_9, .inl (cA, 6, .inl rA)), (le_9, .inl (cA, 3, .inl (fun _ => 0))), (fa_9, .inl (cA, 528, .inl (fun _ => 0))), (q16, .inr (2, [.int 0, .ref bu_20, .ref be_20, .ref en_20])), (bu_20, .inl (cA, 48, .inl (fun _ => 0))), (be_20, .inl (cA, 48, .inl (fun _ => 0))), (en_20, .inl (cA, 48, .inl (fun _ => 0)))]) H := hP
  have hD : va_D A ([(aP, .inr (1, [.ref q5, .ref q16, .int 0, .int 0, .int 0, .int 0, .int 0, .int 0, .int 0, .int 0, .int 0])), (q5, .inr (0, [.int 0, .int 0, .ref r_9, .ref le_9, .ref fa_9])), (r_9, .inl (cA, 6, .inl rA)), (le_9, .inl (cA, 3, .inl (fun _ => 0))), (fa_9, .inl (cA, 528, .inl (fun _ => 0))), (q16, .inr (2, [.int 0, .ref bu_20, .ref be_20, .ref en_20])), (bu_20, .inl (cA, 48, .inl (fun _ => 0))), (be_20, .inl (cA, 48, .inl (fun _ => 0))), (en_20, .inl (cA, 48, .inl (fun _ => 0)))]) := hD
  refine lv_aload_n hx hb dX1_init_31 rfl (lv_at hl 0 rfl) ?_
  refine lv_iconst (v := 0) hx hb dX1_init_32 (by decide) ?_
  refine va_put (D := D) (ci := 1) (v := .int 0) (ty := .int) (C := RX1) (T := TX1) (N := 11) hx hb hts iX1 tyX1 tyX1_ok nmX1 hown hK hP hD hS 0 rfl rfl 3 (by decide) (hts (.fieldLink RX1 29 "LightBursts$Placer" "colour" "I") (List.mem_of_getElem? (i := 13) rfl)) (fun _ h9 => h9) rfl (tyX1_ok 3 (by decide)) rfl rfl (Nat.le_of_ble_eq_true rfl) dX1_init_33 (fun H locs hP hD hS => ?_)
  have hP : va_P D vwCl ([(aP, .inr (1, [.ref q5, .ref q16, .int 0, .int 0, .int 0, .int 0, .int 0, .int 0, .int 0, .int 0, .int 0])), (q5, .inr (0, [.int 0, .int 0, .ref r_9, .ref le_9, .ref fa_9])), (r_9, .inl (cA, 6, .inl rA)), (le_9, .inl (cA, 3, .inl (fun _ => 0))), (fa_9, .inl (cA, 528, .inl (fun _ => 0))), (q16, .inr (2, [.int 0, .ref bu_20, .ref be_20, .ref en_20])), (bu_20, .inl (cA, 48, .inl (fun _ => 0))), (be_20, .inl (cA, 48, .inl (fun _ => 0))), (en_20, .inl (cA, 48, .inl (fun _ => 0)))]) H := hP
  have hD : va_D A ([(aP, .inr (1, [.ref q5, .ref q16, .int 0, .int 0, .int 0, .int 0, .int 0, .int 0, .int 0, .int 0, .int 0])), (q5, .inr (0, [.int 0, .int 0, .ref r_9, .ref le_9, .ref fa_9])), (r_9, .inl (cA, 6, .inl rA)), (le_9, .inl (cA, 3, .inl (fun _ => 0))), (fa_9, .inl (cA, 528, .inl (fun _ => 0))), (q16, .inr (2, [.int 0, .ref bu_20, .ref be_20, .ref en_20])), (bu_20, .inl (cA, 48, .inl (fun _ => 0))), (be_20, .inl (cA, 48, .inl (fun _ => 0))), (en_20, .inl (cA, 48, .inl (fun _ => 0)))]) := hD
  refine lv_aload_n hx hb dX1_init_36 rfl (lv_at hl 0 rfl) ?_
  refine lv_iconst (v := 0) hx hb dX1_init_37 (by decide) ?_
  refine va_put (D := D) (ci := 1) (v := .int 0) (ty := .int) (C := RX1) (T := TX1) (N := 11) hx hb hts iX1 tyX1 tyX1_ok nmX1 hown hK hP hD hS 0 rfl rfl 4 (by decide) (hts (.fieldLink RX1 32 "LightBursts$Placer" "comes" "I") (List.mem_of_getElem? (i := 14) rfl)) (fun _ h9 => h9) rfl (tyX1_ok 4 (by decide)) rfl rfl (Nat.le_of_ble_eq_true rfl) dX1_init_38 (fun H locs hP hD hS => ?_)
  have hP : va_P D vwCl ([(aP, .inr (1, [.ref q5, .ref q16, .int 0, .int 0, .int 0, .int 0, .int 0, .int 0, .int 0, .int 0, .int 0])), (q5, .inr (0, [.int 0, .int 0, .ref r_9, .ref le_9, .ref fa_9])), (r_9, .inl (cA, 6, .inl rA)), (le_9, .inl (cA, 3, .inl (fun _ => 0))), (fa_9, .inl (cA, 528, .inl (fun _ => 0))), (q16, .inr (2, [.int 0, .ref bu_20, .ref be_20, .ref en_20])), (bu_20, .inl (cA, 48, .inl (fun _ => 0))), (be_20, .inl (cA, 48, .inl (fun _ => 0))), (en_20, .inl (cA, 48, .inl (fun _ => 0)))]) H := hP
  have hD : va_D A ([(aP, .inr (1, [.ref q5, .ref q16, .int 0, .int 0, .int 0, .int 0, .int 0, .int 0, .int 0, .int 0, .int 0])), (q5, .inr (0, [.int 0, .int 0, .ref r_9, .ref le_9, .ref fa_9])), (r_9, .inl (cA, 6, .inl rA)), (le_9, .inl (cA, 3, .inl (fun _ => 0))), (fa_9, .inl (cA, 528, .inl (fun _ => 0))), (q16, .inr (2, [.int 0, .ref bu_20, .ref be_20, .ref en_20])), (bu_20, .inl (cA, 48, .inl (fun _ => 0))), (be_20, .inl (cA, 48, .inl (fun _ => 0))), (en_20, .inl (cA, 48, .inl (fun _ => 0)))]) := hD
  refine lv_aload_n hx hb dX1_init_41 rfl (lv_at hl 0 rfl) ?_
  refine lv_iconst (v := 0) hx hb dX1_init_42 (by decide) ?_
  refine va_put (D := D) (ci := 1) (v := .int 0) (ty := .int) (C := RX1) (T := TX1) (N := 11) hx hb hts iX1 tyX1 tyX1_ok nmX1 hown hK hP hD hS 0 rfl rfl 5 (by decide) (hts (.fieldLink RX1 35 "LightBursts$Placer" "ticks" "I") (List.mem_of_getElem? (i := 15) rfl)) (fun _ h9 => h9) rfl (tyX1_ok 5 (by decide)) rfl rfl (Nat.le_of_ble_eq_true rfl) dX1_init_43 (fun H locs hP hD hS => ?_)
  have hP : va_P D vwCl ([(aP, .inr (1, [.ref q5, .ref q16, .int 0, .int 0, .int 0, .int 0, .int 0, .int 0, .int 0, .int 0, .int 0])), (q5, .inr (0, [.int 0, .int 0, .ref r_9, .ref le_9, .ref fa_9])), (r_9, .inl (cA, 6, .inl rA)), (le_9, .inl (cA, 3, .inl (fun _ => 0))), (fa_9, .inl (cA, 528, .inl (fun _ => 0))), (q16, .inr (2, [.int 0, .ref bu_20, .ref be_20, .ref en_20])), (bu_20, .inl (cA, 48, .inl (fun _ => 0))), (be_20, .inl (cA, 48, .inl (fun _ => 0))), (en_20, .inl (cA, 48, .inl (fun _ => 0)))]) H := hP
  have hD : va_D A ([(aP, .inr (1, [.ref q5, .ref q16, .int 0, .int 0, .int 0, .int 0, .int 0, .int 0, .int 0, .int 0, .int 0])), (q5, .inr (0, [.int 0, .int 0, .ref r_9, .ref le_9, .ref fa_9])), (r_9, .inl (cA, 6, .inl rA)), (le_9, .inl (cA, 3, .inl (fun _ => 0))), (fa_9, .inl (cA, 528, .inl (fun _ => 0))), (q16, .inr (2, [.int 0, .ref bu_20, .ref be_20, .ref en_20])), (bu_20, .inl (cA, 48, .inl (fun _ => 0))), (be_20, .inl (cA, 48, .inl (fun _ => 0))), (en_20, .inl (cA, 48, .inl (fun _ => 0)))]) := hD
  refine lv_aload_n hx hb dX1_init_46 rfl (lv_at hl 0 rfl) ?_
  refine lv_iconst (v := 3) hx hb dX1_init_47 (by decide) ?_
  refine va_put (D := D) (ci := 1) (v := .int 3) (ty := .int) (C := RX1) (T := TX1) (N := 11) hx hb hts iX1 tyX1 tyX1_ok nmX1 hown hK hP hD hS 0 rfl rfl 6 (by decide) (hts (.fieldLink RX1 38 "LightBursts$Placer" "fate" "I") (List.mem_of_getElem? (i := 16) rfl)) (fun _ h9 => h9) rfl (tyX1_ok 6 (by decide)) rfl rfl (Nat.le_of_ble_eq_true rfl) dX1_init_48 (fun H locs hP hD hS => ?_)
  have hP : va_P D vwCl ([(aP, .inr (1, [.ref q5, .ref q16, .int 0, .int 0, .int 0, .int 0, .int 3, .int 0, .int 0, .int 0, .int 0])), (q5, .inr (0, [.int 0, .int 0, .ref r_9, .ref le_9, .ref fa_9])), (r_9, .inl (cA, 6, .inl rA)), (le_9, .inl (cA, 3, .inl (fun _ => 0))), (fa_9, .inl (cA, 528, .inl (fun _ => 0))), (q16, .inr (2, [.int 0, .ref bu_20, .ref be_20, .ref en_20])), (bu_20, .inl (cA, 48, .inl (fun _ => 0))), (be_20, .inl (cA, 48, .inl (fun _ => 0))), (en_20, .inl (cA, 48, .inl (fun _ => 0)))]) H := hP
  have hD : va_D A ([(aP, .inr (1, [.ref q5, .ref q16, .int 0, .int 0, .int 0, .int 0, .int 3, .int 0, .int 0, .int 0, .int 0])), (q5, .inr (0, [.int 0, .int 0, .ref r_9, .ref le_9, .ref fa_9])), (r_9, .inl (cA, 6, .inl rA)), (le_9, .inl (cA, 3, .inl (fun _ => 0))), (fa_9, .inl (cA, 528, .inl (fun _ => 0))), (q16, .inr (2, [.int 0, .ref bu_20, .ref be_20, .ref en_20])), (bu_20, .inl (cA, 48, .inl (fun _ => 0))), (be_20, .inl (cA, 48, .inl (fun _ => 0))), (en_20, .inl (cA, 48, .inl (fun _ => 0)))]) := hD
  refine lv_aload_n hx hb dX1_init_51 rfl (lv_at hl 0 rfl) ?_
  refine lv_bipush (v := (-6)) hx hb dX1_init_52 (by decide) ?_
  refine va_put (D := D) (ci := 1) (v := .int (-6)) (ty := .int) (C := RX1) (T := TX1) (N := 11) hx hb hts iX1 tyX1 tyX1_ok nmX1 hown hK hP hD hS 0 rfl rfl 7 (by decide) (hts (.fieldLink RX1 41 "LightBursts$Placer" "bookedOn" "I") (List.mem_of_getElem? (i := 17) rfl)) (fun _ h9 => h9) rfl (tyX1_ok 7 (by decide)) rfl rfl (Nat.le_of_ble_eq_true rfl) dX1_init_54 (fun H locs hP hD hS => ?_)
  have hP : va_P D vwCl ([(aP, .inr (1, [.ref q5, .ref q16, .int 0, .int 0, .int 0, .int 0, .int 3, .int (-6), .int 0, .int 0, .int 0])), (q5, .inr (0, [.int 0, .int 0, .ref r_9, .ref le_9, .ref fa_9])), (r_9, .inl (cA, 6, .inl rA)), (le_9, .inl (cA, 3, .inl (fun _ => 0))), (fa_9, .inl (cA, 528, .inl (fun _ => 0))), (q16, .inr (2, [.int 0, .ref bu_20, .ref be_20, .ref en_20])), (bu_20, .inl (cA, 48, .inl (fun _ => 0))), (be_20, .inl (cA, 48, .inl (fun _ => 0))), (en_20, .inl (cA, 48, .inl (fun _ => 0)))]) H := hP
  have hD : va_D A ([(aP, .inr (1, [.ref q5, .ref q16, .int 0, .int 0, .int 0, .int 0, .int 3, .int (-6), .int 0, .int 0, .int 0])), (q5, .inr (0, [.int 0, .int 0, .ref r_9, .ref le_9, .ref fa_9])), (r_9, .inl (cA, 6, .inl rA)), (le_9, .inl (cA, 3, .inl (fun _ => 0))), (fa_9, .inl (cA, 528, .inl (fun _ => 0))), (q16, .inr (2, [.int 0, .ref bu_20, .ref be_20, .ref en_20])), (bu_20, .inl (cA, 48, .inl (fun _ => 0))), (be_20, .inl (cA, 48, .inl (fun _ => 0))), (en_20, .inl (cA, 48, .inl (fun _ => 0)))]) := hD
  refine lv_aload_n hx hb dX1_init_57 rfl (lv_at hl 0 rfl) ?_
  refine lv_bipush (v := (-6)) hx hb dX1_init_58 (by decide) ?_
  refine va_put (D := D) (ci := 1) (v := .int (-6)) (ty := .int) (C := RX1) (T := TX1) (N := 11) hx hb hts iX1 tyX1 tyX1_ok nmX1 hown hK hP hD hS 0 rfl rfl 8 (by decide) (hts (.fieldLink RX1 44 "LightBursts$Placer" "bookedFrom" "I") (List.mem_of_getElem? (i := 18) rfl)) (fun _ h9 => h9) rfl (tyX1_ok 8 (by decide)) rfl rfl (Nat.le_of_ble_eq_true rfl) dX1_init_60 (fun H locs hP hD hS => ?_)
  have hP : va_P D vwCl ([(aP, .inr (1, [.ref q5, .ref q16, .int 0, .int 0, .int 0, .int 0, .int 3, .int (-6), .int (-6), .int 0, .int 0])), (q5, .inr (0, [.int 0, .int 0, .ref r_9, .ref le_9, .ref fa_9])), (r_9, .inl (cA, 6, .inl rA)), (le_9, .inl (cA, 3, .inl (fun _ => 0))), (fa_9, .inl (cA, 528, .inl (fun _ => 0))), (q16, .inr (2, [.int 0, .ref bu_20, .ref be_20, .ref en_20])), (bu_20, .inl (cA, 48, .inl (fun _ => 0))), (be_20, .inl (cA, 48, .inl (fun _ => 0))), (en_20, .inl (cA, 48, .inl (fun _ => 0)))]) H := hP
  have hD : va_D A ([(aP, .inr (1, [.ref q5, .ref q16, .int 0, .int 0, .int 0, .int 0, .int 3, .int (-6), .int (-6), .int 0, .int 0])), (q5, .inr (0, [.int 0, .int 0, .ref r_9, .ref le_9, .ref fa_9])), (r_9, .inl (cA, 6, .inl rA)), (le_9, .inl (cA, 3, .inl (fun _ => 0))), (fa_9, .inl (cA, 528, .inl (fun _ => 0))), (q16, .inr (2, [.int 0, .ref bu_20, .ref be_20, .ref en_20])), (bu_20, .inl (cA, 48, .inl (fun _ => 0))), (be_20, .inl (cA, 48, .inl (fun _ => 0))), (en_20, .inl (cA, 48, .inl (fun _ => 0)))]) := hD
  refine lv_aload_n hx hb dX1_init_63 rfl (lv_at hl 0 rfl) ?_
  refine lv_iconst (v := 0) hx hb dX1_init_64 (by decide) ?_
  refine va_put (D := D) (ci := 1) (v := .int 0) (ty := .int) (C := RX1) (T := TX1) (N := 11) hx hb hts iX1 tyX1 tyX1_ok nmX1 hown hK hP hD hS 0 rfl rfl 9 (by decide) (hts (.fieldLink RX1 47 "LightBursts$Placer" "bookedTicks" "I") (List.mem_of_getElem? (i := 19) rfl)) (fun _ h9 => h9) rfl (tyX1_ok 9 (by decide)) rfl rfl (Nat.le_of_ble_eq_true rfl) dX1_init_65 (fun H locs hP hD hS => ?_)
  have hP : va_P D vwCl ([(aP, .inr (1, [.ref q5, .ref q16, .int 0, .int 0, .int 0, .int 0, .int 3, .int (-6), .int (-6), .int 0, .int 0])), (q5, .inr (0, [.int 0, .int 0, .ref r_9, .ref le_9, .ref fa_9])), (r_9, .inl (cA, 6, .inl rA)), (le_9, .inl (cA, 3, .inl (fun _ => 0))), (fa_9, .inl (cA, 528, .inl (fun _ => 0))), (q16, .inr (2, [.int 0, .ref bu_20, .ref be_20, .ref en_20])), (bu_20, .inl (cA, 48, .inl (fun _ => 0))), (be_20, .inl (cA, 48, .inl (fun _ => 0))), (en_20, .inl (cA, 48, .inl (fun _ => 0)))]) H := hP
  have hD : va_D A ([(aP, .inr (1, [.ref q5, .ref q16, .int 0, .int 0, .int 0, .int 0, .int 3, .int (-6), .int (-6), .int 0, .int 0])), (q5, .inr (0, [.int 0, .int 0, .ref r_9, .ref le_9, .ref fa_9])), (r_9, .inl (cA, 6, .inl rA)), (le_9, .inl (cA, 3, .inl (fun _ => 0))), (fa_9, .inl (cA, 528, .inl (fun _ => 0))), (q16, .inr (2, [.int 0, .ref bu_20, .ref be_20, .ref en_20])), (bu_20, .inl (cA, 48, .inl (fun _ => 0))), (be_20, .inl (cA, 48, .inl (fun _ => 0))), (en_20, .inl (cA, 48, .inl (fun _ => 0)))]) := hD
  refine lv_aload_n hx hb dX1_init_68 rfl (lv_at hl 0 rfl) ?_
  refine lv_bipush (v := (-6)) hx hb dX1_init_69 (by decide) ?_
  refine va_put (D := D) (ci := 1) (v := .int (-6)) (ty := .int) (C := RX1) (T := TX1) (N := 11) hx hb hts iX1 tyX1 tyX1_ok nmX1 hown hK hP hD hS 0 rfl rfl 10 (by decide) (hts (.fieldLink RX1 50 "LightBursts$Placer" "byLine" "I") (List.mem_of_getElem? (i := 20) rfl)) (fun _ h9 => h9) rfl (tyX1_ok 10 (by decide)) rfl rfl (Nat.le_of_ble_eq_true rfl) dX1_init_71 (fun H locs hP hD hS => ?_)
  have hP : va_P D vwCl ([(aP, .inr (1, [.ref q5, .ref q16, .int 0, .int 0, .int 0, .int 0, .int 3, .int (-6), .int (-6), .int 0, .int (-6)])), (q5, .inr (0, [.int 0, .int 0, .ref r_9, .ref le_9, .ref fa_9])), (r_9, .inl (cA, 6, .inl rA)), (le_9, .inl (cA, 3, .inl (fun _ => 0))), (fa_9, .inl (cA, 528, .inl (fun _ => 0))), (q16, .inr (2, [.int 0, .ref bu_20, .ref be_20, .ref en_20])), (bu_20, .inl (cA, 48, .inl (fun _ => 0))), (be_20, .inl (cA, 48, .inl (fun _ => 0))), (en_20, .inl (cA, 48, .inl (fun _ => 0)))]) H := hP
  have hD : va_D A ([(aP, .inr (1, [.ref q5, .ref q16, .int 0, .int 0, .int 0, .int 0, .int 3, .int (-6), .int (-6), .int 0, .int (-6)])), (q5, .inr (0, [.int 0, .int 0, .ref r_9, .ref le_9, .ref fa_9])), (r_9, .inl (cA, 6, .inl rA)), (le_9, .inl (cA, 3, .inl (fun _ => 0))), (fa_9, .inl (cA, 528, .inl (fun _ => 0))), (q16, .inr (2, [.int 0, .ref bu_20, .ref be_20, .ref en_20])), (bu_20, .inl (cA, 48, .inl (fun _ => 0))), (be_20, .inl (cA, 48, .inl (fun _ => 0))), (en_20, .inl (cA, 48, .inl (fun _ => 0)))]) := hD
  have hP := hP.sub (ws' := PLw aP q5 q16 0 0 0 0 3 (-6) (-6) 0 (-6) ++ BKw cA q5 r_9 le_9 fa_9 0 0 rA (fun _ => 0) (fun _ => 0) ++ TRw cA q16 bu_20 be_20 en_20 0 (fun _ => 0) (fun _ => 0) (fun _ => 0)) [0, 1, 2, 3, 4, 5, 6, 7, 8] rfl
  have hD := hD.sub (ws' := PLw aP q5 q16 0 0 0 0 3 (-6) (-6) 0 (-6) ++ BKw cA q5 r_9 le_9 fa_9 0 0 rA (fun _ => 0) (fun _ => 0) ++ TRw cA q16 bu_20 be_20 en_20 0 (fun _ => 0) (fun _ => 0) (fun _ => 0)) [0, 1, 2, 3, 4, 5, 6, 7, 8] (by decide) rfl
  exact W.vret hx hb hr (fun t ht hW => ⟨⟨(q5, r_9, le_9, fa_9, q16, bu_20, be_20, en_20), rfl, trivial, by rw [ht]; exact hP, va_K.moved hW.alike hK, hD⟩, hS.F ht⟩) hS.2.2 dX1_init_74

set_option maxHeartbeats 4000000 in
set_option maxRecDepth 100000 in
theorem c_X4_init (l : Launch) (D : va_G) (cA cZ : ClassId) (aM : Nat) (szz : Nat) : MetN (S := Nat × Nat × Nat) l yX4_init wsX4_init 1 20 3 1619 D (tyA cA cZ) [.ref aM] [(aM, .inr (4, [.null, .null, .null, .int 0, .int 0, .int 0, .int 0, .int 0]))] szz (fun u => MDw cA cZ aM u.1 u.2.1 u.2.2 (upd (upd (upd (upd (upd (upd (fun _ => 0) 0 5) 1 4) 2 8) 3 3) 4 1) 5 1) (fun _ => 0) (fun _ => 0) 0 0 0 0 0) := by
  refine Met.ofW (cc := cX4_init) (maxL := 1) (ret := none) (by decide) rfl ?_
  intro p e s m args below meth c s₁ B hml hv
  obtain ⟨rfl, hsz, hP, hK, hD0, hN⟩ := hv
  have hx := B.exec
  have hb := B.bytes
  have hr := B.returns
  have hts := atoms_spec (ws := wsX4_init) B.pre
  have hown : s.vm.findClass RX4 = some m.cls := findClass_of_methodNamed B.named
  have hlocks := B.notSynchronized
  have hin : meth.name = "<init>" := (name_of_methodNamed B.named B.method).1
  have iX4 : ∀ w ∈ wsX40, w ∈ wsX4_init := fun _ h => List.mem_cons_of_mem _ (List.mem_append_right _ h)
  subst hsz
  have hD := hD0.self (sz := s.heap.size)
  generalize hAe : va_A ([(aM, .inr (4, [.null, .null, .null, .int 0, .int 0, .int 0, .int 0, .int 0]))]) s.heap.size = A at hD ⊢
  have hA : ∀ q : Nat, s.heap.size ≤ q → A q := fun q h => by rw [← hAe]; exact Or.inr h
  have hS : va_S A s.heap s.heap [] := va_S.rf
  have hP : va_P D vwCl ([(aM, .inr (4, [.null, .null, .null, .int 0, .int 0, .int 0, .int 0, .int 0]))]) s.heap := hP
  have hl := lv_entry ([.ref aM]) (n := 1) (Nat.le_of_ble_eq_true rfl)
  rw [lg_entry_eq]
  generalize (lg_sl ([.ref aM]) ++ List.replicate (1 - (lg_sl ([.ref aM])).length) Slot.unset).toArray = ls at hl ⊢
  have hl : lv_has ls 1 [(0, .ref aM)] := hl
  refine lv_aload_n hx hb dX4_init_0 rfl (lv_at hl 0 rfl) ?_
  refine W.objInit hx hb hown (hts (.methodLink RX4 1 objectInit) (List.mem_of_getElem? (i := 1) rfl)) (hts (.instanceMethod objectInit) (List.mem_of_getElem? (i := 2) rfl)) (hts (.code objectInit ⟨#[0xb1]⟩ 1 none) (List.mem_of_getElem? (i := 3) rfl)) rfl (by rw [hml]; exact hl.1) rfl dX4_init_1 (Nat.le_of_ble_eq_true rfl) (Nat.le_of_ble_eq_true rfl) ?_
  refine W.eq (g2 := F0 m 4 ls []) rfl ?_
  refine lv_aload_n hx hb dX4_init_4 rfl (lv_at hl 0 rfl) ?_
  refine lv_sipush (v := 539) hx hb dX4_init_5 (by decide) ?_
  refine va_newa (atype := .int) (ty := .int) (a0 := (539, .inl (fun _ => 0))) (N' := 539) hx hb (hts (.arrayClass .int) (List.mem_of_getElem? (i := 4) rfl)) rfl hK hP hD hS hA (fun _ => na_i _ _) (by decide) (by decide) (Nat.le_of_ble_eq_true rfl) (Nat.le_of_ble_eq_true rfl) (Nat.le_of_ble_eq_true rfl) dX4_init_8 (fun q8 cX H hK9 hP hD hS => ?_)
  obtain rfl : cA = cX := nm_uniq (hK.2 0 _ rfl).2 (hK9.2 2 _ rfl).2
  clear hK9
  have hP : va_P D vwCl ([(aM, .inr (4, [.null, .null, .null, .int 0, .int 0, .int 0, .int 0, .int 0])), (q8, .inl (cA, 539, .inl (fun _ => 0)))]) H := hP
  have hD : va_D A ([(aM, .inr (4, [.null, .null, .null, .int 0, .int 0, .int 0, .int 0, .int 0])), (q8, .inl (cA, 539, .inl (fun _ => 0)))]) := hD
  refine W.widen (k := 1) (n := 539) (Nat.le_of_ble_eq_true rfl) (Nat.le_of_ble_eq_true rfl) ?_
  refine va_putF (D := D) (ci := 4) (v := .ref q8) (ty := .array .int) (C := RX4) (T := TX4) (N := 8) hx hb hts iX4 tyX4 tyX4_ok nmX4 hown hK hP hD hS 0 rfl rfl 0 (by decide) (hts (.fieldLink RX4 7 "LightBurstsModel" "state" "[I") (List.mem_of_getElem? (i := 5) rfl)) (fun _ h9 => h9) rfl hin rfl (tyX4_ok 0 (by decide)) rfl rfl (Nat.le_of_ble_eq_true rfl) dX4_init_10 (fun H locs hP hD hS => ?_)
  have hP : va_P D vwCl ([(aM, .inr (4, [.ref q8, .null, .null, .int 0, .int 0, .int 0, .int 0, .int 0])), (q8, .inl (cA, 539, .inl (fun _ => 0)))]) H := hP
  have hD : va_D A ([(aM, .inr (4, [.ref q8, .null, .null, .int 0, .int 0, .int 0, .int 0, .int 0])), (q8, .inl (cA, 539, .inl (fun _ => 0)))]) := hD
  refine lv_aload_n hx hb dX4_init_13 rfl (lv_at hl 0 rfl) ?_
  refine lv_sipush (v := 1078) hx hb dX4_init_14 (by decide) ?_
  refine va_newa (atype := .int) (ty := .int) (a0 := (1078, .inl (fun _ => 0))) (N' := 1078) hx hb (hts (.arrayClass .int) (List.mem_of_getElem? (i := 4) rfl)) rfl hK hP hD hS hA (fun _ => na_i _ _) (by decide) (by decide) (Nat.le_of_ble_eq_true rfl) (Nat.le_of_ble_eq_true rfl) (Nat.le_of_ble_eq_true rfl) dX4_init_17 (fun q17 cX H hK9 hP hD hS => ?_)
  obtain rfl : cA = cX := nm_uniq (hK.2 0 _ rfl).2 (hK9.2 2 _ rfl).2
  clear hK9
  have hP : va_P D vwCl ([(aM, .inr (4, [.ref q8, .null, .null, .int 0, .int 0, .int 0, .int 0, .int 0])), (q8, .inl (cA, 539, .inl (fun _ => 0))), (q17, .inl (cA, 1078, .inl (fun _ => 0)))]) H := hP
  have hD : va_D A ([(aM, .inr (4, [.ref q8, .null, .null, .int 0, .int 0, .int 0, .int 0, .int 0])), (q8, .inl (cA, 539, .inl (fun _ => 0))), (q17, .inl (cA, 1078, .inl (fun _ => 0)))]) := hD
  refine W.widen (k := 2) (n := 1617) (Nat.le_of_ble_eq_true rfl) (Nat.le_of_ble_eq_true rfl) ?_
  refine va_putF (D := D) (ci := 4) (v := .ref q17) (ty := .array .int) (C := RX4) (T := TX4) (N := 8) hx hb hts iX4 tyX4 tyX4_ok nmX4 hown hK hP hD hS 0 rfl rfl 1 (by decide) (hts (.fieldLink RX4 13 "LightBurstsModel" "images" "[I") (List.mem_of_getElem? (i := 6) rfl)) (fun _ h9 => h9) rfl hin rfl (tyX4_ok 1 (by decide)) rfl rfl (Nat.le_of_ble_eq_true rfl) dX4_init_19 (fun H locs hP hD hS => ?_)
  have hP : va_P D vwCl ([(aM, .inr (4, [.ref q8, .ref q17, .null, .int 0, .int 0, .int 0, .int 0, .int 0])), (q8, .inl (cA, 539, .inl (fun _ => 0))), (q17, .inl (cA, 1078, .inl (fun _ => 0)))]) H := hP
  have hD : va_D A ([(aM, .inr (4, [.ref q8, .ref q17, .null, .int 0, .int 0, .int 0, .int 0, .int 0])), (q8, .inl (cA, 539, .inl (fun _ => 0))), (q17, .inl (cA, 1078, .inl (fun _ => 0)))]) := hD
  refine lv_aload_n hx hb dX4_init_22 rfl (lv_at hl 0 rfl) ?_
  refine lv_iconst (v := 2) hx hb dX4_init_23 (by decide) ?_
  refine va_newa (atype := .boolean) (ty := .boolean) (a0 := (2, .inl (fun _ => 0))) (N' := 2) hx hb (hts (.arrayClass .boolean) (List.mem_of_getElem? (i := 7) rfl)) rfl hK hP hD hS hA (fun _ => na_z _ _) (by decide) (by decide) (Nat.le_of_ble_eq_true rfl) (Nat.le_of_ble_eq_true rfl) (Nat.le_of_ble_eq_true rfl) dX4_init_24 (fun q24 cX H hK9 hP hD hS => ?_)
  obtain rfl : cZ = cX := nm_uniqZ (hK.2 1 _ rfl).2 (hK9.2 2 _ rfl).2
  clear hK9
  -- cZ
  have hP : va_P D vwCl ([(aM, .inr (4, [.ref q8, .ref q17, .null, .int 0, .int 0, .int 0, .int 0, .int 0])), (q8, .inl (cA, 539, .inl (fun _ => 0))), (q17, .inl (cA, 1078, .inl (fun _ => 0))), (q24, .inl (cZ, 2, .inl (fun _ => 0)))]) H := hP
  have hD : va_D A ([(aM, .inr (4, [.ref q8, .ref q17, .null, .int 0, .int 0, .int 0, .int 0, .int 0])), (q8, .inl (cA, 539, .inl (fun _ => 0))), (q17, .inl (cA, 1078, .inl (fun _ => 0))), (q24, .inl (cZ, 2, .inl (fun _ => 0)))]) := hD
  refine W.widen (k := 3) (n := 1619) (Nat.le_of_ble_eq_true rfl) (Nat.le_of_ble_eq_true rfl) ?_
  refine va_putF (D := D) (ci := 4) (v := .ref q24) (ty := .array .boolean) (C := RX4) (T := TX4) (N := 8) hx hb hts iX4 tyX4 tyX4_ok nmX4 hown hK hP hD hS 0 rfl rfl 2 (by decide) (hts (.fieldLink RX4 16 "LightBurstsModel" "isKept" "[Z") (List.mem_of_getElem? (i := 8) rfl)) (fun _ h9 => h9) rfl hin rfl (tyX4_ok 2 (by decide)) rfl rfl (Nat.le_of_ble_eq_true rfl) dX4_init_26 (fun H locs hP hD hS => ?_)
  have hP : va_P D vwCl ([(aM, .inr (4, [.ref q8, .ref q17, .ref q24, .int 0, .int 0, .int 0, .int 0, .int 0])), (q8, .inl (cA, 539, .inl (fun _ => 0))), (q17, .inl (cA, 1078, .inl (fun _ => 0))), (q24, .inl (cZ, 2, .inl (fun _ => 0)))]) H := hP
  have hD : va_D A ([(aM, .inr (4, [.ref q8, .ref q17, .ref q24, .int 0, .int 0, .int 0, .int 0, .int 0])), (q8, .inl (cA, 539, .inl (fun _ => 0))), (q17, .inl (cA, 1078, .inl (fun _ => 0))), (q24, .inl (cZ, 2, .inl (fun _ => 0)))]) := hD
  refine lv_aload_n hx hb dX4_init_29 rfl (lv_at hl 0 rfl) ?_
  refine va_get (D := D) (ci := 4) (v := .ref q8) (C := RX4) (T := TX4) (N := 8) hx hb hts iX4 hown hK hP 0 rfl rfl 0 (by decide) (hts (.fieldLink RX4 7 "LightBurstsModel" "state" "[I") (List.mem_of_getElem? (i := 5) rfl)) (fun _ h9 => h9) rfl dX4_init_30 ?_
  refine lv_iconst (v := 0) hx hb dX4_init_33 (by decide) ?_
  refine lv_iconst (v := 5) hx hb dX4_init_34 (by decide) ?_
  refine va_iast hx hb hK hP hD hS 1 0 rfl rfl (by unfold vp_in; decide) dX4_init_35 (fun H locs hP hD hS => ?_)
  have hP : va_P D vwCl ([(aM, .inr (4, [.ref q8, .ref q17, .ref q24, .int 0, .int 0, .int 0, .int 0, .int 0])), (q8, .inl (cA, 539, .inl (upd (fun _ => 0) 0 5))), (q17, .inl (cA, 1078, .inl (fun _ => 0))), (q24, .inl (cZ, 2, .inl (fun _ => 0)))]) H := hP
  have hD : va_D A ([(aM, .inr (4, [.ref q8, .ref q17, .ref q24, .int 0, .int 0, .int 0, .int 0, .int 0])), (q8, .inl (cA, 539, .inl (upd (fun _ => 0) 0 5))), (q17, .inl (cA, 1078, .inl (fun _ => 0))), (q24, .inl (cZ, 2, .inl (fun _ => 0)))]) := hD
  refine lv_aload_n hx hb dX4_init_36 rfl (lv_at hl 0 rfl) ?_
  refine va_get (D := D) (ci := 4) (v := .ref q8) (C := RX4) (T := TX4) (N := 8) hx hb hts iX4 hown hK hP 0 rfl rfl 0 (by decide) (hts (.fieldLink RX4 7 "LightBurstsModel" "state" "[I") (List.mem_of_getElem? (i := 5) rfl)) (fun _ h9 => h9) rfl dX4_init_37 ?_
  refine lv_iconst (v := 1) hx hb dX4_init_40 (by decide) ?_
  refine lv_iconst (v := 4) hx hb dX4_init_41 (by decide) ?_
  refine va_iast hx hb hK hP hD hS 1 0 rfl rfl (by unfold vp_in; decide) dX4_init_42 (fun H locs hP hD hS => ?_)
  have hP : va_P D vwCl ([(aM, .inr (4, [.ref q8, .ref q17, .ref q24, .int 0, .int 0, .int 0, .int 0, .int 0])), (q8, .inl (cA, 539, .inl (upd (upd (fun _ => 0) 0 5) 1 4))), (q17, .inl (cA, 1078, .inl (fun _ => 0))), (q24, .inl (cZ, 2, .inl (fun _ => 0)))]) H := hP
  have hD : va_D A ([(aM, .inr (4, [.ref q8, .ref q17, .ref q24, .int 0, .int 0, .int 0, .int 0, .int 0])), (q8, .inl (cA, 539, .inl (upd (upd (fun _ => 0) 0 5) 1 4))), (q17, .inl (cA, 1078, .inl (fun _ => 0))), (q24, .inl (cZ, 2, .inl (fun _ => 0)))]) := hD
  refine lv_aload_n hx hb dX4_init_43 rfl (lv_at hl 0 rfl) ?_
  refine va_get (D := D) (ci := 4) (v := .ref q8) (C := RX4) (T := TX4) (N := 8) hx hb hts iX4 hown hK hP 0 rfl rfl 0 (by decide) (hts (.fieldLink RX4 7 "LightBurstsModel" "state" "[I") (List.mem_of_getElem? (i := 5) rfl)) (fun _ h9 => h9) rfl dX4_init_44 ?_
  refine lv_iconst (v := 2) hx hb dX4_init_47 (by decide) ?_
  refine lv_bipush (v := 8) hx hb dX4_init_48 (by decide) ?_
  refine va_iast hx hb hK hP hD hS 1 0 rfl rfl (by unfold vp_in; decide) dX4_init_50 (fun H locs hP hD hS => ?_)
  have hP : va_P D vwCl ([(aM, .inr (4, [.ref q8, .ref q17, .ref q24, .int 0, .int 0, .int 0, .int 0, .int 0])), (q8, .inl (cA, 539, .inl (upd (upd (upd (fun _ => 0) 0 5) 1 4) 2 8))), (q17, .inl (cA, 1078, .inl (fun _ => 0))), (q24, .inl (cZ, 2, .inl (fun _ => 0)))]) H := hP
  have hD : va_D A ([(aM, .inr (4, [.ref q8, .ref q17, .ref q24, .int 0, .int 0, .int 0, .int 0, .int 0])), (q8, .inl (cA, 539, .inl (upd (upd (upd (fun _ => 0) 0 5) 1 4) 2 8))), (q17, .inl (cA, 1078, .inl (fun _ => 0))), (q24, .inl (cZ, 2, .inl (fun _ => 0)))]) := hD
  refine lv_aload_n hx hb dX4_init_51 rfl (lv_at hl 0 rfl) ?_
  refine va_get (D := D) (ci := 4) (v := .ref q8) (C := RX4) (T := TX4) (N := 8) hx hb hts iX4 hown hK hP 0 rfl rfl 0 (by decide) (hts (.fieldLink RX4 7 "LightBurstsModel" "state" "[I") (List.mem_of_getElem? (i := 5) rfl)) (fun _ h9 => h9) rfl dX4_init_52 ?_
  refine lv_iconst (v := 3) hx hb dX4_init_55 (by decide) ?_
  refine lv_iconst (v := 3) hx hb dX4_init_56 (by decide) ?_
  refine va_iast hx hb hK hP hD hS 1 0 rfl rfl (by unfold vp_in; decide) dX4_init_57 (fun H locs hP hD hS => ?_)
  have hP : va_P D vwCl ([(aM, .inr (4, [.ref q8, .ref q17, .ref q24, .int 0, .int 0, .int 0, .int 0, .int 0])), (q8, .inl (cA, 539, .inl (upd (upd (upd (upd (fun _ => 0) 0 5) 1 4) 2 8) 3 3))), (q17, .inl (cA, 1078, .inl (fun _ => 0))), (q24, .inl (cZ, 2, .inl (fun _ => 0)))]) H := hP
  have hD : va_D A ([(aM, .inr (4, [.ref q8, .ref q17, .ref q24, .int 0, .int 0, .int 0, .int 0, .int 0])), (q8, .inl (cA, 539, .inl (upd (upd (upd (upd (fun _ => 0) 0 5) 1 4) 2 8) 3 3))), (q17, .inl (cA, 1078, .inl (fun _ => 0))), (q24, .inl (cZ, 2, .inl (fun _ => 0)))]) := hD
  refine lv_aload_n hx hb dX4_init_58 rfl (lv_at hl 0 rfl) ?_
  refine va_get (D := D) (ci := 4) (v := .ref q8) (C := RX4) (T := TX4) (N := 8) hx hb hts iX4 hown hK hP 0 rfl rfl 0 (by decide) (hts (.fieldLink RX4 7 "LightBurstsModel" "state" "[I") (List.mem_of_getElem? (i := 5) rfl)) (fun _ h9 => h9) rfl dX4_init_59 ?_
  refine lv_iconst (v := 4) hx hb dX4_init_62 (by decide) ?_
  refine lv_iconst (v := 1) hx hb dX4_init_63 (by decide) ?_
  refine va_iast hx hb hK hP hD hS 1 0 rfl rfl (by unfold vp_in; decide) dX4_init_64 (fun H locs hP hD hS => ?_)
  have hP : va_P D vwCl ([(aM, .inr (4, [.ref q8, .ref q17, .ref q24, .int 0, .int 0, .int 0, .int 0, .int 0])), (q8, .inl (cA, 539, .inl (upd (upd (upd (upd (upd (fun _ => 0) 0 5) 1 4) 2 8) 3 3) 4 1))), (q17, .inl (cA, 1078, .inl (fun _ => 0))), (q24, .inl (cZ, 2, .inl (fun _ => 0)))]) H := hP
  have hD : va_D A ([(aM, .inr (4, [.ref q8, .ref q17, .ref q24, .int 0, .int 0, .int 0, .int 0, .int 0])), (q8, .inl (cA, 539, .inl (upd (upd (upd (upd (upd (fun _ => 0) 0 5) 1 4) 2 8) 3 3) 4 1))), (q17, .inl (cA, 1078, .inl (fun _ => 0))), (q24, .inl (cZ, 2, .inl (fun _ => 0)))]) := hD
  refine lv_aload_n hx hb dX4_init_65 rfl (lv_at hl 0 rfl) ?_
  refine va_get (D := D) (ci := 4) (v := .ref q8) (C := RX4) (T := TX4) (N := 8) hx hb hts iX4 hown hK hP 0 rfl rfl 0 (by decide) (hts (.fieldLink RX4 7 "LightBurstsModel" "state" "[I") (List.mem_of_getElem? (i := 5) rfl)) (fun _ h9 => h9) rfl dX4_init_66 ?_
  refine lv_iconst (v := 5) hx hb dX4_init_69 (by decide) ?_
  refine lv_iconst (v := 1) hx hb dX4_init_70 (by decide) ?_
  refine va_iast hx hb hK hP hD hS 1 0 rfl rfl (by unfold vp_in; decide) dX4_init_71 (fun H locs hP hD hS => ?_)
  have hP : va_P D vwCl ([(aM, .inr (4, [.ref q8, .ref q17, .ref q24, .int 0, .int 0, .int 0, .int 0, .int 0])), (q8, .inl (cA, 539, .inl (upd (upd (upd (upd (upd (upd (fun _ => 0) 0 5) 1 4) 2 8) 3 3) 4 1) 5 1))), (q17, .inl (cA, 1078, .inl (fun _ => 0))), (q24, .inl (cZ, 2, .inl (fun _ => 0)))]) H := hP
  have hD : va_D A ([(aM, .inr (4, [.ref q8, .ref q17, .ref q24, .int 0, .int 0, .int 0, .int 0, .int 0])), (q8, .inl (cA, 539, .inl (upd (upd (upd (upd (upd (upd (fun _ => 0) 0 5) 1 4) 2 8) 3 3) 4 1) 5 1))), (q17, .inl (cA, 1078, .inl (fun _ => 0))), (q24, .inl (cZ, 2, .inl (fun _ => 0)))]) := hD
  have hP := hP.sub (ws' := MDw cA cZ aM q8 q17 q24 (upd (upd (upd (upd (upd (upd (fun _ => 0) 0 5) 1 4) 2 8) 3 3) 4 1) 5 1) (fun _ => 0) (fun _ => 0) 0 0 0 0 0) [0, 1, 2, 3] rfl
  have hD := hD.sub (ws' := MDw cA cZ aM q8 q17 q24 (upd (upd (upd (upd (upd (upd (fun _ => 0) 0 5) 1 4) 2 8) 3 3) 4 1) 5 1) (fun _ => 0) (fun _ => 0) 0 0 0 0 0) [0, 1, 2, 3] (by decide) rfl
  exact W.vret hx hb hr (fun t ht hW => ⟨⟨(q8, q17, q24), rfl, trivial, by rw [ht]; exact hP, va_K.moved hW.alike hK, hD⟩, hS.F ht⟩) hS.2.2 dX4_init_72
