theorem na_i (n : Nat) (cA : ClassId) : vp_cell cA (n, .inl (fun _ => 0)) = arrV cA n (fun _ => defaultValue .int) := rfl
theorem na_z (n : Nat) (cA : ClassId) : vp_cell cA (n, .inl (fun _ => 0)) = arrV cA n (fun _ => defaultValue .boolean) := rfl
set_option maxHeartbeats 4000000 in
set_option maxRecDepth 100000 in
theorem c_X2_init (l : Launch) (D : va_G) (cA cZ : ClassId) (aT : Nat) (szz : Nat) : MetN (S := Nat × Nat × Nat) l yX2_init wsX2_init 1 20 3 144 D (tyA cA cZ) [.ref aT] [(aT, .inr (2, [.int 0, .null, .null, .null]))] szz (fun u => TRw cA aT u.1 u.2.1 u.2.2 0 (fun _ => 0) (fun _ => 0) (fun _ => 0)) := by
  refine Met.ofW (cc := cX2_init) (maxL := 1) (ret := none) (by decide) rfl ?_
  intro p e s m args below meth c s₁ B hml hv
  obtain ⟨rfl, hsz, hP, hK, hD0, hN⟩ := hv
  have hx := B.exec
  have hb := B.bytes
  have hr := B.returns
  have hts := atoms_spec (ws := wsX2_init) B.pre
  have hown : s.vm.findClass RX2 = some m.cls := findClass_of_methodNamed B.named
  have hlocks := B.notSynchronized
  have hin : meth.name = "<init>" := (name_of_methodNamed B.named B.method).1
  have iX2 : ∀ w ∈ wsX20, w ∈ wsX2_init := fun _ h => List.mem_cons_of_mem _ (List.mem_append_right _ h)
  subst hsz
  have hD := hD0.self (sz := s.heap.size)
  generalize hAe : va_A ([(aT, .inr (2, [.int 0, .null, .null, .null]))]) s.heap.size = A at hD ⊢
  have hA : ∀ q : Nat, s.heap.size ≤ q → A q := fun q h => by rw [← hAe]; exact Or.inr h
  have hS : va_S A s.heap s.heap [] := va_S.rf
  have hP : va_P D vwCl ([(aT, .inr (2, [.int 0, .null, .null, .null]))]) s.heap := hP
  have hl := lv_entry ([.ref aT]) (n := 1) (Nat.le_of_ble_eq_true rfl)
  rw [lg_entry_eq]
  generalize (lg_sl ([.ref aT]) ++ List.replicate (1 - (lg_sl ([.ref aT])).length) Slot.unset).toArray = ls at hl ⊢
  have hl : lv_has ls 1 [(0, .ref aT)] := hl
  refine lv_aload_n hx hb dX2_init_0 rfl (lv_at hl 0 rfl) ?_
  refine W.objInit hx hb hown (hts (.methodLink RX2 3 objectInit) (List.mem_of_getElem? (i := 1) rfl)) (hts (.instanceMethod objectInit) (List.mem_of_getElem? (i := 2) rfl)) (hts (.code objectInit ⟨#[0xb1]⟩ 1 none) (List.mem_of_getElem? (i := 3) rfl)) rfl (by rw [hml]; exact hl.1) rfl dX2_init_1 (Nat.le_of_ble_eq_true rfl) (Nat.le_of_ble_eq_true rfl) ?_
  refine W.eq (g2 := F0 m 4 ls []) rfl ?_
  refine lv_aload_n hx hb dX2_init_4 rfl (lv_at hl 0 rfl) ?_
  refine lv_iconst (v := 0) hx hb dX2_init_5 (by decide) ?_
  refine va_put (D := D) (ci := 2) (v := .int 0) (ty := .int) (C := RX2) (T := TX2) (N := 4) hx hb hts iX2 tyX2 tyX2_ok nmX2 hown hK hP hD hS 0 rfl rfl 0 (by decide) (hts (.fieldLink RX2 9 "LightBursts$Track" "size" "I") (List.mem_of_getElem? (i := 4) rfl)) (fun _ h9 => h9) rfl (tyX2_ok 0 (by decide)) rfl rfl (Nat.le_of_ble_eq_true rfl) dX2_init_6 (fun H locs hP hD hS => ?_)
  have hP : va_P D vwCl ([(aT, .inr (2, [.int 0, .null, .null, .null]))]) H := hP
  have hD : va_D A ([(aT, .inr (2, [.int 0, .null, .null, .null]))]) := hD
  refine lv_aload_n hx hb dX2_init_9 rfl (lv_at hl 0 rfl) ?_
  refine lv_bipush (v := 48) hx hb dX2_init_10 (by decide) ?_
  refine va_newa (atype := .int) (ty := .int) (a0 := (48, .inl (fun _ => 0))) (N' := 48) hx hb (hts (.arrayClass .int) (List.mem_of_getElem? (i := 5) rfl)) rfl hK hP hD hS hA (fun _ => na_i _ _) (by decide) (by decide) (Nat.le_of_ble_eq_true rfl) (Nat.le_of_ble_eq_true rfl) (Nat.le_of_ble_eq_true rfl) dX2_init_12 (fun q12 cX H hK9 hP hD hS => ?_)
  obtain rfl : cA = cX := nm_uniq (hK.2 0 _ rfl).2 (hK9.2 2 _ rfl).2
  clear hK9
  have hP : va_P D vwCl ([(aT, .inr (2, [.int 0, .null, .null, .null])), (q12, .inl (cA, 48, .inl (fun _ => 0)))]) H := hP
  have hD : va_D A ([(aT, .inr (2, [.int 0, .null, .null, .null])), (q12, .inl (cA, 48, .inl (fun _ => 0)))]) := hD
  refine W.widen (k := 1) (n := 48) (Nat.le_of_ble_eq_true rfl) (Nat.le_of_ble_eq_true rfl) ?_
  refine va_putF (D := D) (ci := 2) (v := .ref q12) (ty := .array .int) (C := RX2) (T := TX2) (N := 4) hx hb hts iX2 tyX2 tyX2_ok nmX2 hown hK hP hD hS 0 rfl rfl 1 (by decide) (hts (.fieldLink RX2 15 "LightBursts$Track" "bursts" "[I") (List.mem_of_getElem? (i := 6) rfl)) (fun _ h9 => h9) rfl hin rfl (tyX2_ok 1 (by decide)) rfl rfl (Nat.le_of_ble_eq_true rfl) dX2_init_14 (fun H locs hP hD hS => ?_)
  have hP : va_P D vwCl ([(aT, .inr (2, [.int 0, .ref q12, .null, .null])), (q12, .inl (cA, 48, .inl (fun _ => 0)))]) H := hP
  have hD : va_D A ([(aT, .inr (2, [.int 0, .ref q12, .null, .null])), (q12, .inl (cA, 48, .inl (fun _ => 0)))]) := hD
  refine lv_aload_n hx hb dX2_init_17 rfl (lv_at hl 0 rfl) ?_
  refine lv_bipush (v := 48) hx hb dX2_init_18 (by decide) ?_
  refine va_newa (atype := .int) (ty := .int) (a0 := (48, .inl (fun _ => 0))) (N' := 48) hx hb (hts (.arrayClass .int) (List.mem_of_getElem? (i := 5) rfl)) rfl hK hP hD hS hA (fun _ => na_i _ _) (by decide) (by decide) (Nat.le_of_ble_eq_true rfl) (Nat.le_of_ble_eq_true rfl) (Nat.le_of_ble_eq_true rfl) dX2_init_20 (fun q20 cX H hK9 hP hD hS => ?_)
  obtain rfl : cA = cX := nm_uniq (hK.2 0 _ rfl).2 (hK9.2 2 _ rfl).2
  clear hK9
  have hP : va_P D vwCl ([(aT, .inr (2, [.int 0, .ref q12, .null, .null])), (q12, .inl (cA, 48, .inl (fun _ => 0))), (q20, .inl (cA, 48, .inl (fun _ => 0)))]) H := hP
  have hD : va_D A ([(aT, .inr (2, [.int 0, .ref q12, .null, .null])), (q12, .inl (cA, 48, .inl (fun _ => 0))), (q20, .inl (cA, 48, .inl (fun _ => 0)))]) := hD
  refine W.widen (k := 2) (n := 96) (Nat.le_of_ble_eq_true rfl) (Nat.le_of_ble_eq_true rfl) ?_
  refine va_putF (D := D) (ci := 2) (v := .ref q20) (ty := .array .int) (C := RX2) (T := TX2) (N := 4) hx hb hts iX2 tyX2 tyX2_ok nmX2 hown hK hP hD hS 0 rfl rfl 2 (by decide) (hts (.fieldLink RX2 19 "LightBursts$Track" "begins" "[I") (List.mem_of_getElem? (i := 7) rfl)) (fun _ h9 => h9) rfl hin rfl (tyX2_ok 2 (by decide)) rfl rfl (Nat.le_of_ble_eq_true rfl) dX2_init_22 (fun H locs hP hD hS => ?_)
  have hP : va_P D vwCl ([(aT, .inr (2, [.int 0, .ref q12, .ref q20, .null])), (q12, .inl (cA, 48, .inl (fun _ => 0))), (q20, .inl (cA, 48, .inl (fun _ => 0)))]) H := hP
  have hD : va_D A ([(aT, .inr (2, [.int 0, .ref q12, .ref q20, .null])), (q12, .inl (cA, 48, .inl (fun _ => 0))), (q20, .inl (cA, 48, .inl (fun _ => 0)))]) := hD
  refine lv_aload_n hx hb dX2_init_25 rfl (lv_at hl 0 rfl) ?_
  refine lv_bipush (v := 48) hx hb dX2_init_26 (by decide) ?_
  refine va_newa (atype := .int) (ty := .int) (a0 := (48, .inl (fun _ => 0))) (N' := 48) hx hb (hts (.arrayClass .int) (List.mem_of_getElem? (i := 5) rfl)) rfl hK hP hD hS hA (fun _ => na_i _ _) (by decide) (by decide) (Nat.le_of_ble_eq_true rfl) (Nat.le_of_ble_eq_true rfl) (Nat.le_of_ble_eq_true rfl) dX2_init_28 (fun q28 cX H hK9 hP hD hS => ?_)
  obtain rfl : cA = cX := nm_uniq (hK.2 0 _ rfl).2 (hK9.2 2 _ rfl).2
  clear hK9
  have hP : va_P D vwCl ([(aT, .inr (2, [.int 0, .ref q12, .ref q20, .null])), (q12, .inl (cA, 48, .inl (fun _ => 0))), (q20, .inl (cA, 48, .inl (fun _ => 0))), (q28, .inl (cA, 48, .inl (fun _ => 0)))]) H := hP
  have hD : va_D A ([(aT, .inr (2, [.int 0, .ref q12, .ref q20, .null])), (q12, .inl (cA, 48, .inl (fun _ => 0))), (q20, .inl (cA, 48, .inl (fun _ => 0))), (q28, .inl (cA, 48, .inl (fun _ => 0)))]) := hD
  refine W.widen (k := 3) (n := 144) (Nat.le_of_ble_eq_true rfl) (Nat.le_of_ble_eq_true rfl) ?_
  refine va_putF (D := D) (ci := 2) (v := .ref q28) (ty := .array .int) (C := RX2) (T := TX2) (N := 4) hx hb hts iX2 tyX2 tyX2_ok nmX2 hown hK hP hD hS 0 rfl rfl 3 (by decide) (hts (.fieldLink RX2 22 "LightBursts$Track" "ends" "[I") (List.mem_of_getElem? (i := 8) rfl)) (fun _ h9 => h9) rfl hin rfl (tyX2_ok 3 (by decide)) rfl rfl (Nat.le_of_ble_eq_true rfl) dX2_init_30 (fun H locs hP hD hS => ?_)
  have hP : va_P D vwCl ([(aT, .inr (2, [.int 0, .ref q12, .ref q20, .ref q28])), (q12, .inl (cA, 48, .inl (fun _ => 0))), (q20, .inl (cA, 48, .inl (fun _ => 0))), (q28, .inl (cA, 48, .inl (fun _ => 0)))]) H := hP
  have hD : va_D A ([(aT, .inr (2, [.int 0, .ref q12, .ref q20, .ref q28])), (q12, .inl (cA, 48, .inl (fun _ => 0))), (q20, .inl (cA, 48, .inl (fun _ => 0))), (q28, .inl (cA, 48, .inl (fun _ => 0)))]) := hD
  have hP := hP.sub (ws' := TRw cA aT q12 q20 q28 0 (fun _ => 0) (fun _ => 0) (fun _ => 0)) [0, 1, 2, 3] rfl
  have hD := hD.sub (ws' := TRw cA aT q12 q20 q28 0 (fun _ => 0) (fun _ => 0) (fun _ => 0)) [0, 1, 2, 3] (by decide) rfl
  exact W.vret hx hb hr (fun t ht hW => ⟨⟨(q12, q20, q28), rfl, trivial, by rw [ht]; exact hP, va_K.moved hW.alike hK, hD⟩, hS.F ht⟩) hS.2.2 dX2_init_33
