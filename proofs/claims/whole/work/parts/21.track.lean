def g_X2_clear : Int32 := 0
set_option maxHeartbeats 4000000 in
set_option maxRecDepth 100000 in
theorem c_X2_clear (l : Launch) (D : va_G) (cA cZ : ClassId) (aT : Nat) (aU : Nat) (aG : Nat) (aE : Nat) (szz : Nat) (sz : Int32) (bf : (Nat → Int32)) (gf : (Nat → Int32)) (ef : (Nat → Int32)) : MetV l yX2_clear wsX2_clear 0 0 D (tyA cA cZ) [.ref aT] (TRw cA aT aU aG aE sz bf gf ef) szz (TRw cA aT aU aG aE g_X2_clear bf gf ef) := by
  refine Met.ofW (cc := cX2_clear) (maxL := 1) (ret := none) (by decide) rfl ?_
  intro p e s m args below meth c s₁ B hml hv
  obtain ⟨rfl, hsz, hP, hK, hD0, hN⟩ := hv
  have hx := B.exec
  have hb := B.bytes
  have hr := B.returns
  have hts := atoms_spec (ws := wsX2_clear) B.pre
  have hown : s.vm.findClass RX2 = some m.cls := findClass_of_methodNamed B.named
  have hlocks := B.notSynchronized
  have iX2 : ∀ w ∈ wsX20, w ∈ wsX2_clear := fun _ h => List.mem_cons_of_mem _ (List.mem_append_right _ h)
  subst hsz
  have hD := hD0.self (sz := s.heap.size)
  generalize hAe : va_A (TRw cA aT aU aG aE sz bf gf ef) s.heap.size = A at hD ⊢
  have hA : ∀ q : Nat, s.heap.size ≤ q → A q := fun q h => by rw [← hAe]; exact Or.inr h
  have hS : va_S A s.heap s.heap [] := va_S.rf
  have hP : va_P D vwCl (TRw cA aT aU aG aE sz bf gf ef) s.heap := hP
  obtain ⟨G, hG⟩ : ∃ G, G = g_X2_clear := ⟨_, rfl⟩
  rw [← hG]
  have hl := lv_entry ([.ref aT]) (n := 1) (Nat.le_of_ble_eq_true rfl)
  rw [lg_entry_eq]
  generalize (lg_sl ([.ref aT]) ++ List.replicate (1 - (lg_sl ([.ref aT])).length) Slot.unset).toArray = ls at hl ⊢
  have hl : lv_has ls 1 [(0, .ref aT)] := hl
  refine lv_aload_n hx hb dX2_clear_0 rfl (lv_at hl 0 rfl) ?_
  refine lv_iconst (v := 0) hx hb dX2_clear_1 (by decide) ?_
  refine va_put (D := D) (ci := 2) (v := .int 0) (ty := .int) (C := RX2) (T := TX2) (N := 4) hx hb hts iX2 tyX2 tyX2_ok nmX2 hown hK hP hD hS 0 rfl rfl 0 (by decide) (hts (.fieldLink RX2 9 "LightBursts$Track" "size" "I") (List.mem_of_getElem? (i := 1) rfl)) (fun _ h9 => h9) rfl (tyX2_ok 0 (by decide)) rfl rfl (Nat.le_of_ble_eq_true rfl) dX2_clear_2 (fun H locs hP hD hS => ?_)
  have hP : va_P D vwCl (TRw cA aT aU aG aE 0 bf gf ef) H := hP
  have hD : va_D A (TRw cA aT aU aG aE 0 bf gf ef) := hD
  rw [g_X2_clear] at hG
  rw [hG]
  exact W.vret hx hb hr (fun t ht hW => ⟨⟨(), rfl, trivial, by rw [ht]; exact hP, va_K.moved hW.alike hK, hD⟩, hS.F ht⟩) hS.2.2 dX2_clear_5

def g_X2_has (sz : Int32) (x1 : Int32) : Int32 := (g_X3_isBelow x1 sz)
set_option maxHeartbeats 4000000 in
set_option maxRecDepth 100000 in
theorem c_X2_has (l : Launch) (D : va_G) (cA cZ : ClassId) (aT : Nat) (aU : Nat) (aG : Nat) (aE : Nat) (szz : Nat) (sz : Int32) (bf : (Nat → Int32)) (gf : (Nat → Int32)) (ef : (Nat → Int32)) (x1 : Int32) : MetI l yX2_has wsX2_has 1 21 D (tyA cA cZ) [.ref aT, .int x1] (TRw cA aT aU aG aE sz bf gf ef) szz (g_X2_has sz x1) (TRw cA aT aU aG aE sz bf gf ef) := by
  refine Met.ofW (cc := cX2_has) (maxL := 2) (ret := (some .boolean)) (by decide) rfl ?_
  intro p e s m args below meth c s₁ B hml hv
  obtain ⟨rfl, hsz, hP, hK, hD0, hN⟩ := hv
  have hx := B.exec
  have hb := B.bytes
  have hr := B.returns
  have hts := atoms_spec (ws := wsX2_has) B.pre
  have hown : s.vm.findClass RX2 = some m.cls := findClass_of_methodNamed B.named
  have hlocks := B.notSynchronized
  have iX2 : ∀ w ∈ wsX20, w ∈ wsX2_has := fun _ h => List.mem_cons_of_mem _ (List.mem_append_right _ h)
  subst hsz
  have hD := hD0.self (sz := s.heap.size)
  generalize hAe : va_A (TRw cA aT aU aG aE sz bf gf ef) s.heap.size = A at hD ⊢
  have hA : ∀ q : Nat, s.heap.size ≤ q → A q := fun q h => by rw [← hAe]; exact Or.inr h
  have hS : va_S A s.heap s.heap [] := va_S.rf
  have hP : va_P D vwCl (TRw cA aT aU aG aE sz bf gf ef) s.heap := hP
  obtain ⟨G, hG⟩ : ∃ G, G = (g_X2_has sz x1) := ⟨_, rfl⟩
  rw [← hG]
  have hl := lv_entry ([.ref aT, .int x1]) (n := 2) (Nat.le_of_ble_eq_true rfl)
  rw [lg_entry_eq]
  generalize (lg_sl ([.ref aT, .int x1]) ++ List.replicate (2 - (lg_sl ([.ref aT, .int x1])).length) Slot.unset).toArray = ls at hl ⊢
  have hl : lv_has ls 2 [(0, .ref aT), (1, .int x1)] := hl
  refine lv_iload_n hx hb dX2_has_0 rfl (lv_at hl 1 rfl) ?_
  refine lv_aload_n hx hb dX2_has_1 rfl (lv_at hl 0 rfl) ?_
  refine va_get (D := D) (ci := 2) (v := .int sz) (C := RX2) (T := TX2) (N := 4) hx hb hts iX2 hown hK hP 0 rfl rfl 0 (by decide) (hts (.fieldLink RX2 9 "LightBursts$Track" "size" "I") (List.mem_of_getElem? (i := 1) rfl)) (fun _ h9 => h9) rfl dX2_has_2 ?_
  refine kI (wr := TRw cA aT aU aG aE sz bf gf ef) (W1 := ([] : va_W)) (wsN := TRw cA aT aU aG aE sz bf gf ef) (rSN (As := [.int x1, .int sz]) (rest := []) (W0 := ([] : va_W)) ⟨hx, hb, hml, hown, hts⟩ (c_X3_isBelow l D cA cZ s.heap.size x1 sz) ⟨va_cnB 2 hts gX2_has_X3_isBelow_n25 rfl rfl rfl (hN (.methodLinkNest RX2 25 yX3_isBelow RX3) (List.mem_of_getElem? (i := 17) rfl)) (hts (.initialized RX3) (List.mem_of_getElem? (i := 3) rfl)) (by decide +kernel) ⟨Nat.le_of_ble_eq_true rfl, Nat.le_of_ble_eq_true rfl⟩, (hts (.static yX3_isBelow) (List.mem_of_getElem? (i := 2) rfl)), trivial⟩ hP hD hK hN ([] : List Nat) rfl rfl rfl hl.1 rfl (Nat.le_of_ble_eq_true rfl) dX2_has_5 ⟨Nat.zero_le _, Nat.zero_le _⟩) hP hD hS hA [] [0, 1, 2, 3] [0, 1, 2, 3] rfl rfl rfl (by decide) rfl rfl (fun H locs hP hD hS => ?_)
  rw [g_X2_has] at hG
  rw [hG]
  exact W.zret (v := (g_X3_isBelow x1 sz)) hx hb hr (nb_01 (by first | assumption | exact b_isBelow _ _)) (fun t ht hW => ⟨⟨_, (), rfl, rfl, by rw [ht]; exact hP, va_K.moved hW.alike hK, hD⟩, hS.F ht⟩) hS.2.2 dX2_has_8

theorem has_in {a b : Int32} (h : ¬ g_X2_has b a = 0) (hb : b ≤ 48) : vp_in a 48 := by
  have e : (48 : Int32).toInt = 48 := rfl
  rw [Int32.le_iff_toInt_le, e] at hb
  have h1 := below_iff.mp h
  rw [vp_in_iff]; omega

def g_X2_begin (sz : Int32) (gf : (Nat → Int32)) (x1 : Int32) : Int32 := (if (g_X2_has sz x1) = 0 then (-6) else (gf x1.toNatClampNeg))
set_option maxHeartbeats 4000000 in
set_option maxRecDepth 100000 in
theorem c_X2_begin (l : Launch) (D : va_G) (cA cZ : ClassId) (aT : Nat) (aU : Nat) (aG : Nat) (aE : Nat) (szz : Nat) (sz : Int32) (bf : (Nat → Int32)) (gf : (Nat → Int32)) (ef : (Nat → Int32)) (x1 : Int32) (hsz : sz ≤ 48) : MetI l yX2_begin wsX2_begin 2 42 D (tyA cA cZ) [.ref aT, .int x1] (TRw cA aT aU aG aE sz bf gf ef) szz (g_X2_begin sz gf x1) (TRw cA aT aU aG aE sz bf gf ef) := by
  refine Met.ofW (cc := cX2_begin) (maxL := 2) (ret := (some .int)) (by decide) rfl ?_
  intro p e s m args below meth c s₁ B hml hv
  obtain ⟨rfl, hsz, hP, hK, hD0, hN⟩ := hv
  have hx := B.exec
  have hb := B.bytes
  have hr := B.returns
  have hts := atoms_spec (ws := wsX2_begin) B.pre
  have hown : s.vm.findClass RX2 = some m.cls := findClass_of_methodNamed B.named
  have hlocks := B.notSynchronized
  have iX2 : ∀ w ∈ wsX20, w ∈ wsX2_begin := fun _ h => List.mem_cons_of_mem _ (List.mem_append_right _ h)
  subst hsz
  have hD := hD0.self (sz := s.heap.size)
  generalize hAe : va_A (TRw cA aT aU aG aE sz bf gf ef) s.heap.size = A at hD ⊢
  have hA : ∀ q : Nat, s.heap.size ≤ q → A q := fun q h => by rw [← hAe]; exact Or.inr h
  have hS : va_S A s.heap s.heap [] := va_S.rf
  have hP : va_P D vwCl (TRw cA aT aU aG aE sz bf gf ef) s.heap := hP
  obtain ⟨G, hG⟩ : ∃ G, G = (g_X2_begin sz gf x1) := ⟨_, rfl⟩
  rw [← hG]
  have hl := lv_entry ([.ref aT, .int x1]) (n := 2) (Nat.le_of_ble_eq_true rfl)
  rw [lg_entry_eq]
  generalize (lg_sl ([.ref aT, .int x1]) ++ List.replicate (2 - (lg_sl ([.ref aT, .int x1])).length) Slot.unset).toArray = ls at hl ⊢
  have hl : lv_has ls 2 [(0, .ref aT), (1, .int x1)] := hl
  refine lv_aload_n hx hb dX2_begin_0 rfl (lv_at hl 0 rfl) ?_
  refine lv_iload_n hx hb dX2_begin_1 rfl (lv_at hl 1 rfl) ?_
  refine kI (wr := ([] : va_W)) (W1 := TRw cA aT aU aG aE sz bf gf ef) (wsN := TRw cA aT aU aG aE sz bf gf ef) (rV (As := [.int x1]) (rest := []) (W0 := TRw cA aT aU aG aE sz bf gf ef) ⟨hx, hb, hml, hown, hts⟩ (c_X2_has l D cA cZ aT aU aG aE s.heap.size sz bf gf ef x1) (cwV 1 hts gX2_begin_X2_has rfl rfl rfl (by decide +kernel) ⟨Nat.le_of_ble_eq_true rfl, Nat.le_of_ble_eq_true rfl⟩) hP hD hK hN ([0, 1, 2, 3] : List Nat) rfl rfl 2 0 rfl rfl rfl hl.1 rfl (Nat.le_of_ble_eq_true rfl) dX2_begin_2 ⟨Nat.zero_le _, Nat.zero_le _⟩) hP hD hS hA [0, 1, 2, 3] [] [0, 1, 2, 3] rfl rfl rfl (by decide) rfl rfl (fun H locs hP hD hS => ?_)
  refine lv_if_eq (tgt := 17) hx hb dX2_begin_5 (by decide) (fun c_1 => ?_) (fun c_1 => ?_)
  · refine lv_bipush (v := (-6)) hx hb dX2_begin_17 (by decide) ?_
    rw [g_X2_begin, if_pos c_1] at hG
    rw [hG]
    exact W.iret (v := (-6)) hx hb hr (fun t ht hW => ⟨⟨_, (), rfl, rfl, by rw [ht]; exact hP, va_K.moved hW.alike hK, hD⟩, hS.F ht⟩) hS.2.2 dX2_begin_19
  · refine lv_aload_n hx hb dX2_begin_8 rfl (lv_at hl 0 rfl) ?_
    refine va_get (D := D) (ci := 2) (v := .ref aG) (C := RX2) (T := TX2) (N := 4) hx hb hts iX2 hown hK hP 0 rfl rfl 2 (by decide) (hts (.fieldLink RX2 19 "LightBursts$Track" "begins" "[I") (List.mem_of_getElem? (i := 1) rfl)) (fun _ h9 => h9) rfl dX2_begin_9 ?_
    refine lv_iload_n hx hb dX2_begin_12 rfl (lv_at hl 1 rfl) ?_
    refine va_iald hx hb hK hP 2 0 rfl rfl (has_in c_1 hsz) dX2_begin_13 ?_
    refine lv_goto (tgt := 19) hx hb dX2_begin_14 (by decide) ?_
    rw [g_X2_begin, if_neg c_1] at hG
    rw [hG]
    exact W.iret (v := (gf x1.toNatClampNeg)) hx hb hr (fun t ht hW => ⟨⟨_, (), rfl, rfl, by rw [ht]; exact hP, va_K.moved hW.alike hK, hD⟩, hS.F ht⟩) hS.2.2 dX2_begin_19

def g_X2_ticks (sz : Int32) (gf : (Nat → Int32)) (ef : (Nat → Int32)) (x1 : Int32) : Int32 := (if (g_X2_has sz x1) = 0 then (-6) else ((ef x1.toNatClampNeg) - (gf x1.toNatClampNeg)))
set_option maxHeartbeats 4000000 in
set_option maxRecDepth 100000 in
theorem c_X2_ticks (l : Launch) (D : va_G) (cA cZ : ClassId) (aT : Nat) (aU : Nat) (aG : Nat) (aE : Nat) (szz : Nat) (sz : Int32) (bf : (Nat → Int32)) (gf : (Nat → Int32)) (ef : (Nat → Int32)) (x1 : Int32) (hsz : sz ≤ 48) : MetI l yX2_ticks wsX2_ticks 2 42 D (tyA cA cZ) [.ref aT, .int x1] (TRw cA aT aU aG aE sz bf gf ef) szz (g_X2_ticks sz gf ef x1) (TRw cA aT aU aG aE sz bf gf ef) := by
  refine Met.ofW (cc := cX2_ticks) (maxL := 2) (ret := (some .int)) (by decide) rfl ?_
  intro p e s m args below meth c s₁ B hml hv
  obtain ⟨rfl, hsz, hP, hK, hD0, hN⟩ := hv
  have hx := B.exec
  have hb := B.bytes
  have hr := B.returns
  have hts := atoms_spec (ws := wsX2_ticks) B.pre
  have hown : s.vm.findClass RX2 = some m.cls := findClass_of_methodNamed B.named
  have hlocks := B.notSynchronized
  have iX2 : ∀ w ∈ wsX20, w ∈ wsX2_ticks := fun _ h => List.mem_cons_of_mem _ (List.mem_append_right _ h)
  subst hsz
  have hD := hD0.self (sz := s.heap.size)
  generalize hAe : va_A (TRw cA aT aU aG aE sz bf gf ef) s.heap.size = A at hD ⊢
  have hA : ∀ q : Nat, s.heap.size ≤ q → A q := fun q h => by rw [← hAe]; exact Or.inr h
  have hS : va_S A s.heap s.heap [] := va_S.rf
  have hP : va_P D vwCl (TRw cA aT aU aG aE sz bf gf ef) s.heap := hP
  obtain ⟨G, hG⟩ : ∃ G, G = (g_X2_ticks sz gf ef x1) := ⟨_, rfl⟩
  rw [← hG]
  have hl := lv_entry ([.ref aT, .int x1]) (n := 2) (Nat.le_of_ble_eq_true rfl)
  rw [lg_entry_eq]
  generalize (lg_sl ([.ref aT, .int x1]) ++ List.replicate (2 - (lg_sl ([.ref aT, .int x1])).length) Slot.unset).toArray = ls at hl ⊢
  have hl : lv_has ls 2 [(0, .ref aT), (1, .int x1)] := hl
  refine lv_aload_n hx hb dX2_ticks_0 rfl (lv_at hl 0 rfl) ?_
  refine lv_iload_n hx hb dX2_ticks_1 rfl (lv_at hl 1 rfl) ?_
  refine kI (wr := ([] : va_W)) (W1 := TRw cA aT aU aG aE sz bf gf ef) (wsN := TRw cA aT aU aG aE sz bf gf ef) (rV (As := [.int x1]) (rest := []) (W0 := TRw cA aT aU aG aE sz bf gf ef) ⟨hx, hb, hml, hown, hts⟩ (c_X2_has l D cA cZ aT aU aG aE s.heap.size sz bf gf ef x1) (cwV 1 hts gX2_ticks_X2_has rfl rfl rfl (by decide +kernel) ⟨Nat.le_of_ble_eq_true rfl, Nat.le_of_ble_eq_true rfl⟩) hP hD hK hN ([0, 1, 2, 3] : List Nat) rfl rfl 2 0 rfl rfl rfl hl.1 rfl (Nat.le_of_ble_eq_true rfl) dX2_ticks_2 ⟨Nat.zero_le _, Nat.zero_le _⟩) hP hD hS hA [0, 1, 2, 3] [] [0, 1, 2, 3] rfl rfl rfl (by decide) rfl rfl (fun H locs hP hD hS => ?_)
  refine lv_if_eq (tgt := 24) hx hb dX2_ticks_5 (by decide) (fun c_1 => ?_) (fun c_1 => ?_)
  · refine lv_bipush (v := (-6)) hx hb dX2_ticks_24 (by decide) ?_
    rw [g_X2_ticks, if_pos c_1] at hG
    rw [hG]
    exact W.iret (v := (-6)) hx hb hr (fun t ht hW => ⟨⟨_, (), rfl, rfl, by rw [ht]; exact hP, va_K.moved hW.alike hK, hD⟩, hS.F ht⟩) hS.2.2 dX2_ticks_26
  · refine lv_aload_n hx hb dX2_ticks_8 rfl (lv_at hl 0 rfl) ?_
    refine va_get (D := D) (ci := 2) (v := .ref aE) (C := RX2) (T := TX2) (N := 4) hx hb hts iX2 hown hK hP 0 rfl rfl 3 (by decide) (hts (.fieldLink RX2 22 "LightBursts$Track" "ends" "[I") (List.mem_of_getElem? (i := 1) rfl)) (fun _ h9 => h9) rfl dX2_ticks_9 ?_
    refine lv_iload_n hx hb dX2_ticks_12 rfl (lv_at hl 1 rfl) ?_
    refine va_iald hx hb hK hP 3 0 rfl rfl (has_in c_1 hsz) dX2_ticks_13 ?_
    refine lv_aload_n hx hb dX2_ticks_14 rfl (lv_at hl 0 rfl) ?_
    refine va_get (D := D) (ci := 2) (v := .ref aG) (C := RX2) (T := TX2) (N := 4) hx hb hts iX2 hown hK hP 0 rfl rfl 2 (by decide) (hts (.fieldLink RX2 19 "LightBursts$Track" "begins" "[I") (List.mem_of_getElem? (i := 2) rfl)) (fun _ h9 => h9) rfl dX2_ticks_15 ?_
    refine lv_iload_n hx hb dX2_ticks_18 rfl (lv_at hl 1 rfl) ?_
    refine va_iald hx hb hK hP 2 0 rfl rfl (has_in c_1 hsz) dX2_ticks_19 ?_
    refine lv_isub hx hb dX2_ticks_20 ?_
    refine lv_goto (tgt := 26) hx hb dX2_ticks_21 (by decide) ?_
    rw [g_X2_ticks, if_neg c_1] at hG
    rw [hG]
    exact W.iret (v := ((ef x1.toNatClampNeg) - (gf x1.toNatClampNeg))) hx hb hr (fun t ht hW => ⟨⟨_, (), rfl, rfl, by rw [ht]; exact hP, va_K.moved hW.alike hK, hD⟩, hS.F ht⟩) hS.2.2 dX2_ticks_26

def g_X2_burstOf (sz : Int32) (bf : (Nat → Int32)) (x1 : Int32) : Int32 := (if (g_X2_has sz x1) = 0 then (-6) else (bf x1.toNatClampNeg))
set_option maxHeartbeats 4000000 in
set_option maxRecDepth 100000 in
theorem c_X2_burstOf (l : Launch) (D : va_G) (cA cZ : ClassId) (aT : Nat) (aU : Nat) (aG : Nat) (aE : Nat) (szz : Nat) (sz : Int32) (bf : (Nat → Int32)) (gf : (Nat → Int32)) (ef : (Nat → Int32)) (x1 : Int32) (hsz : sz ≤ 48) : MetI l yX2_burstOf wsX2_burstOf 2 42 D (tyA cA cZ) [.ref aT, .int x1] (TRw cA aT aU aG aE sz bf gf ef) szz (g_X2_burstOf sz bf x1) (TRw cA aT aU aG aE sz bf gf ef) := by
  refine Met.ofW (cc := cX2_burstOf) (maxL := 2) (ret := (some .int)) (by decide) rfl ?_
  intro p e s m args below meth c s₁ B hml hv
  obtain ⟨rfl, hsz, hP, hK, hD0, hN⟩ := hv
  have hx := B.exec
  have hb := B.bytes
  have hr := B.returns
  have hts := atoms_spec (ws := wsX2_burstOf) B.pre
  have hown : s.vm.findClass RX2 = some m.cls := findClass_of_methodNamed B.named
  have hlocks := B.notSynchronized
  have iX2 : ∀ w ∈ wsX20, w ∈ wsX2_burstOf := fun _ h => List.mem_cons_of_mem _ (List.mem_append_right _ h)
  subst hsz
  have hD := hD0.self (sz := s.heap.size)
  generalize hAe : va_A (TRw cA aT aU aG aE sz bf gf ef) s.heap.size = A at hD ⊢
  have hA : ∀ q : Nat, s.heap.size ≤ q → A q := fun q h => by rw [← hAe]; exact Or.inr h
  have hS : va_S A s.heap s.heap [] := va_S.rf
  have hP : va_P D vwCl (TRw cA aT aU aG aE sz bf gf ef) s.heap := hP
  obtain ⟨G, hG⟩ : ∃ G, G = (g_X2_burstOf sz bf x1) := ⟨_, rfl⟩
  rw [← hG]
  have hl := lv_entry ([.ref aT, .int x1]) (n := 2) (Nat.le_of_ble_eq_true rfl)
  rw [lg_entry_eq]
  generalize (lg_sl ([.ref aT, .int x1]) ++ List.replicate (2 - (lg_sl ([.ref aT, .int x1])).length) Slot.unset).toArray = ls at hl ⊢
  have hl : lv_has ls 2 [(0, .ref aT), (1, .int x1)] := hl
  refine lv_aload_n hx hb dX2_burstOf_0 rfl (lv_at hl 0 rfl) ?_
  refine lv_iload_n hx hb dX2_burstOf_1 rfl (lv_at hl 1 rfl) ?_
  refine kI (wr := ([] : va_W)) (W1 := TRw cA aT aU aG aE sz bf gf ef) (wsN := TRw cA aT aU aG aE sz bf gf ef) (rV (As := [.int x1]) (rest := []) (W0 := TRw cA aT aU aG aE sz bf gf ef) ⟨hx, hb, hml, hown, hts⟩ (c_X2_has l D cA cZ aT aU aG aE s.heap.size sz bf gf ef x1) (cwV 1 hts gX2_burstOf_X2_has rfl rfl rfl (by decide +kernel) ⟨Nat.le_of_ble_eq_true rfl, Nat.le_of_ble_eq_true rfl⟩) hP hD hK hN ([0, 1, 2, 3] : List Nat) rfl rfl 2 0 rfl rfl rfl hl.1 rfl (Nat.le_of_ble_eq_true rfl) dX2_burstOf_2 ⟨Nat.zero_le _, Nat.zero_le _⟩) hP hD hS hA [0, 1, 2, 3] [] [0, 1, 2, 3] rfl rfl rfl (by decide) rfl rfl (fun H locs hP hD hS => ?_)
  refine lv_if_eq (tgt := 17) hx hb dX2_burstOf_5 (by decide) (fun c_1 => ?_) (fun c_1 => ?_)
  · refine lv_bipush (v := (-6)) hx hb dX2_burstOf_17 (by decide) ?_
    rw [g_X2_burstOf, if_pos c_1] at hG
    rw [hG]
    exact W.iret (v := (-6)) hx hb hr (fun t ht hW => ⟨⟨_, (), rfl, rfl, by rw [ht]; exact hP, va_K.moved hW.alike hK, hD⟩, hS.F ht⟩) hS.2.2 dX2_burstOf_19
  · refine lv_aload_n hx hb dX2_burstOf_8 rfl (lv_at hl 0 rfl) ?_
    refine va_get (D := D) (ci := 2) (v := .ref aU) (C := RX2) (T := TX2) (N := 4) hx hb hts iX2 hown hK hP 0 rfl rfl 1 (by decide) (hts (.fieldLink RX2 15 "LightBursts$Track" "bursts" "[I") (List.mem_of_getElem? (i := 1) rfl)) (fun _ h9 => h9) rfl dX2_burstOf_9 ?_
    refine lv_iload_n hx hb dX2_burstOf_12 rfl (lv_at hl 1 rfl) ?_
    refine va_iald hx hb hK hP 1 0 rfl rfl (has_in c_1 hsz) dX2_burstOf_13 ?_
    refine lv_goto (tgt := 19) hx hb dX2_burstOf_14 (by decide) ?_
    rw [g_X2_burstOf, if_neg c_1] at hG
    rw [hG]
    exact W.iret (v := (bf x1.toNatClampNeg)) hx hb hr (fun t ht hW => ⟨⟨_, (), rfl, rfl, by rw [ht]; exact hP, va_K.moved hW.alike hK, hD⟩, hS.F ht⟩) hS.2.2 dX2_burstOf_19

def g_X2_lastEnd (sz : Int32) (ef : (Nat → Int32)) : Int32 := (if (g_X2_has sz (sz - 1)) = 0 then (-6) else (ef (sz - 1).toNatClampNeg))
set_option maxHeartbeats 4000000 in
set_option maxRecDepth 100000 in
theorem c_X2_lastEnd (l : Launch) (D : va_G) (cA cZ : ClassId) (aT : Nat) (aU : Nat) (aG : Nat) (aE : Nat) (szz : Nat) (sz : Int32) (bf : (Nat → Int32)) (gf : (Nat → Int32)) (ef : (Nat → Int32)) (hsz : sz ≤ 48) : MetI l yX2_lastEnd wsX2_lastEnd 2 42 D (tyA cA cZ) [.ref aT] (TRw cA aT aU aG aE sz bf gf ef) szz (g_X2_lastEnd sz ef) (TRw cA aT aU aG aE sz bf gf ef) := by
  refine Met.ofW (cc := cX2_lastEnd) (maxL := 1) (ret := (some .int)) (by decide) rfl ?_
  intro p e s m args below meth c s₁ B hml hv
  obtain ⟨rfl, hsz, hP, hK, hD0, hN⟩ := hv
  have hx := B.exec
  have hb := B.bytes
  have hr := B.returns
  have hts := atoms_spec (ws := wsX2_lastEnd) B.pre
  have hown : s.vm.findClass RX2 = some m.cls := findClass_of_methodNamed B.named
  have hlocks := B.notSynchronized
  have iX2 : ∀ w ∈ wsX20, w ∈ wsX2_lastEnd := fun _ h => List.mem_cons_of_mem _ (List.mem_append_right _ h)
  subst hsz
  have hD := hD0.self (sz := s.heap.size)
  generalize hAe : va_A (TRw cA aT aU aG aE sz bf gf ef) s.heap.size = A at hD ⊢
  have hA : ∀ q : Nat, s.heap.size ≤ q → A q := fun q h => by rw [← hAe]; exact Or.inr h
  have hS : va_S A s.heap s.heap [] := va_S.rf
  have hP : va_P D vwCl (TRw cA aT aU aG aE sz bf gf ef) s.heap := hP
  obtain ⟨G, hG⟩ : ∃ G, G = (g_X2_lastEnd sz ef) := ⟨_, rfl⟩
  rw [← hG]
  have hl := lv_entry ([.ref aT]) (n := 1) (Nat.le_of_ble_eq_true rfl)
  rw [lg_entry_eq]
  generalize (lg_sl ([.ref aT]) ++ List.replicate (1 - (lg_sl ([.ref aT])).length) Slot.unset).toArray = ls at hl ⊢
  have hl : lv_has ls 1 [(0, .ref aT)] := hl
  refine lv_aload_n hx hb dX2_lastEnd_0 rfl (lv_at hl 0 rfl) ?_
  refine lv_aload_n hx hb dX2_lastEnd_1 rfl (lv_at hl 0 rfl) ?_
  refine va_get (D := D) (ci := 2) (v := .int sz) (C := RX2) (T := TX2) (N := 4) hx hb hts iX2 hown hK hP 0 rfl rfl 0 (by decide) (hts (.fieldLink RX2 9 "LightBursts$Track" "size" "I") (List.mem_of_getElem? (i := 1) rfl)) (fun _ h9 => h9) rfl dX2_lastEnd_2 ?_
  refine lv_iconst (v := 1) hx hb dX2_lastEnd_5 (by decide) ?_
  refine lv_isub hx hb dX2_lastEnd_6 ?_
  refine kI (wr := ([] : va_W)) (W1 := TRw cA aT aU aG aE sz bf gf ef) (wsN := TRw cA aT aU aG aE sz bf gf ef) (rV (As := [.int (sz - 1)]) (rest := []) (W0 := TRw cA aT aU aG aE sz bf gf ef) ⟨hx, hb, hml, hown, hts⟩ (c_X2_has l D cA cZ aT aU aG aE s.heap.size sz bf gf ef (sz - 1)) (cwV 1 hts gX2_lastEnd_X2_has rfl rfl rfl (by decide +kernel) ⟨Nat.le_of_ble_eq_true rfl, Nat.le_of_ble_eq_true rfl⟩) hP hD hK hN ([0, 1, 2, 3] : List Nat) rfl rfl 2 0 rfl rfl rfl hl.1 rfl (Nat.le_of_ble_eq_true rfl) dX2_lastEnd_7 ⟨Nat.zero_le _, Nat.zero_le _⟩) hP hD hS hA [0, 1, 2, 3] [] [0, 1, 2, 3] rfl rfl rfl (by decide) rfl rfl (fun H locs hP hD hS => ?_)
  refine lv_if_eq (tgt := 27) hx hb dX2_lastEnd_10 (by decide) (fun c_1 => ?_) (fun c_1 => ?_)
  · refine lv_bipush (v := (-6)) hx hb dX2_lastEnd_27 (by decide) ?_
    rw [g_X2_lastEnd, if_pos c_1] at hG
    rw [hG]
    exact W.iret (v := (-6)) hx hb hr (fun t ht hW => ⟨⟨_, (), rfl, rfl, by rw [ht]; exact hP, va_K.moved hW.alike hK, hD⟩, hS.F ht⟩) hS.2.2 dX2_lastEnd_29
  · refine lv_aload_n hx hb dX2_lastEnd_13 rfl (lv_at hl 0 rfl) ?_
    refine va_get (D := D) (ci := 2) (v := .ref aE) (C := RX2) (T := TX2) (N := 4) hx hb hts iX2 hown hK hP 0 rfl rfl 3 (by decide) (hts (.fieldLink RX2 22 "LightBursts$Track" "ends" "[I") (List.mem_of_getElem? (i := 2) rfl)) (fun _ h9 => h9) rfl dX2_lastEnd_14 ?_
    refine lv_aload_n hx hb dX2_lastEnd_17 rfl (lv_at hl 0 rfl) ?_
    refine va_get (D := D) (ci := 2) (v := .int sz) (C := RX2) (T := TX2) (N := 4) hx hb hts iX2 hown hK hP 0 rfl rfl 0 (by decide) (hts (.fieldLink RX2 9 "LightBursts$Track" "size" "I") (List.mem_of_getElem? (i := 1) rfl)) (fun _ h9 => h9) rfl dX2_lastEnd_18 ?_
    refine lv_iconst (v := 1) hx hb dX2_lastEnd_21 (by decide) ?_
    refine lv_isub hx hb dX2_lastEnd_22 ?_
    refine va_iald hx hb hK hP 3 0 rfl rfl (has_in c_1 hsz) dX2_lastEnd_23 ?_
    refine lv_goto (tgt := 29) hx hb dX2_lastEnd_24 (by decide) ?_
    rw [g_X2_lastEnd, if_neg c_1] at hG
    rw [hG]
    exact W.iret (v := (ef (sz - 1).toNatClampNeg)) hx hb hr (fun t ht hW => ⟨⟨_, (), rfl, rfl, by rw [ht]; exact hP, va_K.moved hW.alike hK, hD⟩, hS.F ht⟩) hS.2.2 dX2_lastEnd_29

def g_X2_lastEndUpTo_L5 (sz : Int32) (ef : (Nat → Int32)) (x1 : Int32) : Nat → Int32 → Int32 → (Int32)
  | 0, _, _ => 0
  | n + 1, v3, v4 => (if sz ≤ v4 then v3 else (if x1 < (ef v4.toNatClampNeg) then (g_X2_lastEndUpTo_L5 sz ef x1 n v3 (v4 + 1)) else (g_X2_lastEndUpTo_L5 sz ef x1 n (if v3 < (ef v4.toNatClampNeg) then (ef v4.toNatClampNeg) else v3) (v4 + 1))))
def g_X2_lastEndUpTo (sz : Int32) (ef : (Nat → Int32)) (x1 : Int32) (x2 : Int32) : Int32 := (g_X2_lastEndUpTo_L5 sz ef x1 (((sz).toInt - ((0 : Int32)).toInt).toNat + 1) x2 0)
set_option maxHeartbeats 4000000 in
set_option maxRecDepth 100000 in
theorem c_X2_lastEndUpTo (l : Launch) (D : va_G) (cA cZ : ClassId) (aT : Nat) (aU : Nat) (aG : Nat) (aE : Nat) (szz : Nat) (sz : Int32) (bf : (Nat → Int32)) (gf : (Nat → Int32)) (ef : (Nat → Int32)) (x1 : Int32) (x2 : Int32) (hsz : sz ≤ 48) : MetI l yX2_lastEndUpTo wsX2_lastEndUpTo 1 21 D (tyA cA cZ) [.ref aT, .int x1, .int x2] (TRw cA aT aU aG aE sz bf gf ef) szz (g_X2_lastEndUpTo sz ef x1 x2) (TRw cA aT aU aG aE sz bf gf ef) := by
  refine Met.ofW (cc := cX2_lastEndUpTo) (maxL := 5) (ret := (some .int)) (by decide) rfl ?_
  intro p e s m args below meth c s₁ B hml hv
  obtain ⟨rfl, hsz, hP, hK, hD0, hN⟩ := hv
  have hx := B.exec
  have hb := B.bytes
  have hr := B.returns
  have hts := atoms_spec (ws := wsX2_lastEndUpTo) B.pre
  have hown : s.vm.findClass RX2 = some m.cls := findClass_of_methodNamed B.named
  have hlocks := B.notSynchronized
  have iX2 : ∀ w ∈ wsX20, w ∈ wsX2_lastEndUpTo := fun _ h => List.mem_cons_of_mem _ (List.mem_append_right _ h)
  subst hsz
  have hD := hD0.self (sz := s.heap.size)
  generalize hAe : va_A (TRw cA aT aU aG aE sz bf gf ef) s.heap.size = A at hD ⊢
  have hA : ∀ q : Nat, s.heap.size ≤ q → A q := fun q h => by rw [← hAe]; exact Or.inr h
  have hS : va_S A s.heap s.heap [] := va_S.rf
  have hP : va_P D vwCl (TRw cA aT aU aG aE sz bf gf ef) s.heap := hP
  obtain ⟨G, hG⟩ : ∃ G, G = (g_X2_lastEndUpTo sz ef x1 x2) := ⟨_, rfl⟩
  rw [← hG]
  have hl := lv_entry ([.ref aT, .int x1, .int x2]) (n := 5) (Nat.le_of_ble_eq_true rfl)
  rw [lg_entry_eq]
  generalize (lg_sl ([.ref aT, .int x1, .int x2]) ++ List.replicate (5 - (lg_sl ([.ref aT, .int x1, .int x2])).length) Slot.unset).toArray = ls at hl ⊢
  have hl : lv_has ls 5 [(0, .ref aT), (1, .int x1), (2, .int x2)] := hl
  refine lv_iload_n hx hb dX2_lastEndUpTo_0 rfl (lv_at hl 2 rfl) ?_
  refine lv_istore_n (lv' := [(3, .int x2), (0, .ref aT), (1, .int x1), (2, .int x2)]) hx hb dX2_lastEndUpTo_1 rfl hl (by decide) rfl (fun ls hl => ?_)
  refine lv_iconst (v := 0) hx hb dX2_lastEndUpTo_2 (by decide) ?_
  refine lv_istore (lv' := [(4, .int 0), (3, .int x2), (0, .ref aT), (1, .int x1), (2, .int x2)]) hx hb dX2_lastEndUpTo_3 hl (by decide) rfl (fun ls hl => ?_)
  rw [g_X2_lastEndUpTo] at hG
  refine (?_ : ∀ (n : Nat) (v3 : Int32) (v4 : Int32) (H : Heap) (locs : List Loc) (ls : Array Slot), (0 ≤ v4) → ((sz).toInt - (v4).toInt).toNat < n → G = g_X2_lastEndUpTo_L5 sz ef x1 n v3 v4 → va_P D vwCl (TRw cA aT aU aG aE sz bf gf ef) H → va_D A (TRw cA aT aU aG aE sz bf gf ef) → va_S A s.heap H locs → lv_has ls 5 [(0, .ref aT), (1, .int x1), (2, .int x2), (3, .int v3), (4, .int v4)] → W p l e _ s m _ below meth c H locs _ _ _ (F0 m 5 ls [])) (((sz).toInt - ((0 : Int32)).toInt).toNat + 1) x2 0 _ _ _ (by decide) (Nat.lt_succ_self _) hG hP hD hS (lv_sub hl [2, 3, 4, 1, 0] rfl)
  clear hG hP hD hS hl
  intro n
  induction n with
  | zero => intros; omega
  | succ n5 ih5 =>
    intro v3 v4 H locs ls h0 hm5 hG hP hD hS hl
    refine lv_iload hx hb dX2_lastEndUpTo_5 (lv_at hl 4 rfl) ?_
    refine lv_aload_n hx hb dX2_lastEndUpTo_7 rfl (lv_at hl 0 rfl) ?_
    refine va_get (D := D) (ci := 2) (v := .int sz) (C := RX2) (T := TX2) (N := 4) hx hb hts iX2 hown hK hP 0 rfl rfl 0 (by decide) (hts (.fieldLink RX2 9 "LightBursts$Track" "size" "I") (List.mem_of_getElem? (i := 1) rfl)) (fun _ h9 => h9) rfl dX2_lastEndUpTo_8 ?_
    refine lv_icmp_ge (tgt := 43) hx hb dX2_lastEndUpTo_11 (by decide) (fun c_1 => ?_) (fun c_1 => ?_)
    · refine lv_iload_n hx hb dX2_lastEndUpTo_43 rfl (lv_at hl 3 rfl) ?_
      rw [g_X2_lastEndUpTo_L5, if_pos c_1] at hG
      rw [hG]
      exact W.iret (v := v3) hx hb hr (fun t ht hW => ⟨⟨_, (), rfl, rfl, by rw [ht]; exact hP, va_K.moved hW.alike hK, hD⟩, hS.F ht⟩) hS.2.2 dX2_lastEndUpTo_44
    · refine lv_aload_n hx hb dX2_lastEndUpTo_14 rfl (lv_at hl 0 rfl) ?_
      refine va_get (D := D) (ci := 2) (v := .ref aE) (C := RX2) (T := TX2) (N := 4) hx hb hts iX2 hown hK hP 0 rfl rfl 3 (by decide) (hts (.fieldLink RX2 22 "LightBursts$Track" "ends" "[I") (List.mem_of_getElem? (i := 2) rfl)) (fun _ h9 => h9) rfl dX2_lastEndUpTo_15 ?_
      refine lv_iload hx hb dX2_lastEndUpTo_18 (lv_at hl 4 rfl) ?_
      refine va_iald hx hb hK hP 3 0 rfl rfl (vin48 h0 c_1 hsz) dX2_lastEndUpTo_20 ?_
      refine lv_iload_n hx hb dX2_lastEndUpTo_21 rfl (lv_at hl 1 rfl) ?_
      refine lv_icmp_gt (tgt := 37) hx hb dX2_lastEndUpTo_22 (by decide) (fun c_2 => ?_) (fun c_2 => ?_)
      · refine lv_iinc (v := (v4 + 1)) (lv' := [(4, .int (v4 + 1)), (0, .ref aT), (1, .int x1), (2, .int x2), (3, .int v3)]) hx hb dX2_lastEndUpTo_37 hl (k := 4) rfl rfl (by decide) rfl (fun ls hl => ?_)
        refine lv_goto (tgt := 5) hx hb dX2_lastEndUpTo_40 (by decide) ?_
        rw [g_X2_lastEndUpTo_L5, if_neg c_1, if_pos c_2] at hG
        exact ih5 v3 (v4 + 1) _ _ _ (by exact up_ge h0 c_1) (by exact ms_up c_1 hm5) hG hP hD hS (lv_sub hl [1, 2, 3, 4, 0] rfl)
      · refine lv_iload_n hx hb dX2_lastEndUpTo_25 rfl (lv_at hl 3 rfl) ?_
        refine lv_aload_n hx hb dX2_lastEndUpTo_26 rfl (lv_at hl 0 rfl) ?_
        refine va_get (D := D) (ci := 2) (v := .ref aE) (C := RX2) (T := TX2) (N := 4) hx hb hts iX2 hown hK hP 0 rfl rfl 3 (by decide) (hts (.fieldLink RX2 22 "LightBursts$Track" "ends" "[I") (List.mem_of_getElem? (i := 2) rfl)) (fun _ h9 => h9) rfl dX2_lastEndUpTo_27 ?_
        refine lv_iload hx hb dX2_lastEndUpTo_30 (lv_at hl 4 rfl) ?_
        refine va_iald hx hb hK hP 3 0 rfl rfl (vin48 h0 c_1 hsz) dX2_lastEndUpTo_32 ?_
        refine va_mmax hx hb (hml.trans hl.1.symm) hown (hts (.methodLink RX2 33 Lib.Math.max.name) (List.mem_of_getElem? (i := 3) rfl)) (hts (.static Lib.Math.max.name) (List.mem_of_getElem? (i := 4) rfl)) (hts (.initialized "java/lang/Math") (List.mem_of_getElem? (i := 5) rfl)) (hts (.code Lib.Math.max.name Lib.Math.max.code 2 (some .int)) (List.mem_of_getElem? (i := 6) rfl)) (Nat.le_of_ble_eq_true rfl) (Nat.le_of_ble_eq_true rfl) (Nat.zero_le _) (Nat.zero_le _) dX2_lastEndUpTo_33 ?_
        refine lv_istore_n (lv' := [(3, .int (if v3 < (ef v4.toNatClampNeg) then (ef v4.toNatClampNeg) else v3)), (0, .ref aT), (1, .int x1), (2, .int x2), (4, .int v4)]) hx hb dX2_lastEndUpTo_36 rfl hl (by decide) rfl (fun ls hl => ?_)
        refine lv_iinc (v := (v4 + 1)) (lv' := [(4, .int (v4 + 1)), (3, .int (if v3 < (ef v4.toNatClampNeg) then (ef v4.toNatClampNeg) else v3)), (0, .ref aT), (1, .int x1), (2, .int x2)]) hx hb dX2_lastEndUpTo_37 hl (k := 4) rfl rfl (by decide) rfl (fun ls hl => ?_)
        refine lv_goto (tgt := 5) hx hb dX2_lastEndUpTo_40 (by decide) ?_
        rw [g_X2_lastEndUpTo_L5, if_neg c_1, if_neg c_2] at hG
        exact ih5 (if v3 < (ef v4.toNatClampNeg) then (ef v4.toNatClampNeg) else v3) (v4 + 1) _ _ _ (by exact up_ge h0 c_1) (by exact ms_up c_1 hm5) hG hP hD hS (lv_sub hl [2, 3, 4, 1, 0] rfl)

def g_X2_room_L6 (sz : Int32) (gf : (Nat → Int32)) (ef : (Nat → Int32)) (x1 : Int32) (x3 : Int32) : Nat → Int32 → Int32 → (Int32)
  | 0, _, _ => 0
  | n + 1, v4, v5 => (if sz ≤ v5 then (if 0 < (v4 - x1) then (v4 - x1) else 0) else (if (ef v5.toNatClampNeg) ≤ x1 then (g_X2_room_L6 sz gf ef x1 x3 n v4 (v5 + 1)) else (if x3 = 0 then (g_X2_room_L6 sz gf ef x1 x3 n (if x1 < v4 then x1 else v4) (v5 + 1)) else (g_X2_room_L6 sz gf ef x1 x3 n (if (gf v5.toNatClampNeg) < v4 then (gf v5.toNatClampNeg) else v4) (v5 + 1)))))
def g_X2_room (sz : Int32) (gf : (Nat → Int32)) (ef : (Nat → Int32)) (x1 : Int32) (x2 : Int32) (x3 : Int32) : Int32 := (g_X2_room_L6 sz gf ef x1 x3 (((sz).toInt - ((0 : Int32)).toInt).toNat + 1) x2 0)
set_option maxHeartbeats 4000000 in
set_option maxRecDepth 100000 in
theorem c_X2_room (l : Launch) (D : va_G) (cA cZ : ClassId) (aT : Nat) (aU : Nat) (aG : Nat) (aE : Nat) (szz : Nat) (sz : Int32) (bf : (Nat → Int32)) (gf : (Nat → Int32)) (ef : (Nat → Int32)) (x1 : Int32) (x2 : Int32) (x3 : Int32) (hsz : sz ≤ 48) : MetI l yX2_room wsX2_room 1 21 D (tyA cA cZ) [.ref aT, .int x1, .int x2, .int x3] (TRw cA aT aU aG aE sz bf gf ef) szz (g_X2_room sz gf ef x1 x2 x3) (TRw cA aT aU aG aE sz bf gf ef) := by
  refine Met.ofW (cc := cX2_room) (maxL := 6) (ret := (some .int)) (by decide) rfl ?_
  intro p e s m args below meth c s₁ B hml hv
  obtain ⟨rfl, hsz, hP, hK, hD0, hN⟩ := hv
  have hx := B.exec
  have hb := B.bytes
  have hr := B.returns
  have hts := atoms_spec (ws := wsX2_room) B.pre
  have hown : s.vm.findClass RX2 = some m.cls := findClass_of_methodNamed B.named
  have hlocks := B.notSynchronized
  have iX2 : ∀ w ∈ wsX20, w ∈ wsX2_room := fun _ h => List.mem_cons_of_mem _ (List.mem_append_right _ h)
  subst hsz
  have hD := hD0.self (sz := s.heap.size)
  generalize hAe : va_A (TRw cA aT aU aG aE sz bf gf ef) s.heap.size = A at hD ⊢
  have hA : ∀ q : Nat, s.heap.size ≤ q → A q := fun q h => by rw [← hAe]; exact Or.inr h
  have hS : va_S A s.heap s.heap [] := va_S.rf
  have hP : va_P D vwCl (TRw cA aT aU aG aE sz bf gf ef) s.heap := hP
  obtain ⟨G, hG⟩ : ∃ G, G = (g_X2_room sz gf ef x1 x2 x3) := ⟨_, rfl⟩
  rw [← hG]
  have hl := lv_entry ([.ref aT, .int x1, .int x2, .int x3]) (n := 6) (Nat.le_of_ble_eq_true rfl)
  rw [lg_entry_eq]
  generalize (lg_sl ([.ref aT, .int x1, .int x2, .int x3]) ++ List.replicate (6 - (lg_sl ([.ref aT, .int x1, .int x2, .int x3])).length) Slot.unset).toArray = ls at hl ⊢
  have hl : lv_has ls 6 [(0, .ref aT), (1, .int x1), (2, .int x2), (3, .int x3)] := hl
  refine lv_iload_n hx hb dX2_room_0 rfl (lv_at hl 2 rfl) ?_
  refine lv_istore (lv' := [(4, .int x2), (0, .ref aT), (1, .int x1), (2, .int x2), (3, .int x3)]) hx hb dX2_room_1 hl (by decide) rfl (fun ls hl => ?_)
  refine lv_iconst (v := 0) hx hb dX2_room_3 (by decide) ?_
  refine lv_istore (lv' := [(5, .int 0), (4, .int x2), (0, .ref aT), (1, .int x1), (2, .int x2), (3, .int x3)]) hx hb dX2_room_4 hl (by decide) rfl (fun ls hl => ?_)
  rw [g_X2_room] at hG
  refine (?_ : ∀ (n : Nat) (v4 : Int32) (v5 : Int32) (H : Heap) (locs : List Loc) (ls : Array Slot), (0 ≤ v5) → ((sz).toInt - (v5).toInt).toNat < n → G = g_X2_room_L6 sz gf ef x1 x3 n v4 v5 → va_P D vwCl (TRw cA aT aU aG aE sz bf gf ef) H → va_D A (TRw cA aT aU aG aE sz bf gf ef) → va_S A s.heap H locs → lv_has ls 6 [(0, .ref aT), (1, .int x1), (2, .int x2), (3, .int x3), (4, .int v4), (5, .int v5)] → W p l e _ s m _ below meth c H locs _ _ _ (F0 m 6 ls [])) (((sz).toInt - ((0 : Int32)).toInt).toNat + 1) x2 0 _ _ _ (by decide) (Nat.lt_succ_self _) hG hP hD hS (lv_sub hl [2, 3, 4, 5, 1, 0] rfl)
  clear hG hP hD hS hl
  intro n
  induction n with
  | zero => intros; omega
  | succ n6 ih6 =>
    intro v4 v5 H locs ls h0 hm6 hG hP hD hS hl
    refine lv_iload hx hb dX2_room_6 (lv_at hl 5 rfl) ?_
    refine lv_aload_n hx hb dX2_room_8 rfl (lv_at hl 0 rfl) ?_
    refine va_get (D := D) (ci := 2) (v := .int sz) (C := RX2) (T := TX2) (N := 4) hx hb hts iX2 hown hK hP 0 rfl rfl 0 (by decide) (hts (.fieldLink RX2 9 "LightBursts$Track" "size" "I") (List.mem_of_getElem? (i := 1) rfl)) (fun _ h9 => h9) rfl dX2_room_9 ?_
    refine lv_icmp_ge (tgt := 54) hx hb dX2_room_12 (by decide) (fun c_1 => ?_) (fun c_1 => ?_)
    · refine lv_iconst (v := 0) hx hb dX2_room_54 (by decide) ?_
      refine lv_iload hx hb dX2_room_55 (lv_at hl 4 rfl) ?_
      refine lv_iload_n hx hb dX2_room_57 rfl (lv_at hl 1 rfl) ?_
      refine lv_isub hx hb dX2_room_58 ?_
      refine va_mmax hx hb (hml.trans hl.1.symm) hown (hts (.methodLink RX2 33 Lib.Math.max.name) (List.mem_of_getElem? (i := 8) rfl)) (hts (.static Lib.Math.max.name) (List.mem_of_getElem? (i := 9) rfl)) (hts (.initialized "java/lang/Math") (List.mem_of_getElem? (i := 6) rfl)) (hts (.code Lib.Math.max.name Lib.Math.max.code 2 (some .int)) (List.mem_of_getElem? (i := 10) rfl)) (Nat.le_of_ble_eq_true rfl) (Nat.le_of_ble_eq_true rfl) (Nat.zero_le _) (Nat.zero_le _) dX2_room_59 ?_
      rw [g_X2_room_L6, if_pos c_1] at hG
      rw [hG]
      exact W.iret (v := (if 0 < (v4 - x1) then (v4 - x1) else 0)) hx hb hr (fun t ht hW => ⟨⟨_, (), rfl, rfl, by rw [ht]; exact hP, va_K.moved hW.alike hK, hD⟩, hS.F ht⟩) hS.2.2 dX2_room_62
    · refine lv_aload_n hx hb dX2_room_15 rfl (lv_at hl 0 rfl) ?_
      refine va_get (D := D) (ci := 2) (v := .ref aE) (C := RX2) (T := TX2) (N := 4) hx hb hts iX2 hown hK hP 0 rfl rfl 3 (by decide) (hts (.fieldLink RX2 22 "LightBursts$Track" "ends" "[I") (List.mem_of_getElem? (i := 2) rfl)) (fun _ h9 => h9) rfl dX2_room_16 ?_
      refine lv_iload hx hb dX2_room_19 (lv_at hl 5 rfl) ?_
      refine va_iald hx hb hK hP 3 0 rfl rfl (vin48 h0 c_1 hsz) dX2_room_21 ?_
      refine lv_iload_n hx hb dX2_room_22 rfl (lv_at hl 1 rfl) ?_
      refine lv_icmp_le (tgt := 48) hx hb dX2_room_23 (by decide) (fun c_2 => ?_) (fun c_2 => ?_)
      · refine lv_iinc (v := (v5 + 1)) (lv' := [(5, .int (v5 + 1)), (0, .ref aT), (1, .int x1), (2, .int x2), (3, .int x3), (4, .int v4)]) hx hb dX2_room_48 hl (k := 5) rfl rfl (by decide) rfl (fun ls hl => ?_)
        refine lv_goto (tgt := 6) hx hb dX2_room_51 (by decide) ?_
        rw [g_X2_room_L6, if_neg c_1, if_pos c_2] at hG
        exact ih6 v4 (v5 + 1) _ _ _ (by exact up_ge h0 c_1) (by exact ms_up c_1 hm6) hG hP hD hS (lv_sub hl [1, 2, 3, 4, 5, 0] rfl)
      · refine lv_iload hx hb dX2_room_26 (lv_at hl 4 rfl) ?_
        refine lv_iload_n hx hb dX2_room_28 rfl (lv_at hl 3 rfl) ?_
        refine lv_if_eq (tgt := 42) hx hb dX2_room_29 (by decide) (fun c_3 => ?_) (fun c_3 => ?_)
        · refine lv_iload_n hx hb dX2_room_42 rfl (lv_at hl 1 rfl) ?_
          refine va_mmin hx hb (hml.trans hl.1.symm) hown (hts (.methodLink RX2 39 Lib.Math.min.name) (List.mem_of_getElem? (i := 4) rfl)) (hts (.static Lib.Math.min.name) (List.mem_of_getElem? (i := 5) rfl)) (hts (.initialized "java/lang/Math") (List.mem_of_getElem? (i := 6) rfl)) (hts (.code Lib.Math.min.name Lib.Math.min.code 2 (some .int)) (List.mem_of_getElem? (i := 7) rfl)) (Nat.le_of_ble_eq_true rfl) (Nat.le_of_ble_eq_true rfl) (Nat.zero_le _) (Nat.zero_le _) dX2_room_43 ?_
          refine lv_istore (lv' := [(4, .int (if x1 < v4 then x1 else v4)), (0, .ref aT), (1, .int x1), (2, .int x2), (3, .int x3), (5, .int v5)]) hx hb dX2_room_46 hl (by decide) rfl (fun ls hl => ?_)
          refine lv_iinc (v := (v5 + 1)) (lv' := [(5, .int (v5 + 1)), (4, .int (if x1 < v4 then x1 else v4)), (0, .ref aT), (1, .int x1), (2, .int x2), (3, .int x3)]) hx hb dX2_room_48 hl (k := 5) rfl rfl (by decide) rfl (fun ls hl => ?_)
          refine lv_goto (tgt := 6) hx hb dX2_room_51 (by decide) ?_
          rw [g_X2_room_L6, if_neg c_1, if_neg c_2, if_pos c_3] at hG
          exact ih6 (if x1 < v4 then x1 else v4) (v5 + 1) _ _ _ (by exact up_ge h0 c_1) (by exact ms_up c_1 hm6) hG hP hD hS (lv_sub hl [2, 3, 4, 5, 1, 0] rfl)
        · refine lv_aload_n hx hb dX2_room_32 rfl (lv_at hl 0 rfl) ?_
          refine va_get (D := D) (ci := 2) (v := .ref aG) (C := RX2) (T := TX2) (N := 4) hx hb hts iX2 hown hK hP 0 rfl rfl 2 (by decide) (hts (.fieldLink RX2 19 "LightBursts$Track" "begins" "[I") (List.mem_of_getElem? (i := 3) rfl)) (fun _ h9 => h9) rfl dX2_room_33 ?_
          refine lv_iload hx hb dX2_room_36 (lv_at hl 5 rfl) ?_
          refine va_iald hx hb hK hP 2 0 rfl rfl (vin48 h0 c_1 hsz) dX2_room_38 ?_
          refine lv_goto (tgt := 43) hx hb dX2_room_39 (by decide) ?_
          refine va_mmin hx hb (hml.trans hl.1.symm) hown (hts (.methodLink RX2 39 Lib.Math.min.name) (List.mem_of_getElem? (i := 4) rfl)) (hts (.static Lib.Math.min.name) (List.mem_of_getElem? (i := 5) rfl)) (hts (.initialized "java/lang/Math") (List.mem_of_getElem? (i := 6) rfl)) (hts (.code Lib.Math.min.name Lib.Math.min.code 2 (some .int)) (List.mem_of_getElem? (i := 7) rfl)) (Nat.le_of_ble_eq_true rfl) (Nat.le_of_ble_eq_true rfl) (Nat.zero_le _) (Nat.zero_le _) dX2_room_43 ?_
          refine lv_istore (lv' := [(4, .int (if (gf v5.toNatClampNeg) < v4 then (gf v5.toNatClampNeg) else v4)), (0, .ref aT), (1, .int x1), (2, .int x2), (3, .int x3), (5, .int v5)]) hx hb dX2_room_46 hl (by decide) rfl (fun ls hl => ?_)
          refine lv_iinc (v := (v5 + 1)) (lv' := [(5, .int (v5 + 1)), (4, .int (if (gf v5.toNatClampNeg) < v4 then (gf v5.toNatClampNeg) else v4)), (0, .ref aT), (1, .int x1), (2, .int x2), (3, .int x3)]) hx hb dX2_room_48 hl (k := 5) rfl rfl (by decide) rfl (fun ls hl => ?_)
          refine lv_goto (tgt := 6) hx hb dX2_room_51 (by decide) ?_
          rw [g_X2_room_L6, if_neg c_1, if_neg c_2, if_neg c_3] at hG
          exact ih6 (if (gf v5.toNatClampNeg) < v4 then (gf v5.toNatClampNeg) else v4) (v5 + 1) _ _ _ (by exact up_ge h0 c_1) (by exact ms_up c_1 hm6) hG hP hD hS (lv_sub hl [2, 3, 4, 5, 1, 0] rfl)

def g_X2_isFree (sz : Int32) (gf : (Nat → Int32)) (ef : (Nat → Int32)) (x1 : Int32) (x2 : Int32) (x3 : Int32) : Int32 := (if (g_X2_room sz gf ef x1 x2 x3) = (x2 - x1) then 1 else 0)
set_option maxHeartbeats 4000000 in
set_option maxRecDepth 100000 in
theorem c_X2_isFree (l : Launch) (D : va_G) (cA cZ : ClassId) (aT : Nat) (aU : Nat) (aG : Nat) (aE : Nat) (szz : Nat) (sz : Int32) (bf : (Nat → Int32)) (gf : (Nat → Int32)) (ef : (Nat → Int32)) (x1 : Int32) (x2 : Int32) (x3 : Int32) (hsz : sz ≤ 48) : MetI l yX2_isFree wsX2_isFree 2 46 D (tyA cA cZ) [.ref aT, .int x1, .int x2, .int x3] (TRw cA aT aU aG aE sz bf gf ef) szz (g_X2_isFree sz gf ef x1 x2 x3) (TRw cA aT aU aG aE sz bf gf ef) := by
  refine Met.ofW (cc := cX2_isFree) (maxL := 4) (ret := (some .boolean)) (by decide) rfl ?_
  intro p e s m args below meth c s₁ B hml hv
  obtain ⟨rfl, hsz, hP, hK, hD0, hN⟩ := hv
  have hx := B.exec
  have hb := B.bytes
  have hr := B.returns
  have hts := atoms_spec (ws := wsX2_isFree) B.pre
  have hown : s.vm.findClass RX2 = some m.cls := findClass_of_methodNamed B.named
  have hlocks := B.notSynchronized
  have iX2 : ∀ w ∈ wsX20, w ∈ wsX2_isFree := fun _ h => List.mem_cons_of_mem _ (List.mem_append_right _ h)
  subst hsz
  have hD := hD0.self (sz := s.heap.size)
  generalize hAe : va_A (TRw cA aT aU aG aE sz bf gf ef) s.heap.size = A at hD ⊢
  have hA : ∀ q : Nat, s.heap.size ≤ q → A q := fun q h => by rw [← hAe]; exact Or.inr h
  have hS : va_S A s.heap s.heap [] := va_S.rf
  have hP : va_P D vwCl (TRw cA aT aU aG aE sz bf gf ef) s.heap := hP
  obtain ⟨G, hG⟩ : ∃ G, G = (g_X2_isFree sz gf ef x1 x2 x3) := ⟨_, rfl⟩
  rw [← hG]
  have hl := lv_entry ([.ref aT, .int x1, .int x2, .int x3]) (n := 4) (Nat.le_of_ble_eq_true rfl)
  rw [lg_entry_eq]
  generalize (lg_sl ([.ref aT, .int x1, .int x2, .int x3]) ++ List.replicate (4 - (lg_sl ([.ref aT, .int x1, .int x2, .int x3])).length) Slot.unset).toArray = ls at hl ⊢
  have hl : lv_has ls 4 [(0, .ref aT), (1, .int x1), (2, .int x2), (3, .int x3)] := hl
  refine lv_aload_n hx hb dX2_isFree_0 rfl (lv_at hl 0 rfl) ?_
  refine lv_iload_n hx hb dX2_isFree_1 rfl (lv_at hl 1 rfl) ?_
  refine lv_iload_n hx hb dX2_isFree_2 rfl (lv_at hl 2 rfl) ?_
  refine lv_iload_n hx hb dX2_isFree_3 rfl (lv_at hl 3 rfl) ?_
  refine kI (wr := ([] : va_W)) (W1 := TRw cA aT aU aG aE sz bf gf ef) (wsN := TRw cA aT aU aG aE sz bf gf ef) (rV (As := [.int x1, .int x2, .int x3]) (rest := []) (W0 := TRw cA aT aU aG aE sz bf gf ef) ⟨hx, hb, hml, hown, hts⟩ (c_X2_room l D cA cZ aT aU aG aE s.heap.size sz bf gf ef x1 x2 x3 (show sz ≤ 48 from by first | assumption | decide | exact bok_of (by assumption) (by assumption) (by assumption))) (cwV 3 hts gX2_isFree_X2_room rfl rfl rfl (by decide +kernel) ⟨Nat.le_of_ble_eq_true rfl, Nat.le_of_ble_eq_true rfl⟩) hP hD hK hN ([0, 1, 2, 3] : List Nat) rfl rfl 2 0 rfl rfl rfl hl.1 rfl (Nat.le_of_ble_eq_true rfl) dX2_isFree_4 ⟨Nat.zero_le _, Nat.zero_le _⟩) hP hD hS hA [0, 1, 2, 3] [] [0, 1, 2, 3] rfl rfl rfl (by decide) rfl rfl (fun H locs hP hD hS => ?_)
  refine lv_iload_n hx hb dX2_isFree_7 rfl (lv_at hl 2 rfl) ?_
  refine lv_iload_n hx hb dX2_isFree_8 rfl (lv_at hl 1 rfl) ?_
  refine lv_isub hx hb dX2_isFree_9 ?_
  refine lv_icmp_ne (tgt := 17) hx hb dX2_isFree_10 (by decide) (fun c_1 => ?_) (fun c_1 => ?_)
  · refine lv_iconst (v := 0) hx hb dX2_isFree_17 (by decide) ?_
    rw [g_X2_isFree, if_neg c_1] at hG
    rw [hG]
    exact W.zret (v := 0) hx hb hr rfl (fun t ht hW => ⟨⟨_, (), rfl, rfl, by rw [ht]; exact hP, va_K.moved hW.alike hK, hD⟩, hS.F ht⟩) hS.2.2 dX2_isFree_18
  · refine lv_iconst (v := 1) hx hb dX2_isFree_13 (by decide) ?_
    refine lv_goto (tgt := 18) hx hb dX2_isFree_14 (by decide) ?_
    rw [g_X2_isFree, if_pos c_1] at hG
    rw [hG]
    exact W.zret (v := 1) hx hb hr rfl (fun t ht hW => ⟨⟨_, (), rfl, rfl, by rw [ht]; exact hP, va_K.moved hW.alike hK, hD⟩, hS.F ht⟩) hS.2.2 dX2_isFree_18

def g_X2_pieceBegin_L15 (sz : Int32) (gf : (Nat → Int32)) (ef : (Nat → Int32)) (x1 : Int32) (x2 : Int32) (x3 : Int32) : Nat → Int32 → Int32 → Int32 → (Int32)
  | 0, _, _, _ => 0
  | n + 1, v4, v5, v6 => (if sz ≤ v6 then v4 else (if (ef v6.toNatClampNeg) ≤ x1 then (if 0 ≤ v5 then (g_X2_pieceBegin_L15 sz gf ef x1 x2 x3 n v4 v5 (v6 + 1)) else (g_X2_pieceBegin_L15 sz gf ef x1 x2 x3 n (ef v6.toNatClampNeg) 0 (v6 + 1))) else (if (g_X2_room sz gf ef (ef v6.toNatClampNeg) x2 x3) ≤ v5 then (g_X2_pieceBegin_L15 sz gf ef x1 x2 x3 n v4 v5 (v6 + 1)) else (g_X2_pieceBegin_L15 sz gf ef x1 x2 x3 n (ef v6.toNatClampNeg) (g_X2_room sz gf ef (ef v6.toNatClampNeg) x2 x3) (v6 + 1)))))
def g_X2_pieceBegin (sz : Int32) (gf : (Nat → Int32)) (ef : (Nat → Int32)) (x1 : Int32) (x2 : Int32) (x3 : Int32) : Int32 := (g_X2_pieceBegin_L15 sz gf ef x1 x2 x3 (((sz).toInt - ((0 : Int32)).toInt).toNat + 1) x1 (g_X2_room sz gf ef x1 x2 x3) 0)
set_option maxHeartbeats 4000000 in
set_option maxRecDepth 100000 in
theorem c_X2_pieceBegin (l : Launch) (D : va_G) (cA cZ : ClassId) (aT : Nat) (aU : Nat) (aG : Nat) (aE : Nat) (szz : Nat) (sz : Int32) (bf : (Nat → Int32)) (gf : (Nat → Int32)) (ef : (Nat → Int32)) (x1 : Int32) (x2 : Int32) (x3 : Int32) (hsz : sz ≤ 48) : MetI l yX2_pieceBegin wsX2_pieceBegin 2 46 D (tyA cA cZ) [.ref aT, .int x1, .int x2, .int x3] (TRw cA aT aU aG aE sz bf gf ef) szz (g_X2_pieceBegin sz gf ef x1 x2 x3) (TRw cA aT aU aG aE sz bf gf ef) := by
  refine Met.ofW (cc := cX2_pieceBegin) (maxL := 8) (ret := (some .int)) (by decide) rfl ?_
  intro p e s m args below meth c s₁ B hml hv
  obtain ⟨rfl, hsz, hP, hK, hD0, hN⟩ := hv
  have hx := B.exec
  have hb := B.bytes
  have hr := B.returns
  have hts := atoms_spec (ws := wsX2_pieceBegin) B.pre
  have hown : s.vm.findClass RX2 = some m.cls := findClass_of_methodNamed B.named
  have hlocks := B.notSynchronized
  have iX2 : ∀ w ∈ wsX20, w ∈ wsX2_pieceBegin := fun _ h => List.mem_cons_of_mem _ (List.mem_append_right _ h)
  subst hsz
  have hD := hD0.self (sz := s.heap.size)
  generalize hAe : va_A (TRw cA aT aU aG aE sz bf gf ef) s.heap.size = A at hD ⊢
  have hA : ∀ q : Nat, s.heap.size ≤ q → A q := fun q h => by rw [← hAe]; exact Or.inr h
  have hS : va_S A s.heap s.heap [] := va_S.rf
  have hP : va_P D vwCl (TRw cA aT aU aG aE sz bf gf ef) s.heap := hP
  obtain ⟨G, hG⟩ : ∃ G, G = (g_X2_pieceBegin sz gf ef x1 x2 x3) := ⟨_, rfl⟩
  rw [← hG]
  have hl := lv_entry ([.ref aT, .int x1, .int x2, .int x3]) (n := 8) (Nat.le_of_ble_eq_true rfl)
  rw [lg_entry_eq]
  generalize (lg_sl ([.ref aT, .int x1, .int x2, .int x3]) ++ List.replicate (8 - (lg_sl ([.ref aT, .int x1, .int x2, .int x3])).length) Slot.unset).toArray = ls at hl ⊢
  have hl : lv_has ls 8 [(0, .ref aT), (1, .int x1), (2, .int x2), (3, .int x3)] := hl
  refine lv_iload_n hx hb dX2_pieceBegin_0 rfl (lv_at hl 1 rfl) ?_
  refine lv_istore (lv' := [(4, .int x1), (0, .ref aT), (1, .int x1), (2, .int x2), (3, .int x3)]) hx hb dX2_pieceBegin_1 hl (by decide) rfl (fun ls hl => ?_)
  refine lv_aload_n hx hb dX2_pieceBegin_3 rfl (lv_at hl 1 rfl) ?_
  refine lv_iload_n hx hb dX2_pieceBegin_4 rfl (lv_at hl 2 rfl) ?_
  refine lv_iload_n hx hb dX2_pieceBegin_5 rfl (lv_at hl 3 rfl) ?_
  refine lv_iload_n hx hb dX2_pieceBegin_6 rfl (lv_at hl 4 rfl) ?_
  refine kI (wr := ([] : va_W)) (W1 := TRw cA aT aU aG aE sz bf gf ef) (wsN := TRw cA aT aU aG aE sz bf gf ef) (rV (As := [.int x1, .int x2, .int x3]) (rest := []) (W0 := TRw cA aT aU aG aE sz bf gf ef) ⟨hx, hb, hml, hown, hts⟩ (c_X2_room l D cA cZ aT aU aG aE s.heap.size sz bf gf ef x1 x2 x3 (show sz ≤ 48 from by first | assumption | decide | exact bok_of (by assumption) (by assumption) (by assumption))) (cwV 3 hts gX2_pieceBegin_X2_room rfl rfl rfl (by decide +kernel) ⟨Nat.le_of_ble_eq_true rfl, Nat.le_of_ble_eq_true rfl⟩) hP hD hK hN ([0, 1, 2, 3] : List Nat) rfl rfl 2 0 rfl rfl rfl hl.1 rfl (Nat.le_of_ble_eq_true rfl) dX2_pieceBegin_7 ⟨Nat.zero_le _, Nat.zero_le _⟩) hP hD hS hA [0, 1, 2, 3] [] [0, 1, 2, 3] rfl rfl rfl (by decide) rfl rfl (fun H locs hP hD hS => ?_)
  refine lv_istore (lv' := [(5, .int (g_X2_room sz gf ef x1 x2 x3)), (4, .int x1), (0, .ref aT), (1, .int x1), (2, .int x2), (3, .int x3)]) hx hb dX2_pieceBegin_10 hl (by decide) rfl (fun ls hl => ?_)
  refine lv_iconst (v := 0) hx hb dX2_pieceBegin_12 (by decide) ?_
  refine lv_istore (lv' := [(6, .int 0), (5, .int (g_X2_room sz gf ef x1 x2 x3)), (4, .int x1), (0, .ref aT), (1, .int x1), (2, .int x2), (3, .int x3)]) hx hb dX2_pieceBegin_13 hl (by decide) rfl (fun ls hl => ?_)
  rw [g_X2_pieceBegin] at hG
  refine (?_ : ∀ (n : Nat) (v4 : Int32) (v5 : Int32) (v6 : Int32) (H : Heap) (locs : List Loc) (ls : Array Slot), (0 ≤ v6) → ((sz).toInt - (v6).toInt).toNat < n → G = g_X2_pieceBegin_L15 sz gf ef x1 x2 x3 n v4 v5 v6 → va_P D vwCl (TRw cA aT aU aG aE sz bf gf ef) H → va_D A (TRw cA aT aU aG aE sz bf gf ef) → va_S A s.heap H locs → lv_has ls 8 [(0, .ref aT), (1, .int x1), (2, .int x2), (3, .int x3), (4, .int v4), (5, .int v5), (6, .int v6)] → W p l e _ s m _ below meth c H locs _ _ _ (F0 m 15 ls [])) (((sz).toInt - ((0 : Int32)).toInt).toNat + 1) x1 (g_X2_room sz gf ef x1 x2 x3) 0 _ _ _ (by decide) (Nat.lt_succ_self _) hG hP hD hS (lv_sub hl [3, 4, 5, 6, 2, 1, 0] rfl)
  clear hG hP hD hS hl
  intro n
  induction n with
  | zero => intros; omega
  | succ n15 ih15 =>
    intro v4 v5 v6 H locs ls h0 hm15 hG hP hD hS hl
    refine lv_iload hx hb dX2_pieceBegin_15 (lv_at hl 6 rfl) ?_
    refine lv_aload_n hx hb dX2_pieceBegin_17 rfl (lv_at hl 0 rfl) ?_
    refine va_get (D := D) (ci := 2) (v := .int sz) (C := RX2) (T := TX2) (N := 4) hx hb hts iX2 hown hK hP 0 rfl rfl 0 (by decide) (hts (.fieldLink RX2 9 "LightBursts$Track" "size" "I") (List.mem_of_getElem? (i := 1) rfl)) (fun _ h9 => h9) rfl dX2_pieceBegin_18 ?_
    refine lv_icmp_ge (tgt := 80) hx hb dX2_pieceBegin_21 (by decide) (fun c_1 => ?_) (fun c_1 => ?_)
    · refine lv_iload hx hb dX2_pieceBegin_80 (lv_at hl 4 rfl) ?_
      rw [g_X2_pieceBegin_L15, if_pos c_1] at hG
      rw [hG]
      exact W.iret (v := v4) hx hb hr (fun t ht hW => ⟨⟨_, (), rfl, rfl, by rw [ht]; exact hP, va_K.moved hW.alike hK, hD⟩, hS.F ht⟩) hS.2.2 dX2_pieceBegin_82
    · refine lv_aload_n hx hb dX2_pieceBegin_24 rfl (lv_at hl 0 rfl) ?_
      refine va_get (D := D) (ci := 2) (v := .ref aE) (C := RX2) (T := TX2) (N := 4) hx hb hts iX2 hown hK hP 0 rfl rfl 3 (by decide) (hts (.fieldLink RX2 22 "LightBursts$Track" "ends" "[I") (List.mem_of_getElem? (i := 2) rfl)) (fun _ h9 => h9) rfl dX2_pieceBegin_25 ?_
      refine lv_iload hx hb dX2_pieceBegin_28 (lv_at hl 6 rfl) ?_
      refine va_iald hx hb hK hP 3 0 rfl rfl (vin48 h0 c_1 hsz) dX2_pieceBegin_30 ?_
      refine lv_iload_n hx hb dX2_pieceBegin_31 rfl (lv_at hl 1 rfl) ?_
      refine lv_icmp_le (tgt := 51) hx hb dX2_pieceBegin_32 (by decide) (fun c_2 => ?_) (fun c_2 => ?_)
      · refine lv_iconst (v := 0) hx hb dX2_pieceBegin_51 (by decide) ?_
        refine lv_istore (lv' := [(7, .int 0), (0, .ref aT), (1, .int x1), (2, .int x2), (3, .int x3), (4, .int v4), (5, .int v5), (6, .int v6)]) hx hb dX2_pieceBegin_52 hl (by decide) rfl (fun ls hl => ?_)
        refine lv_iload hx hb dX2_pieceBegin_54 (lv_at hl 0 rfl) ?_
        refine lv_iload hx hb dX2_pieceBegin_56 (lv_at hl 6 rfl) ?_
        refine lv_icmp_le (tgt := 74) hx hb dX2_pieceBegin_58 (by decide) (fun c_3 => ?_) (fun c_3 => ?_)
        · refine lv_iinc (v := (v6 + 1)) (lv' := [(6, .int (v6 + 1)), (7, .int 0), (0, .ref aT), (1, .int x1), (2, .int x2), (3, .int x3), (4, .int v4), (5, .int v5)]) hx hb dX2_pieceBegin_74 hl (k := 7) rfl rfl (by decide) rfl (fun ls hl => ?_)
          refine lv_goto (tgt := 15) hx hb dX2_pieceBegin_77 (by decide) ?_
          rw [g_X2_pieceBegin_L15, if_neg c_1, if_pos c_2, if_pos c_3] at hG
          exact ih15 v4 v5 (v6 + 1) _ _ _ (by exact up_ge h0 c_1) (by exact ms_up c_1 hm15) hG hP hD hS (lv_sub hl [2, 3, 4, 5, 6, 7, 0] rfl)
        · refine lv_aload_n hx hb dX2_pieceBegin_61 rfl (lv_at hl 1 rfl) ?_
          refine va_get (D := D) (ci := 2) (v := .ref aE) (C := RX2) (T := TX2) (N := 4) hx hb hts iX2 hown hK hP 0 rfl rfl 3 (by decide) (hts (.fieldLink RX2 22 "LightBursts$Track" "ends" "[I") (List.mem_of_getElem? (i := 2) rfl)) (fun _ h9 => h9) rfl dX2_pieceBegin_62 ?_
          refine lv_iload hx hb dX2_pieceBegin_65 (lv_at hl 7 rfl) ?_
          refine va_iald hx hb hK hP 3 0 rfl rfl (vin48 h0 c_1 hsz) dX2_pieceBegin_67 ?_
          refine lv_istore (lv' := [(4, .int (ef v6.toNatClampNeg)), (7, .int 0), (0, .ref aT), (1, .int x1), (2, .int x2), (3, .int x3), (5, .int v5), (6, .int v6)]) hx hb dX2_pieceBegin_68 hl (by decide) rfl (fun ls hl => ?_)
          refine lv_iload hx hb dX2_pieceBegin_70 (lv_at hl 1 rfl) ?_
          refine lv_istore (lv' := [(5, .int 0), (4, .int (ef v6.toNatClampNeg)), (7, .int 0), (0, .ref aT), (1, .int x1), (2, .int x2), (3, .int x3), (6, .int v6)]) hx hb dX2_pieceBegin_72 hl (by decide) rfl (fun ls hl => ?_)
          refine lv_iinc (v := (v6 + 1)) (lv' := [(6, .int (v6 + 1)), (5, .int 0), (4, .int (ef v6.toNatClampNeg)), (7, .int 0), (0, .ref aT), (1, .int x1), (2, .int x2), (3, .int x3)]) hx hb dX2_pieceBegin_74 hl (k := 7) rfl rfl (by decide) rfl (fun ls hl => ?_)
          refine lv_goto (tgt := 15) hx hb dX2_pieceBegin_77 (by decide) ?_
          rw [g_X2_pieceBegin_L15, if_neg c_1, if_pos c_2, if_neg c_3] at hG
          exact ih15 (ef v6.toNatClampNeg) 0 (v6 + 1) _ _ _ (by exact up_ge h0 c_1) (by exact ms_up c_1 hm15) hG hP hD hS (lv_sub hl [4, 5, 6, 7, 2, 1, 0] rfl)
      · refine lv_aload_n hx hb dX2_pieceBegin_35 rfl (lv_at hl 0 rfl) ?_
        refine lv_aload_n hx hb dX2_pieceBegin_36 rfl (lv_at hl 0 rfl) ?_
        refine va_get (D := D) (ci := 2) (v := .ref aE) (C := RX2) (T := TX2) (N := 4) hx hb hts iX2 hown hK hP 0 rfl rfl 3 (by decide) (hts (.fieldLink RX2 22 "LightBursts$Track" "ends" "[I") (List.mem_of_getElem? (i := 2) rfl)) (fun _ h9 => h9) rfl dX2_pieceBegin_37 ?_
        refine lv_iload hx hb dX2_pieceBegin_40 (lv_at hl 6 rfl) ?_
        refine va_iald hx hb hK hP 3 0 rfl rfl (vin48 h0 c_1 hsz) dX2_pieceBegin_42 ?_
        refine lv_iload_n hx hb dX2_pieceBegin_43 rfl (lv_at hl 2 rfl) ?_
        refine lv_iload_n hx hb dX2_pieceBegin_44 rfl (lv_at hl 3 rfl) ?_
        refine kI (wr := ([] : va_W)) (W1 := TRw cA aT aU aG aE sz bf gf ef) (wsN := TRw cA aT aU aG aE sz bf gf ef) (rV (As := [.int (ef v6.toNatClampNeg), .int x2, .int x3]) (rest := []) (W0 := TRw cA aT aU aG aE sz bf gf ef) ⟨hx, hb, hml, hown, hts⟩ (c_X2_room l D cA cZ aT aU aG aE H.size sz bf gf ef (ef v6.toNatClampNeg) x2 x3 (show sz ≤ 48 from by first | assumption | decide | exact bok_of (by assumption) (by assumption) (by assumption))) (cwV 3 hts gX2_pieceBegin_X2_room rfl rfl rfl (by decide +kernel) ⟨Nat.le_of_ble_eq_true rfl, Nat.le_of_ble_eq_true rfl⟩) hP hD hK hN ([0, 1, 2, 3] : List Nat) rfl rfl 2 0 rfl rfl rfl hl.1 rfl (Nat.le_of_ble_eq_true rfl) dX2_pieceBegin_45 ⟨Nat.zero_le _, Nat.zero_le _⟩) hP hD hS hA [0, 1, 2, 3] [] [0, 1, 2, 3] rfl rfl rfl (by decide) rfl rfl (fun H locs hP hD hS => ?_)
        refine lv_goto (tgt := 52) hx hb dX2_pieceBegin_48 (by decide) ?_
        refine lv_istore (lv' := [(7, .int (g_X2_room sz gf ef (ef v6.toNatClampNeg) x2 x3)), (0, .ref aT), (1, .int x1), (2, .int x2), (3, .int x3), (4, .int v4), (5, .int v5), (6, .int v6)]) hx hb dX2_pieceBegin_52 hl (by decide) rfl (fun ls hl => ?_)
        refine lv_iload hx hb dX2_pieceBegin_54 (lv_at hl 0 rfl) ?_
        refine lv_iload hx hb dX2_pieceBegin_56 (lv_at hl 6 rfl) ?_
        refine lv_icmp_le (tgt := 74) hx hb dX2_pieceBegin_58 (by decide) (fun c_4 => ?_) (fun c_4 => ?_)
        · refine lv_iinc (v := (v6 + 1)) (lv' := [(6, .int (v6 + 1)), (7, .int (g_X2_room sz gf ef (ef v6.toNatClampNeg) x2 x3)), (0, .ref aT), (1, .int x1), (2, .int x2), (3, .int x3), (4, .int v4), (5, .int v5)]) hx hb dX2_pieceBegin_74 hl (k := 7) rfl rfl (by decide) rfl (fun ls hl => ?_)
          refine lv_goto (tgt := 15) hx hb dX2_pieceBegin_77 (by decide) ?_
          rw [g_X2_pieceBegin_L15, if_neg c_1, if_neg c_2, if_pos c_4] at hG
          exact ih15 v4 v5 (v6 + 1) _ _ _ (by exact up_ge h0 c_1) (by exact ms_up c_1 hm15) hG hP hD hS (lv_sub hl [2, 3, 4, 5, 6, 7, 0] rfl)
        · refine lv_aload_n hx hb dX2_pieceBegin_61 rfl (lv_at hl 1 rfl) ?_
          refine va_get (D := D) (ci := 2) (v := .ref aE) (C := RX2) (T := TX2) (N := 4) hx hb hts iX2 hown hK hP 0 rfl rfl 3 (by decide) (hts (.fieldLink RX2 22 "LightBursts$Track" "ends" "[I") (List.mem_of_getElem? (i := 2) rfl)) (fun _ h9 => h9) rfl dX2_pieceBegin_62 ?_
          refine lv_iload hx hb dX2_pieceBegin_65 (lv_at hl 7 rfl) ?_
          refine va_iald hx hb hK hP 3 0 rfl rfl (vin48 h0 c_1 hsz) dX2_pieceBegin_67 ?_
          refine lv_istore (lv' := [(4, .int (ef v6.toNatClampNeg)), (7, .int (g_X2_room sz gf ef (ef v6.toNatClampNeg) x2 x3)), (0, .ref aT), (1, .int x1), (2, .int x2), (3, .int x3), (5, .int v5), (6, .int v6)]) hx hb dX2_pieceBegin_68 hl (by decide) rfl (fun ls hl => ?_)
          refine lv_iload hx hb dX2_pieceBegin_70 (lv_at hl 1 rfl) ?_
          refine lv_istore (lv' := [(5, .int (g_X2_room sz gf ef (ef v6.toNatClampNeg) x2 x3)), (4, .int (ef v6.toNatClampNeg)), (7, .int (g_X2_room sz gf ef (ef v6.toNatClampNeg) x2 x3)), (0, .ref aT), (1, .int x1), (2, .int x2), (3, .int x3), (6, .int v6)]) hx hb dX2_pieceBegin_72 hl (by decide) rfl (fun ls hl => ?_)
          refine lv_iinc (v := (v6 + 1)) (lv' := [(6, .int (v6 + 1)), (5, .int (g_X2_room sz gf ef (ef v6.toNatClampNeg) x2 x3)), (4, .int (ef v6.toNatClampNeg)), (7, .int (g_X2_room sz gf ef (ef v6.toNatClampNeg) x2 x3)), (0, .ref aT), (1, .int x1), (2, .int x2), (3, .int x3)]) hx hb dX2_pieceBegin_74 hl (k := 7) rfl rfl (by decide) rfl (fun ls hl => ?_)
          refine lv_goto (tgt := 15) hx hb dX2_pieceBegin_77 (by decide) ?_
          rw [g_X2_pieceBegin_L15, if_neg c_1, if_neg c_2, if_neg c_4] at hG
          exact ih15 (ef v6.toNatClampNeg) (g_X2_room sz gf ef (ef v6.toNatClampNeg) x2 x3) (v6 + 1) _ _ _ (by exact up_ge h0 c_1) (by exact ms_up c_1 hm15) hG hP hD hS (lv_sub hl [4, 5, 6, 7, 2, 1, 0] rfl)

def g_X2_bookedTicks_L5 (sz : Int32) (gf : (Nat → Int32)) (ef : (Nat → Int32)) (x1 : Int32) (x2 : Int32) : Nat → Int32 → Int32 → (Int32)
  | 0, _, _ => 0
  | n + 1, v3, v4 => (if sz ≤ v4 then v3 else (g_X2_bookedTicks_L5 sz gf ef x1 x2 n (v3 + (if 0 < ((if (ef v4.toNatClampNeg) < x2 then (ef v4.toNatClampNeg) else x2) - (if x1 < (gf v4.toNatClampNeg) then (gf v4.toNatClampNeg) else x1)) then ((if (ef v4.toNatClampNeg) < x2 then (ef v4.toNatClampNeg) else x2) - (if x1 < (gf v4.toNatClampNeg) then (gf v4.toNatClampNeg) else x1)) else 0)) (v4 + 1)))
def g_X2_bookedTicks (sz : Int32) (gf : (Nat → Int32)) (ef : (Nat → Int32)) (x1 : Int32) (x2 : Int32) : Int32 := (g_X2_bookedTicks_L5 sz gf ef x1 x2 (((sz).toInt - ((0 : Int32)).toInt).toNat + 1) 0 0)
set_option maxHeartbeats 4000000 in
set_option maxRecDepth 100000 in
theorem c_X2_bookedTicks (l : Launch) (D : va_G) (cA cZ : ClassId) (aT : Nat) (aU : Nat) (aG : Nat) (aE : Nat) (szz : Nat) (sz : Int32) (bf : (Nat → Int32)) (gf : (Nat → Int32)) (ef : (Nat → Int32)) (x1 : Int32) (x2 : Int32) (hsz : sz ≤ 48) : MetI l yX2_bookedTicks wsX2_bookedTicks 1 21 D (tyA cA cZ) [.ref aT, .int x1, .int x2] (TRw cA aT aU aG aE sz bf gf ef) szz (g_X2_bookedTicks sz gf ef x1 x2) (TRw cA aT aU aG aE sz bf gf ef) := by
  refine Met.ofW (cc := cX2_bookedTicks) (maxL := 5) (ret := (some .int)) (by decide) rfl ?_
  intro p e s m args below meth c s₁ B hml hv
  obtain ⟨rfl, hsz, hP, hK, hD0, hN⟩ := hv
  have hx := B.exec
  have hb := B.bytes
  have hr := B.returns
  have hts := atoms_spec (ws := wsX2_bookedTicks) B.pre
  have hown : s.vm.findClass RX2 = some m.cls := findClass_of_methodNamed B.named
  have hlocks := B.notSynchronized
  have iX2 : ∀ w ∈ wsX20, w ∈ wsX2_bookedTicks := fun _ h => List.mem_cons_of_mem _ (List.mem_append_right _ h)
  subst hsz
  have hD := hD0.self (sz := s.heap.size)
  generalize hAe : va_A (TRw cA aT aU aG aE sz bf gf ef) s.heap.size = A at hD ⊢
  have hA : ∀ q : Nat, s.heap.size ≤ q → A q := fun q h => by rw [← hAe]; exact Or.inr h
  have hS : va_S A s.heap s.heap [] := va_S.rf
  have hP : va_P D vwCl (TRw cA aT aU aG aE sz bf gf ef) s.heap := hP
  obtain ⟨G, hG⟩ : ∃ G, G = (g_X2_bookedTicks sz gf ef x1 x2) := ⟨_, rfl⟩
  rw [← hG]
  have hl := lv_entry ([.ref aT, .int x1, .int x2]) (n := 5) (Nat.le_of_ble_eq_true rfl)
  rw [lg_entry_eq]
  generalize (lg_sl ([.ref aT, .int x1, .int x2]) ++ List.replicate (5 - (lg_sl ([.ref aT, .int x1, .int x2])).length) Slot.unset).toArray = ls at hl ⊢
  have hl : lv_has ls 5 [(0, .ref aT), (1, .int x1), (2, .int x2)] := hl
  refine lv_iconst (v := 0) hx hb dX2_bookedTicks_0 (by decide) ?_
  refine lv_istore_n (lv' := [(3, .int 0), (0, .ref aT), (1, .int x1), (2, .int x2)]) hx hb dX2_bookedTicks_1 rfl hl (by decide) rfl (fun ls hl => ?_)
  refine lv_iconst (v := 0) hx hb dX2_bookedTicks_2 (by decide) ?_
  refine lv_istore (lv' := [(4, .int 0), (3, .int 0), (0, .ref aT), (1, .int x1), (2, .int x2)]) hx hb dX2_bookedTicks_3 hl (by decide) rfl (fun ls hl => ?_)
  rw [g_X2_bookedTicks] at hG
  refine (?_ : ∀ (n : Nat) (v3 : Int32) (v4 : Int32) (H : Heap) (locs : List Loc) (ls : Array Slot), (0 ≤ v4) → ((sz).toInt - (v4).toInt).toNat < n → G = g_X2_bookedTicks_L5 sz gf ef x1 x2 n v3 v4 → va_P D vwCl (TRw cA aT aU aG aE sz bf gf ef) H → va_D A (TRw cA aT aU aG aE sz bf gf ef) → va_S A s.heap H locs → lv_has ls 5 [(0, .ref aT), (1, .int x1), (2, .int x2), (3, .int v3), (4, .int v4)] → W p l e _ s m _ below meth c H locs _ _ _ (F0 m 5 ls [])) (((sz).toInt - ((0 : Int32)).toInt).toNat + 1) 0 0 _ _ _ (by decide) (Nat.lt_succ_self _) hG hP hD hS (lv_sub hl [2, 3, 4, 1, 0] rfl)
  clear hG hP hD hS hl
  intro n
  induction n with
  | zero => intros; omega
  | succ n5 ih5 =>
    intro v3 v4 H locs ls h0 hm5 hG hP hD hS hl
    refine lv_iload hx hb dX2_bookedTicks_5 (lv_at hl 4 rfl) ?_
    refine lv_aload_n hx hb dX2_bookedTicks_7 rfl (lv_at hl 0 rfl) ?_
    refine va_get (D := D) (ci := 2) (v := .int sz) (C := RX2) (T := TX2) (N := 4) hx hb hts iX2 hown hK hP 0 rfl rfl 0 (by decide) (hts (.fieldLink RX2 9 "LightBursts$Track" "size" "I") (List.mem_of_getElem? (i := 1) rfl)) (fun _ h9 => h9) rfl dX2_bookedTicks_8 ?_
    refine lv_icmp_ge (tgt := 50) hx hb dX2_bookedTicks_11 (by decide) (fun c_1 => ?_) (fun c_1 => ?_)
    · refine lv_iload_n hx hb dX2_bookedTicks_50 rfl (lv_at hl 3 rfl) ?_
      rw [g_X2_bookedTicks_L5, if_pos c_1] at hG
      rw [hG]
      exact W.iret (v := v3) hx hb hr (fun t ht hW => ⟨⟨_, (), rfl, rfl, by rw [ht]; exact hP, va_K.moved hW.alike hK, hD⟩, hS.F ht⟩) hS.2.2 dX2_bookedTicks_51
    · refine lv_iload_n hx hb dX2_bookedTicks_14 rfl (lv_at hl 3 rfl) ?_
      refine lv_iconst (v := 0) hx hb dX2_bookedTicks_15 (by decide) ?_
      refine lv_iload_n hx hb dX2_bookedTicks_16 rfl (lv_at hl 2 rfl) ?_
      refine lv_aload_n hx hb dX2_bookedTicks_17 rfl (lv_at hl 0 rfl) ?_
      refine va_get (D := D) (ci := 2) (v := .ref aE) (C := RX2) (T := TX2) (N := 4) hx hb hts iX2 hown hK hP 0 rfl rfl 3 (by decide) (hts (.fieldLink RX2 22 "LightBursts$Track" "ends" "[I") (List.mem_of_getElem? (i := 2) rfl)) (fun _ h9 => h9) rfl dX2_bookedTicks_18 ?_
      refine lv_iload hx hb dX2_bookedTicks_21 (lv_at hl 4 rfl) ?_
      refine va_iald hx hb hK hP 3 0 rfl rfl (vin48 h0 c_1 hsz) dX2_bookedTicks_23 ?_
      refine va_mmin hx hb (hml.trans hl.1.symm) hown (hts (.methodLink RX2 39 Lib.Math.min.name) (List.mem_of_getElem? (i := 3) rfl)) (hts (.static Lib.Math.min.name) (List.mem_of_getElem? (i := 4) rfl)) (hts (.initialized "java/lang/Math") (List.mem_of_getElem? (i := 5) rfl)) (hts (.code Lib.Math.min.name Lib.Math.min.code 2 (some .int)) (List.mem_of_getElem? (i := 6) rfl)) (Nat.le_of_ble_eq_true rfl) (Nat.le_of_ble_eq_true rfl) (Nat.zero_le _) (Nat.zero_le _) dX2_bookedTicks_24 ?_
      refine lv_iload_n hx hb dX2_bookedTicks_27 rfl (lv_at hl 1 rfl) ?_
      refine lv_aload_n hx hb dX2_bookedTicks_28 rfl (lv_at hl 0 rfl) ?_
      refine va_get (D := D) (ci := 2) (v := .ref aG) (C := RX2) (T := TX2) (N := 4) hx hb hts iX2 hown hK hP 0 rfl rfl 2 (by decide) (hts (.fieldLink RX2 19 "LightBursts$Track" "begins" "[I") (List.mem_of_getElem? (i := 7) rfl)) (fun _ h9 => h9) rfl dX2_bookedTicks_29 ?_
      refine lv_iload hx hb dX2_bookedTicks_32 (lv_at hl 4 rfl) ?_
      refine va_iald hx hb hK hP 2 0 rfl rfl (vin48 h0 c_1 hsz) dX2_bookedTicks_34 ?_
      refine va_mmax hx hb (hml.trans hl.1.symm) hown (hts (.methodLink RX2 33 Lib.Math.max.name) (List.mem_of_getElem? (i := 8) rfl)) (hts (.static Lib.Math.max.name) (List.mem_of_getElem? (i := 9) rfl)) (hts (.initialized "java/lang/Math") (List.mem_of_getElem? (i := 5) rfl)) (hts (.code Lib.Math.max.name Lib.Math.max.code 2 (some .int)) (List.mem_of_getElem? (i := 10) rfl)) (Nat.le_of_ble_eq_true rfl) (Nat.le_of_ble_eq_true rfl) (Nat.zero_le _) (Nat.zero_le _) dX2_bookedTicks_35 ?_
      refine lv_isub hx hb dX2_bookedTicks_38 ?_
      refine va_mmax hx hb (hml.trans hl.1.symm) hown (hts (.methodLink RX2 33 Lib.Math.max.name) (List.mem_of_getElem? (i := 8) rfl)) (hts (.static Lib.Math.max.name) (List.mem_of_getElem? (i := 9) rfl)) (hts (.initialized "java/lang/Math") (List.mem_of_getElem? (i := 5) rfl)) (hts (.code Lib.Math.max.name Lib.Math.max.code 2 (some .int)) (List.mem_of_getElem? (i := 10) rfl)) (Nat.le_of_ble_eq_true rfl) (Nat.le_of_ble_eq_true rfl) (Nat.zero_le _) (Nat.zero_le _) dX2_bookedTicks_39 ?_
      refine lv_iadd hx hb dX2_bookedTicks_42 ?_
      refine lv_istore_n (lv' := [(3, .int (v3 + (if 0 < ((if (ef v4.toNatClampNeg) < x2 then (ef v4.toNatClampNeg) else x2) - (if x1 < (gf v4.toNatClampNeg) then (gf v4.toNatClampNeg) else x1)) then ((if (ef v4.toNatClampNeg) < x2 then (ef v4.toNatClampNeg) else x2) - (if x1 < (gf v4.toNatClampNeg) then (gf v4.toNatClampNeg) else x1)) else 0))), (0, .ref aT), (1, .int x1), (2, .int x2), (4, .int v4)]) hx hb dX2_bookedTicks_43 rfl hl (by decide) rfl (fun ls hl => ?_)
      refine lv_iinc (v := (v4 + 1)) (lv' := [(4, .int (v4 + 1)), (3, .int (v3 + (if 0 < ((if (ef v4.toNatClampNeg) < x2 then (ef v4.toNatClampNeg) else x2) - (if x1 < (gf v4.toNatClampNeg) then (gf v4.toNatClampNeg) else x1)) then ((if (ef v4.toNatClampNeg) < x2 then (ef v4.toNatClampNeg) else x2) - (if x1 < (gf v4.toNatClampNeg) then (gf v4.toNatClampNeg) else x1)) else 0))), (0, .ref aT), (1, .int x1), (2, .int x2)]) hx hb dX2_bookedTicks_44 hl (k := 4) rfl rfl (by decide) rfl (fun ls hl => ?_)
      refine lv_goto (tgt := 5) hx hb dX2_bookedTicks_47 (by decide) ?_
      rw [g_X2_bookedTicks_L5, if_neg c_1] at hG
      exact ih5 (v3 + (if 0 < ((if (ef v4.toNatClampNeg) < x2 then (ef v4.toNatClampNeg) else x2) - (if x1 < (gf v4.toNatClampNeg) then (gf v4.toNatClampNeg) else x1)) then ((if (ef v4.toNatClampNeg) < x2 then (ef v4.toNatClampNeg) else x2) - (if x1 < (gf v4.toNatClampNeg) then (gf v4.toNatClampNeg) else x1)) else 0)) (v4 + 1) _ _ _ (by exact up_ge h0 c_1) (by exact ms_up c_1 hm5) hG hP hD hS (lv_sub hl [2, 3, 4, 1, 0] rfl)

def g_X2_firstFree_L5 (sz : Int32) (gf : (Nat → Int32)) (ef : (Nat → Int32)) (x2 : Int32) : Nat → Int32 → Int32 → (Int32)
  | 0, _, _ => 0
  | n + 1, v3, v4 => (if sz ≤ v4 then v3 else (if (v3 + x2) ≤ (gf v4.toNatClampNeg) then (g_X2_firstFree_L5 sz gf ef x2 n v3 (v4 + 1)) else (if (ef v4.toNatClampNeg) ≤ v3 then (g_X2_firstFree_L5 sz gf ef x2 n v3 (v4 + 1)) else (g_X2_firstFree_L5 sz gf ef x2 n (ef v4.toNatClampNeg) (v4 + 1)))))
def g_X2_firstFree (sz : Int32) (gf : (Nat → Int32)) (ef : (Nat → Int32)) (x1 : Int32) (x2 : Int32) : Int32 := (g_X2_firstFree_L5 sz gf ef x2 (((sz).toInt - ((0 : Int32)).toInt).toNat + 1) x1 0)
set_option maxHeartbeats 4000000 in
set_option maxRecDepth 100000 in
theorem c_X2_firstFree (l : Launch) (D : va_G) (cA cZ : ClassId) (aT : Nat) (aU : Nat) (aG : Nat) (aE : Nat) (szz : Nat) (sz : Int32) (bf : (Nat → Int32)) (gf : (Nat → Int32)) (ef : (Nat → Int32)) (x1 : Int32) (x2 : Int32) (hsz : sz ≤ 48) : MetI l yX2_firstFree wsX2_firstFree 0 0 D (tyA cA cZ) [.ref aT, .int x1, .int x2] (TRw cA aT aU aG aE sz bf gf ef) szz (g_X2_firstFree sz gf ef x1 x2) (TRw cA aT aU aG aE sz bf gf ef) := by
  refine Met.ofW (cc := cX2_firstFree) (maxL := 5) (ret := (some .int)) (by decide) rfl ?_
  intro p e s m args below meth c s₁ B hml hv
  obtain ⟨rfl, hsz, hP, hK, hD0, hN⟩ := hv
  have hx := B.exec
  have hb := B.bytes
  have hr := B.returns
  have hts := atoms_spec (ws := wsX2_firstFree) B.pre
  have hown : s.vm.findClass RX2 = some m.cls := findClass_of_methodNamed B.named
  have hlocks := B.notSynchronized
  have iX2 : ∀ w ∈ wsX20, w ∈ wsX2_firstFree := fun _ h => List.mem_cons_of_mem _ (List.mem_append_right _ h)
  subst hsz
  have hD := hD0.self (sz := s.heap.size)
  generalize hAe : va_A (TRw cA aT aU aG aE sz bf gf ef) s.heap.size = A at hD ⊢
  have hA : ∀ q : Nat, s.heap.size ≤ q → A q := fun q h => by rw [← hAe]; exact Or.inr h
  have hS : va_S A s.heap s.heap [] := va_S.rf
  have hP : va_P D vwCl (TRw cA aT aU aG aE sz bf gf ef) s.heap := hP
  obtain ⟨G, hG⟩ : ∃ G, G = (g_X2_firstFree sz gf ef x1 x2) := ⟨_, rfl⟩
  rw [← hG]
  have hl := lv_entry ([.ref aT, .int x1, .int x2]) (n := 5) (Nat.le_of_ble_eq_true rfl)
  rw [lg_entry_eq]
  generalize (lg_sl ([.ref aT, .int x1, .int x2]) ++ List.replicate (5 - (lg_sl ([.ref aT, .int x1, .int x2])).length) Slot.unset).toArray = ls at hl ⊢
  have hl : lv_has ls 5 [(0, .ref aT), (1, .int x1), (2, .int x2)] := hl
  refine lv_iload_n hx hb dX2_firstFree_0 rfl (lv_at hl 1 rfl) ?_
  refine lv_istore_n (lv' := [(3, .int x1), (0, .ref aT), (1, .int x1), (2, .int x2)]) hx hb dX2_firstFree_1 rfl hl (by decide) rfl (fun ls hl => ?_)
  refine lv_iconst (v := 0) hx hb dX2_firstFree_2 (by decide) ?_
  refine lv_istore (lv' := [(4, .int 0), (3, .int x1), (0, .ref aT), (1, .int x1), (2, .int x2)]) hx hb dX2_firstFree_3 hl (by decide) rfl (fun ls hl => ?_)
  rw [g_X2_firstFree] at hG
  refine (?_ : ∀ (n : Nat) (v3 : Int32) (v4 : Int32) (H : Heap) (locs : List Loc) (ls : Array Slot), (0 ≤ v4) → ((sz).toInt - (v4).toInt).toNat < n → G = g_X2_firstFree_L5 sz gf ef x2 n v3 v4 → va_P D vwCl (TRw cA aT aU aG aE sz bf gf ef) H → va_D A (TRw cA aT aU aG aE sz bf gf ef) → va_S A s.heap H locs → lv_has ls 5 [(0, .ref aT), (1, .int x1), (2, .int x2), (3, .int v3), (4, .int v4)] → W p l e _ s m _ below meth c H locs _ _ _ (F0 m 5 ls [])) (((sz).toInt - ((0 : Int32)).toInt).toNat + 1) x1 0 _ _ _ (by decide) (Nat.lt_succ_self _) hG hP hD hS (lv_sub hl [2, 3, 4, 1, 0] rfl)
  clear hG hP hD hS hl
  intro n
  induction n with
  | zero => intros; omega
  | succ n5 ih5 =>
    intro v3 v4 H locs ls h0 hm5 hG hP hD hS hl
    refine lv_iload hx hb dX2_firstFree_5 (lv_at hl 4 rfl) ?_
    refine lv_aload_n hx hb dX2_firstFree_7 rfl (lv_at hl 0 rfl) ?_
    refine va_get (D := D) (ci := 2) (v := .int sz) (C := RX2) (T := TX2) (N := 4) hx hb hts iX2 hown hK hP 0 rfl rfl 0 (by decide) (hts (.fieldLink RX2 9 "LightBursts$Track" "size" "I") (List.mem_of_getElem? (i := 1) rfl)) (fun _ h9 => h9) rfl dX2_firstFree_8 ?_
    refine lv_icmp_ge (tgt := 52) hx hb dX2_firstFree_11 (by decide) (fun c_1 => ?_) (fun c_1 => ?_)
    · refine lv_iload_n hx hb dX2_firstFree_52 rfl (lv_at hl 3 rfl) ?_
      rw [g_X2_firstFree_L5, if_pos c_1] at hG
      rw [hG]
      exact W.iret (v := v3) hx hb hr (fun t ht hW => ⟨⟨_, (), rfl, rfl, by rw [ht]; exact hP, va_K.moved hW.alike hK, hD⟩, hS.F ht⟩) hS.2.2 dX2_firstFree_53
    · refine lv_aload_n hx hb dX2_firstFree_14 rfl (lv_at hl 0 rfl) ?_
      refine va_get (D := D) (ci := 2) (v := .ref aG) (C := RX2) (T := TX2) (N := 4) hx hb hts iX2 hown hK hP 0 rfl rfl 2 (by decide) (hts (.fieldLink RX2 19 "LightBursts$Track" "begins" "[I") (List.mem_of_getElem? (i := 2) rfl)) (fun _ h9 => h9) rfl dX2_firstFree_15 ?_
      refine lv_iload hx hb dX2_firstFree_18 (lv_at hl 4 rfl) ?_
      refine va_iald hx hb hK hP 2 0 rfl rfl (vin48 h0 c_1 hsz) dX2_firstFree_20 ?_
      refine lv_iload_n hx hb dX2_firstFree_21 rfl (lv_at hl 3 rfl) ?_
      refine lv_iload_n hx hb dX2_firstFree_22 rfl (lv_at hl 2 rfl) ?_
      refine lv_iadd hx hb dX2_firstFree_23 ?_
      refine lv_icmp_ge (tgt := 46) hx hb dX2_firstFree_24 (by decide) (fun c_2 => ?_) (fun c_2 => ?_)
      · refine lv_iinc (v := (v4 + 1)) (lv' := [(4, .int (v4 + 1)), (0, .ref aT), (1, .int x1), (2, .int x2), (3, .int v3)]) hx hb dX2_firstFree_46 hl (k := 4) rfl rfl (by decide) rfl (fun ls hl => ?_)
        refine lv_goto (tgt := 5) hx hb dX2_firstFree_49 (by decide) ?_
        rw [g_X2_firstFree_L5, if_neg c_1, if_pos c_2] at hG
        exact ih5 v3 (v4 + 1) _ _ _ (by exact up_ge h0 c_1) (by exact ms_up c_1 hm5) hG hP hD hS (lv_sub hl [1, 2, 3, 4, 0] rfl)
      · refine lv_aload_n hx hb dX2_firstFree_27 rfl (lv_at hl 0 rfl) ?_
        refine va_get (D := D) (ci := 2) (v := .ref aE) (C := RX2) (T := TX2) (N := 4) hx hb hts iX2 hown hK hP 0 rfl rfl 3 (by decide) (hts (.fieldLink RX2 22 "LightBursts$Track" "ends" "[I") (List.mem_of_getElem? (i := 3) rfl)) (fun _ h9 => h9) rfl dX2_firstFree_28 ?_
        refine lv_iload hx hb dX2_firstFree_31 (lv_at hl 4 rfl) ?_
        refine va_iald hx hb hK hP 3 0 rfl rfl (vin48 h0 c_1 hsz) dX2_firstFree_33 ?_
        refine lv_iload_n hx hb dX2_firstFree_34 rfl (lv_at hl 3 rfl) ?_
        refine lv_icmp_le (tgt := 46) hx hb dX2_firstFree_35 (by decide) (fun c_3 => ?_) (fun c_3 => ?_)
        · refine lv_iinc (v := (v4 + 1)) (lv' := [(4, .int (v4 + 1)), (0, .ref aT), (1, .int x1), (2, .int x2), (3, .int v3)]) hx hb dX2_firstFree_46 hl (k := 4) rfl rfl (by decide) rfl (fun ls hl => ?_)
          refine lv_goto (tgt := 5) hx hb dX2_firstFree_49 (by decide) ?_
          rw [g_X2_firstFree_L5, if_neg c_1, if_neg c_2, if_pos c_3] at hG
          exact ih5 v3 (v4 + 1) _ _ _ (by exact up_ge h0 c_1) (by exact ms_up c_1 hm5) hG hP hD hS (lv_sub hl [1, 2, 3, 4, 0] rfl)
        · refine lv_aload_n hx hb dX2_firstFree_38 rfl (lv_at hl 0 rfl) ?_
          refine va_get (D := D) (ci := 2) (v := .ref aE) (C := RX2) (T := TX2) (N := 4) hx hb hts iX2 hown hK hP 0 rfl rfl 3 (by decide) (hts (.fieldLink RX2 22 "LightBursts$Track" "ends" "[I") (List.mem_of_getElem? (i := 3) rfl)) (fun _ h9 => h9) rfl dX2_firstFree_39 ?_
          refine lv_iload hx hb dX2_firstFree_42 (lv_at hl 4 rfl) ?_
          refine va_iald hx hb hK hP 3 0 rfl rfl (vin48 h0 c_1 hsz) dX2_firstFree_44 ?_
          refine lv_istore_n (lv' := [(3, .int (ef v4.toNatClampNeg)), (0, .ref aT), (1, .int x1), (2, .int x2), (4, .int v4)]) hx hb dX2_firstFree_45 rfl hl (by decide) rfl (fun ls hl => ?_)
          refine lv_iinc (v := (v4 + 1)) (lv' := [(4, .int (v4 + 1)), (3, .int (ef v4.toNatClampNeg)), (0, .ref aT), (1, .int x1), (2, .int x2)]) hx hb dX2_firstFree_46 hl (k := 4) rfl rfl (by decide) rfl (fun ls hl => ?_)
          refine lv_goto (tgt := 5) hx hb dX2_firstFree_49 (by decide) ?_
          rw [g_X2_firstFree_L5, if_neg c_1, if_neg c_2, if_neg c_3] at hG
          exact ih5 (ef v4.toNatClampNeg) (v4 + 1) _ _ _ (by exact up_ge h0 c_1) (by exact ms_up c_1 hm5) hG hP hD hS (lv_sub hl [2, 3, 4, 1, 0] rfl)

def g_X2_voidBefore (sz : Int32) (ef : (Nat → Int32)) (x1 : Int32) (x2 : Int32) : Int32 := (if (g_X2_has sz (x1 - 1)) = 0 then x2 else (if x2 < (ef (x1 - 1).toNatClampNeg) then (ef (x1 - 1).toNatClampNeg) else x2))
set_option maxHeartbeats 4000000 in
set_option maxRecDepth 100000 in
theorem c_X2_voidBefore (l : Launch) (D : va_G) (cA cZ : ClassId) (aT : Nat) (aU : Nat) (aG : Nat) (aE : Nat) (szz : Nat) (sz : Int32) (bf : (Nat → Int32)) (gf : (Nat → Int32)) (ef : (Nat → Int32)) (x1 : Int32) (x2 : Int32) (hsz : sz ≤ 48) : MetI l yX2_voidBefore wsX2_voidBefore 2 42 D (tyA cA cZ) [.ref aT, .int x1, .int x2] (TRw cA aT aU aG aE sz bf gf ef) szz (g_X2_voidBefore sz ef x1 x2) (TRw cA aT aU aG aE sz bf gf ef) := by
  refine Met.ofW (cc := cX2_voidBefore) (maxL := 3) (ret := (some .int)) (by decide) rfl ?_
  intro p e s m args below meth c s₁ B hml hv
  obtain ⟨rfl, hsz, hP, hK, hD0, hN⟩ := hv
  have hx := B.exec
  have hb := B.bytes
  have hr := B.returns
  have hts := atoms_spec (ws := wsX2_voidBefore) B.pre
  have hown : s.vm.findClass RX2 = some m.cls := findClass_of_methodNamed B.named
  have hlocks := B.notSynchronized
  have iX2 : ∀ w ∈ wsX20, w ∈ wsX2_voidBefore := fun _ h => List.mem_cons_of_mem _ (List.mem_append_right _ h)
  subst hsz
  have hD := hD0.self (sz := s.heap.size)
  generalize hAe : va_A (TRw cA aT aU aG aE sz bf gf ef) s.heap.size = A at hD ⊢
  have hA : ∀ q : Nat, s.heap.size ≤ q → A q := fun q h => by rw [← hAe]; exact Or.inr h
  have hS : va_S A s.heap s.heap [] := va_S.rf
  have hP : va_P D vwCl (TRw cA aT aU aG aE sz bf gf ef) s.heap := hP
  obtain ⟨G, hG⟩ : ∃ G, G = (g_X2_voidBefore sz ef x1 x2) := ⟨_, rfl⟩
  rw [← hG]
  have hl := lv_entry ([.ref aT, .int x1, .int x2]) (n := 3) (Nat.le_of_ble_eq_true rfl)
  rw [lg_entry_eq]
  generalize (lg_sl ([.ref aT, .int x1, .int x2]) ++ List.replicate (3 - (lg_sl ([.ref aT, .int x1, .int x2])).length) Slot.unset).toArray = ls at hl ⊢
  have hl : lv_has ls 3 [(0, .ref aT), (1, .int x1), (2, .int x2)] := hl
  refine lv_aload_n hx hb dX2_voidBefore_0 rfl (lv_at hl 0 rfl) ?_
  refine lv_iload_n hx hb dX2_voidBefore_1 rfl (lv_at hl 1 rfl) ?_
  refine lv_iconst (v := 1) hx hb dX2_voidBefore_2 (by decide) ?_
  refine lv_isub hx hb dX2_voidBefore_3 ?_
  refine kI (wr := ([] : va_W)) (W1 := TRw cA aT aU aG aE sz bf gf ef) (wsN := TRw cA aT aU aG aE sz bf gf ef) (rV (As := [.int (x1 - 1)]) (rest := []) (W0 := TRw cA aT aU aG aE sz bf gf ef) ⟨hx, hb, hml, hown, hts⟩ (c_X2_has l D cA cZ aT aU aG aE s.heap.size sz bf gf ef (x1 - 1)) (cwV 1 hts gX2_voidBefore_X2_has rfl rfl rfl (by decide +kernel) ⟨Nat.le_of_ble_eq_true rfl, Nat.le_of_ble_eq_true rfl⟩) hP hD hK hN ([0, 1, 2, 3] : List Nat) rfl rfl 2 0 rfl rfl rfl hl.1 rfl (Nat.le_of_ble_eq_true rfl) dX2_voidBefore_4 ⟨Nat.zero_le _, Nat.zero_le _⟩) hP hD hS hA [0, 1, 2, 3] [] [0, 1, 2, 3] rfl rfl rfl (by decide) rfl rfl (fun H locs hP hD hS => ?_)
  refine lv_if_eq (tgt := 25) hx hb dX2_voidBefore_7 (by decide) (fun c_1 => ?_) (fun c_1 => ?_)
  · refine lv_iload_n hx hb dX2_voidBefore_25 rfl (lv_at hl 2 rfl) ?_
    rw [g_X2_voidBefore, if_pos c_1] at hG
    rw [hG]
    exact W.iret (v := x2) hx hb hr (fun t ht hW => ⟨⟨_, (), rfl, rfl, by rw [ht]; exact hP, va_K.moved hW.alike hK, hD⟩, hS.F ht⟩) hS.2.2 dX2_voidBefore_26
  · refine lv_iload_n hx hb dX2_voidBefore_10 rfl (lv_at hl 2 rfl) ?_
    refine lv_aload_n hx hb dX2_voidBefore_11 rfl (lv_at hl 0 rfl) ?_
    refine va_get (D := D) (ci := 2) (v := .ref aE) (C := RX2) (T := TX2) (N := 4) hx hb hts iX2 hown hK hP 0 rfl rfl 3 (by decide) (hts (.fieldLink RX2 22 "LightBursts$Track" "ends" "[I") (List.mem_of_getElem? (i := 1) rfl)) (fun _ h9 => h9) rfl dX2_voidBefore_12 ?_
    refine lv_iload_n hx hb dX2_voidBefore_15 rfl (lv_at hl 1 rfl) ?_
    refine lv_iconst (v := 1) hx hb dX2_voidBefore_16 (by decide) ?_
    refine lv_isub hx hb dX2_voidBefore_17 ?_
    refine va_iald hx hb hK hP 3 0 rfl rfl (has_in c_1 hsz) dX2_voidBefore_18 ?_
    refine va_mmax hx hb (hml.trans hl.1.symm) hown (hts (.methodLink RX2 33 Lib.Math.max.name) (List.mem_of_getElem? (i := 2) rfl)) (hts (.static Lib.Math.max.name) (List.mem_of_getElem? (i := 3) rfl)) (hts (.initialized "java/lang/Math") (List.mem_of_getElem? (i := 4) rfl)) (hts (.code Lib.Math.max.name Lib.Math.max.code 2 (some .int)) (List.mem_of_getElem? (i := 5) rfl)) (Nat.le_of_ble_eq_true rfl) (Nat.le_of_ble_eq_true rfl) (Nat.zero_le _) (Nat.zero_le _) dX2_voidBefore_19 ?_
    refine lv_goto (tgt := 26) hx hb dX2_voidBefore_22 (by decide) ?_
    rw [g_X2_voidBefore, if_neg c_1] at hG
    rw [hG]
    exact W.iret (v := (if x2 < (ef (x1 - 1).toNatClampNeg) then (ef (x1 - 1).toNatClampNeg) else x2)) hx hb hr (fun t ht hW => ⟨⟨_, (), rfl, rfl, by rw [ht]; exact hP, va_K.moved hW.alike hK, hD⟩, hS.F ht⟩) hS.2.2 dX2_voidBefore_26

def g_X2_closingOfVoid_L5 (sz : Int32) (gf : (Nat → Int32)) (ef : (Nat → Int32)) (x1 : Int32) (x2 : Int32) : Nat → Int32 → Int32 → (Int32)
  | 0, _, _ => 0
  | n + 1, v3, v4 => (if sz ≤ v4 then (-6) else (if (gf v4.toNatClampNeg) ≤ (g_X2_voidBefore sz ef v4 x2) then (g_X2_closingOfVoid_L5 sz gf ef x1 x2 n v3 (v4 + 1)) else (if v3 = x1 then v4 else (g_X2_closingOfVoid_L5 sz gf ef x1 x2 n (v3 + 1) (v4 + 1)))))
def g_X2_closingOfVoid (sz : Int32) (gf : (Nat → Int32)) (ef : (Nat → Int32)) (x1 : Int32) (x2 : Int32) : Int32 := (g_X2_closingOfVoid_L5 sz gf ef x1 x2 (((sz).toInt - ((0 : Int32)).toInt).toNat + 1) 0 0)
set_option maxHeartbeats 4000000 in
set_option maxRecDepth 100000 in
theorem c_X2_closingOfVoid (l : Launch) (D : va_G) (cA cZ : ClassId) (aT : Nat) (aU : Nat) (aG : Nat) (aE : Nat) (szz : Nat) (sz : Int32) (bf : (Nat → Int32)) (gf : (Nat → Int32)) (ef : (Nat → Int32)) (x1 : Int32) (x2 : Int32) (hsz : sz ≤ 48) : MetI l yX2_closingOfVoid wsX2_closingOfVoid 3 64 D (tyA cA cZ) [.ref aT, .int x1, .int x2] (TRw cA aT aU aG aE sz bf gf ef) szz (g_X2_closingOfVoid sz gf ef x1 x2) (TRw cA aT aU aG aE sz bf gf ef) := by
  refine Met.ofW (cc := cX2_closingOfVoid) (maxL := 5) (ret := (some .int)) (by decide) rfl ?_
  intro p e s m args below meth c s₁ B hml hv
  obtain ⟨rfl, hsz, hP, hK, hD0, hN⟩ := hv
  have hx := B.exec
  have hb := B.bytes
  have hr := B.returns
  have hts := atoms_spec (ws := wsX2_closingOfVoid) B.pre
  have hown : s.vm.findClass RX2 = some m.cls := findClass_of_methodNamed B.named
  have hlocks := B.notSynchronized
  have iX2 : ∀ w ∈ wsX20, w ∈ wsX2_closingOfVoid := fun _ h => List.mem_cons_of_mem _ (List.mem_append_right _ h)
  subst hsz
  have hD := hD0.self (sz := s.heap.size)
  generalize hAe : va_A (TRw cA aT aU aG aE sz bf gf ef) s.heap.size = A at hD ⊢
  have hA : ∀ q : Nat, s.heap.size ≤ q → A q := fun q h => by rw [← hAe]; exact Or.inr h
  have hS : va_S A s.heap s.heap [] := va_S.rf
  have hP : va_P D vwCl (TRw cA aT aU aG aE sz bf gf ef) s.heap := hP
  obtain ⟨G, hG⟩ : ∃ G, G = (g_X2_closingOfVoid sz gf ef x1 x2) := ⟨_, rfl⟩
  rw [← hG]
  have hl := lv_entry ([.ref aT, .int x1, .int x2]) (n := 5) (Nat.le_of_ble_eq_true rfl)
  rw [lg_entry_eq]
  generalize (lg_sl ([.ref aT, .int x1, .int x2]) ++ List.replicate (5 - (lg_sl ([.ref aT, .int x1, .int x2])).length) Slot.unset).toArray = ls at hl ⊢
  have hl : lv_has ls 5 [(0, .ref aT), (1, .int x1), (2, .int x2)] := hl
  refine lv_iconst (v := 0) hx hb dX2_closingOfVoid_0 (by decide) ?_
  refine lv_istore_n (lv' := [(3, .int 0), (0, .ref aT), (1, .int x1), (2, .int x2)]) hx hb dX2_closingOfVoid_1 rfl hl (by decide) rfl (fun ls hl => ?_)
  refine lv_iconst (v := 0) hx hb dX2_closingOfVoid_2 (by decide) ?_
  refine lv_istore (lv' := [(4, .int 0), (3, .int 0), (0, .ref aT), (1, .int x1), (2, .int x2)]) hx hb dX2_closingOfVoid_3 hl (by decide) rfl (fun ls hl => ?_)
  rw [g_X2_closingOfVoid] at hG
  refine (?_ : ∀ (n : Nat) (v3 : Int32) (v4 : Int32) (H : Heap) (locs : List Loc) (ls : Array Slot), (0 ≤ v4) → ((sz).toInt - (v4).toInt).toNat < n → G = g_X2_closingOfVoid_L5 sz gf ef x1 x2 n v3 v4 → va_P D vwCl (TRw cA aT aU aG aE sz bf gf ef) H → va_D A (TRw cA aT aU aG aE sz bf gf ef) → va_S A s.heap H locs → lv_has ls 5 [(0, .ref aT), (1, .int x1), (2, .int x2), (3, .int v3), (4, .int v4)] → W p l e _ s m _ below meth c H locs _ _ _ (F0 m 5 ls [])) (((sz).toInt - ((0 : Int32)).toInt).toNat + 1) 0 0 _ _ _ (by decide) (Nat.lt_succ_self _) hG hP hD hS (lv_sub hl [2, 3, 4, 1, 0] rfl)
  clear hG hP hD hS hl
  intro n
  induction n with
  | zero => intros; omega
  | succ n5 ih5 =>
    intro v3 v4 H locs ls h0 hm5 hG hP hD hS hl
    refine lv_iload hx hb dX2_closingOfVoid_5 (lv_at hl 4 rfl) ?_
    refine lv_aload_n hx hb dX2_closingOfVoid_7 rfl (lv_at hl 0 rfl) ?_
    refine va_get (D := D) (ci := 2) (v := .int sz) (C := RX2) (T := TX2) (N := 4) hx hb hts iX2 hown hK hP 0 rfl rfl 0 (by decide) (hts (.fieldLink RX2 9 "LightBursts$Track" "size" "I") (List.mem_of_getElem? (i := 1) rfl)) (fun _ h9 => h9) rfl dX2_closingOfVoid_8 ?_
    refine lv_icmp_ge (tgt := 48) hx hb dX2_closingOfVoid_11 (by decide) (fun c_1 => ?_) (fun c_1 => ?_)
    · refine lv_bipush (v := (-6)) hx hb dX2_closingOfVoid_48 (by decide) ?_
      rw [g_X2_closingOfVoid_L5, if_pos c_1] at hG
      rw [hG]
      exact W.iret (v := (-6)) hx hb hr (fun t ht hW => ⟨⟨_, (), rfl, rfl, by rw [ht]; exact hP, va_K.moved hW.alike hK, hD⟩, hS.F ht⟩) hS.2.2 dX2_closingOfVoid_50
    · refine lv_aload_n hx hb dX2_closingOfVoid_14 rfl (lv_at hl 0 rfl) ?_
      refine va_get (D := D) (ci := 2) (v := .ref aG) (C := RX2) (T := TX2) (N := 4) hx hb hts iX2 hown hK hP 0 rfl rfl 2 (by decide) (hts (.fieldLink RX2 19 "LightBursts$Track" "begins" "[I") (List.mem_of_getElem? (i := 2) rfl)) (fun _ h9 => h9) rfl dX2_closingOfVoid_15 ?_
      refine lv_iload hx hb dX2_closingOfVoid_18 (lv_at hl 4 rfl) ?_
      refine va_iald hx hb hK hP 2 0 rfl rfl (vin48 h0 c_1 hsz) dX2_closingOfVoid_20 ?_
      refine lv_aload_n hx hb dX2_closingOfVoid_21 rfl (lv_at hl 0 rfl) ?_
      refine lv_iload hx hb dX2_closingOfVoid_22 (lv_at hl 4 rfl) ?_
      refine lv_iload_n hx hb dX2_closingOfVoid_24 rfl (lv_at hl 2 rfl) ?_
      refine kI (wr := ([] : va_W)) (W1 := TRw cA aT aU aG aE sz bf gf ef) (wsN := TRw cA aT aU aG aE sz bf gf ef) (rV (As := [.int v4, .int x2]) (rest := [.int (gf v4.toNatClampNeg)]) (W0 := TRw cA aT aU aG aE sz bf gf ef) ⟨hx, hb, hml, hown, hts⟩ (c_X2_voidBefore l D cA cZ aT aU aG aE H.size sz bf gf ef v4 x2 (show sz ≤ 48 from by first | assumption | decide | exact bok_of (by assumption) (by assumption) (by assumption))) (cwV 2 hts gX2_closingOfVoid_X2_voidBefore rfl rfl rfl (by decide +kernel) ⟨Nat.le_of_ble_eq_true rfl, Nat.le_of_ble_eq_true rfl⟩) hP hD hK hN ([0, 1, 2, 3] : List Nat) rfl rfl 2 0 rfl rfl rfl hl.1 rfl (Nat.le_of_ble_eq_true rfl) dX2_closingOfVoid_25 ⟨Nat.zero_le _, Nat.zero_le _⟩) hP hD hS hA [0, 1, 2, 3] [] [0, 1, 2, 3] rfl rfl rfl (by decide) rfl rfl (fun H locs hP hD hS => ?_)
      refine lv_icmp_le (tgt := 42) hx hb dX2_closingOfVoid_28 (by decide) (fun c_2 => ?_) (fun c_2 => ?_)
      · refine lv_iinc (v := (v4 + 1)) (lv' := [(4, .int (v4 + 1)), (0, .ref aT), (1, .int x1), (2, .int x2), (3, .int v3)]) hx hb dX2_closingOfVoid_42 hl (k := 4) rfl rfl (by decide) rfl (fun ls hl => ?_)
        refine lv_goto (tgt := 5) hx hb dX2_closingOfVoid_45 (by decide) ?_
        rw [g_X2_closingOfVoid_L5, if_neg c_1, if_pos c_2] at hG
        exact ih5 v3 (v4 + 1) _ _ _ (by exact up_ge h0 c_1) (by exact ms_up c_1 hm5) hG hP hD hS (lv_sub hl [1, 2, 3, 4, 0] rfl)
      · refine lv_iload_n hx hb dX2_closingOfVoid_31 rfl (lv_at hl 3 rfl) ?_
        refine lv_iload_n hx hb dX2_closingOfVoid_32 rfl (lv_at hl 1 rfl) ?_
        refine lv_icmp_ne (tgt := 39) hx hb dX2_closingOfVoid_33 (by decide) (fun c_3 => ?_) (fun c_3 => ?_)
        · refine lv_iinc (v := (v3 + 1)) (lv' := [(3, .int (v3 + 1)), (0, .ref aT), (1, .int x1), (2, .int x2), (4, .int v4)]) hx hb dX2_closingOfVoid_39 hl (k := 3) rfl rfl (by decide) rfl (fun ls hl => ?_)
          refine lv_iinc (v := (v4 + 1)) (lv' := [(4, .int (v4 + 1)), (3, .int (v3 + 1)), (0, .ref aT), (1, .int x1), (2, .int x2)]) hx hb dX2_closingOfVoid_42 hl (k := 4) rfl rfl (by decide) rfl (fun ls hl => ?_)
          refine lv_goto (tgt := 5) hx hb dX2_closingOfVoid_45 (by decide) ?_
          rw [g_X2_closingOfVoid_L5, if_neg c_1, if_neg c_2, if_neg c_3] at hG
          exact ih5 (v3 + 1) (v4 + 1) _ _ _ (by exact up_ge h0 c_1) (by exact ms_up c_1 hm5) hG hP hD hS (lv_sub hl [2, 3, 4, 1, 0] rfl)
        · refine lv_iload hx hb dX2_closingOfVoid_36 (lv_at hl 4 rfl) ?_
          rw [g_X2_closingOfVoid_L5, if_neg c_1, if_neg c_2, if_pos c_3] at hG
          rw [hG]
          exact W.iret (v := v4) hx hb hr (fun t ht hW => ⟨⟨_, (), rfl, rfl, by rw [ht]; exact hP, va_K.moved hW.alike hK, hD⟩, hS.F ht⟩) hS.2.2 dX2_closingOfVoid_38

theorem ad_0 {b : Int32} (h : ¬ g_X3_isBelow b 48 = 0) : 0 ≤ b.toInt ∧ b.toInt < 48 := below_iff.mp h
theorem ad_v {v : Int32} (h : 0 ≤ v.toInt ∧ v.toInt < 48) : vp_in v 48 := by rw [vp_in_iff]; omega
theorem ad_p {v : Int32} (h : ¬ v ≤ 0) : (v - 1).toInt = v.toInt - 1 ∧ (v + (-1)).toInt = v.toInt - 1 ∧ 0 < v.toInt := by
  have e0 : (0 : Int32).toInt = 0 := rfl
  have h1 : 0 < v := by rw [Int32.lt_iff_toInt_lt]; exact lt_of_nle h
  refine ⟨i32_p' h1, i32_p h1, ?_⟩
  have := lt_of_nle h
  omega
theorem ad_w {v : Int32} (h : 0 ≤ v.toInt ∧ v.toInt < 48) (c : ¬ v ≤ 0) : vp_in (v - 1) 48 := by
  have e := ad_p c
  rw [vp_in_iff]; omega
theorem ad_s {v : Int32} (h : 0 ≤ v.toInt ∧ v.toInt < 48) (c : ¬ v ≤ 0) : 0 ≤ (v + (-1)).toInt ∧ (v + (-1)).toInt < 48 := by
  have e := ad_p c
  omega
theorem ad_m {v : Int32} {n : Nat} (c : ¬ v ≤ 0) (h : v.toInt.toNat < n + 1) : (v + (-1)).toInt.toNat < n := by
  have e := ad_p c
  omega

def g_X2_add_L19 (sz : Int32) (x1 : Int32) (x2 : Int32) (x3 : Int32) : Nat → Int32 → (Nat → Int32) → (Nat → Int32) → (Nat → Int32) → (Int32 × (Nat → Int32) × (Nat → Int32) × (Nat → Int32))
  | 0, _, _, _, _ => (0, (fun _ => 0), (fun _ => 0), (fun _ => 0))
  | n + 1, v4, w_bf, w_gf, w_ef => (if v4 ≤ 0 then ((sz + 1), (upd w_bf v4.toNatClampNeg x1), (upd w_gf v4.toNatClampNeg x2), (upd w_ef v4.toNatClampNeg (x2 + x3))) else (if (w_gf (v4 - 1).toNatClampNeg) ≤ x2 then ((sz + 1), (upd w_bf v4.toNatClampNeg x1), (upd w_gf v4.toNatClampNeg x2), (upd w_ef v4.toNatClampNeg (x2 + x3))) else (g_X2_add_L19 sz x1 x2 x3 n (v4 + (-1)) (upd w_bf v4.toNatClampNeg (w_bf (v4 - 1).toNatClampNeg)) (upd w_gf v4.toNatClampNeg (w_gf (v4 - 1).toNatClampNeg)) (upd w_ef v4.toNatClampNeg (w_ef (v4 - 1).toNatClampNeg)))))
def g_X2_add (sz : Int32) (bf : (Nat → Int32)) (gf : (Nat → Int32)) (ef : (Nat → Int32)) (x1 : Int32) (x2 : Int32) (x3 : Int32) : Int32 × (Nat → Int32) × (Nat → Int32) × (Nat → Int32) := (if (g_X3_isBelow sz 48) = 0 then (sz, bf, gf, ef) else (g_X2_add_L19 sz x1 x2 x3 ((sz).toInt.toNat + 1) sz bf gf ef))
set_option maxHeartbeats 4000000 in
set_option maxRecDepth 100000 in
theorem c_X2_add (l : Launch) (D : va_G) (cA cZ : ClassId) (aT : Nat) (aU : Nat) (aG : Nat) (aE : Nat) (szz : Nat) (sz : Int32) (bf : (Nat → Int32)) (gf : (Nat → Int32)) (ef : (Nat → Int32)) (x1 : Int32) (x2 : Int32) (x3 : Int32) : MetV l yX2_add wsX2_add 1 21 D (tyA cA cZ) [.ref aT, .int x1, .int x2, .int x3] (TRw cA aT aU aG aE sz bf gf ef) szz (TRw cA aT aU aG aE ((g_X2_add sz bf gf ef x1 x2 x3).1) ((g_X2_add sz bf gf ef x1 x2 x3).2.1) ((g_X2_add sz bf gf ef x1 x2 x3).2.2.1) ((g_X2_add sz bf gf ef x1 x2 x3).2.2.2)) := by
  refine Met.ofW (cc := cX2_add) (maxL := 5) (ret := none) (by decide) rfl ?_
  intro p e s m args below meth c s₁ B hml hv
  obtain ⟨rfl, hsz, hP, hK, hD0, hN⟩ := hv
  have hx := B.exec
  have hb := B.bytes
  have hr := B.returns
  have hts := atoms_spec (ws := wsX2_add) B.pre
  have hown : s.vm.findClass RX2 = some m.cls := findClass_of_methodNamed B.named
  have hlocks := B.notSynchronized
  have iX2 : ∀ w ∈ wsX20, w ∈ wsX2_add := fun _ h => List.mem_cons_of_mem _ (List.mem_append_right _ h)
  subst hsz
  have hD := hD0.self (sz := s.heap.size)
  generalize hAe : va_A (TRw cA aT aU aG aE sz bf gf ef) s.heap.size = A at hD ⊢
  have hA : ∀ q : Nat, s.heap.size ≤ q → A q := fun q h => by rw [← hAe]; exact Or.inr h
  have hS : va_S A s.heap s.heap [] := va_S.rf
  have hP : va_P D vwCl (TRw cA aT aU aG aE sz bf gf ef) s.heap := hP
  obtain ⟨G, hG⟩ : ∃ G, G = (g_X2_add sz bf gf ef x1 x2 x3) := ⟨_, rfl⟩
  rw [← hG]
  have hl := lv_entry ([.ref aT, .int x1, .int x2, .int x3]) (n := 5) (Nat.le_of_ble_eq_true rfl)
  rw [lg_entry_eq]
  generalize (lg_sl ([.ref aT, .int x1, .int x2, .int x3]) ++ List.replicate (5 - (lg_sl ([.ref aT, .int x1, .int x2, .int x3])).length) Slot.unset).toArray = ls at hl ⊢
  have hl : lv_has ls 5 [(0, .ref aT), (1, .int x1), (2, .int x2), (3, .int x3)] := hl
  refine lv_aload_n hx hb dX2_add_0 rfl (lv_at hl 0 rfl) ?_
  refine va_get (D := D) (ci := 2) (v := .int sz) (C := RX2) (T := TX2) (N := 4) hx hb hts iX2 hown hK hP 0 rfl rfl 0 (by decide) (hts (.fieldLink RX2 9 "LightBursts$Track" "size" "I") (List.mem_of_getElem? (i := 1) rfl)) (fun _ h9 => h9) rfl dX2_add_1 ?_
  refine lv_bipush (v := 48) hx hb dX2_add_4 (by decide) ?_
  refine kI (wr := TRw cA aT aU aG aE sz bf gf ef) (W1 := ([] : va_W)) (wsN := TRw cA aT aU aG aE sz bf gf ef) (rSN (As := [.int sz, .int 48]) (rest := []) (W0 := ([] : va_W)) ⟨hx, hb, hml, hown, hts⟩ (c_X3_isBelow l D cA cZ s.heap.size sz 48) ⟨va_cnB 2 hts gX2_add_X3_isBelow_n25 rfl rfl rfl (hN (.methodLinkNest RX2 25 yX3_isBelow RX3) (List.mem_of_getElem? (i := 17) rfl)) (hts (.initialized RX3) (List.mem_of_getElem? (i := 6) rfl)) (by decide +kernel) ⟨Nat.le_of_ble_eq_true rfl, Nat.le_of_ble_eq_true rfl⟩, (hts (.static yX3_isBelow) (List.mem_of_getElem? (i := 5) rfl)), trivial⟩ hP hD hK hN ([] : List Nat) rfl rfl rfl hl.1 rfl (Nat.le_of_ble_eq_true rfl) dX2_add_6 ⟨Nat.zero_le _, Nat.zero_le _⟩) hP hD hS hA [] [0, 1, 2, 3] [0, 1, 2, 3] rfl rfl rfl (by decide) rfl rfl (fun H locs hP hD hS => ?_)
  refine lv_if_ne (tgt := 13) hx hb dX2_add_9 (by decide) (fun c_1 => ?_) (fun c_1 => ?_)
  · refine lv_aload_n hx hb dX2_add_13 rfl (lv_at hl 0 rfl) ?_
    refine va_get (D := D) (ci := 2) (v := .int sz) (C := RX2) (T := TX2) (N := 4) hx hb hts iX2 hown hK hP 0 rfl rfl 0 (by decide) (hts (.fieldLink RX2 9 "LightBursts$Track" "size" "I") (List.mem_of_getElem? (i := 1) rfl)) (fun _ h9 => h9) rfl dX2_add_14 ?_
    refine lv_istore (lv' := [(4, .int sz), (0, .ref aT), (1, .int x1), (2, .int x2), (3, .int x3)]) hx hb dX2_add_17 hl (by decide) rfl (fun ls hl => ?_)
    rw [g_X2_add, if_neg c_1] at hG
    refine (?_ : ∀ (n : Nat) (v4 : Int32) (w_bf : (Nat → Int32)) (w_gf : (Nat → Int32)) (w_ef : (Nat → Int32)) (H : Heap) (locs : List Loc) (ls : Array Slot), (0 ≤ (v4).toInt ∧ (v4).toInt < 48) → (v4).toInt.toNat < n → G = g_X2_add_L19 sz x1 x2 x3 n v4 w_bf w_gf w_ef → va_P D vwCl (TRw cA aT aU aG aE sz w_bf w_gf w_ef) H → va_D A (TRw cA aT aU aG aE sz w_bf w_gf w_ef) → va_S A s.heap H locs → lv_has ls 5 [(0, .ref aT), (1, .int x1), (2, .int x2), (3, .int x3), (4, .int v4)] → W p l e _ s m _ below meth c H locs _ _ _ (F0 m 19 ls [])) ((sz).toInt.toNat + 1) sz bf gf ef _ _ _ (by exact ad_0 (by assumption)) (Nat.lt_succ_self _) hG hP hD hS (lv_sub hl [1, 2, 3, 4, 0] rfl)
    clear hG hP hD hS hl
    intro n
    induction n with
    | zero => intros; omega
    | succ n19 ih19 =>
      intro v4 w_bf w_gf w_ef H locs ls hv hm19 hG hP hD hS hl
      refine lv_iload hx hb dX2_add_19 (lv_at hl 4 rfl) ?_
      refine lv_if_le (tgt := 91) hx hb dX2_add_21 (by decide) (fun c_2 => ?_) (fun c_2 => ?_)
      · refine lv_aload_n hx hb dX2_add_91 rfl (lv_at hl 0 rfl) ?_
        refine va_get (D := D) (ci := 2) (v := .ref aU) (C := RX2) (T := TX2) (N := 4) hx hb hts iX2 hown hK hP 0 rfl rfl 1 (by decide) (hts (.fieldLink RX2 15 "LightBursts$Track" "bursts" "[I") (List.mem_of_getElem? (i := 3) rfl)) (fun _ h9 => h9) rfl dX2_add_92 ?_
        refine lv_iload hx hb dX2_add_95 (lv_at hl 4 rfl) ?_
        refine lv_iload_n hx hb dX2_add_97 rfl (lv_at hl 1 rfl) ?_
        refine va_iast hx hb hK hP hD hS 1 0 rfl rfl (ad_v hv) dX2_add_98 (fun H locs hP hD hS => ?_)
        have hP : va_P D vwCl (TRw cA aT aU aG aE sz (upd w_bf v4.toNatClampNeg x1) w_gf w_ef) H := hP
        have hD : va_D A (TRw cA aT aU aG aE sz (upd w_bf v4.toNatClampNeg x1) w_gf w_ef) := hD
        refine lv_aload_n hx hb dX2_add_99 rfl (lv_at hl 0 rfl) ?_
        refine va_get (D := D) (ci := 2) (v := .ref aG) (C := RX2) (T := TX2) (N := 4) hx hb hts iX2 hown hK hP 0 rfl rfl 2 (by decide) (hts (.fieldLink RX2 19 "LightBursts$Track" "begins" "[I") (List.mem_of_getElem? (i := 2) rfl)) (fun _ h9 => h9) rfl dX2_add_100 ?_
        refine lv_iload hx hb dX2_add_103 (lv_at hl 4 rfl) ?_
        refine lv_iload_n hx hb dX2_add_105 rfl (lv_at hl 2 rfl) ?_
        refine va_iast hx hb hK hP hD hS 2 0 rfl rfl (ad_v hv) dX2_add_106 (fun H locs hP hD hS => ?_)
        have hP : va_P D vwCl (TRw cA aT aU aG aE sz (upd w_bf v4.toNatClampNeg x1) (upd w_gf v4.toNatClampNeg x2) w_ef) H := hP
        have hD : va_D A (TRw cA aT aU aG aE sz (upd w_bf v4.toNatClampNeg x1) (upd w_gf v4.toNatClampNeg x2) w_ef) := hD
        refine lv_aload_n hx hb dX2_add_107 rfl (lv_at hl 0 rfl) ?_
        refine va_get (D := D) (ci := 2) (v := .ref aE) (C := RX2) (T := TX2) (N := 4) hx hb hts iX2 hown hK hP 0 rfl rfl 3 (by decide) (hts (.fieldLink RX2 22 "LightBursts$Track" "ends" "[I") (List.mem_of_getElem? (i := 4) rfl)) (fun _ h9 => h9) rfl dX2_add_108 ?_
        refine lv_iload hx hb dX2_add_111 (lv_at hl 4 rfl) ?_
        refine lv_iload_n hx hb dX2_add_113 rfl (lv_at hl 2 rfl) ?_
        refine lv_iload_n hx hb dX2_add_114 rfl (lv_at hl 3 rfl) ?_
        refine lv_iadd hx hb dX2_add_115 ?_
        refine va_iast hx hb hK hP hD hS 3 0 rfl rfl (ad_v hv) dX2_add_116 (fun H locs hP hD hS => ?_)
        have hP : va_P D vwCl (TRw cA aT aU aG aE sz (upd w_bf v4.toNatClampNeg x1) (upd w_gf v4.toNatClampNeg x2) (upd w_ef v4.toNatClampNeg (x2 + x3))) H := hP
        have hD : va_D A (TRw cA aT aU aG aE sz (upd w_bf v4.toNatClampNeg x1) (upd w_gf v4.toNatClampNeg x2) (upd w_ef v4.toNatClampNeg (x2 + x3))) := hD
        refine lv_aload_n hx hb dX2_add_117 rfl (lv_at hl 0 rfl) ?_
        refine lv_dup hx hb dX2_add_118 rfl ?_
        refine va_get (D := D) (ci := 2) (v := .int sz) (C := RX2) (T := TX2) (N := 4) hx hb hts iX2 hown hK hP 0 rfl rfl 0 (by decide) (hts (.fieldLink RX2 9 "LightBursts$Track" "size" "I") (List.mem_of_getElem? (i := 1) rfl)) (fun _ h9 => h9) rfl dX2_add_119 ?_
        refine lv_iconst (v := 1) hx hb dX2_add_122 (by decide) ?_
        refine lv_iadd hx hb dX2_add_123 ?_
        refine va_put (D := D) (ci := 2) (v := .int (sz + 1)) (ty := .int) (C := RX2) (T := TX2) (N := 4) hx hb hts iX2 tyX2 tyX2_ok nmX2 hown hK hP hD hS 0 rfl rfl 0 (by decide) (hts (.fieldLink RX2 9 "LightBursts$Track" "size" "I") (List.mem_of_getElem? (i := 1) rfl)) (fun _ h9 => h9) rfl (tyX2_ok 0 (by decide)) rfl rfl (Nat.le_of_ble_eq_true rfl) dX2_add_124 (fun H locs hP hD hS => ?_)
        have hP : va_P D vwCl (TRw cA aT aU aG aE (sz + 1) (upd w_bf v4.toNatClampNeg x1) (upd w_gf v4.toNatClampNeg x2) (upd w_ef v4.toNatClampNeg (x2 + x3))) H := hP
        have hD : va_D A (TRw cA aT aU aG aE (sz + 1) (upd w_bf v4.toNatClampNeg x1) (upd w_gf v4.toNatClampNeg x2) (upd w_ef v4.toNatClampNeg (x2 + x3))) := hD
        rw [g_X2_add_L19, if_pos c_2] at hG
        rw [hG]
        exact W.vret hx hb hr (fun t ht hW => ⟨⟨(), rfl, trivial, by rw [ht]; exact hP, va_K.moved hW.alike hK, hD⟩, hS.F ht⟩) hS.2.2 dX2_add_127
      · refine lv_aload_n hx hb dX2_add_24 rfl (lv_at hl 0 rfl) ?_
        refine va_get (D := D) (ci := 2) (v := .ref aG) (C := RX2) (T := TX2) (N := 4) hx hb hts iX2 hown hK hP 0 rfl rfl 2 (by decide) (hts (.fieldLink RX2 19 "LightBursts$Track" "begins" "[I") (List.mem_of_getElem? (i := 2) rfl)) (fun _ h9 => h9) rfl dX2_add_25 ?_
        refine lv_iload hx hb dX2_add_28 (lv_at hl 4 rfl) ?_
        refine lv_iconst (v := 1) hx hb dX2_add_30 (by decide) ?_
        refine lv_isub hx hb dX2_add_31 ?_
        refine va_iald hx hb hK hP 2 0 rfl rfl (ad_w hv c_2) dX2_add_32 ?_
        refine lv_iload_n hx hb dX2_add_33 rfl (lv_at hl 2 rfl) ?_
        refine lv_icmp_le (tgt := 91) hx hb dX2_add_34 (by decide) (fun c_3 => ?_) (fun c_3 => ?_)
        · refine lv_aload_n hx hb dX2_add_91 rfl (lv_at hl 0 rfl) ?_
          refine va_get (D := D) (ci := 2) (v := .ref aU) (C := RX2) (T := TX2) (N := 4) hx hb hts iX2 hown hK hP 0 rfl rfl 1 (by decide) (hts (.fieldLink RX2 15 "LightBursts$Track" "bursts" "[I") (List.mem_of_getElem? (i := 3) rfl)) (fun _ h9 => h9) rfl dX2_add_92 ?_
          refine lv_iload hx hb dX2_add_95 (lv_at hl 4 rfl) ?_
          refine lv_iload_n hx hb dX2_add_97 rfl (lv_at hl 1 rfl) ?_
          refine va_iast hx hb hK hP hD hS 1 0 rfl rfl (ad_v hv) dX2_add_98 (fun H locs hP hD hS => ?_)
          have hP : va_P D vwCl (TRw cA aT aU aG aE sz (upd w_bf v4.toNatClampNeg x1) w_gf w_ef) H := hP
          have hD : va_D A (TRw cA aT aU aG aE sz (upd w_bf v4.toNatClampNeg x1) w_gf w_ef) := hD
          refine lv_aload_n hx hb dX2_add_99 rfl (lv_at hl 0 rfl) ?_
          refine va_get (D := D) (ci := 2) (v := .ref aG) (C := RX2) (T := TX2) (N := 4) hx hb hts iX2 hown hK hP 0 rfl rfl 2 (by decide) (hts (.fieldLink RX2 19 "LightBursts$Track" "begins" "[I") (List.mem_of_getElem? (i := 2) rfl)) (fun _ h9 => h9) rfl dX2_add_100 ?_
          refine lv_iload hx hb dX2_add_103 (lv_at hl 4 rfl) ?_
          refine lv_iload_n hx hb dX2_add_105 rfl (lv_at hl 2 rfl) ?_
          refine va_iast hx hb hK hP hD hS 2 0 rfl rfl (ad_v hv) dX2_add_106 (fun H locs hP hD hS => ?_)
          have hP : va_P D vwCl (TRw cA aT aU aG aE sz (upd w_bf v4.toNatClampNeg x1) (upd w_gf v4.toNatClampNeg x2) w_ef) H := hP
          have hD : va_D A (TRw cA aT aU aG aE sz (upd w_bf v4.toNatClampNeg x1) (upd w_gf v4.toNatClampNeg x2) w_ef) := hD
          refine lv_aload_n hx hb dX2_add_107 rfl (lv_at hl 0 rfl) ?_
          refine va_get (D := D) (ci := 2) (v := .ref aE) (C := RX2) (T := TX2) (N := 4) hx hb hts iX2 hown hK hP 0 rfl rfl 3 (by decide) (hts (.fieldLink RX2 22 "LightBursts$Track" "ends" "[I") (List.mem_of_getElem? (i := 4) rfl)) (fun _ h9 => h9) rfl dX2_add_108 ?_
          refine lv_iload hx hb dX2_add_111 (lv_at hl 4 rfl) ?_
          refine lv_iload_n hx hb dX2_add_113 rfl (lv_at hl 2 rfl) ?_
          refine lv_iload_n hx hb dX2_add_114 rfl (lv_at hl 3 rfl) ?_
          refine lv_iadd hx hb dX2_add_115 ?_
          refine va_iast hx hb hK hP hD hS 3 0 rfl rfl (ad_v hv) dX2_add_116 (fun H locs hP hD hS => ?_)
          have hP : va_P D vwCl (TRw cA aT aU aG aE sz (upd w_bf v4.toNatClampNeg x1) (upd w_gf v4.toNatClampNeg x2) (upd w_ef v4.toNatClampNeg (x2 + x3))) H := hP
          have hD : va_D A (TRw cA aT aU aG aE sz (upd w_bf v4.toNatClampNeg x1) (upd w_gf v4.toNatClampNeg x2) (upd w_ef v4.toNatClampNeg (x2 + x3))) := hD
          refine lv_aload_n hx hb dX2_add_117 rfl (lv_at hl 0 rfl) ?_
          refine lv_dup hx hb dX2_add_118 rfl ?_
          refine va_get (D := D) (ci := 2) (v := .int sz) (C := RX2) (T := TX2) (N := 4) hx hb hts iX2 hown hK hP 0 rfl rfl 0 (by decide) (hts (.fieldLink RX2 9 "LightBursts$Track" "size" "I") (List.mem_of_getElem? (i := 1) rfl)) (fun _ h9 => h9) rfl dX2_add_119 ?_
          refine lv_iconst (v := 1) hx hb dX2_add_122 (by decide) ?_
          refine lv_iadd hx hb dX2_add_123 ?_
          refine va_put (D := D) (ci := 2) (v := .int (sz + 1)) (ty := .int) (C := RX2) (T := TX2) (N := 4) hx hb hts iX2 tyX2 tyX2_ok nmX2 hown hK hP hD hS 0 rfl rfl 0 (by decide) (hts (.fieldLink RX2 9 "LightBursts$Track" "size" "I") (List.mem_of_getElem? (i := 1) rfl)) (fun _ h9 => h9) rfl (tyX2_ok 0 (by decide)) rfl rfl (Nat.le_of_ble_eq_true rfl) dX2_add_124 (fun H locs hP hD hS => ?_)
          have hP : va_P D vwCl (TRw cA aT aU aG aE (sz + 1) (upd w_bf v4.toNatClampNeg x1) (upd w_gf v4.toNatClampNeg x2) (upd w_ef v4.toNatClampNeg (x2 + x3))) H := hP
          have hD : va_D A (TRw cA aT aU aG aE (sz + 1) (upd w_bf v4.toNatClampNeg x1) (upd w_gf v4.toNatClampNeg x2) (upd w_ef v4.toNatClampNeg (x2 + x3))) := hD
          rw [g_X2_add_L19, if_neg c_2, if_pos c_3] at hG
          rw [hG]
          exact W.vret hx hb hr (fun t ht hW => ⟨⟨(), rfl, trivial, by rw [ht]; exact hP, va_K.moved hW.alike hK, hD⟩, hS.F ht⟩) hS.2.2 dX2_add_127
        · refine lv_aload_n hx hb dX2_add_37 rfl (lv_at hl 0 rfl) ?_
          refine va_get (D := D) (ci := 2) (v := .ref aU) (C := RX2) (T := TX2) (N := 4) hx hb hts iX2 hown hK hP 0 rfl rfl 1 (by decide) (hts (.fieldLink RX2 15 "LightBursts$Track" "bursts" "[I") (List.mem_of_getElem? (i := 3) rfl)) (fun _ h9 => h9) rfl dX2_add_38 ?_
          refine lv_iload hx hb dX2_add_41 (lv_at hl 4 rfl) ?_
          refine lv_aload_n hx hb dX2_add_43 rfl (lv_at hl 0 rfl) ?_
          refine va_get (D := D) (ci := 2) (v := .ref aU) (C := RX2) (T := TX2) (N := 4) hx hb hts iX2 hown hK hP 0 rfl rfl 1 (by decide) (hts (.fieldLink RX2 15 "LightBursts$Track" "bursts" "[I") (List.mem_of_getElem? (i := 3) rfl)) (fun _ h9 => h9) rfl dX2_add_44 ?_
          refine lv_iload hx hb dX2_add_47 (lv_at hl 4 rfl) ?_
          refine lv_iconst (v := 1) hx hb dX2_add_49 (by decide) ?_
          refine lv_isub hx hb dX2_add_50 ?_
          refine va_iald hx hb hK hP 1 0 rfl rfl (ad_w hv c_2) dX2_add_51 ?_
          refine va_iast hx hb hK hP hD hS 1 0 rfl rfl (ad_v hv) dX2_add_52 (fun H locs hP hD hS => ?_)
          have hP : va_P D vwCl (TRw cA aT aU aG aE sz (upd w_bf v4.toNatClampNeg (w_bf (v4 - 1).toNatClampNeg)) w_gf w_ef) H := hP
          have hD : va_D A (TRw cA aT aU aG aE sz (upd w_bf v4.toNatClampNeg (w_bf (v4 - 1).toNatClampNeg)) w_gf w_ef) := hD
          refine lv_aload_n hx hb dX2_add_53 rfl (lv_at hl 0 rfl) ?_
          refine va_get (D := D) (ci := 2) (v := .ref aG) (C := RX2) (T := TX2) (N := 4) hx hb hts iX2 hown hK hP 0 rfl rfl 2 (by decide) (hts (.fieldLink RX2 19 "LightBursts$Track" "begins" "[I") (List.mem_of_getElem? (i := 2) rfl)) (fun _ h9 => h9) rfl dX2_add_54 ?_
          refine lv_iload hx hb dX2_add_57 (lv_at hl 4 rfl) ?_
          refine lv_aload_n hx hb dX2_add_59 rfl (lv_at hl 0 rfl) ?_
          refine va_get (D := D) (ci := 2) (v := .ref aG) (C := RX2) (T := TX2) (N := 4) hx hb hts iX2 hown hK hP 0 rfl rfl 2 (by decide) (hts (.fieldLink RX2 19 "LightBursts$Track" "begins" "[I") (List.mem_of_getElem? (i := 2) rfl)) (fun _ h9 => h9) rfl dX2_add_60 ?_
          refine lv_iload hx hb dX2_add_63 (lv_at hl 4 rfl) ?_
          refine lv_iconst (v := 1) hx hb dX2_add_65 (by decide) ?_
          refine lv_isub hx hb dX2_add_66 ?_
          refine va_iald hx hb hK hP 2 0 rfl rfl (ad_w hv c_2) dX2_add_67 ?_
          refine va_iast hx hb hK hP hD hS 2 0 rfl rfl (ad_v hv) dX2_add_68 (fun H locs hP hD hS => ?_)
          have hP : va_P D vwCl (TRw cA aT aU aG aE sz (upd w_bf v4.toNatClampNeg (w_bf (v4 - 1).toNatClampNeg)) (upd w_gf v4.toNatClampNeg (w_gf (v4 - 1).toNatClampNeg)) w_ef) H := hP
          have hD : va_D A (TRw cA aT aU aG aE sz (upd w_bf v4.toNatClampNeg (w_bf (v4 - 1).toNatClampNeg)) (upd w_gf v4.toNatClampNeg (w_gf (v4 - 1).toNatClampNeg)) w_ef) := hD
          refine lv_aload_n hx hb dX2_add_69 rfl (lv_at hl 0 rfl) ?_
          refine va_get (D := D) (ci := 2) (v := .ref aE) (C := RX2) (T := TX2) (N := 4) hx hb hts iX2 hown hK hP 0 rfl rfl 3 (by decide) (hts (.fieldLink RX2 22 "LightBursts$Track" "ends" "[I") (List.mem_of_getElem? (i := 4) rfl)) (fun _ h9 => h9) rfl dX2_add_70 ?_
          refine lv_iload hx hb dX2_add_73 (lv_at hl 4 rfl) ?_
          refine lv_aload_n hx hb dX2_add_75 rfl (lv_at hl 0 rfl) ?_
          refine va_get (D := D) (ci := 2) (v := .ref aE) (C := RX2) (T := TX2) (N := 4) hx hb hts iX2 hown hK hP 0 rfl rfl 3 (by decide) (hts (.fieldLink RX2 22 "LightBursts$Track" "ends" "[I") (List.mem_of_getElem? (i := 4) rfl)) (fun _ h9 => h9) rfl dX2_add_76 ?_
          refine lv_iload hx hb dX2_add_79 (lv_at hl 4 rfl) ?_
          refine lv_iconst (v := 1) hx hb dX2_add_81 (by decide) ?_
          refine lv_isub hx hb dX2_add_82 ?_
          refine va_iald hx hb hK hP 3 0 rfl rfl (ad_w hv c_2) dX2_add_83 ?_
          refine va_iast hx hb hK hP hD hS 3 0 rfl rfl (ad_v hv) dX2_add_84 (fun H locs hP hD hS => ?_)
          have hP : va_P D vwCl (TRw cA aT aU aG aE sz (upd w_bf v4.toNatClampNeg (w_bf (v4 - 1).toNatClampNeg)) (upd w_gf v4.toNatClampNeg (w_gf (v4 - 1).toNatClampNeg)) (upd w_ef v4.toNatClampNeg (w_ef (v4 - 1).toNatClampNeg))) H := hP
          have hD : va_D A (TRw cA aT aU aG aE sz (upd w_bf v4.toNatClampNeg (w_bf (v4 - 1).toNatClampNeg)) (upd w_gf v4.toNatClampNeg (w_gf (v4 - 1).toNatClampNeg)) (upd w_ef v4.toNatClampNeg (w_ef (v4 - 1).toNatClampNeg))) := hD
          refine lv_iinc (v := (v4 + (-1))) (lv' := [(4, .int (v4 + (-1))), (0, .ref aT), (1, .int x1), (2, .int x2), (3, .int x3)]) hx hb dX2_add_85 hl (k := 4) rfl rfl (by decide) rfl (fun ls hl => ?_)
          refine lv_goto (tgt := 19) hx hb dX2_add_88 (by decide) ?_
          rw [g_X2_add_L19, if_neg c_2, if_neg c_3] at hG
          exact ih19 (v4 + (-1)) (upd w_bf v4.toNatClampNeg (w_bf (v4 - 1).toNatClampNeg)) (upd w_gf v4.toNatClampNeg (w_gf (v4 - 1).toNatClampNeg)) (upd w_ef v4.toNatClampNeg (w_ef (v4 - 1).toNatClampNeg)) _ _ _ (by exact ad_s hv c_2) (by exact ad_m c_2 hm19) hG hP hD hS (lv_sub hl [1, 2, 3, 4, 0] rfl)
  · rw [g_X2_add, if_pos c_1] at hG
    rw [hG]
    exact W.vret hx hb hr (fun t ht hW => ⟨⟨(), rfl, trivial, by rw [ht]; exact hP, va_K.moved hW.alike hK, hD⟩, hS.F ht⟩) hS.2.2 dX2_add_12

theorem add_L_sz (sz x1 x2 x3 : Int32) : ∀ (n : Nat) (v : Int32) (b g e : Nat → Int32), n = 0 ∨ (g_X2_add_L19 sz x1 x2 x3 n v b g e).1 = sz + 1 ∨ (g_X2_add_L19 sz x1 x2 x3 n v b g e).1 = 0 := by
  intro n
  induction n with
  | zero => intros; exact Or.inl rfl
  | succ n ih =>
    intro v b g e
    refine Or.inr ?_
    rw [g_X2_add_L19]
    split
    · exact Or.inl rfl
    · split
      · exact Or.inl rfl
      · rcases ih (v + (-1)) (upd b v.toNatClampNeg (b (v - 1).toNatClampNeg)) (upd g v.toNatClampNeg (g (v - 1).toNatClampNeg)) (upd e v.toNatClampNeg (e (v - 1).toNatClampNeg)) with h | h | h
        · subst h; exact Or.inr rfl
        · exact Or.inl h
        · exact Or.inr h
theorem add_le {sz : Int32} {b g e : Nat → Int32} {x1 x2 x3 : Int32} (h : sz ≤ 48) : (g_X2_add sz b g e x1 x2 x3).1 ≤ 48 := by
  have e48 : (48 : Int32).toInt = 48 := rfl
  have e1 : (1 : Int32).toInt = 1 := rfl
  unfold g_X2_add
  split
  · exact h
  · rename_i hc
    have h1 := ad_0 hc
    rcases add_L_sz sz x1 x2 x3 (sz.toInt.toNat + 1) sz b g e with h2 | h2 | h2
    · omega
    · rw [h2, Int32.le_iff_toInt_le, i32_add (by omega) (by omega)]
      omega
    · rw [h2]; decide
