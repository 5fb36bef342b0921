def g_X0_ruleNow (rf : (Nat → Int32)) (x1 : Int32) : Int32 := (if (g_X3_isBelow x1 6) = 0 then (-6) else (rf x1.toNatClampNeg))
set_option maxHeartbeats 4000000 in
set_option maxRecDepth 100000 in
theorem c_X0_ruleNow (l : Launch) (D : va_G) (cA cZ : ClassId) (aB : Nat) (aR : Nat) (aL : Nat) (aF : Nat) (szz : Nat) (now : Int32) (told : Int32) (rf : (Nat → Int32)) (lf : (Nat → Int32)) (ff : (Nat → Int32)) (x1 : Int32) : MetI l yX0_ruleNow wsX0_ruleNow 1 21 D (tyA cA cZ) [.ref aB, .int x1] (BKw cA aB aR aL aF now told rf lf ff) szz (g_X0_ruleNow rf x1) (BKw cA aB aR aL aF now told rf lf ff) := by
  refine Met.ofW (cc := cX0_ruleNow) (maxL := 2) (ret := (some .int)) (by decide) rfl ?_
  intro p e s m args below meth c s₁ B hml hv
  obtain ⟨rfl, hsz, hP, hK, hD0, hN⟩ := hv
  have hx := B.exec
  have hb := B.bytes
  have hr := B.returns
  have hts := atoms_spec (ws := wsX0_ruleNow) B.pre
  have hown : s.vm.findClass RX0 = some m.cls := findClass_of_methodNamed B.named
  have hlocks := B.notSynchronized
  have iX0 : ∀ w ∈ wsX00, w ∈ wsX0_ruleNow := fun _ h => List.mem_cons_of_mem _ (List.mem_append_right _ h)
  subst hsz
  have hD := hD0.self (sz := s.heap.size)
  generalize hAe : va_A (BKw cA aB aR aL aF now told rf lf ff) s.heap.size = A at hD ⊢
  have hA : ∀ q : Nat, s.heap.size ≤ q → A q := fun q h => by rw [← hAe]; exact Or.inr h
  have hS : va_S A s.heap s.heap [] := va_S.rf
  have hP : va_P D vwCl (BKw cA aB aR aL aF now told rf lf ff) s.heap := hP
  obtain ⟨G, hG⟩ : ∃ G, G = (g_X0_ruleNow rf x1) := ⟨_, rfl⟩
  rw [← hG]
  have hl := lv_entry ([.ref aB, .int x1]) (n := 2) (Nat.le_of_ble_eq_true rfl)
  rw [lg_entry_eq]
  generalize (lg_sl ([.ref aB, .int x1]) ++ List.replicate (2 - (lg_sl ([.ref aB, .int x1])).length) Slot.unset).toArray = ls at hl ⊢
  have hl : lv_has ls 2 [(0, .ref aB), (1, .int x1)] := hl
  refine lv_iload_n hx hb dX0_ruleNow_0 rfl (lv_at hl 1 rfl) ?_
  refine lv_bipush (v := 6) hx hb dX0_ruleNow_1 (by decide) ?_
  refine kI (wr := BKw cA aB aR aL aF now told rf lf ff) (W1 := ([] : va_W)) (wsN := BKw cA aB aR aL aF now told rf lf ff) (rSN (As := [.int x1, .int 6]) (rest := []) (W0 := ([] : va_W)) ⟨hx, hb, hml, hown, hts⟩ (c_X3_isBelow l D cA cZ s.heap.size x1 6) ⟨va_cnB 2 hts gX0_ruleNow_X3_isBelow_n42 rfl rfl rfl (hN (.methodLinkNest RX0 42 yX3_isBelow RX3) (List.mem_of_getElem? (i := 15) rfl)) (hts (.initialized RX3) (List.mem_of_getElem? (i := 3) rfl)) (by decide +kernel) ⟨Nat.le_of_ble_eq_true rfl, Nat.le_of_ble_eq_true rfl⟩, (hts (.static yX3_isBelow) (List.mem_of_getElem? (i := 2) rfl)), trivial⟩ hP hD hK hN ([] : List Nat) rfl rfl rfl hl.1 rfl (Nat.le_of_ble_eq_true rfl) dX0_ruleNow_3 ⟨Nat.zero_le _, Nat.zero_le _⟩) hP hD hS hA [] [0, 1, 2, 3] [0, 1, 2, 3] rfl rfl rfl (by decide) rfl rfl (fun H locs hP hD hS => ?_)
  refine lv_if_eq (tgt := 18) hx hb dX0_ruleNow_6 (by decide) (fun c_1 => ?_) (fun c_1 => ?_)
  · refine lv_bipush (v := (-6)) hx hb dX0_ruleNow_18 (by decide) ?_
    rw [g_X0_ruleNow, if_pos c_1] at hG
    rw [hG]
    exact W.iret (v := (-6)) hx hb hr (fun t ht hW => ⟨⟨_, (), rfl, rfl, by rw [ht]; exact hP, va_K.moved hW.alike hK, hD⟩, hS.F ht⟩) hS.2.2 dX0_ruleNow_20
  · refine lv_aload_n hx hb dX0_ruleNow_9 rfl (lv_at hl 0 rfl) ?_
    refine va_get (D := D) (ci := 0) (v := .ref aR) (C := RX0) (T := TX0) (N := 5) hx hb hts iX0 hown hK hP 0 rfl rfl 2 (by decide) (hts (.fieldLink RX0 27 "LightBursts$Book" "rules" "[I") (List.mem_of_getElem? (i := 1) rfl)) (fun _ h9 => h9) rfl dX0_ruleNow_10 ?_
    refine lv_iload_n hx hb dX0_ruleNow_13 rfl (lv_at hl 1 rfl) ?_
    refine va_iald hx hb hK hP 1 0 rfl rfl (below_in c_1 rfl) dX0_ruleNow_14 ?_
    refine lv_goto (tgt := 20) hx hb dX0_ruleNow_15 (by decide) ?_
    rw [g_X0_ruleNow, if_neg c_1] at hG
    rw [hG]
    exact W.iret (v := (rf x1.toNatClampNeg)) hx hb hr (fun t ht hW => ⟨⟨_, (), rfl, rfl, by rw [ht]; exact hP, va_K.moved hW.alike hK, hD⟩, hS.F ht⟩) hS.2.2 dX0_ruleNow_20

def g_X0_lengthNow (lf : (Nat → Int32)) (x1 : Int32) : Int32 := (if (g_X3_isBelow x1 3) = 0 then (-6) else (lf x1.toNatClampNeg))
set_option maxHeartbeats 4000000 in
set_option maxRecDepth 100000 in
theorem c_X0_lengthNow (l : Launch) (D : va_G) (cA cZ : ClassId) (aB : Nat) (aR : Nat) (aL : Nat) (aF : Nat) (szz : Nat) (now : Int32) (told : Int32) (rf : (Nat → Int32)) (lf : (Nat → Int32)) (ff : (Nat → Int32)) (x1 : Int32) : MetI l yX0_lengthNow wsX0_lengthNow 1 21 D (tyA cA cZ) [.ref aB, .int x1] (BKw cA aB aR aL aF now told rf lf ff) szz (g_X0_lengthNow lf x1) (BKw cA aB aR aL aF now told rf lf ff) := by
  refine Met.ofW (cc := cX0_lengthNow) (maxL := 2) (ret := (some .int)) (by decide) rfl ?_
  intro p e s m args below meth c s₁ B hml hv
  obtain ⟨rfl, hsz, hP, hK, hD0, hN⟩ := hv
  have hx := B.exec
  have hb := B.bytes
  have hr := B.returns
  have hts := atoms_spec (ws := wsX0_lengthNow) B.pre
  have hown : s.vm.findClass RX0 = some m.cls := findClass_of_methodNamed B.named
  have hlocks := B.notSynchronized
  have iX0 : ∀ w ∈ wsX00, w ∈ wsX0_lengthNow := fun _ h => List.mem_cons_of_mem _ (List.mem_append_right _ h)
  subst hsz
  have hD := hD0.self (sz := s.heap.size)
  generalize hAe : va_A (BKw cA aB aR aL aF now told rf lf ff) s.heap.size = A at hD ⊢
  have hA : ∀ q : Nat, s.heap.size ≤ q → A q := fun q h => by rw [← hAe]; exact Or.inr h
  have hS : va_S A s.heap s.heap [] := va_S.rf
  have hP : va_P D vwCl (BKw cA aB aR aL aF now told rf lf ff) s.heap := hP
  obtain ⟨G, hG⟩ : ∃ G, G = (g_X0_lengthNow lf x1) := ⟨_, rfl⟩
  rw [← hG]
  have hl := lv_entry ([.ref aB, .int x1]) (n := 2) (Nat.le_of_ble_eq_true rfl)
  rw [lg_entry_eq]
  generalize (lg_sl ([.ref aB, .int x1]) ++ List.replicate (2 - (lg_sl ([.ref aB, .int x1])).length) Slot.unset).toArray = ls at hl ⊢
  have hl : lv_has ls 2 [(0, .ref aB), (1, .int x1)] := hl
  refine lv_iload_n hx hb dX0_lengthNow_0 rfl (lv_at hl 1 rfl) ?_
  refine lv_iconst (v := 3) hx hb dX0_lengthNow_1 (by decide) ?_
  refine kI (wr := BKw cA aB aR aL aF now told rf lf ff) (W1 := ([] : va_W)) (wsN := BKw cA aB aR aL aF now told rf lf ff) (rSN (As := [.int x1, .int 3]) (rest := []) (W0 := ([] : va_W)) ⟨hx, hb, hml, hown, hts⟩ (c_X3_isBelow l D cA cZ s.heap.size x1 3) ⟨va_cnB 2 hts gX0_lengthNow_X3_isBelow_n42 rfl rfl rfl (hN (.methodLinkNest RX0 42 yX3_isBelow RX3) (List.mem_of_getElem? (i := 15) rfl)) (hts (.initialized RX3) (List.mem_of_getElem? (i := 3) rfl)) (by decide +kernel) ⟨Nat.le_of_ble_eq_true rfl, Nat.le_of_ble_eq_true rfl⟩, (hts (.static yX3_isBelow) (List.mem_of_getElem? (i := 2) rfl)), trivial⟩ hP hD hK hN ([] : List Nat) rfl rfl rfl hl.1 rfl (Nat.le_of_ble_eq_true rfl) dX0_lengthNow_2 ⟨Nat.zero_le _, Nat.zero_le _⟩) hP hD hS hA [] [0, 1, 2, 3] [0, 1, 2, 3] rfl rfl rfl (by decide) rfl rfl (fun H locs hP hD hS => ?_)
  refine lv_if_eq (tgt := 17) hx hb dX0_lengthNow_5 (by decide) (fun c_1 => ?_) (fun c_1 => ?_)
  · refine lv_bipush (v := (-6)) hx hb dX0_lengthNow_17 (by decide) ?_
    rw [g_X0_lengthNow, if_pos c_1] at hG
    rw [hG]
    exact W.iret (v := (-6)) hx hb hr (fun t ht hW => ⟨⟨_, (), rfl, rfl, by rw [ht]; exact hP, va_K.moved hW.alike hK, hD⟩, hS.F ht⟩) hS.2.2 dX0_lengthNow_19
  · refine lv_aload_n hx hb dX0_lengthNow_8 rfl (lv_at hl 0 rfl) ?_
    refine va_get (D := D) (ci := 0) (v := .ref aL) (C := RX0) (T := TX0) (N := 5) hx hb hts iX0 hown hK hP 0 rfl rfl 3 (by decide) (hts (.fieldLink RX0 30 "LightBursts$Book" "lengths" "[I") (List.mem_of_getElem? (i := 1) rfl)) (fun _ h9 => h9) rfl dX0_lengthNow_9 ?_
    refine lv_iload_n hx hb dX0_lengthNow_12 rfl (lv_at hl 1 rfl) ?_
    refine va_iald hx hb hK hP 2 0 rfl rfl (below_in c_1 rfl) dX0_lengthNow_13 ?_
    refine lv_goto (tgt := 19) hx hb dX0_lengthNow_14 (by decide) ?_
    rw [g_X0_lengthNow, if_neg c_1] at hG
    rw [hG]
    exact W.iret (v := (lf x1.toNatClampNeg)) hx hb hr (fun t ht hW => ⟨⟨_, (), rfl, rfl, by rw [ht]; exact hP, va_K.moved hW.alike hK, hD⟩, hS.F ht⟩) hS.2.2 dX0_lengthNow_19

def g_X0_comingTick (now : Int32) (rf : (Nat → Int32)) (x1 : Int32) (x2 : Int32) : Int32 := ((now + ((g_X0_ruleNow rf 1) * x2)) + ((g_X0_ruleNow rf 2) * x1))
set_option maxHeartbeats 4000000 in
set_option maxRecDepth 100000 in
theorem c_X0_comingTick (l : Launch) (D : va_G) (cA cZ : ClassId) (aB : Nat) (aR : Nat) (aL : Nat) (aF : Nat) (szz : Nat) (now : Int32) (told : Int32) (rf : (Nat → Int32)) (lf : (Nat → Int32)) (ff : (Nat → Int32)) (x1 : Int32) (x2 : Int32) : MetI l yX0_comingTick wsX0_comingTick 2 42 D (tyA cA cZ) [.ref aB, .int x1, .int x2] (BKw cA aB aR aL aF now told rf lf ff) szz (g_X0_comingTick now rf x1 x2) (BKw cA aB aR aL aF now told rf lf ff) := by
  refine Met.ofW (cc := cX0_comingTick) (maxL := 3) (ret := (some .int)) (by decide) rfl ?_
  intro p e s m args below meth c s₁ B hml hv
  obtain ⟨rfl, hsz, hP, hK, hD0, hN⟩ := hv
  have hx := B.exec
  have hb := B.bytes
  have hr := B.returns
  have hts := atoms_spec (ws := wsX0_comingTick) B.pre
  have hown : s.vm.findClass RX0 = some m.cls := findClass_of_methodNamed B.named
  have hlocks := B.notSynchronized
  have iX0 : ∀ w ∈ wsX00, w ∈ wsX0_comingTick := fun _ h => List.mem_cons_of_mem _ (List.mem_append_right _ h)
  subst hsz
  have hD := hD0.self (sz := s.heap.size)
  generalize hAe : va_A (BKw cA aB aR aL aF now told rf lf ff) s.heap.size = A at hD ⊢
  have hA : ∀ q : Nat, s.heap.size ≤ q → A q := fun q h => by rw [← hAe]; exact Or.inr h
  have hS : va_S A s.heap s.heap [] := va_S.rf
  have hP : va_P D vwCl (BKw cA aB aR aL aF now told rf lf ff) s.heap := hP
  obtain ⟨G, hG⟩ : ∃ G, G = (g_X0_comingTick now rf x1 x2) := ⟨_, rfl⟩
  rw [← hG]
  have hl := lv_entry ([.ref aB, .int x1, .int x2]) (n := 3) (Nat.le_of_ble_eq_true rfl)
  rw [lg_entry_eq]
  generalize (lg_sl ([.ref aB, .int x1, .int x2]) ++ List.replicate (3 - (lg_sl ([.ref aB, .int x1, .int x2])).length) Slot.unset).toArray = ls at hl ⊢
  have hl : lv_has ls 3 [(0, .ref aB), (1, .int x1), (2, .int x2)] := hl
  refine lv_aload_n hx hb dX0_comingTick_0 rfl (lv_at hl 0 rfl) ?_
  refine va_get (D := D) (ci := 0) (v := .int now) (C := RX0) (T := TX0) (N := 5) hx hb hts iX0 hown hK hP 0 rfl rfl 0 (by decide) (hts (.fieldLink RX0 9 "LightBursts$Book" "now" "I") (List.mem_of_getElem? (i := 1) rfl)) (fun _ h9 => h9) rfl dX0_comingTick_1 ?_
  refine lv_aload_n hx hb dX0_comingTick_4 rfl (lv_at hl 0 rfl) ?_
  refine lv_iconst (v := 1) hx hb dX0_comingTick_5 (by decide) ?_
  refine kI (wr := ([] : va_W)) (W1 := BKw cA aB aR aL aF now told rf lf ff) (wsN := BKw cA aB aR aL aF now told rf lf ff) (rV (As := [.int 1]) (rest := [.int now]) (W0 := BKw cA aB aR aL aF now told rf lf ff) ⟨hx, hb, hml, hown, hts⟩ (c_X0_ruleNow l D cA cZ aB aR aL aF s.heap.size now told rf lf ff 1) (cwV 1 hts gX0_comingTick_X0_ruleNow rfl rfl rfl (by decide +kernel) ⟨Nat.le_of_ble_eq_true rfl, Nat.le_of_ble_eq_true rfl⟩) hP hD hK hN ([0, 1, 2, 3] : List Nat) rfl rfl 0 0 rfl rfl rfl hl.1 rfl (Nat.le_of_ble_eq_true rfl) dX0_comingTick_6 ⟨Nat.zero_le _, Nat.zero_le _⟩) hP hD hS hA [0, 1, 2, 3] [] [0, 1, 2, 3] rfl rfl rfl (by decide) rfl rfl (fun H locs hP hD hS => ?_)
  refine lv_iload_n hx hb dX0_comingTick_9 rfl (lv_at hl 2 rfl) ?_
  refine lv_imul hx hb dX0_comingTick_10 ?_
  refine lv_iadd hx hb dX0_comingTick_11 ?_
  refine lv_aload_n hx hb dX0_comingTick_12 rfl (lv_at hl 0 rfl) ?_
  refine lv_iconst (v := 2) hx hb dX0_comingTick_13 (by decide) ?_
  refine kI (wr := ([] : va_W)) (W1 := BKw cA aB aR aL aF now told rf lf ff) (wsN := BKw cA aB aR aL aF now told rf lf ff) (rV (As := [.int 2]) (rest := [.int (now + ((g_X0_ruleNow rf 1) * x2))]) (W0 := BKw cA aB aR aL aF now told rf lf ff) ⟨hx, hb, hml, hown, hts⟩ (c_X0_ruleNow l D cA cZ aB aR aL aF H.size now told rf lf ff 2) (cwV 1 hts gX0_comingTick_X0_ruleNow rfl rfl rfl (by decide +kernel) ⟨Nat.le_of_ble_eq_true rfl, Nat.le_of_ble_eq_true rfl⟩) hP hD hK hN ([0, 1, 2, 3] : List Nat) rfl rfl 0 0 rfl rfl rfl hl.1 rfl (Nat.le_of_ble_eq_true rfl) dX0_comingTick_14 ⟨Nat.zero_le _, Nat.zero_le _⟩) hP hD hS hA [0, 1, 2, 3] [] [0, 1, 2, 3] rfl rfl rfl (by decide) rfl rfl (fun H locs hP hD hS => ?_)
  refine lv_iload_n hx hb dX0_comingTick_17 rfl (lv_at hl 1 rfl) ?_
  refine lv_imul hx hb dX0_comingTick_18 ?_
  refine lv_iadd hx hb dX0_comingTick_19 ?_
  rw [g_X0_comingTick] at hG
  rw [hG]
  exact W.iret (v := ((now + ((g_X0_ruleNow rf 1) * x2)) + ((g_X0_ruleNow rf 2) * x1))) hx hb hr (fun t ht hW => ⟨⟨_, (), rfl, rfl, by rw [ht]; exact hP, va_K.moved hW.alike hK, hD⟩, hS.F ht⟩) hS.2.2 dX0_comingTick_20

def g_X0_fact (ff : (Nat → Int32)) (x1 : Int32) (x2 : Int32) : Int32 := (if (g_X3_isBelow ((x1 * 11) + x2) 528) = 0 then (-6) else (ff ((x1 * 11) + x2).toNatClampNeg))
set_option maxHeartbeats 4000000 in
set_option maxRecDepth 100000 in
theorem c_X0_fact (l : Launch) (D : va_G) (cA cZ : ClassId) (aB : Nat) (aR : Nat) (aL : Nat) (aF : Nat) (szz : Nat) (now : Int32) (told : Int32) (rf : (Nat → Int32)) (lf : (Nat → Int32)) (ff : (Nat → Int32)) (x1 : Int32) (x2 : Int32) : MetI l yX0_fact wsX0_fact 1 21 D (tyA cA cZ) [.ref aB, .int x1, .int x2] (BKw cA aB aR aL aF now told rf lf ff) szz (g_X0_fact ff x1 x2) (BKw cA aB aR aL aF now told rf lf ff) := by
  refine Met.ofW (cc := cX0_fact) (maxL := 4) (ret := (some .int)) (by decide) rfl ?_
  intro p e s m args below meth c s₁ B hml hv
  obtain ⟨rfl, hsz, hP, hK, hD0, hN⟩ := hv
  have hx := B.exec
  have hb := B.bytes
  have hr := B.returns
  have hts := atoms_spec (ws := wsX0_fact) B.pre
  have hown : s.vm.findClass RX0 = some m.cls := findClass_of_methodNamed B.named
  have hlocks := B.notSynchronized
  have iX0 : ∀ w ∈ wsX00, w ∈ wsX0_fact := fun _ h => List.mem_cons_of_mem _ (List.mem_append_right _ h)
  subst hsz
  have hD := hD0.self (sz := s.heap.size)
  generalize hAe : va_A (BKw cA aB aR aL aF now told rf lf ff) s.heap.size = A at hD ⊢
  have hA : ∀ q : Nat, s.heap.size ≤ q → A q := fun q h => by rw [← hAe]; exact Or.inr h
  have hS : va_S A s.heap s.heap [] := va_S.rf
  have hP : va_P D vwCl (BKw cA aB aR aL aF now told rf lf ff) s.heap := hP
  obtain ⟨G, hG⟩ : ∃ G, G = (g_X0_fact ff x1 x2) := ⟨_, rfl⟩
  rw [← hG]
  have hl := lv_entry ([.ref aB, .int x1, .int x2]) (n := 4) (Nat.le_of_ble_eq_true rfl)
  rw [lg_entry_eq]
  generalize (lg_sl ([.ref aB, .int x1, .int x2]) ++ List.replicate (4 - (lg_sl ([.ref aB, .int x1, .int x2])).length) Slot.unset).toArray = ls at hl ⊢
  have hl : lv_has ls 4 [(0, .ref aB), (1, .int x1), (2, .int x2)] := hl
  refine lv_iload_n hx hb dX0_fact_0 rfl (lv_at hl 1 rfl) ?_
  refine lv_bipush (v := 11) hx hb dX0_fact_1 (by decide) ?_
  refine lv_imul hx hb dX0_fact_3 ?_
  refine lv_iload_n hx hb dX0_fact_4 rfl (lv_at hl 2 rfl) ?_
  refine lv_iadd hx hb dX0_fact_5 ?_
  refine lv_istore_n (lv' := [(3, .int ((x1 * 11) + x2)), (0, .ref aB), (1, .int x1), (2, .int x2)]) hx hb dX0_fact_6 rfl hl (by decide) rfl (fun ls hl => ?_)
  refine lv_iload_n hx hb dX0_fact_7 rfl (lv_at hl 0 rfl) ?_
  refine lv_sipush (v := 528) hx hb dX0_fact_8 (by decide) ?_
  refine kI (wr := BKw cA aB aR aL aF now told rf lf ff) (W1 := ([] : va_W)) (wsN := BKw cA aB aR aL aF now told rf lf ff) (rSN (As := [.int ((x1 * 11) + x2), .int 528]) (rest := []) (W0 := ([] : va_W)) ⟨hx, hb, hml, hown, hts⟩ (c_X3_isBelow l D cA cZ s.heap.size ((x1 * 11) + x2) 528) ⟨va_cnB 2 hts gX0_fact_X3_isBelow_n42 rfl rfl rfl (hN (.methodLinkNest RX0 42 yX3_isBelow RX3) (List.mem_of_getElem? (i := 15) rfl)) (hts (.initialized RX3) (List.mem_of_getElem? (i := 3) rfl)) (by decide +kernel) ⟨Nat.le_of_ble_eq_true rfl, Nat.le_of_ble_eq_true rfl⟩, (hts (.static yX3_isBelow) (List.mem_of_getElem? (i := 2) rfl)), trivial⟩ hP hD hK hN ([] : List Nat) rfl rfl rfl hl.1 rfl (Nat.le_of_ble_eq_true rfl) dX0_fact_11 ⟨Nat.zero_le _, Nat.zero_le _⟩) hP hD hS hA [] [0, 1, 2, 3] [0, 1, 2, 3] rfl rfl rfl (by decide) rfl rfl (fun H locs hP hD hS => ?_)
  refine lv_if_eq (tgt := 26) hx hb dX0_fact_14 (by decide) (fun c_1 => ?_) (fun c_1 => ?_)
  · refine lv_bipush (v := (-6)) hx hb dX0_fact_26 (by decide) ?_
    rw [g_X0_fact, if_pos c_1] at hG
    rw [hG]
    exact W.iret (v := (-6)) hx hb hr (fun t ht hW => ⟨⟨_, (), rfl, rfl, by rw [ht]; exact hP, va_K.moved hW.alike hK, hD⟩, hS.F ht⟩) hS.2.2 dX0_fact_28
  · refine lv_aload_n hx hb dX0_fact_17 rfl (lv_at hl 1 rfl) ?_
    refine va_get (D := D) (ci := 0) (v := .ref aF) (C := RX0) (T := TX0) (N := 5) hx hb hts iX0 hown hK hP 0 rfl rfl 4 (by decide) (hts (.fieldLink RX0 33 "LightBursts$Book" "facts" "[I") (List.mem_of_getElem? (i := 1) rfl)) (fun _ h9 => h9) rfl dX0_fact_18 ?_
    refine lv_iload_n hx hb dX0_fact_21 rfl (lv_at hl 0 rfl) ?_
    refine va_iald hx hb hK hP 3 0 rfl rfl (below_in c_1 rfl) dX0_fact_22 ?_
    refine lv_goto (tgt := 28) hx hb dX0_fact_23 (by decide) ?_
    rw [g_X0_fact, if_neg c_1] at hG
    rw [hG]
    exact W.iret (v := (ff ((x1 * 11) + x2).toNatClampNeg)) hx hb hr (fun t ht hW => ⟨⟨_, (), rfl, rfl, by rw [ht]; exact hP, va_K.moved hW.alike hK, hD⟩, hS.F ht⟩) hS.2.2 dX0_fact_28

def g_X0_setFact (ff : (Nat → Int32)) (x1 : Int32) (x2 : Int32) (x3 : Int32) : (Nat → Int32) := (if (g_X3_isBelow ((x1 * 11) + x2) 528) = 0 then ff else (upd ff ((x1 * 11) + x2).toNatClampNeg x3))
set_option maxHeartbeats 4000000 in
set_option maxRecDepth 100000 in
theorem c_X0_setFact (l : Launch) (D : va_G) (cA cZ : ClassId) (aB : Nat) (aR : Nat) (aL : Nat) (aF : Nat) (szz : Nat) (now : Int32) (told : Int32) (rf : (Nat → Int32)) (lf : (Nat → Int32)) (ff : (Nat → Int32)) (x1 : Int32) (x2 : Int32) (x3 : Int32) : MetV l yX0_setFact wsX0_setFact 1 21 D (tyA cA cZ) [.ref aB, .int x1, .int x2, .int x3] (BKw cA aB aR aL aF now told rf lf ff) szz (BKw cA aB aR aL aF now told rf lf (g_X0_setFact ff x1 x2 x3)) := by
  refine Met.ofW (cc := cX0_setFact) (maxL := 5) (ret := none) (by decide) rfl ?_
  intro p e s m args below meth c s₁ B hml hv
  obtain ⟨rfl, hsz, hP, hK, hD0, hN⟩ := hv
  have hx := B.exec
  have hb := B.bytes
  have hr := B.returns
  have hts := atoms_spec (ws := wsX0_setFact) B.pre
  have hown : s.vm.findClass RX0 = some m.cls := findClass_of_methodNamed B.named
  have hlocks := B.notSynchronized
  have iX0 : ∀ w ∈ wsX00, w ∈ wsX0_setFact := fun _ h => List.mem_cons_of_mem _ (List.mem_append_right _ h)
  subst hsz
  have hD := hD0.self (sz := s.heap.size)
  generalize hAe : va_A (BKw cA aB aR aL aF now told rf lf ff) s.heap.size = A at hD ⊢
  have hA : ∀ q : Nat, s.heap.size ≤ q → A q := fun q h => by rw [← hAe]; exact Or.inr h
  have hS : va_S A s.heap s.heap [] := va_S.rf
  have hP : va_P D vwCl (BKw cA aB aR aL aF now told rf lf ff) s.heap := hP
  obtain ⟨G, hG⟩ : ∃ G, G = (g_X0_setFact ff x1 x2 x3) := ⟨_, rfl⟩
  rw [← hG]
  have hl := lv_entry ([.ref aB, .int x1, .int x2, .int x3]) (n := 5) (Nat.le_of_ble_eq_true rfl)
  rw [lg_entry_eq]
  generalize (lg_sl ([.ref aB, .int x1, .int x2, .int x3]) ++ List.replicate (5 - (lg_sl ([.ref aB, .int x1, .int x2, .int x3])).length) Slot.unset).toArray = ls at hl ⊢
  have hl : lv_has ls 5 [(0, .ref aB), (1, .int x1), (2, .int x2), (3, .int x3)] := hl
  refine lv_iload_n hx hb dX0_setFact_0 rfl (lv_at hl 1 rfl) ?_
  refine lv_bipush (v := 11) hx hb dX0_setFact_1 (by decide) ?_
  refine lv_imul hx hb dX0_setFact_3 ?_
  refine lv_iload_n hx hb dX0_setFact_4 rfl (lv_at hl 2 rfl) ?_
  refine lv_iadd hx hb dX0_setFact_5 ?_
  refine lv_istore (lv' := [(4, .int ((x1 * 11) + x2)), (0, .ref aB), (1, .int x1), (2, .int x2), (3, .int x3)]) hx hb dX0_setFact_6 hl (by decide) rfl (fun ls hl => ?_)
  refine lv_iload hx hb dX0_setFact_8 (lv_at hl 0 rfl) ?_
  refine lv_sipush (v := 528) hx hb dX0_setFact_10 (by decide) ?_
  refine kI (wr := BKw cA aB aR aL aF now told rf lf ff) (W1 := ([] : va_W)) (wsN := BKw cA aB aR aL aF now told rf lf ff) (rSN (As := [.int ((x1 * 11) + x2), .int 528]) (rest := []) (W0 := ([] : va_W)) ⟨hx, hb, hml, hown, hts⟩ (c_X3_isBelow l D cA cZ s.heap.size ((x1 * 11) + x2) 528) ⟨va_cnB 2 hts gX0_setFact_X3_isBelow_n42 rfl rfl rfl (hN (.methodLinkNest RX0 42 yX3_isBelow RX3) (List.mem_of_getElem? (i := 15) rfl)) (hts (.initialized RX3) (List.mem_of_getElem? (i := 3) rfl)) (by decide +kernel) ⟨Nat.le_of_ble_eq_true rfl, Nat.le_of_ble_eq_true rfl⟩, (hts (.static yX3_isBelow) (List.mem_of_getElem? (i := 2) rfl)), trivial⟩ hP hD hK hN ([] : List Nat) rfl rfl rfl hl.1 rfl (Nat.le_of_ble_eq_true rfl) dX0_setFact_13 ⟨Nat.zero_le _, Nat.zero_le _⟩) hP hD hS hA [] [0, 1, 2, 3] [0, 1, 2, 3] rfl rfl rfl (by decide) rfl rfl (fun H locs hP hD hS => ?_)
  refine lv_if_eq (tgt := 27) hx hb dX0_setFact_16 (by decide) (fun c_1 => ?_) (fun c_1 => ?_)
  · rw [g_X0_setFact, if_pos c_1] at hG
    rw [hG]
    exact W.vret hx hb hr (fun t ht hW => ⟨⟨(), rfl, trivial, by rw [ht]; exact hP, va_K.moved hW.alike hK, hD⟩, hS.F ht⟩) hS.2.2 dX0_setFact_27
  · refine lv_aload_n hx hb dX0_setFact_19 rfl (lv_at hl 1 rfl) ?_
    refine va_get (D := D) (ci := 0) (v := .ref aF) (C := RX0) (T := TX0) (N := 5) hx hb hts iX0 hown hK hP 0 rfl rfl 4 (by decide) (hts (.fieldLink RX0 33 "LightBursts$Book" "facts" "[I") (List.mem_of_getElem? (i := 1) rfl)) (fun _ h9 => h9) rfl dX0_setFact_20 ?_
    refine lv_iload hx hb dX0_setFact_23 (lv_at hl 0 rfl) ?_
    refine lv_iload_n hx hb dX0_setFact_25 rfl (lv_at hl 4 rfl) ?_
    refine va_iast hx hb hK hP hD hS 3 0 rfl rfl (below_in c_1 rfl) dX0_setFact_26 (fun H locs hP hD hS => ?_)
    have hP : va_P D vwCl (BKw cA aB aR aL aF now told rf lf (upd ff ((x1 * 11) + x2).toNatClampNeg x3)) H := hP
    have hD : va_D A (BKw cA aB aR aL aF now told rf lf (upd ff ((x1 * 11) + x2).toNatClampNeg x3)) := hD
    rw [g_X0_setFact, if_neg c_1] at hG
    rw [hG]
    exact W.vret hx hb hr (fun t ht hW => ⟨⟨(), rfl, trivial, by rw [ht]; exact hP, va_K.moved hW.alike hK, hD⟩, hS.F ht⟩) hS.2.2 dX0_setFact_27

def g_X0_takeBack (ff : (Nat → Int32)) (x1 : Int32) : (Nat → Int32) := (g_X0_setFact (g_X0_setFact (g_X0_setFact (g_X0_setFact (g_X0_setFact ff x1 6 4) x1 7 (-6)) x1 8 (-6)) x1 9 0) x1 10 (-6))
set_option maxHeartbeats 4000000 in
set_option maxRecDepth 100000 in
theorem c_X0_takeBack (l : Launch) (D : va_G) (cA cZ : ClassId) (aB : Nat) (aR : Nat) (aL : Nat) (aF : Nat) (szz : Nat) (now : Int32) (told : Int32) (rf : (Nat → Int32)) (lf : (Nat → Int32)) (ff : (Nat → Int32)) (x1 : Int32) : MetV l yX0_takeBack wsX0_takeBack 2 45 D (tyA cA cZ) [.ref aB, .int x1] (BKw cA aB aR aL aF now told rf lf ff) szz (BKw cA aB aR aL aF now told rf lf (g_X0_takeBack ff x1)) := by
  refine Met.ofW (cc := cX0_takeBack) (maxL := 2) (ret := none) (by decide) rfl ?_
  intro p e s m args below meth c s₁ B hml hv
  obtain ⟨rfl, hsz, hP, hK, hD0, hN⟩ := hv
  have hx := B.exec
  have hb := B.bytes
  have hr := B.returns
  have hts := atoms_spec (ws := wsX0_takeBack) B.pre
  have hown : s.vm.findClass RX0 = some m.cls := findClass_of_methodNamed B.named
  have hlocks := B.notSynchronized
  have iX0 : ∀ w ∈ wsX00, w ∈ wsX0_takeBack := fun _ h => List.mem_cons_of_mem _ (List.mem_append_right _ h)
  subst hsz
  have hD := hD0.self (sz := s.heap.size)
  generalize hAe : va_A (BKw cA aB aR aL aF now told rf lf ff) s.heap.size = A at hD ⊢
  have hA : ∀ q : Nat, s.heap.size ≤ q → A q := fun q h => by rw [← hAe]; exact Or.inr h
  have hS : va_S A s.heap s.heap [] := va_S.rf
  have hP : va_P D vwCl (BKw cA aB aR aL aF now told rf lf ff) s.heap := hP
  obtain ⟨G, hG⟩ : ∃ G, G = (g_X0_takeBack ff x1) := ⟨_, rfl⟩
  rw [← hG]
  have hl := lv_entry ([.ref aB, .int x1]) (n := 2) (Nat.le_of_ble_eq_true rfl)
  rw [lg_entry_eq]
  generalize (lg_sl ([.ref aB, .int x1]) ++ List.replicate (2 - (lg_sl ([.ref aB, .int x1])).length) Slot.unset).toArray = ls at hl ⊢
  have hl : lv_has ls 2 [(0, .ref aB), (1, .int x1)] := hl
  refine lv_aload_n hx hb dX0_takeBack_0 rfl (lv_at hl 0 rfl) ?_
  refine lv_iload_n hx hb dX0_takeBack_1 rfl (lv_at hl 1 rfl) ?_
  refine lv_bipush (v := 6) hx hb dX0_takeBack_2 (by decide) ?_
  refine lv_iconst (v := 4) hx hb dX0_takeBack_4 (by decide) ?_
  refine kV (wr := ([] : va_W)) (W1 := BKw cA aB aR aL aF now told rf lf (g_X0_setFact ff x1 6 4)) (wsN := BKw cA aB aR aL aF now told rf lf (g_X0_setFact ff x1 6 4)) (rV (As := [.int x1, .int 6, .int 4]) (rest := []) (W0 := BKw cA aB aR aL aF now told rf lf ff) ⟨hx, hb, hml, hown, hts⟩ (c_X0_setFact l D cA cZ aB aR aL aF s.heap.size now told rf lf ff x1 6 4) (cwV 3 hts gX0_takeBack_X0_setFact rfl rfl rfl (by decide +kernel) ⟨Nat.le_of_ble_eq_true rfl, Nat.le_of_ble_eq_true rfl⟩) hP hD hK hN ([0, 1, 2, 3] : List Nat) rfl rfl 0 0 rfl rfl rfl hl.1 rfl (Nat.le_of_ble_eq_true rfl) dX0_takeBack_5 ⟨Nat.zero_le _, Nat.zero_le _⟩) hP hD hS hA [0, 1, 2, 3] [] [0, 1, 2, 3] rfl rfl rfl (by decide) rfl rfl (fun H locs hP hD hS => ?_)
  refine lv_aload_n hx hb dX0_takeBack_8 rfl (lv_at hl 0 rfl) ?_
  refine lv_iload_n hx hb dX0_takeBack_9 rfl (lv_at hl 1 rfl) ?_
  refine lv_bipush (v := 7) hx hb dX0_takeBack_10 (by decide) ?_
  refine lv_bipush (v := (-6)) hx hb dX0_takeBack_12 (by decide) ?_
  refine kV (wr := ([] : va_W)) (W1 := BKw cA aB aR aL aF now told rf lf (g_X0_setFact (g_X0_setFact ff x1 6 4) x1 7 (-6))) (wsN := BKw cA aB aR aL aF now told rf lf (g_X0_setFact (g_X0_setFact ff x1 6 4) x1 7 (-6))) (rV (As := [.int x1, .int 7, .int (-6)]) (rest := []) (W0 := BKw cA aB aR aL aF now told rf lf (g_X0_setFact ff x1 6 4)) ⟨hx, hb, hml, hown, hts⟩ (c_X0_setFact l D cA cZ aB aR aL aF H.size now told rf lf (g_X0_setFact ff x1 6 4) x1 7 (-6)) (cwV 3 hts gX0_takeBack_X0_setFact rfl rfl rfl (by decide +kernel) ⟨Nat.le_of_ble_eq_true rfl, Nat.le_of_ble_eq_true rfl⟩) hP hD hK hN ([0, 1, 2, 3] : List Nat) rfl rfl 0 0 rfl rfl rfl hl.1 rfl (Nat.le_of_ble_eq_true rfl) dX0_takeBack_14 ⟨Nat.zero_le _, Nat.zero_le _⟩) hP hD hS hA [0, 1, 2, 3] [] [0, 1, 2, 3] rfl rfl rfl (by decide) rfl rfl (fun H locs hP hD hS => ?_)
  refine lv_aload_n hx hb dX0_takeBack_17 rfl (lv_at hl 0 rfl) ?_
  refine lv_iload_n hx hb dX0_takeBack_18 rfl (lv_at hl 1 rfl) ?_
  refine lv_bipush (v := 8) hx hb dX0_takeBack_19 (by decide) ?_
  refine lv_bipush (v := (-6)) hx hb dX0_takeBack_21 (by decide) ?_
  refine kV (wr := ([] : va_W)) (W1 := BKw cA aB aR aL aF now told rf lf (g_X0_setFact (g_X0_setFact (g_X0_setFact ff x1 6 4) x1 7 (-6)) x1 8 (-6))) (wsN := BKw cA aB aR aL aF now told rf lf (g_X0_setFact (g_X0_setFact (g_X0_setFact ff x1 6 4) x1 7 (-6)) x1 8 (-6))) (rV (As := [.int x1, .int 8, .int (-6)]) (rest := []) (W0 := BKw cA aB aR aL aF now told rf lf (g_X0_setFact (g_X0_setFact ff x1 6 4) x1 7 (-6))) ⟨hx, hb, hml, hown, hts⟩ (c_X0_setFact l D cA cZ aB aR aL aF H.size now told rf lf (g_X0_setFact (g_X0_setFact ff x1 6 4) x1 7 (-6)) x1 8 (-6)) (cwV 3 hts gX0_takeBack_X0_setFact rfl rfl rfl (by decide +kernel) ⟨Nat.le_of_ble_eq_true rfl, Nat.le_of_ble_eq_true rfl⟩) hP hD hK hN ([0, 1, 2, 3] : List Nat) rfl rfl 0 0 rfl rfl rfl hl.1 rfl (Nat.le_of_ble_eq_true rfl) dX0_takeBack_23 ⟨Nat.zero_le _, Nat.zero_le _⟩) hP hD hS hA [0, 1, 2, 3] [] [0, 1, 2, 3] rfl rfl rfl (by decide) rfl rfl (fun H locs hP hD hS => ?_)
  refine lv_aload_n hx hb dX0_takeBack_26 rfl (lv_at hl 0 rfl) ?_
  refine lv_iload_n hx hb dX0_takeBack_27 rfl (lv_at hl 1 rfl) ?_
  refine lv_bipush (v := 9) hx hb dX0_takeBack_28 (by decide) ?_
  refine lv_iconst (v := 0) hx hb dX0_takeBack_30 (by decide) ?_
  refine kV (wr := ([] : va_W)) (W1 := BKw cA aB aR aL aF now told rf lf (g_X0_setFact (g_X0_setFact (g_X0_setFact (g_X0_setFact ff x1 6 4) x1 7 (-6)) x1 8 (-6)) x1 9 0)) (wsN := BKw cA aB aR aL aF now told rf lf (g_X0_setFact (g_X0_setFact (g_X0_setFact (g_X0_setFact ff x1 6 4) x1 7 (-6)) x1 8 (-6)) x1 9 0)) (rV (As := [.int x1, .int 9, .int 0]) (rest := []) (W0 := BKw cA aB aR aL aF now told rf lf (g_X0_setFact (g_X0_setFact (g_X0_setFact ff x1 6 4) x1 7 (-6)) x1 8 (-6))) ⟨hx, hb, hml, hown, hts⟩ (c_X0_setFact l D cA cZ aB aR aL aF H.size now told rf lf (g_X0_setFact (g_X0_setFact (g_X0_setFact ff x1 6 4) x1 7 (-6)) x1 8 (-6)) x1 9 0) (cwV 3 hts gX0_takeBack_X0_setFact rfl rfl rfl (by decide +kernel) ⟨Nat.le_of_ble_eq_true rfl, Nat.le_of_ble_eq_true rfl⟩) hP hD hK hN ([0, 1, 2, 3] : List Nat) rfl rfl 0 0 rfl rfl rfl hl.1 rfl (Nat.le_of_ble_eq_true rfl) dX0_takeBack_31 ⟨Nat.zero_le _, Nat.zero_le _⟩) hP hD hS hA [0, 1, 2, 3] [] [0, 1, 2, 3] rfl rfl rfl (by decide) rfl rfl (fun H locs hP hD hS => ?_)
  refine lv_aload_n hx hb dX0_takeBack_34 rfl (lv_at hl 0 rfl) ?_
  refine lv_iload_n hx hb dX0_takeBack_35 rfl (lv_at hl 1 rfl) ?_
  refine lv_bipush (v := 10) hx hb dX0_takeBack_36 (by decide) ?_
  refine lv_bipush (v := (-6)) hx hb dX0_takeBack_38 (by decide) ?_
  refine kV (wr := ([] : va_W)) (W1 := BKw cA aB aR aL aF now told rf lf (g_X0_setFact (g_X0_setFact (g_X0_setFact (g_X0_setFact (g_X0_setFact ff x1 6 4) x1 7 (-6)) x1 8 (-6)) x1 9 0) x1 10 (-6))) (wsN := BKw cA aB aR aL aF now told rf lf (g_X0_setFact (g_X0_setFact (g_X0_setFact (g_X0_setFact (g_X0_setFact ff x1 6 4) x1 7 (-6)) x1 8 (-6)) x1 9 0) x1 10 (-6))) (rV (As := [.int x1, .int 10, .int (-6)]) (rest := []) (W0 := BKw cA aB aR aL aF now told rf lf (g_X0_setFact (g_X0_setFact (g_X0_setFact (g_X0_setFact ff x1 6 4) x1 7 (-6)) x1 8 (-6)) x1 9 0)) ⟨hx, hb, hml, hown, hts⟩ (c_X0_setFact l D cA cZ aB aR aL aF H.size now told rf lf (g_X0_setFact (g_X0_setFact (g_X0_setFact (g_X0_setFact ff x1 6 4) x1 7 (-6)) x1 8 (-6)) x1 9 0) x1 10 (-6)) (cwV 3 hts gX0_takeBack_X0_setFact rfl rfl rfl (by decide +kernel) ⟨Nat.le_of_ble_eq_true rfl, Nat.le_of_ble_eq_true rfl⟩) hP hD hK hN ([0, 1, 2, 3] : List Nat) rfl rfl 0 0 rfl rfl rfl hl.1 rfl (Nat.le_of_ble_eq_true rfl) dX0_takeBack_40 ⟨Nat.zero_le _, Nat.zero_le _⟩) hP hD hS hA [0, 1, 2, 3] [] [0, 1, 2, 3] rfl rfl rfl (by decide) rfl rfl (fun H locs hP hD hS => ?_)
  rw [g_X0_takeBack] at hG
  rw [hG]
  exact W.vret hx hb hr (fun t ht hW => ⟨⟨(), rfl, trivial, by rw [ht]; exact hP, va_K.moved hW.alike hK, hD⟩, hS.F ht⟩) hS.2.2 dX0_takeBack_43

def g_X0_showColour_L7 (told : Int32) (ff : (Nat → Int32)) (x1 : Int32) (x2 : Int32) : Nat → Int32 → Int32 → (Nat → Int32) → (Nat → Int32) → (Nat → Int32) → (Int32 × (Nat → Int32) × (Nat → Int32) × (Nat → Int32))
  | 0, _, _, _, _, _ => (0, (fun _ => 0), (fun _ => 0), (fun _ => 0))
  | n + 1, v4, w_sz, w_bf, w_gf, w_ef => (if told ≤ v4 then (w_sz, w_bf, w_gf, w_ef) else (if (g_X0_fact ff v4 7) = x2 then (if (g_X0_fact ff v4 0) = x1 then (g_X0_showColour_L7 told ff x1 x2 n (v4 + 1) ((g_X2_add w_sz w_bf w_gf w_ef v4 (g_X0_fact ff v4 8) (g_X0_fact ff v4 9)).1) ((g_X2_add w_sz w_bf w_gf w_ef v4 (g_X0_fact ff v4 8) (g_X0_fact ff v4 9)).2.1) ((g_X2_add w_sz w_bf w_gf w_ef v4 (g_X0_fact ff v4 8) (g_X0_fact ff v4 9)).2.2.1) ((g_X2_add w_sz w_bf w_gf w_ef v4 (g_X0_fact ff v4 8) (g_X0_fact ff v4 9)).2.2.2)) else (g_X0_showColour_L7 told ff x1 x2 n (v4 + 1) w_sz w_bf w_gf w_ef)) else (g_X0_showColour_L7 told ff x1 x2 n (v4 + 1) w_sz w_bf w_gf w_ef)))
def g_X0_showColour (told : Int32) (ff : (Nat → Int32)) (bf : (Nat → Int32)) (gf : (Nat → Int32)) (ef : (Nat → Int32)) (x1 : Int32) (x2 : Int32) : Int32 × (Nat → Int32) × (Nat → Int32) × (Nat → Int32) := (g_X0_showColour_L7 told ff x1 x2 (((told).toInt - ((0 : Int32)).toInt).toNat + 1) 0 g_X2_clear bf gf ef)
set_option maxHeartbeats 4000000 in
set_option maxRecDepth 100000 in
theorem c_X0_showColour (l : Launch) (D : va_G) (cA cZ : ClassId) (aB : Nat) (aR : Nat) (aL : Nat) (aF : Nat) (aT : Nat) (aU : Nat) (aG : Nat) (aE : Nat) (szz : Nat) (now : Int32) (told : Int32) (rf : (Nat → Int32)) (lf : (Nat → Int32)) (ff : (Nat → Int32)) (sz : Int32) (bf : (Nat → Int32)) (gf : (Nat → Int32)) (ef : (Nat → Int32)) (x1 : Int32) (x2 : Int32) : MetV l yX0_showColour wsX0_showColour 2 45 D (tyA cA cZ) [.ref aB, .int x1, .int x2, .ref aT] (BKw cA aB aR aL aF now told rf lf ff ++ TRw cA aT aU aG aE sz bf gf ef) szz (BKw cA aB aR aL aF now told rf lf ff ++ TRw cA aT aU aG aE ((g_X0_showColour told ff bf gf ef x1 x2).1) ((g_X0_showColour told ff bf gf ef x1 x2).2.1) ((g_X0_showColour told ff bf gf ef x1 x2).2.2.1) ((g_X0_showColour told ff bf gf ef x1 x2).2.2.2)) := by
  refine Met.ofW (cc := cX0_showColour) (maxL := 5) (ret := none) (by decide) rfl ?_
  intro p e s m args below meth c s₁ B hml hv
  obtain ⟨rfl, hsz, hP, hK, hD0, hN⟩ := hv
  have hx := B.exec
  have hb := B.bytes
  have hr := B.returns
  have hts := atoms_spec (ws := wsX0_showColour) B.pre
  have hown : s.vm.findClass RX0 = some m.cls := findClass_of_methodNamed B.named
  have hlocks := B.notSynchronized
  have iX0 : ∀ w ∈ wsX00, w ∈ wsX0_showColour := fun _ h => List.mem_cons_of_mem _ (List.mem_append_left _ (List.mem_append_right _ h))
  have iX2 : ∀ w ∈ wsX20, w ∈ wsX0_showColour := fun _ h => List.mem_cons_of_mem _ (List.mem_append_right _ h)
  subst hsz
  have hD := hD0.self (sz := s.heap.size)
  generalize hAe : va_A (BKw cA aB aR aL aF now told rf lf ff ++ TRw cA aT aU aG aE sz bf gf ef) s.heap.size = A at hD ⊢
  have hA : ∀ q : Nat, s.heap.size ≤ q → A q := fun q h => by rw [← hAe]; exact Or.inr h
  have hS : va_S A s.heap s.heap [] := va_S.rf
  have hP : va_P D vwCl (BKw cA aB aR aL aF now told rf lf ff ++ TRw cA aT aU aG aE sz bf gf ef) s.heap := hP
  obtain ⟨G, hG⟩ : ∃ G, G = (g_X0_showColour told ff bf gf ef x1 x2) := ⟨_, rfl⟩
  rw [← hG]
  have hl := lv_entry ([.ref aB, .int x1, .int x2, .ref aT]) (n := 5) (Nat.le_of_ble_eq_true rfl)
  rw [lg_entry_eq]
  generalize (lg_sl ([.ref aB, .int x1, .int x2, .ref aT]) ++ List.replicate (5 - (lg_sl ([.ref aB, .int x1, .int x2, .ref aT])).length) Slot.unset).toArray = ls at hl ⊢
  have hl : lv_has ls 5 [(0, .ref aB), (1, .int x1), (2, .int x2), (3, .ref aT)] := hl
  refine lv_aload_n hx hb dX0_showColour_0 rfl (lv_at hl 3 rfl) ?_
  refine kV (wr := BKw cA aB aR aL aF now told rf lf ff) (W1 := TRw cA aT aU aG aE g_X2_clear bf gf ef) (wsN := BKw cA aB aR aL aF now told rf lf ff ++ TRw cA aT aU aG aE g_X2_clear bf gf ef) (rVN (As := []) (rest := []) (W0 := TRw cA aT aU aG aE sz bf gf ef) ⟨hx, hb, hml, hown, hts⟩ (c_X2_clear l D cA cZ aT aU aG aE s.heap.size sz bf gf ef) ⟨va_cnB 0 hts gX0_showColour_X2_clear_n54 rfl rfl rfl (hN (.methodLinkNest RX0 54 yX2_clear RX3) (List.mem_of_getElem? (i := 14) rfl)) (hts (.initialized RX2) (List.mem_of_getElem? (i := 3) rfl)) (by decide +kernel) ⟨Nat.le_of_ble_eq_true rfl, Nat.le_of_ble_eq_true rfl⟩, (hts (.instanceMethod yX2_clear) (List.mem_of_getElem? (i := 2) rfl)), (hts (.selects RX2 yX2_clear yX2_clear) (List.mem_of_getElem? (i := 4) rfl))⟩ hP hD hK hN ([4, 5, 6, 7] : List Nat) rfl rfl 2 0 rfl rfl rfl hl.1 rfl (Nat.le_of_ble_eq_true rfl) dX0_showColour_1 ⟨Nat.zero_le _, Nat.zero_le _⟩) hP hD hS hA [4, 5, 6, 7] [0, 1, 2, 3] [0, 1, 2, 3, 4, 5, 6, 7] rfl rfl rfl (by decide) rfl rfl (fun H locs hP hD hS => ?_)
  refine lv_iconst (v := 0) hx hb dX0_showColour_4 (by decide) ?_
  refine lv_istore (lv' := [(4, .int 0), (0, .ref aB), (1, .int x1), (2, .int x2), (3, .ref aT)]) hx hb dX0_showColour_5 hl (by decide) rfl (fun ls hl => ?_)
  rw [g_X0_showColour] at hG
  refine (?_ : ∀ (n : Nat) (v4 : Int32) (w_sz : Int32) (w_bf : (Nat → Int32)) (w_gf : (Nat → Int32)) (w_ef : (Nat → Int32)) (H : Heap) (locs : List Loc) (ls : Array Slot), ((told).toInt - (v4).toInt).toNat < n → G = g_X0_showColour_L7 told ff x1 x2 n v4 w_sz w_bf w_gf w_ef → va_P D vwCl (BKw cA aB aR aL aF now told rf lf ff ++ TRw cA aT aU aG aE w_sz w_bf w_gf w_ef) H → va_D A (BKw cA aB aR aL aF now told rf lf ff ++ TRw cA aT aU aG aE w_sz w_bf w_gf w_ef) → va_S A s.heap H locs → lv_has ls 5 [(0, .ref aB), (1, .int x1), (2, .int x2), (3, .ref aT), (4, .int v4)] → W p l e _ s m _ below meth c H locs _ _ _ (F0 m 7 ls [])) (((told).toInt - ((0 : Int32)).toInt).toNat + 1) 0 g_X2_clear bf gf ef _ _ _ (Nat.lt_succ_self _) hG hP hD hS (lv_sub hl [1, 2, 3, 4, 0] rfl)
  clear hG hP hD hS hl
  intro n
  induction n with
  | zero => intros; omega
  | succ n7 ih7 =>
    intro v4 w_sz w_bf w_gf w_ef H locs ls hm7 hG hP hD hS hl
    refine lv_iload hx hb dX0_showColour_7 (lv_at hl 4 rfl) ?_
    refine lv_aload_n hx hb dX0_showColour_9 rfl (lv_at hl 0 rfl) ?_
    refine va_get (D := D) (ci := 0) (v := .int told) (C := RX0) (T := TX0) (N := 5) hx hb hts iX0 hown hK hP 0 rfl rfl 1 (by decide) (hts (.fieldLink RX0 15 "LightBursts$Book" "told" "I") (List.mem_of_getElem? (i := 1) rfl)) (fun _ h9 => h9) rfl dX0_showColour_10 ?_
    refine lv_icmp_ge (tgt := 67) hx hb dX0_showColour_13 (by decide) (fun c_1 => ?_) (fun c_1 => ?_)
    · rw [g_X0_showColour_L7, if_pos c_1] at hG
      rw [hG]
      exact W.vret hx hb hr (fun t ht hW => ⟨⟨(), rfl, trivial, by rw [ht]; exact hP, va_K.moved hW.alike hK, hD⟩, hS.F ht⟩) hS.2.2 dX0_showColour_67
    · refine lv_aload_n hx hb dX0_showColour_16 rfl (lv_at hl 0 rfl) ?_
      refine lv_iload hx hb dX0_showColour_17 (lv_at hl 4 rfl) ?_
      refine lv_bipush (v := 7) hx hb dX0_showColour_19 (by decide) ?_
      refine kI (wr := TRw cA aT aU aG aE w_sz w_bf w_gf w_ef) (W1 := BKw cA aB aR aL aF now told rf lf ff) (wsN := BKw cA aB aR aL aF now told rf lf ff ++ TRw cA aT aU aG aE w_sz w_bf w_gf w_ef) (rV (As := [.int v4, .int 7]) (rest := []) (W0 := BKw cA aB aR aL aF now told rf lf ff) ⟨hx, hb, hml, hown, hts⟩ (c_X0_fact l D cA cZ aB aR aL aF H.size now told rf lf ff v4 7) (cwV 2 hts gX0_showColour_X0_fact rfl rfl rfl (by decide +kernel) ⟨Nat.le_of_ble_eq_true rfl, Nat.le_of_ble_eq_true rfl⟩) hP hD hK hN ([0, 1, 2, 3] : List Nat) rfl rfl 0 0 rfl rfl rfl hl.1 rfl (Nat.le_of_ble_eq_true rfl) dX0_showColour_21 ⟨Nat.zero_le _, Nat.zero_le _⟩) hP hD hS hA [0, 1, 2, 3] [4, 5, 6, 7] [4, 5, 6, 7, 0, 1, 2, 3] rfl rfl rfl (by decide) rfl rfl (fun H locs hP hD hS => ?_)
      refine lv_iload_n hx hb dX0_showColour_24 rfl (lv_at hl 2 rfl) ?_
      refine lv_icmp_ne (tgt := 61) hx hb dX0_showColour_25 (by decide) (fun c_2 => ?_) (fun c_2 => ?_)
      · refine lv_iinc (v := (v4 + 1)) (lv' := [(4, .int (v4 + 1)), (0, .ref aB), (1, .int x1), (2, .int x2), (3, .ref aT)]) hx hb dX0_showColour_61 hl (k := 4) rfl rfl (by decide) rfl (fun ls hl => ?_)
        refine lv_goto (tgt := 7) hx hb dX0_showColour_64 (by decide) ?_
        rw [g_X0_showColour_L7, if_neg c_1, if_neg c_2] at hG
        exact ih7 (v4 + 1) w_sz w_bf w_gf w_ef _ _ _ (by exact ms_up c_1 hm7) hG hP hD hS (lv_sub hl [1, 2, 3, 4, 0] rfl)
      · refine lv_aload_n hx hb dX0_showColour_28 rfl (lv_at hl 0 rfl) ?_
        refine lv_iload hx hb dX0_showColour_29 (lv_at hl 4 rfl) ?_
        refine lv_iconst (v := 0) hx hb dX0_showColour_31 (by decide) ?_
        refine kI (wr := TRw cA aT aU aG aE w_sz w_bf w_gf w_ef) (W1 := BKw cA aB aR aL aF now told rf lf ff) (wsN := BKw cA aB aR aL aF now told rf lf ff ++ TRw cA aT aU aG aE w_sz w_bf w_gf w_ef) (rV (As := [.int v4, .int 0]) (rest := []) (W0 := BKw cA aB aR aL aF now told rf lf ff) ⟨hx, hb, hml, hown, hts⟩ (c_X0_fact l D cA cZ aB aR aL aF H.size now told rf lf ff v4 0) (cwV 2 hts gX0_showColour_X0_fact rfl rfl rfl (by decide +kernel) ⟨Nat.le_of_ble_eq_true rfl, Nat.le_of_ble_eq_true rfl⟩) hP hD hK hN ([0, 1, 2, 3] : List Nat) rfl rfl 0 0 rfl rfl rfl hl.1 rfl (Nat.le_of_ble_eq_true rfl) dX0_showColour_32 ⟨Nat.zero_le _, Nat.zero_le _⟩) hP hD hS hA [0, 1, 2, 3] [4, 5, 6, 7] [4, 5, 6, 7, 0, 1, 2, 3] rfl rfl rfl (by decide) rfl rfl (fun H locs hP hD hS => ?_)
        refine lv_iload_n hx hb dX0_showColour_35 rfl (lv_at hl 1 rfl) ?_
        refine lv_icmp_ne (tgt := 61) hx hb dX0_showColour_36 (by decide) (fun c_3 => ?_) (fun c_3 => ?_)
        · refine lv_iinc (v := (v4 + 1)) (lv' := [(4, .int (v4 + 1)), (0, .ref aB), (1, .int x1), (2, .int x2), (3, .ref aT)]) hx hb dX0_showColour_61 hl (k := 4) rfl rfl (by decide) rfl (fun ls hl => ?_)
          refine lv_goto (tgt := 7) hx hb dX0_showColour_64 (by decide) ?_
          rw [g_X0_showColour_L7, if_neg c_1, if_pos c_2, if_neg c_3] at hG
          exact ih7 (v4 + 1) w_sz w_bf w_gf w_ef _ _ _ (by exact ms_up c_1 hm7) hG hP hD hS (lv_sub hl [1, 2, 3, 4, 0] rfl)
        · refine lv_aload_n hx hb dX0_showColour_39 rfl (lv_at hl 3 rfl) ?_
          refine lv_iload hx hb dX0_showColour_40 (lv_at hl 4 rfl) ?_
          refine lv_aload_n hx hb dX0_showColour_42 rfl (lv_at hl 0 rfl) ?_
          refine lv_iload hx hb dX0_showColour_43 (lv_at hl 4 rfl) ?_
          refine lv_bipush (v := 8) hx hb dX0_showColour_45 (by decide) ?_
          refine kI (wr := TRw cA aT aU aG aE w_sz w_bf w_gf w_ef) (W1 := BKw cA aB aR aL aF now told rf lf ff) (wsN := BKw cA aB aR aL aF now told rf lf ff ++ TRw cA aT aU aG aE w_sz w_bf w_gf w_ef) (rV (As := [.int v4, .int 8]) (rest := [.int v4, .ref aT]) (W0 := BKw cA aB aR aL aF now told rf lf ff) ⟨hx, hb, hml, hown, hts⟩ (c_X0_fact l D cA cZ aB aR aL aF H.size now told rf lf ff v4 8) (cwV 2 hts gX0_showColour_X0_fact rfl rfl rfl (by decide +kernel) ⟨Nat.le_of_ble_eq_true rfl, Nat.le_of_ble_eq_true rfl⟩) hP hD hK hN ([0, 1, 2, 3] : List Nat) rfl rfl 0 0 rfl rfl rfl hl.1 rfl (Nat.le_of_ble_eq_true rfl) dX0_showColour_47 ⟨Nat.zero_le _, Nat.zero_le _⟩) hP hD hS hA [0, 1, 2, 3] [4, 5, 6, 7] [4, 5, 6, 7, 0, 1, 2, 3] rfl rfl rfl (by decide) rfl rfl (fun H locs hP hD hS => ?_)
          refine lv_aload_n hx hb dX0_showColour_50 rfl (lv_at hl 0 rfl) ?_
          refine lv_iload hx hb dX0_showColour_51 (lv_at hl 4 rfl) ?_
          refine lv_bipush (v := 9) hx hb dX0_showColour_53 (by decide) ?_
          refine kI (wr := TRw cA aT aU aG aE w_sz w_bf w_gf w_ef) (W1 := BKw cA aB aR aL aF now told rf lf ff) (wsN := BKw cA aB aR aL aF now told rf lf ff ++ TRw cA aT aU aG aE w_sz w_bf w_gf w_ef) (rV (As := [.int v4, .int 9]) (rest := [.int (g_X0_fact ff v4 8), .int v4, .ref aT]) (W0 := BKw cA aB aR aL aF now told rf lf ff) ⟨hx, hb, hml, hown, hts⟩ (c_X0_fact l D cA cZ aB aR aL aF H.size now told rf lf ff v4 9) (cwV 2 hts gX0_showColour_X0_fact rfl rfl rfl (by decide +kernel) ⟨Nat.le_of_ble_eq_true rfl, Nat.le_of_ble_eq_true rfl⟩) hP hD hK hN ([0, 1, 2, 3] : List Nat) rfl rfl 0 0 rfl rfl rfl hl.1 rfl (Nat.le_of_ble_eq_true rfl) dX0_showColour_55 ⟨Nat.zero_le _, Nat.zero_le _⟩) hP hD hS hA [0, 1, 2, 3] [4, 5, 6, 7] [4, 5, 6, 7, 0, 1, 2, 3] rfl rfl rfl (by decide) rfl rfl (fun H locs hP hD hS => ?_)
          refine kV (wr := BKw cA aB aR aL aF now told rf lf ff) (W1 := TRw cA aT aU aG aE ((g_X2_add w_sz w_bf w_gf w_ef v4 (g_X0_fact ff v4 8) (g_X0_fact ff v4 9)).1) ((g_X2_add w_sz w_bf w_gf w_ef v4 (g_X0_fact ff v4 8) (g_X0_fact ff v4 9)).2.1) ((g_X2_add w_sz w_bf w_gf w_ef v4 (g_X0_fact ff v4 8) (g_X0_fact ff v4 9)).2.2.1) ((g_X2_add w_sz w_bf w_gf w_ef v4 (g_X0_fact ff v4 8) (g_X0_fact ff v4 9)).2.2.2)) (wsN := BKw cA aB aR aL aF now told rf lf ff ++ TRw cA aT aU aG aE ((g_X2_add w_sz w_bf w_gf w_ef v4 (g_X0_fact ff v4 8) (g_X0_fact ff v4 9)).1) ((g_X2_add w_sz w_bf w_gf w_ef v4 (g_X0_fact ff v4 8) (g_X0_fact ff v4 9)).2.1) ((g_X2_add w_sz w_bf w_gf w_ef v4 (g_X0_fact ff v4 8) (g_X0_fact ff v4 9)).2.2.1) ((g_X2_add w_sz w_bf w_gf w_ef v4 (g_X0_fact ff v4 8) (g_X0_fact ff v4 9)).2.2.2)) (rVN (As := [.int v4, .int (g_X0_fact ff v4 8), .int (g_X0_fact ff v4 9)]) (rest := []) (W0 := TRw cA aT aU aG aE w_sz w_bf w_gf w_ef) ⟨hx, hb, hml, hown, hts⟩ (c_X2_add l D cA cZ aT aU aG aE H.size w_sz w_bf w_gf w_ef v4 (g_X0_fact ff v4 8) (g_X0_fact ff v4 9)) ⟨va_cnB 3 hts gX0_showColour_X2_add_n63 rfl rfl rfl (hN (.methodLinkNest RX0 63 yX2_add RX3) (List.mem_of_getElem? (i := 16) rfl)) (hts (.initialized RX2) (List.mem_of_getElem? (i := 3) rfl)) (by decide +kernel) ⟨Nat.le_of_ble_eq_true rfl, Nat.le_of_ble_eq_true rfl⟩, (hts (.instanceMethod yX2_add) (List.mem_of_getElem? (i := 16) rfl)), (hts (.selects RX2 yX2_add yX2_add) (List.mem_of_getElem? (i := 17) rfl))⟩ hP hD hK hN ([4, 5, 6, 7] : List Nat) rfl rfl 2 0 rfl rfl rfl hl.1 rfl (Nat.le_of_ble_eq_true rfl) dX0_showColour_58 ⟨Nat.zero_le _, Nat.zero_le _⟩) hP hD hS hA [4, 5, 6, 7] [0, 1, 2, 3] [0, 1, 2, 3, 4, 5, 6, 7] rfl rfl rfl (by decide) rfl rfl (fun H locs hP hD hS => ?_)
          refine lv_iinc (v := (v4 + 1)) (lv' := [(4, .int (v4 + 1)), (0, .ref aB), (1, .int x1), (2, .int x2), (3, .ref aT)]) hx hb dX0_showColour_61 hl (k := 4) rfl rfl (by decide) rfl (fun ls hl => ?_)
          refine lv_goto (tgt := 7) hx hb dX0_showColour_64 (by decide) ?_
          rw [g_X0_showColour_L7, if_neg c_1, if_pos c_2, if_pos c_3] at hG
          exact ih7 (v4 + 1) ((g_X2_add w_sz w_bf w_gf w_ef v4 (g_X0_fact ff v4 8) (g_X0_fact ff v4 9)).1) ((g_X2_add w_sz w_bf w_gf w_ef v4 (g_X0_fact ff v4 8) (g_X0_fact ff v4 9)).2.1) ((g_X2_add w_sz w_bf w_gf w_ef v4 (g_X0_fact ff v4 8) (g_X0_fact ff v4 9)).2.2.1) ((g_X2_add w_sz w_bf w_gf w_ef v4 (g_X0_fact ff v4 8) (g_X0_fact ff v4 9)).2.2.2) _ _ _ (by exact ms_up c_1 hm7) hG hP hD hS (lv_sub hl [1, 2, 3, 4, 0] rfl)

def g_X0_showLine_L6 (told : Int32) (ff : (Nat → Int32)) (x1 : Int32) : Nat → Int32 → Int32 → (Nat → Int32) → (Nat → Int32) → (Nat → Int32) → (Int32 × (Nat → Int32) × (Nat → Int32) × (Nat → Int32))
  | 0, _, _, _, _, _ => (0, (fun _ => 0), (fun _ => 0), (fun _ => 0))
  | n + 1, v3, w_sz, w_bf, w_gf, w_ef => (if told ≤ v3 then (w_sz, w_bf, w_gf, w_ef) else (if (g_X0_fact ff v3 10) = x1 then (g_X0_showLine_L6 told ff x1 n (v3 + 1) ((g_X2_add w_sz w_bf w_gf w_ef v3 (g_X0_fact ff v3 5) (g_X0_fact ff v3 4)).1) ((g_X2_add w_sz w_bf w_gf w_ef v3 (g_X0_fact ff v3 5) (g_X0_fact ff v3 4)).2.1) ((g_X2_add w_sz w_bf w_gf w_ef v3 (g_X0_fact ff v3 5) (g_X0_fact ff v3 4)).2.2.1) ((g_X2_add w_sz w_bf w_gf w_ef v3 (g_X0_fact ff v3 5) (g_X0_fact ff v3 4)).2.2.2)) else (g_X0_showLine_L6 told ff x1 n (v3 + 1) w_sz w_bf w_gf w_ef)))
def g_X0_showLine (told : Int32) (ff : (Nat → Int32)) (bf : (Nat → Int32)) (gf : (Nat → Int32)) (ef : (Nat → Int32)) (x1 : Int32) : Int32 × (Nat → Int32) × (Nat → Int32) × (Nat → Int32) := (g_X0_showLine_L6 told ff x1 (((told).toInt - ((0 : Int32)).toInt).toNat + 1) 0 g_X2_clear bf gf ef)
set_option maxHeartbeats 4000000 in
set_option maxRecDepth 100000 in
theorem c_X0_showLine (l : Launch) (D : va_G) (cA cZ : ClassId) (aB : Nat) (aR : Nat) (aL : Nat) (aF : Nat) (aT : Nat) (aU : Nat) (aG : Nat) (aE : Nat) (szz : Nat) (now : Int32) (told : Int32) (rf : (Nat → Int32)) (lf : (Nat → Int32)) (ff : (Nat → Int32)) (sz : Int32) (bf : (Nat → Int32)) (gf : (Nat → Int32)) (ef : (Nat → Int32)) (x1 : Int32) : MetV l yX0_showLine wsX0_showLine 2 45 D (tyA cA cZ) [.ref aB, .int x1, .ref aT] (BKw cA aB aR aL aF now told rf lf ff ++ TRw cA aT aU aG aE sz bf gf ef) szz (BKw cA aB aR aL aF now told rf lf ff ++ TRw cA aT aU aG aE ((g_X0_showLine told ff bf gf ef x1).1) ((g_X0_showLine told ff bf gf ef x1).2.1) ((g_X0_showLine told ff bf gf ef x1).2.2.1) ((g_X0_showLine told ff bf gf ef x1).2.2.2)) := by
  refine Met.ofW (cc := cX0_showLine) (maxL := 4) (ret := none) (by decide) rfl ?_
  intro p e s m args below meth c s₁ B hml hv
  obtain ⟨rfl, hsz, hP, hK, hD0, hN⟩ := hv
  have hx := B.exec
  have hb := B.bytes
  have hr := B.returns
  have hts := atoms_spec (ws := wsX0_showLine) B.pre
  have hown : s.vm.findClass RX0 = some m.cls := findClass_of_methodNamed B.named
  have hlocks := B.notSynchronized
  have iX0 : ∀ w ∈ wsX00, w ∈ wsX0_showLine := fun _ h => List.mem_cons_of_mem _ (List.mem_append_left _ (List.mem_append_right _ h))
  have iX2 : ∀ w ∈ wsX20, w ∈ wsX0_showLine := fun _ h => List.mem_cons_of_mem _ (List.mem_append_right _ h)
  subst hsz
  have hD := hD0.self (sz := s.heap.size)
  generalize hAe : va_A (BKw cA aB aR aL aF now told rf lf ff ++ TRw cA aT aU aG aE sz bf gf ef) s.heap.size = A at hD ⊢
  have hA : ∀ q : Nat, s.heap.size ≤ q → A q := fun q h => by rw [← hAe]; exact Or.inr h
  have hS : va_S A s.heap s.heap [] := va_S.rf
  have hP : va_P D vwCl (BKw cA aB aR aL aF now told rf lf ff ++ TRw cA aT aU aG aE sz bf gf ef) s.heap := hP
  obtain ⟨G, hG⟩ : ∃ G, G = (g_X0_showLine told ff bf gf ef x1) := ⟨_, rfl⟩
  rw [← hG]
  have hl := lv_entry ([.ref aB, .int x1, .ref aT]) (n := 4) (Nat.le_of_ble_eq_true rfl)
  rw [lg_entry_eq]
  generalize (lg_sl ([.ref aB, .int x1, .ref aT]) ++ List.replicate (4 - (lg_sl ([.ref aB, .int x1, .ref aT])).length) Slot.unset).toArray = ls at hl ⊢
  have hl : lv_has ls 4 [(0, .ref aB), (1, .int x1), (2, .ref aT)] := hl
  refine lv_aload_n hx hb dX0_showLine_0 rfl (lv_at hl 2 rfl) ?_
  refine kV (wr := BKw cA aB aR aL aF now told rf lf ff) (W1 := TRw cA aT aU aG aE g_X2_clear bf gf ef) (wsN := BKw cA aB aR aL aF now told rf lf ff ++ TRw cA aT aU aG aE g_X2_clear bf gf ef) (rVN (As := []) (rest := []) (W0 := TRw cA aT aU aG aE sz bf gf ef) ⟨hx, hb, hml, hown, hts⟩ (c_X2_clear l D cA cZ aT aU aG aE s.heap.size sz bf gf ef) ⟨va_cnB 0 hts gX0_showLine_X2_clear_n54 rfl rfl rfl (hN (.methodLinkNest RX0 54 yX2_clear RX3) (List.mem_of_getElem? (i := 14) rfl)) (hts (.initialized RX2) (List.mem_of_getElem? (i := 3) rfl)) (by decide +kernel) ⟨Nat.le_of_ble_eq_true rfl, Nat.le_of_ble_eq_true rfl⟩, (hts (.instanceMethod yX2_clear) (List.mem_of_getElem? (i := 2) rfl)), (hts (.selects RX2 yX2_clear yX2_clear) (List.mem_of_getElem? (i := 4) rfl))⟩ hP hD hK hN ([4, 5, 6, 7] : List Nat) rfl rfl 2 0 rfl rfl rfl hl.1 rfl (Nat.le_of_ble_eq_true rfl) dX0_showLine_1 ⟨Nat.zero_le _, Nat.zero_le _⟩) hP hD hS hA [4, 5, 6, 7] [0, 1, 2, 3] [0, 1, 2, 3, 4, 5, 6, 7] rfl rfl rfl (by decide) rfl rfl (fun H locs hP hD hS => ?_)
  refine lv_iconst (v := 0) hx hb dX0_showLine_4 (by decide) ?_
  refine lv_istore_n (lv' := [(3, .int 0), (0, .ref aB), (1, .int x1), (2, .ref aT)]) hx hb dX0_showLine_5 rfl hl (by decide) rfl (fun ls hl => ?_)
  rw [g_X0_showLine] at hG
  refine (?_ : ∀ (n : Nat) (v3 : Int32) (w_sz : Int32) (w_bf : (Nat → Int32)) (w_gf : (Nat → Int32)) (w_ef : (Nat → Int32)) (H : Heap) (locs : List Loc) (ls : Array Slot), ((told).toInt - (v3).toInt).toNat < n → G = g_X0_showLine_L6 told ff x1 n v3 w_sz w_bf w_gf w_ef → va_P D vwCl (BKw cA aB aR aL aF now told rf lf ff ++ TRw cA aT aU aG aE w_sz w_bf w_gf w_ef) H → va_D A (BKw cA aB aR aL aF now told rf lf ff ++ TRw cA aT aU aG aE w_sz w_bf w_gf w_ef) → va_S A s.heap H locs → lv_has ls 4 [(0, .ref aB), (1, .int x1), (2, .ref aT), (3, .int v3)] → W p l e _ s m _ below meth c H locs _ _ _ (F0 m 6 ls [])) (((told).toInt - ((0 : Int32)).toInt).toNat + 1) 0 g_X2_clear bf gf ef _ _ _ (Nat.lt_succ_self _) hG hP hD hS (lv_sub hl [1, 2, 3, 0] rfl)
  clear hG hP hD hS hl
  intro n
  induction n with
  | zero => intros; omega
  | succ n6 ih6 =>
    intro v3 w_sz w_bf w_gf w_ef H locs ls hm6 hG hP hD hS hl
    refine lv_iload_n hx hb dX0_showLine_6 rfl (lv_at hl 3 rfl) ?_
    refine lv_aload_n hx hb dX0_showLine_7 rfl (lv_at hl 0 rfl) ?_
    refine va_get (D := D) (ci := 0) (v := .int told) (C := RX0) (T := TX0) (N := 5) hx hb hts iX0 hown hK hP 0 rfl rfl 1 (by decide) (hts (.fieldLink RX0 15 "LightBursts$Book" "told" "I") (List.mem_of_getElem? (i := 1) rfl)) (fun _ h9 => h9) rfl dX0_showLine_8 ?_
    refine lv_icmp_ge (tgt := 48) hx hb dX0_showLine_11 (by decide) (fun c_1 => ?_) (fun c_1 => ?_)
    · rw [g_X0_showLine_L6, if_pos c_1] at hG
      rw [hG]
      exact W.vret hx hb hr (fun t ht hW => ⟨⟨(), rfl, trivial, by rw [ht]; exact hP, va_K.moved hW.alike hK, hD⟩, hS.F ht⟩) hS.2.2 dX0_showLine_48
    · refine lv_aload_n hx hb dX0_showLine_14 rfl (lv_at hl 0 rfl) ?_
      refine lv_iload_n hx hb dX0_showLine_15 rfl (lv_at hl 3 rfl) ?_
      refine lv_bipush (v := 10) hx hb dX0_showLine_16 (by decide) ?_
      refine kI (wr := TRw cA aT aU aG aE w_sz w_bf w_gf w_ef) (W1 := BKw cA aB aR aL aF now told rf lf ff) (wsN := BKw cA aB aR aL aF now told rf lf ff ++ TRw cA aT aU aG aE w_sz w_bf w_gf w_ef) (rV (As := [.int v3, .int 10]) (rest := []) (W0 := BKw cA aB aR aL aF now told rf lf ff) ⟨hx, hb, hml, hown, hts⟩ (c_X0_fact l D cA cZ aB aR aL aF H.size now told rf lf ff v3 10) (cwV 2 hts gX0_showLine_X0_fact rfl rfl rfl (by decide +kernel) ⟨Nat.le_of_ble_eq_true rfl, Nat.le_of_ble_eq_true rfl⟩) hP hD hK hN ([0, 1, 2, 3] : List Nat) rfl rfl 0 0 rfl rfl rfl hl.1 rfl (Nat.le_of_ble_eq_true rfl) dX0_showLine_18 ⟨Nat.zero_le _, Nat.zero_le _⟩) hP hD hS hA [0, 1, 2, 3] [4, 5, 6, 7] [4, 5, 6, 7, 0, 1, 2, 3] rfl rfl rfl (by decide) rfl rfl (fun H locs hP hD hS => ?_)
      refine lv_iload_n hx hb dX0_showLine_21 rfl (lv_at hl 1 rfl) ?_
      refine lv_icmp_ne (tgt := 42) hx hb dX0_showLine_22 (by decide) (fun c_2 => ?_) (fun c_2 => ?_)
      · refine lv_iinc (v := (v3 + 1)) (lv' := [(3, .int (v3 + 1)), (0, .ref aB), (1, .int x1), (2, .ref aT)]) hx hb dX0_showLine_42 hl (k := 3) rfl rfl (by decide) rfl (fun ls hl => ?_)
        refine lv_goto (tgt := 6) hx hb dX0_showLine_45 (by decide) ?_
        rw [g_X0_showLine_L6, if_neg c_1, if_neg c_2] at hG
        exact ih6 (v3 + 1) w_sz w_bf w_gf w_ef _ _ _ (by exact ms_up c_1 hm6) hG hP hD hS (lv_sub hl [1, 2, 3, 0] rfl)
      · refine lv_aload_n hx hb dX0_showLine_25 rfl (lv_at hl 2 rfl) ?_
        refine lv_iload_n hx hb dX0_showLine_26 rfl (lv_at hl 3 rfl) ?_
        refine lv_aload_n hx hb dX0_showLine_27 rfl (lv_at hl 0 rfl) ?_
        refine lv_iload_n hx hb dX0_showLine_28 rfl (lv_at hl 3 rfl) ?_
        refine lv_iconst (v := 5) hx hb dX0_showLine_29 (by decide) ?_
        refine kI (wr := TRw cA aT aU aG aE w_sz w_bf w_gf w_ef) (W1 := BKw cA aB aR aL aF now told rf lf ff) (wsN := BKw cA aB aR aL aF now told rf lf ff ++ TRw cA aT aU aG aE w_sz w_bf w_gf w_ef) (rV (As := [.int v3, .int 5]) (rest := [.int v3, .ref aT]) (W0 := BKw cA aB aR aL aF now told rf lf ff) ⟨hx, hb, hml, hown, hts⟩ (c_X0_fact l D cA cZ aB aR aL aF H.size now told rf lf ff v3 5) (cwV 2 hts gX0_showLine_X0_fact rfl rfl rfl (by decide +kernel) ⟨Nat.le_of_ble_eq_true rfl, Nat.le_of_ble_eq_true rfl⟩) hP hD hK hN ([0, 1, 2, 3] : List Nat) rfl rfl 0 0 rfl rfl rfl hl.1 rfl (Nat.le_of_ble_eq_true rfl) dX0_showLine_30 ⟨Nat.zero_le _, Nat.zero_le _⟩) hP hD hS hA [0, 1, 2, 3] [4, 5, 6, 7] [4, 5, 6, 7, 0, 1, 2, 3] rfl rfl rfl (by decide) rfl rfl (fun H locs hP hD hS => ?_)
        refine lv_aload_n hx hb dX0_showLine_33 rfl (lv_at hl 0 rfl) ?_
        refine lv_iload_n hx hb dX0_showLine_34 rfl (lv_at hl 3 rfl) ?_
        refine lv_iconst (v := 4) hx hb dX0_showLine_35 (by decide) ?_
        refine kI (wr := TRw cA aT aU aG aE w_sz w_bf w_gf w_ef) (W1 := BKw cA aB aR aL aF now told rf lf ff) (wsN := BKw cA aB aR aL aF now told rf lf ff ++ TRw cA aT aU aG aE w_sz w_bf w_gf w_ef) (rV (As := [.int v3, .int 4]) (rest := [.int (g_X0_fact ff v3 5), .int v3, .ref aT]) (W0 := BKw cA aB aR aL aF now told rf lf ff) ⟨hx, hb, hml, hown, hts⟩ (c_X0_fact l D cA cZ aB aR aL aF H.size now told rf lf ff v3 4) (cwV 2 hts gX0_showLine_X0_fact rfl rfl rfl (by decide +kernel) ⟨Nat.le_of_ble_eq_true rfl, Nat.le_of_ble_eq_true rfl⟩) hP hD hK hN ([0, 1, 2, 3] : List Nat) rfl rfl 0 0 rfl rfl rfl hl.1 rfl (Nat.le_of_ble_eq_true rfl) dX0_showLine_36 ⟨Nat.zero_le _, Nat.zero_le _⟩) hP hD hS hA [0, 1, 2, 3] [4, 5, 6, 7] [4, 5, 6, 7, 0, 1, 2, 3] rfl rfl rfl (by decide) rfl rfl (fun H locs hP hD hS => ?_)
        refine kV (wr := BKw cA aB aR aL aF now told rf lf ff) (W1 := TRw cA aT aU aG aE ((g_X2_add w_sz w_bf w_gf w_ef v3 (g_X0_fact ff v3 5) (g_X0_fact ff v3 4)).1) ((g_X2_add w_sz w_bf w_gf w_ef v3 (g_X0_fact ff v3 5) (g_X0_fact ff v3 4)).2.1) ((g_X2_add w_sz w_bf w_gf w_ef v3 (g_X0_fact ff v3 5) (g_X0_fact ff v3 4)).2.2.1) ((g_X2_add w_sz w_bf w_gf w_ef v3 (g_X0_fact ff v3 5) (g_X0_fact ff v3 4)).2.2.2)) (wsN := BKw cA aB aR aL aF now told rf lf ff ++ TRw cA aT aU aG aE ((g_X2_add w_sz w_bf w_gf w_ef v3 (g_X0_fact ff v3 5) (g_X0_fact ff v3 4)).1) ((g_X2_add w_sz w_bf w_gf w_ef v3 (g_X0_fact ff v3 5) (g_X0_fact ff v3 4)).2.1) ((g_X2_add w_sz w_bf w_gf w_ef v3 (g_X0_fact ff v3 5) (g_X0_fact ff v3 4)).2.2.1) ((g_X2_add w_sz w_bf w_gf w_ef v3 (g_X0_fact ff v3 5) (g_X0_fact ff v3 4)).2.2.2)) (rVN (As := [.int v3, .int (g_X0_fact ff v3 5), .int (g_X0_fact ff v3 4)]) (rest := []) (W0 := TRw cA aT aU aG aE w_sz w_bf w_gf w_ef) ⟨hx, hb, hml, hown, hts⟩ (c_X2_add l D cA cZ aT aU aG aE H.size w_sz w_bf w_gf w_ef v3 (g_X0_fact ff v3 5) (g_X0_fact ff v3 4)) ⟨va_cnB 3 hts gX0_showLine_X2_add_n63 rfl rfl rfl (hN (.methodLinkNest RX0 63 yX2_add RX3) (List.mem_of_getElem? (i := 16) rfl)) (hts (.initialized RX2) (List.mem_of_getElem? (i := 3) rfl)) (by decide +kernel) ⟨Nat.le_of_ble_eq_true rfl, Nat.le_of_ble_eq_true rfl⟩, (hts (.instanceMethod yX2_add) (List.mem_of_getElem? (i := 16) rfl)), (hts (.selects RX2 yX2_add yX2_add) (List.mem_of_getElem? (i := 17) rfl))⟩ hP hD hK hN ([4, 5, 6, 7] : List Nat) rfl rfl 2 0 rfl rfl rfl hl.1 rfl (Nat.le_of_ble_eq_true rfl) dX0_showLine_39 ⟨Nat.zero_le _, Nat.zero_le _⟩) hP hD hS hA [4, 5, 6, 7] [0, 1, 2, 3] [0, 1, 2, 3, 4, 5, 6, 7] rfl rfl rfl (by decide) rfl rfl (fun H locs hP hD hS => ?_)
        refine lv_iinc (v := (v3 + 1)) (lv' := [(3, .int (v3 + 1)), (0, .ref aB), (1, .int x1), (2, .ref aT)]) hx hb dX0_showLine_42 hl (k := 3) rfl rfl (by decide) rfl (fun ls hl => ?_)
        refine lv_goto (tgt := 6) hx hb dX0_showLine_45 (by decide) ?_
        rw [g_X0_showLine_L6, if_neg c_1, if_pos c_2] at hG
        exact ih6 (v3 + 1) ((g_X2_add w_sz w_bf w_gf w_ef v3 (g_X0_fact ff v3 5) (g_X0_fact ff v3 4)).1) ((g_X2_add w_sz w_bf w_gf w_ef v3 (g_X0_fact ff v3 5) (g_X0_fact ff v3 4)).2.1) ((g_X2_add w_sz w_bf w_gf w_ef v3 (g_X0_fact ff v3 5) (g_X0_fact ff v3 4)).2.2.1) ((g_X2_add w_sz w_bf w_gf w_ef v3 (g_X0_fact ff v3 5) (g_X0_fact ff v3 4)).2.2.2) _ _ _ (by exact ms_up c_1 hm6) hG hP hD hS (lv_sub hl [1, 2, 3, 0] rfl)

theorem showColour_L_le (told : Int32) (ff : Nat → Int32) (x1 x2 : Int32) : ∀ (n : Nat) (v : Int32) (w : Int32) (b g e : Nat → Int32), w ≤ 48 → (g_X0_showColour_L7 told ff x1 x2 n v w b g e).1 ≤ 48 := by
  intro n
  induction n with
  | zero => intros; exact (show (0 : Int32) ≤ 48 by decide)
  | succ n ih =>
    intro v w b g e h
    rw [g_X0_showColour_L7]
    split
    · exact h
    · split
      · split
        · exact ih _ _ _ _ _ (add_le h)
        · exact ih _ _ _ _ _ h
      · exact ih _ _ _ _ _ h
theorem showColour_le {told : Int32} {ff : Nat → Int32} {b g e : Nat → Int32} {x1 x2 : Int32} : (g_X0_showColour told ff b g e x1 x2).1 ≤ 48 := by
  unfold g_X0_showColour
  exact showColour_L_le _ _ _ _ _ _ _ _ _ _ (show (0 : Int32) ≤ 48 by decide)
theorem showLine_L_le (told : Int32) (ff : Nat → Int32) (x1 : Int32) : ∀ (n : Nat) (v : Int32) (w : Int32) (b g e : Nat → Int32), w ≤ 48 → (g_X0_showLine_L6 told ff x1 n v w b g e).1 ≤ 48 := by
  intro n
  induction n with
  | zero => intros; exact (show (0 : Int32) ≤ 48 by decide)
  | succ n ih =>
    intro v w b g e h
    rw [g_X0_showLine_L6]
    split
    · exact h
    · split
      · exact ih _ _ _ _ _ (add_le h)
      · exact ih _ _ _ _ _ h
theorem showLine_le {told : Int32} {ff : Nat → Int32} {b g e : Nat → Int32} {x1 : Int32} : (g_X0_showLine told ff b g e x1).1 ≤ 48 := by
  unfold g_X0_showLine
  exact showLine_L_le _ _ _ _ _ _ _ _ _ (show (0 : Int32) ≤ 48 by decide)

def g_X0_isTallied (ff : (Nat → Int32)) (x1 : Int32) (x2 : Int32) : Int32 := (if (g_X0_fact ff x1 2) = x2 then (if (g_X0_fact ff x1 6) = 4 then 0 else 1) else 0)
set_option maxHeartbeats 4000000 in
set_option maxRecDepth 100000 in
theorem c_X0_isTallied (l : Launch) (D : va_G) (cA cZ : ClassId) (aB : Nat) (aR : Nat) (aL : Nat) (aF : Nat) (szz : Nat) (now : Int32) (told : Int32) (rf : (Nat → Int32)) (lf : (Nat → Int32)) (ff : (Nat → Int32)) (x1 : Int32) (x2 : Int32) : MetI l yX0_isTallied wsX0_isTallied 2 44 D (tyA cA cZ) [.ref aB, .int x1, .int x2] (BKw cA aB aR aL aF now told rf lf ff) szz (g_X0_isTallied ff x1 x2) (BKw cA aB aR aL aF now told rf lf ff) := by
  refine Met.ofW (cc := cX0_isTallied) (maxL := 3) (ret := (some .boolean)) (by decide) rfl ?_
  intro p e s m args below meth c s₁ B hml hv
  obtain ⟨rfl, hsz, hP, hK, hD0, hN⟩ := hv
  have hx := B.exec
  have hb := B.bytes
  have hr := B.returns
  have hts := atoms_spec (ws := wsX0_isTallied) B.pre
  have hown : s.vm.findClass RX0 = some m.cls := findClass_of_methodNamed B.named
  have hlocks := B.notSynchronized
  have iX0 : ∀ w ∈ wsX00, w ∈ wsX0_isTallied := fun _ h => List.mem_cons_of_mem _ (List.mem_append_right _ h)
  subst hsz
  have hD := hD0.self (sz := s.heap.size)
  generalize hAe : va_A (BKw cA aB aR aL aF now told rf lf ff) s.heap.size = A at hD ⊢
  have hA : ∀ q : Nat, s.heap.size ≤ q → A q := fun q h => by rw [← hAe]; exact Or.inr h
  have hS : va_S A s.heap s.heap [] := va_S.rf
  have hP : va_P D vwCl (BKw cA aB aR aL aF now told rf lf ff) s.heap := hP
  obtain ⟨G, hG⟩ : ∃ G, G = (g_X0_isTallied ff x1 x2) := ⟨_, rfl⟩
  rw [← hG]
  have hl := lv_entry ([.ref aB, .int x1, .int x2]) (n := 3) (Nat.le_of_ble_eq_true rfl)
  rw [lg_entry_eq]
  generalize (lg_sl ([.ref aB, .int x1, .int x2]) ++ List.replicate (3 - (lg_sl ([.ref aB, .int x1, .int x2])).length) Slot.unset).toArray = ls at hl ⊢
  have hl : lv_has ls 3 [(0, .ref aB), (1, .int x1), (2, .int x2)] := hl
  refine lv_aload_n hx hb dX0_isTallied_0 rfl (lv_at hl 0 rfl) ?_
  refine lv_iload_n hx hb dX0_isTallied_1 rfl (lv_at hl 1 rfl) ?_
  refine lv_iconst (v := 2) hx hb dX0_isTallied_2 (by decide) ?_
  refine kI (wr := ([] : va_W)) (W1 := BKw cA aB aR aL aF now told rf lf ff) (wsN := BKw cA aB aR aL aF now told rf lf ff) (rV (As := [.int x1, .int 2]) (rest := []) (W0 := BKw cA aB aR aL aF now told rf lf ff) ⟨hx, hb, hml, hown, hts⟩ (c_X0_fact l D cA cZ aB aR aL aF s.heap.size now told rf lf ff x1 2) (cwV 2 hts gX0_isTallied_X0_fact rfl rfl rfl (by decide +kernel) ⟨Nat.le_of_ble_eq_true rfl, Nat.le_of_ble_eq_true rfl⟩) hP hD hK hN ([0, 1, 2, 3] : List Nat) rfl rfl 0 0 rfl rfl rfl hl.1 rfl (Nat.le_of_ble_eq_true rfl) dX0_isTallied_3 ⟨Nat.zero_le _, Nat.zero_le _⟩) hP hD hS hA [0, 1, 2, 3] [] [0, 1, 2, 3] rfl rfl rfl (by decide) rfl rfl (fun H locs hP hD hS => ?_)
  refine lv_iload_n hx hb dX0_isTallied_6 rfl (lv_at hl 2 rfl) ?_
  refine lv_icmp_ne (tgt := 25) hx hb dX0_isTallied_7 (by decide) (fun c_1 => ?_) (fun c_1 => ?_)
  · refine lv_iconst (v := 0) hx hb dX0_isTallied_25 (by decide) ?_
    rw [g_X0_isTallied, if_neg c_1] at hG
    rw [hG]
    exact W.zret (v := 0) hx hb hr rfl (fun t ht hW => ⟨⟨_, (), rfl, rfl, by rw [ht]; exact hP, va_K.moved hW.alike hK, hD⟩, hS.F ht⟩) hS.2.2 dX0_isTallied_26
  · refine lv_aload_n hx hb dX0_isTallied_10 rfl (lv_at hl 0 rfl) ?_
    refine lv_iload_n hx hb dX0_isTallied_11 rfl (lv_at hl 1 rfl) ?_
    refine lv_bipush (v := 6) hx hb dX0_isTallied_12 (by decide) ?_
    refine kI (wr := ([] : va_W)) (W1 := BKw cA aB aR aL aF now told rf lf ff) (wsN := BKw cA aB aR aL aF now told rf lf ff) (rV (As := [.int x1, .int 6]) (rest := []) (W0 := BKw cA aB aR aL aF now told rf lf ff) ⟨hx, hb, hml, hown, hts⟩ (c_X0_fact l D cA cZ aB aR aL aF H.size now told rf lf ff x1 6) (cwV 2 hts gX0_isTallied_X0_fact rfl rfl rfl (by decide +kernel) ⟨Nat.le_of_ble_eq_true rfl, Nat.le_of_ble_eq_true rfl⟩) hP hD hK hN ([0, 1, 2, 3] : List Nat) rfl rfl 0 0 rfl rfl rfl hl.1 rfl (Nat.le_of_ble_eq_true rfl) dX0_isTallied_14 ⟨Nat.zero_le _, Nat.zero_le _⟩) hP hD hS hA [0, 1, 2, 3] [] [0, 1, 2, 3] rfl rfl rfl (by decide) rfl rfl (fun H locs hP hD hS => ?_)
    refine lv_iconst (v := 4) hx hb dX0_isTallied_17 (by decide) ?_
    refine lv_icmp_eq (tgt := 25) hx hb dX0_isTallied_18 (by decide) (fun c_2 => ?_) (fun c_2 => ?_)
    · refine lv_iconst (v := 0) hx hb dX0_isTallied_25 (by decide) ?_
      rw [g_X0_isTallied, if_pos c_1, if_pos c_2] at hG
      rw [hG]
      exact W.zret (v := 0) hx hb hr rfl (fun t ht hW => ⟨⟨_, (), rfl, rfl, by rw [ht]; exact hP, va_K.moved hW.alike hK, hD⟩, hS.F ht⟩) hS.2.2 dX0_isTallied_26
    · refine lv_iconst (v := 1) hx hb dX0_isTallied_21 (by decide) ?_
      refine lv_goto (tgt := 26) hx hb dX0_isTallied_22 (by decide) ?_
      rw [g_X0_isTallied, if_pos c_1, if_neg c_2] at hG
      rw [hG]
      exact W.zret (v := 1) hx hb hr rfl (fun t ht hW => ⟨⟨_, (), rfl, rfl, by rw [ht]; exact hP, va_K.moved hW.alike hK, hD⟩, hS.F ht⟩) hS.2.2 dX0_isTallied_26

def g_X0_burstsOfClass_L4 (told : Int32) (ff : (Nat → Int32)) (x1 : Int32) : Nat → Int32 → Int32 → (Int32)
  | 0, _, _ => 0
  | n + 1, v2, v3 => (if told ≤ v3 then v2 else (if (g_X0_isTallied ff v3 x1) = 0 then (g_X0_burstsOfClass_L4 told ff x1 n v2 (v3 + 1)) else (g_X0_burstsOfClass_L4 told ff x1 n (v2 + 1) (v3 + 1))))
def g_X0_burstsOfClass (told : Int32) (ff : (Nat → Int32)) (x1 : Int32) : Int32 := (g_X0_burstsOfClass_L4 told ff x1 (((told).toInt - ((0 : Int32)).toInt).toNat + 1) 0 0)
set_option maxHeartbeats 4000000 in
set_option maxRecDepth 100000 in
theorem c_X0_burstsOfClass (l : Launch) (D : va_G) (cA cZ : ClassId) (aB : Nat) (aR : Nat) (aL : Nat) (aF : Nat) (szz : Nat) (now : Int32) (told : Int32) (rf : (Nat → Int32)) (lf : (Nat → Int32)) (ff : (Nat → Int32)) (x1 : Int32) : MetI l yX0_burstsOfClass wsX0_burstsOfClass 3 66 D (tyA cA cZ) [.ref aB, .int x1] (BKw cA aB aR aL aF now told rf lf ff) szz (g_X0_burstsOfClass told ff x1) (BKw cA aB aR aL aF now told rf lf ff) := by
  refine Met.ofW (cc := cX0_burstsOfClass) (maxL := 4) (ret := (some .int)) (by decide) rfl ?_
  intro p e s m args below meth c s₁ B hml hv
  obtain ⟨rfl, hsz, hP, hK, hD0, hN⟩ := hv
  have hx := B.exec
  have hb := B.bytes
  have hr := B.returns
  have hts := atoms_spec (ws := wsX0_burstsOfClass) B.pre
  have hown : s.vm.findClass RX0 = some m.cls := findClass_of_methodNamed B.named
  have hlocks := B.notSynchronized
  have iX0 : ∀ w ∈ wsX00, w ∈ wsX0_burstsOfClass := fun _ h => List.mem_cons_of_mem _ (List.mem_append_right _ h)
  subst hsz
  have hD := hD0.self (sz := s.heap.size)
  generalize hAe : va_A (BKw cA aB aR aL aF now told rf lf ff) s.heap.size = A at hD ⊢
  have hA : ∀ q : Nat, s.heap.size ≤ q → A q := fun q h => by rw [← hAe]; exact Or.inr h
  have hS : va_S A s.heap s.heap [] := va_S.rf
  have hP : va_P D vwCl (BKw cA aB aR aL aF now told rf lf ff) s.heap := hP
  obtain ⟨G, hG⟩ : ∃ G, G = (g_X0_burstsOfClass told ff x1) := ⟨_, rfl⟩
  rw [← hG]
  have hl := lv_entry ([.ref aB, .int x1]) (n := 4) (Nat.le_of_ble_eq_true rfl)
  rw [lg_entry_eq]
  generalize (lg_sl ([.ref aB, .int x1]) ++ List.replicate (4 - (lg_sl ([.ref aB, .int x1])).length) Slot.unset).toArray = ls at hl ⊢
  have hl : lv_has ls 4 [(0, .ref aB), (1, .int x1)] := hl
  refine lv_iconst (v := 0) hx hb dX0_burstsOfClass_0 (by decide) ?_
  refine lv_istore_n (lv' := [(2, .int 0), (0, .ref aB), (1, .int x1)]) hx hb dX0_burstsOfClass_1 rfl hl (by decide) rfl (fun ls hl => ?_)
  refine lv_iconst (v := 0) hx hb dX0_burstsOfClass_2 (by decide) ?_
  refine lv_istore_n (lv' := [(3, .int 0), (2, .int 0), (0, .ref aB), (1, .int x1)]) hx hb dX0_burstsOfClass_3 rfl hl (by decide) rfl (fun ls hl => ?_)
  rw [g_X0_burstsOfClass] at hG
  refine (?_ : ∀ (n : Nat) (v2 : Int32) (v3 : Int32) (H : Heap) (locs : List Loc) (ls : Array Slot), ((told).toInt - (v3).toInt).toNat < n → G = g_X0_burstsOfClass_L4 told ff x1 n v2 v3 → va_P D vwCl (BKw cA aB aR aL aF now told rf lf ff) H → va_D A (BKw cA aB aR aL aF now told rf lf ff) → va_S A s.heap H locs → lv_has ls 4 [(0, .ref aB), (1, .int x1), (2, .int v2), (3, .int v3)] → W p l e _ s m _ below meth c H locs _ _ _ (F0 m 4 ls [])) (((told).toInt - ((0 : Int32)).toInt).toNat + 1) 0 0 _ _ _ (Nat.lt_succ_self _) hG hP hD hS (lv_sub hl [2, 3, 1, 0] rfl)
  clear hG hP hD hS hl
  intro n
  induction n with
  | zero => intros; omega
  | succ n4 ih4 =>
    intro v2 v3 H locs ls hm4 hG hP hD hS hl
    refine lv_iload_n hx hb dX0_burstsOfClass_4 rfl (lv_at hl 3 rfl) ?_
    refine lv_aload_n hx hb dX0_burstsOfClass_5 rfl (lv_at hl 0 rfl) ?_
    refine va_get (D := D) (ci := 0) (v := .int told) (C := RX0) (T := TX0) (N := 5) hx hb hts iX0 hown hK hP 0 rfl rfl 1 (by decide) (hts (.fieldLink RX0 15 "LightBursts$Book" "told" "I") (List.mem_of_getElem? (i := 1) rfl)) (fun _ h9 => h9) rfl dX0_burstsOfClass_6 ?_
    refine lv_icmp_ge (tgt := 30) hx hb dX0_burstsOfClass_9 (by decide) (fun c_1 => ?_) (fun c_1 => ?_)
    · refine lv_iload_n hx hb dX0_burstsOfClass_30 rfl (lv_at hl 2 rfl) ?_
      rw [g_X0_burstsOfClass_L4, if_pos c_1] at hG
      rw [hG]
      exact W.iret (v := v2) hx hb hr (fun t ht hW => ⟨⟨_, (), rfl, rfl, by rw [ht]; exact hP, va_K.moved hW.alike hK, hD⟩, hS.F ht⟩) hS.2.2 dX0_burstsOfClass_31
    · refine lv_aload_n hx hb dX0_burstsOfClass_12 rfl (lv_at hl 0 rfl) ?_
      refine lv_iload_n hx hb dX0_burstsOfClass_13 rfl (lv_at hl 3 rfl) ?_
      refine lv_iload_n hx hb dX0_burstsOfClass_14 rfl (lv_at hl 1 rfl) ?_
      refine kI (wr := ([] : va_W)) (W1 := BKw cA aB aR aL aF now told rf lf ff) (wsN := BKw cA aB aR aL aF now told rf lf ff) (rV (As := [.int v3, .int x1]) (rest := []) (W0 := BKw cA aB aR aL aF now told rf lf ff) ⟨hx, hb, hml, hown, hts⟩ (c_X0_isTallied l D cA cZ aB aR aL aF H.size now told rf lf ff v3 x1) (cwV 2 hts gX0_burstsOfClass_X0_isTallied rfl rfl rfl (by decide +kernel) ⟨Nat.le_of_ble_eq_true rfl, Nat.le_of_ble_eq_true rfl⟩) hP hD hK hN ([0, 1, 2, 3] : List Nat) rfl rfl 0 0 rfl rfl rfl hl.1 rfl (Nat.le_of_ble_eq_true rfl) dX0_burstsOfClass_15 ⟨Nat.zero_le _, Nat.zero_le _⟩) hP hD hS hA [0, 1, 2, 3] [] [0, 1, 2, 3] rfl rfl rfl (by decide) rfl rfl (fun H locs hP hD hS => ?_)
      refine lv_if_eq (tgt := 24) hx hb dX0_burstsOfClass_18 (by decide) (fun c_2 => ?_) (fun c_2 => ?_)
      · refine lv_iinc (v := (v3 + 1)) (lv' := [(3, .int (v3 + 1)), (0, .ref aB), (1, .int x1), (2, .int v2)]) hx hb dX0_burstsOfClass_24 hl (k := 3) rfl rfl (by decide) rfl (fun ls hl => ?_)
        refine lv_goto (tgt := 4) hx hb dX0_burstsOfClass_27 (by decide) ?_
        rw [g_X0_burstsOfClass_L4, if_neg c_1, if_pos c_2] at hG
        exact ih4 v2 (v3 + 1) _ _ _ (by exact ms_up c_1 hm4) hG hP hD hS (lv_sub hl [1, 2, 3, 0] rfl)
      · refine lv_iinc (v := (v2 + 1)) (lv' := [(2, .int (v2 + 1)), (0, .ref aB), (1, .int x1), (3, .int v3)]) hx hb dX0_burstsOfClass_21 hl (k := 2) rfl rfl (by decide) rfl (fun ls hl => ?_)
        refine lv_iinc (v := (v3 + 1)) (lv' := [(3, .int (v3 + 1)), (2, .int (v2 + 1)), (0, .ref aB), (1, .int x1)]) hx hb dX0_burstsOfClass_24 hl (k := 3) rfl rfl (by decide) rfl (fun ls hl => ?_)
        refine lv_goto (tgt := 4) hx hb dX0_burstsOfClass_27 (by decide) ?_
        rw [g_X0_burstsOfClass_L4, if_neg c_1, if_neg c_2] at hG
        exact ih4 (v2 + 1) (v3 + 1) _ _ _ (by exact ms_up c_1 hm4) hG hP hD hS (lv_sub hl [2, 3, 1, 0] rfl)

def g_X0_sumOfClass_L5 (told : Int32) (ff : (Nat → Int32)) (x1 : Int32) (x2 : Int32) : Nat → Int32 → Int32 → (Int32)
  | 0, _, _ => 0
  | n + 1, v3, v4 => (if told ≤ v4 then v3 else (if (g_X0_isTallied ff v4 x1) = 0 then (g_X0_sumOfClass_L5 told ff x1 x2 n v3 (v4 + 1)) else (g_X0_sumOfClass_L5 told ff x1 x2 n (v3 + (g_X0_fact ff v4 x2)) (v4 + 1))))
def g_X0_sumOfClass (told : Int32) (ff : (Nat → Int32)) (x1 : Int32) (x2 : Int32) : Int32 := (g_X0_sumOfClass_L5 told ff x1 x2 (((told).toInt - ((0 : Int32)).toInt).toNat + 1) 0 0)
set_option maxHeartbeats 4000000 in
set_option maxRecDepth 100000 in
theorem c_X0_sumOfClass (l : Launch) (D : va_G) (cA cZ : ClassId) (aB : Nat) (aR : Nat) (aL : Nat) (aF : Nat) (szz : Nat) (now : Int32) (told : Int32) (rf : (Nat → Int32)) (lf : (Nat → Int32)) (ff : (Nat → Int32)) (x1 : Int32) (x2 : Int32) : MetI l yX0_sumOfClass wsX0_sumOfClass 3 66 D (tyA cA cZ) [.ref aB, .int x1, .int x2] (BKw cA aB aR aL aF now told rf lf ff) szz (g_X0_sumOfClass told ff x1 x2) (BKw cA aB aR aL aF now told rf lf ff) := by
  refine Met.ofW (cc := cX0_sumOfClass) (maxL := 5) (ret := (some .int)) (by decide) rfl ?_
  intro p e s m args below meth c s₁ B hml hv
  obtain ⟨rfl, hsz, hP, hK, hD0, hN⟩ := hv
  have hx := B.exec
  have hb := B.bytes
  have hr := B.returns
  have hts := atoms_spec (ws := wsX0_sumOfClass) B.pre
  have hown : s.vm.findClass RX0 = some m.cls := findClass_of_methodNamed B.named
  have hlocks := B.notSynchronized
  have iX0 : ∀ w ∈ wsX00, w ∈ wsX0_sumOfClass := fun _ h => List.mem_cons_of_mem _ (List.mem_append_right _ h)
  subst hsz
  have hD := hD0.self (sz := s.heap.size)
  generalize hAe : va_A (BKw cA aB aR aL aF now told rf lf ff) s.heap.size = A at hD ⊢
  have hA : ∀ q : Nat, s.heap.size ≤ q → A q := fun q h => by rw [← hAe]; exact Or.inr h
  have hS : va_S A s.heap s.heap [] := va_S.rf
  have hP : va_P D vwCl (BKw cA aB aR aL aF now told rf lf ff) s.heap := hP
  obtain ⟨G, hG⟩ : ∃ G, G = (g_X0_sumOfClass told ff x1 x2) := ⟨_, rfl⟩
  rw [← hG]
  have hl := lv_entry ([.ref aB, .int x1, .int x2]) (n := 5) (Nat.le_of_ble_eq_true rfl)
  rw [lg_entry_eq]
  generalize (lg_sl ([.ref aB, .int x1, .int x2]) ++ List.replicate (5 - (lg_sl ([.ref aB, .int x1, .int x2])).length) Slot.unset).toArray = ls at hl ⊢
  have hl : lv_has ls 5 [(0, .ref aB), (1, .int x1), (2, .int x2)] := hl
  refine lv_iconst (v := 0) hx hb dX0_sumOfClass_0 (by decide) ?_
  refine lv_istore_n (lv' := [(3, .int 0), (0, .ref aB), (1, .int x1), (2, .int x2)]) hx hb dX0_sumOfClass_1 rfl hl (by decide) rfl (fun ls hl => ?_)
  refine lv_iconst (v := 0) hx hb dX0_sumOfClass_2 (by decide) ?_
  refine lv_istore (lv' := [(4, .int 0), (3, .int 0), (0, .ref aB), (1, .int x1), (2, .int x2)]) hx hb dX0_sumOfClass_3 hl (by decide) rfl (fun ls hl => ?_)
  rw [g_X0_sumOfClass] at hG
  refine (?_ : ∀ (n : Nat) (v3 : Int32) (v4 : Int32) (H : Heap) (locs : List Loc) (ls : Array Slot), ((told).toInt - (v4).toInt).toNat < n → G = g_X0_sumOfClass_L5 told ff x1 x2 n v3 v4 → va_P D vwCl (BKw cA aB aR aL aF now told rf lf ff) H → va_D A (BKw cA aB aR aL aF now told rf lf ff) → va_S A s.heap H locs → lv_has ls 5 [(0, .ref aB), (1, .int x1), (2, .int x2), (3, .int v3), (4, .int v4)] → W p l e _ s m _ below meth c H locs _ _ _ (F0 m 5 ls [])) (((told).toInt - ((0 : Int32)).toInt).toNat + 1) 0 0 _ _ _ (Nat.lt_succ_self _) hG hP hD hS (lv_sub hl [2, 3, 4, 1, 0] rfl)
  clear hG hP hD hS hl
  intro n
  induction n with
  | zero => intros; omega
  | succ n5 ih5 =>
    intro v3 v4 H locs ls hm5 hG hP hD hS hl
    refine lv_iload hx hb dX0_sumOfClass_5 (lv_at hl 4 rfl) ?_
    refine lv_aload_n hx hb dX0_sumOfClass_7 rfl (lv_at hl 0 rfl) ?_
    refine va_get (D := D) (ci := 0) (v := .int told) (C := RX0) (T := TX0) (N := 5) hx hb hts iX0 hown hK hP 0 rfl rfl 1 (by decide) (hts (.fieldLink RX0 15 "LightBursts$Book" "told" "I") (List.mem_of_getElem? (i := 1) rfl)) (fun _ h9 => h9) rfl dX0_sumOfClass_8 ?_
    refine lv_icmp_ge (tgt := 40) hx hb dX0_sumOfClass_11 (by decide) (fun c_1 => ?_) (fun c_1 => ?_)
    · refine lv_iload_n hx hb dX0_sumOfClass_40 rfl (lv_at hl 3 rfl) ?_
      rw [g_X0_sumOfClass_L5, if_pos c_1] at hG
      rw [hG]
      exact W.iret (v := v3) hx hb hr (fun t ht hW => ⟨⟨_, (), rfl, rfl, by rw [ht]; exact hP, va_K.moved hW.alike hK, hD⟩, hS.F ht⟩) hS.2.2 dX0_sumOfClass_41
    · refine lv_aload_n hx hb dX0_sumOfClass_14 rfl (lv_at hl 0 rfl) ?_
      refine lv_iload hx hb dX0_sumOfClass_15 (lv_at hl 4 rfl) ?_
      refine lv_iload_n hx hb dX0_sumOfClass_17 rfl (lv_at hl 1 rfl) ?_
      refine kI (wr := ([] : va_W)) (W1 := BKw cA aB aR aL aF now told rf lf ff) (wsN := BKw cA aB aR aL aF now told rf lf ff) (rV (As := [.int v4, .int x1]) (rest := []) (W0 := BKw cA aB aR aL aF now told rf lf ff) ⟨hx, hb, hml, hown, hts⟩ (c_X0_isTallied l D cA cZ aB aR aL aF H.size now told rf lf ff v4 x1) (cwV 2 hts gX0_sumOfClass_X0_isTallied rfl rfl rfl (by decide +kernel) ⟨Nat.le_of_ble_eq_true rfl, Nat.le_of_ble_eq_true rfl⟩) hP hD hK hN ([0, 1, 2, 3] : List Nat) rfl rfl 0 0 rfl rfl rfl hl.1 rfl (Nat.le_of_ble_eq_true rfl) dX0_sumOfClass_18 ⟨Nat.zero_le _, Nat.zero_le _⟩) hP hD hS hA [0, 1, 2, 3] [] [0, 1, 2, 3] rfl rfl rfl (by decide) rfl rfl (fun H locs hP hD hS => ?_)
      refine lv_if_eq (tgt := 34) hx hb dX0_sumOfClass_21 (by decide) (fun c_2 => ?_) (fun c_2 => ?_)
      · refine lv_iinc (v := (v4 + 1)) (lv' := [(4, .int (v4 + 1)), (0, .ref aB), (1, .int x1), (2, .int x2), (3, .int v3)]) hx hb dX0_sumOfClass_34 hl (k := 4) rfl rfl (by decide) rfl (fun ls hl => ?_)
        refine lv_goto (tgt := 5) hx hb dX0_sumOfClass_37 (by decide) ?_
        rw [g_X0_sumOfClass_L5, if_neg c_1, if_pos c_2] at hG
        exact ih5 v3 (v4 + 1) _ _ _ (by exact ms_up c_1 hm5) hG hP hD hS (lv_sub hl [1, 2, 3, 4, 0] rfl)
      · refine lv_iload_n hx hb dX0_sumOfClass_24 rfl (lv_at hl 3 rfl) ?_
        refine lv_aload_n hx hb dX0_sumOfClass_25 rfl (lv_at hl 0 rfl) ?_
        refine lv_iload hx hb dX0_sumOfClass_26 (lv_at hl 4 rfl) ?_
        refine lv_iload_n hx hb dX0_sumOfClass_28 rfl (lv_at hl 2 rfl) ?_
        refine kI (wr := ([] : va_W)) (W1 := BKw cA aB aR aL aF now told rf lf ff) (wsN := BKw cA aB aR aL aF now told rf lf ff) (rV (As := [.int v4, .int x2]) (rest := [.int v3]) (W0 := BKw cA aB aR aL aF now told rf lf ff) ⟨hx, hb, hml, hown, hts⟩ (c_X0_fact l D cA cZ aB aR aL aF H.size now told rf lf ff v4 x2) (cwV 2 hts gX0_sumOfClass_X0_fact rfl rfl rfl (by decide +kernel) ⟨Nat.le_of_ble_eq_true rfl, Nat.le_of_ble_eq_true rfl⟩) hP hD hK hN ([0, 1, 2, 3] : List Nat) rfl rfl 0 0 rfl rfl rfl hl.1 rfl (Nat.le_of_ble_eq_true rfl) dX0_sumOfClass_29 ⟨Nat.zero_le _, Nat.zero_le _⟩) hP hD hS hA [0, 1, 2, 3] [] [0, 1, 2, 3] rfl rfl rfl (by decide) rfl rfl (fun H locs hP hD hS => ?_)
        refine lv_iadd hx hb dX0_sumOfClass_32 ?_
        refine lv_istore_n (lv' := [(3, .int (v3 + (g_X0_fact ff v4 x2))), (0, .ref aB), (1, .int x1), (2, .int x2), (4, .int v4)]) hx hb dX0_sumOfClass_33 rfl hl (by decide) rfl (fun ls hl => ?_)
        refine lv_iinc (v := (v4 + 1)) (lv' := [(4, .int (v4 + 1)), (3, .int (v3 + (g_X0_fact ff v4 x2))), (0, .ref aB), (1, .int x1), (2, .int x2)]) hx hb dX0_sumOfClass_34 hl (k := 4) rfl rfl (by decide) rfl (fun ls hl => ?_)
        refine lv_goto (tgt := 5) hx hb dX0_sumOfClass_37 (by decide) ?_
        rw [g_X0_sumOfClass_L5, if_neg c_1, if_neg c_2] at hG
        exact ih5 (v3 + (g_X0_fact ff v4 x2)) (v4 + 1) _ _ _ (by exact ms_up c_1 hm5) hG hP hD hS (lv_sub hl [2, 3, 4, 1, 0] rfl)

def g_X0_lostOfClass_L4 (told : Int32) (ff : (Nat → Int32)) (x1 : Int32) : Nat → Int32 → Int32 → (Int32)
  | 0, _, _ => 0
  | n + 1, v2, v3 => (if told ≤ v3 then v2 else (if (g_X0_fact ff v3 2) = x1 then (if (g_X0_fact ff v3 6) = 3 then (g_X0_lostOfClass_L4 told ff x1 n (v2 + 1) (v3 + 1)) else (g_X0_lostOfClass_L4 told ff x1 n v2 (v3 + 1))) else (g_X0_lostOfClass_L4 told ff x1 n v2 (v3 + 1))))
def g_X0_lostOfClass (told : Int32) (ff : (Nat → Int32)) (x1 : Int32) : Int32 := (g_X0_lostOfClass_L4 told ff x1 (((told).toInt - ((0 : Int32)).toInt).toNat + 1) 0 0)
set_option maxHeartbeats 4000000 in
set_option maxRecDepth 100000 in
theorem c_X0_lostOfClass (l : Launch) (D : va_G) (cA cZ : ClassId) (aB : Nat) (aR : Nat) (aL : Nat) (aF : Nat) (szz : Nat) (now : Int32) (told : Int32) (rf : (Nat → Int32)) (lf : (Nat → Int32)) (ff : (Nat → Int32)) (x1 : Int32) : MetI l yX0_lostOfClass wsX0_lostOfClass 2 44 D (tyA cA cZ) [.ref aB, .int x1] (BKw cA aB aR aL aF now told rf lf ff) szz (g_X0_lostOfClass told ff x1) (BKw cA aB aR aL aF now told rf lf ff) := by
  refine Met.ofW (cc := cX0_lostOfClass) (maxL := 4) (ret := (some .int)) (by decide) rfl ?_
  intro p e s m args below meth c s₁ B hml hv
  obtain ⟨rfl, hsz, hP, hK, hD0, hN⟩ := hv
  have hx := B.exec
  have hb := B.bytes
  have hr := B.returns
  have hts := atoms_spec (ws := wsX0_lostOfClass) B.pre
  have hown : s.vm.findClass RX0 = some m.cls := findClass_of_methodNamed B.named
  have hlocks := B.notSynchronized
  have iX0 : ∀ w ∈ wsX00, w ∈ wsX0_lostOfClass := fun _ h => List.mem_cons_of_mem _ (List.mem_append_right _ h)
  subst hsz
  have hD := hD0.self (sz := s.heap.size)
  generalize hAe : va_A (BKw cA aB aR aL aF now told rf lf ff) s.heap.size = A at hD ⊢
  have hA : ∀ q : Nat, s.heap.size ≤ q → A q := fun q h => by rw [← hAe]; exact Or.inr h
  have hS : va_S A s.heap s.heap [] := va_S.rf
  have hP : va_P D vwCl (BKw cA aB aR aL aF now told rf lf ff) s.heap := hP
  obtain ⟨G, hG⟩ : ∃ G, G = (g_X0_lostOfClass told ff x1) := ⟨_, rfl⟩
  rw [← hG]
  have hl := lv_entry ([.ref aB, .int x1]) (n := 4) (Nat.le_of_ble_eq_true rfl)
  rw [lg_entry_eq]
  generalize (lg_sl ([.ref aB, .int x1]) ++ List.replicate (4 - (lg_sl ([.ref aB, .int x1])).length) Slot.unset).toArray = ls at hl ⊢
  have hl : lv_has ls 4 [(0, .ref aB), (1, .int x1)] := hl
  refine lv_iconst (v := 0) hx hb dX0_lostOfClass_0 (by decide) ?_
  refine lv_istore_n (lv' := [(2, .int 0), (0, .ref aB), (1, .int x1)]) hx hb dX0_lostOfClass_1 rfl hl (by decide) rfl (fun ls hl => ?_)
  refine lv_iconst (v := 0) hx hb dX0_lostOfClass_2 (by decide) ?_
  refine lv_istore_n (lv' := [(3, .int 0), (2, .int 0), (0, .ref aB), (1, .int x1)]) hx hb dX0_lostOfClass_3 rfl hl (by decide) rfl (fun ls hl => ?_)
  rw [g_X0_lostOfClass] at hG
  refine (?_ : ∀ (n : Nat) (v2 : Int32) (v3 : Int32) (H : Heap) (locs : List Loc) (ls : Array Slot), ((told).toInt - (v3).toInt).toNat < n → G = g_X0_lostOfClass_L4 told ff x1 n v2 v3 → va_P D vwCl (BKw cA aB aR aL aF now told rf lf ff) H → va_D A (BKw cA aB aR aL aF now told rf lf ff) → va_S A s.heap H locs → lv_has ls 4 [(0, .ref aB), (1, .int x1), (2, .int v2), (3, .int v3)] → W p l e _ s m _ below meth c H locs _ _ _ (F0 m 4 ls [])) (((told).toInt - ((0 : Int32)).toInt).toNat + 1) 0 0 _ _ _ (Nat.lt_succ_self _) hG hP hD hS (lv_sub hl [2, 3, 1, 0] rfl)
  clear hG hP hD hS hl
  intro n
  induction n with
  | zero => intros; omega
  | succ n4 ih4 =>
    intro v2 v3 H locs ls hm4 hG hP hD hS hl
    refine lv_iload_n hx hb dX0_lostOfClass_4 rfl (lv_at hl 3 rfl) ?_
    refine lv_aload_n hx hb dX0_lostOfClass_5 rfl (lv_at hl 0 rfl) ?_
    refine va_get (D := D) (ci := 0) (v := .int told) (C := RX0) (T := TX0) (N := 5) hx hb hts iX0 hown hK hP 0 rfl rfl 1 (by decide) (hts (.fieldLink RX0 15 "LightBursts$Book" "told" "I") (List.mem_of_getElem? (i := 1) rfl)) (fun _ h9 => h9) rfl dX0_lostOfClass_6 ?_
    refine lv_icmp_ge (tgt := 42) hx hb dX0_lostOfClass_9 (by decide) (fun c_1 => ?_) (fun c_1 => ?_)
    · refine lv_iload_n hx hb dX0_lostOfClass_42 rfl (lv_at hl 2 rfl) ?_
      rw [g_X0_lostOfClass_L4, if_pos c_1] at hG
      rw [hG]
      exact W.iret (v := v2) hx hb hr (fun t ht hW => ⟨⟨_, (), rfl, rfl, by rw [ht]; exact hP, va_K.moved hW.alike hK, hD⟩, hS.F ht⟩) hS.2.2 dX0_lostOfClass_43
    · refine lv_aload_n hx hb dX0_lostOfClass_12 rfl (lv_at hl 0 rfl) ?_
      refine lv_iload_n hx hb dX0_lostOfClass_13 rfl (lv_at hl 3 rfl) ?_
      refine lv_iconst (v := 2) hx hb dX0_lostOfClass_14 (by decide) ?_
      refine kI (wr := ([] : va_W)) (W1 := BKw cA aB aR aL aF now told rf lf ff) (wsN := BKw cA aB aR aL aF now told rf lf ff) (rV (As := [.int v3, .int 2]) (rest := []) (W0 := BKw cA aB aR aL aF now told rf lf ff) ⟨hx, hb, hml, hown, hts⟩ (c_X0_fact l D cA cZ aB aR aL aF H.size now told rf lf ff v3 2) (cwV 2 hts gX0_lostOfClass_X0_fact rfl rfl rfl (by decide +kernel) ⟨Nat.le_of_ble_eq_true rfl, Nat.le_of_ble_eq_true rfl⟩) hP hD hK hN ([0, 1, 2, 3] : List Nat) rfl rfl 0 0 rfl rfl rfl hl.1 rfl (Nat.le_of_ble_eq_true rfl) dX0_lostOfClass_15 ⟨Nat.zero_le _, Nat.zero_le _⟩) hP hD hS hA [0, 1, 2, 3] [] [0, 1, 2, 3] rfl rfl rfl (by decide) rfl rfl (fun H locs hP hD hS => ?_)
      refine lv_iload_n hx hb dX0_lostOfClass_18 rfl (lv_at hl 1 rfl) ?_
      refine lv_icmp_ne (tgt := 36) hx hb dX0_lostOfClass_19 (by decide) (fun c_2 => ?_) (fun c_2 => ?_)
      · refine lv_iinc (v := (v3 + 1)) (lv' := [(3, .int (v3 + 1)), (0, .ref aB), (1, .int x1), (2, .int v2)]) hx hb dX0_lostOfClass_36 hl (k := 3) rfl rfl (by decide) rfl (fun ls hl => ?_)
        refine lv_goto (tgt := 4) hx hb dX0_lostOfClass_39 (by decide) ?_
        rw [g_X0_lostOfClass_L4, if_neg c_1, if_neg c_2] at hG
        exact ih4 v2 (v3 + 1) _ _ _ (by exact ms_up c_1 hm4) hG hP hD hS (lv_sub hl [1, 2, 3, 0] rfl)
      · refine lv_aload_n hx hb dX0_lostOfClass_22 rfl (lv_at hl 0 rfl) ?_
        refine lv_iload_n hx hb dX0_lostOfClass_23 rfl (lv_at hl 3 rfl) ?_
        refine lv_bipush (v := 6) hx hb dX0_lostOfClass_24 (by decide) ?_
        refine kI (wr := ([] : va_W)) (W1 := BKw cA aB aR aL aF now told rf lf ff) (wsN := BKw cA aB aR aL aF now told rf lf ff) (rV (As := [.int v3, .int 6]) (rest := []) (W0 := BKw cA aB aR aL aF now told rf lf ff) ⟨hx, hb, hml, hown, hts⟩ (c_X0_fact l D cA cZ aB aR aL aF H.size now told rf lf ff v3 6) (cwV 2 hts gX0_lostOfClass_X0_fact rfl rfl rfl (by decide +kernel) ⟨Nat.le_of_ble_eq_true rfl, Nat.le_of_ble_eq_true rfl⟩) hP hD hK hN ([0, 1, 2, 3] : List Nat) rfl rfl 0 0 rfl rfl rfl hl.1 rfl (Nat.le_of_ble_eq_true rfl) dX0_lostOfClass_26 ⟨Nat.zero_le _, Nat.zero_le _⟩) hP hD hS hA [0, 1, 2, 3] [] [0, 1, 2, 3] rfl rfl rfl (by decide) rfl rfl (fun H locs hP hD hS => ?_)
        refine lv_iconst (v := 3) hx hb dX0_lostOfClass_29 (by decide) ?_
        refine lv_icmp_ne (tgt := 36) hx hb dX0_lostOfClass_30 (by decide) (fun c_3 => ?_) (fun c_3 => ?_)
        · refine lv_iinc (v := (v3 + 1)) (lv' := [(3, .int (v3 + 1)), (0, .ref aB), (1, .int x1), (2, .int v2)]) hx hb dX0_lostOfClass_36 hl (k := 3) rfl rfl (by decide) rfl (fun ls hl => ?_)
          refine lv_goto (tgt := 4) hx hb dX0_lostOfClass_39 (by decide) ?_
          rw [g_X0_lostOfClass_L4, if_neg c_1, if_pos c_2, if_neg c_3] at hG
          exact ih4 v2 (v3 + 1) _ _ _ (by exact ms_up c_1 hm4) hG hP hD hS (lv_sub hl [1, 2, 3, 0] rfl)
        · refine lv_iinc (v := (v2 + 1)) (lv' := [(2, .int (v2 + 1)), (0, .ref aB), (1, .int x1), (3, .int v3)]) hx hb dX0_lostOfClass_33 hl (k := 2) rfl rfl (by decide) rfl (fun ls hl => ?_)
          refine lv_iinc (v := (v3 + 1)) (lv' := [(3, .int (v3 + 1)), (2, .int (v2 + 1)), (0, .ref aB), (1, .int x1)]) hx hb dX0_lostOfClass_36 hl (k := 3) rfl rfl (by decide) rfl (fun ls hl => ?_)
          refine lv_goto (tgt := 4) hx hb dX0_lostOfClass_39 (by decide) ?_
          rw [g_X0_lostOfClass_L4, if_neg c_1, if_pos c_2, if_pos c_3] at hG
          exact ih4 (v2 + 1) (v3 + 1) _ _ _ (by exact ms_up c_1 hm4) hG hP hD hS (lv_sub hl [2, 3, 1, 0] rfl)

def g_X0_burstsWhere_L5 (told : Int32) (ff : (Nat → Int32)) (x1 : Int32) (x2 : Int32) : Nat → Int32 → Int32 → (Int32)
  | 0, _, _ => 0
  | n + 1, v3, v4 => (if told ≤ v4 then v3 else (if (g_X0_fact ff v4 x1) = x2 then (g_X0_burstsWhere_L5 told ff x1 x2 n (v3 + 1) (v4 + 1)) else (g_X0_burstsWhere_L5 told ff x1 x2 n v3 (v4 + 1))))
def g_X0_burstsWhere (told : Int32) (ff : (Nat → Int32)) (x1 : Int32) (x2 : Int32) : Int32 := (g_X0_burstsWhere_L5 told ff x1 x2 (((told).toInt - ((0 : Int32)).toInt).toNat + 1) 0 0)
set_option maxHeartbeats 4000000 in
set_option maxRecDepth 100000 in
theorem c_X0_burstsWhere (l : Launch) (D : va_G) (cA cZ : ClassId) (aB : Nat) (aR : Nat) (aL : Nat) (aF : Nat) (szz : Nat) (now : Int32) (told : Int32) (rf : (Nat → Int32)) (lf : (Nat → Int32)) (ff : (Nat → Int32)) (x1 : Int32) (x2 : Int32) : MetI l yX0_burstsWhere wsX0_burstsWhere 2 44 D (tyA cA cZ) [.ref aB, .int x1, .int x2] (BKw cA aB aR aL aF now told rf lf ff) szz (g_X0_burstsWhere told ff x1 x2) (BKw cA aB aR aL aF now told rf lf ff) := by
  refine Met.ofW (cc := cX0_burstsWhere) (maxL := 5) (ret := (some .int)) (by decide) rfl ?_
  intro p e s m args below meth c s₁ B hml hv
  obtain ⟨rfl, hsz, hP, hK, hD0, hN⟩ := hv
  have hx := B.exec
  have hb := B.bytes
  have hr := B.returns
  have hts := atoms_spec (ws := wsX0_burstsWhere) B.pre
  have hown : s.vm.findClass RX0 = some m.cls := findClass_of_methodNamed B.named
  have hlocks := B.notSynchronized
  have iX0 : ∀ w ∈ wsX00, w ∈ wsX0_burstsWhere := fun _ h => List.mem_cons_of_mem _ (List.mem_append_right _ h)
  subst hsz
  have hD := hD0.self (sz := s.heap.size)
  generalize hAe : va_A (BKw cA aB aR aL aF now told rf lf ff) s.heap.size = A at hD ⊢
  have hA : ∀ q : Nat, s.heap.size ≤ q → A q := fun q h => by rw [← hAe]; exact Or.inr h
  have hS : va_S A s.heap s.heap [] := va_S.rf
  have hP : va_P D vwCl (BKw cA aB aR aL aF now told rf lf ff) s.heap := hP
  obtain ⟨G, hG⟩ : ∃ G, G = (g_X0_burstsWhere told ff x1 x2) := ⟨_, rfl⟩
  rw [← hG]
  have hl := lv_entry ([.ref aB, .int x1, .int x2]) (n := 5) (Nat.le_of_ble_eq_true rfl)
  rw [lg_entry_eq]
  generalize (lg_sl ([.ref aB, .int x1, .int x2]) ++ List.replicate (5 - (lg_sl ([.ref aB, .int x1, .int x2])).length) Slot.unset).toArray = ls at hl ⊢
  have hl : lv_has ls 5 [(0, .ref aB), (1, .int x1), (2, .int x2)] := hl
  refine lv_iconst (v := 0) hx hb dX0_burstsWhere_0 (by decide) ?_
  refine lv_istore_n (lv' := [(3, .int 0), (0, .ref aB), (1, .int x1), (2, .int x2)]) hx hb dX0_burstsWhere_1 rfl hl (by decide) rfl (fun ls hl => ?_)
  refine lv_iconst (v := 0) hx hb dX0_burstsWhere_2 (by decide) ?_
  refine lv_istore (lv' := [(4, .int 0), (3, .int 0), (0, .ref aB), (1, .int x1), (2, .int x2)]) hx hb dX0_burstsWhere_3 hl (by decide) rfl (fun ls hl => ?_)
  rw [g_X0_burstsWhere] at hG
  refine (?_ : ∀ (n : Nat) (v3 : Int32) (v4 : Int32) (H : Heap) (locs : List Loc) (ls : Array Slot), ((told).toInt - (v4).toInt).toNat < n → G = g_X0_burstsWhere_L5 told ff x1 x2 n v3 v4 → va_P D vwCl (BKw cA aB aR aL aF now told rf lf ff) H → va_D A (BKw cA aB aR aL aF now told rf lf ff) → va_S A s.heap H locs → lv_has ls 5 [(0, .ref aB), (1, .int x1), (2, .int x2), (3, .int v3), (4, .int v4)] → W p l e _ s m _ below meth c H locs _ _ _ (F0 m 5 ls [])) (((told).toInt - ((0 : Int32)).toInt).toNat + 1) 0 0 _ _ _ (Nat.lt_succ_self _) hG hP hD hS (lv_sub hl [2, 3, 4, 1, 0] rfl)
  clear hG hP hD hS hl
  intro n
  induction n with
  | zero => intros; omega
  | succ n5 ih5 =>
    intro v3 v4 H locs ls hm5 hG hP hD hS hl
    refine lv_iload hx hb dX0_burstsWhere_5 (lv_at hl 4 rfl) ?_
    refine lv_aload_n hx hb dX0_burstsWhere_7 rfl (lv_at hl 0 rfl) ?_
    refine va_get (D := D) (ci := 0) (v := .int told) (C := RX0) (T := TX0) (N := 5) hx hb hts iX0 hown hK hP 0 rfl rfl 1 (by decide) (hts (.fieldLink RX0 15 "LightBursts$Book" "told" "I") (List.mem_of_getElem? (i := 1) rfl)) (fun _ h9 => h9) rfl dX0_burstsWhere_8 ?_
    refine lv_icmp_ge (tgt := 34) hx hb dX0_burstsWhere_11 (by decide) (fun c_1 => ?_) (fun c_1 => ?_)
    · refine lv_iload_n hx hb dX0_burstsWhere_34 rfl (lv_at hl 3 rfl) ?_
      rw [g_X0_burstsWhere_L5, if_pos c_1] at hG
      rw [hG]
      exact W.iret (v := v3) hx hb hr (fun t ht hW => ⟨⟨_, (), rfl, rfl, by rw [ht]; exact hP, va_K.moved hW.alike hK, hD⟩, hS.F ht⟩) hS.2.2 dX0_burstsWhere_35
    · refine lv_aload_n hx hb dX0_burstsWhere_14 rfl (lv_at hl 0 rfl) ?_
      refine lv_iload hx hb dX0_burstsWhere_15 (lv_at hl 4 rfl) ?_
      refine lv_iload_n hx hb dX0_burstsWhere_17 rfl (lv_at hl 1 rfl) ?_
      refine kI (wr := ([] : va_W)) (W1 := BKw cA aB aR aL aF now told rf lf ff) (wsN := BKw cA aB aR aL aF now told rf lf ff) (rV (As := [.int v4, .int x1]) (rest := []) (W0 := BKw cA aB aR aL aF now told rf lf ff) ⟨hx, hb, hml, hown, hts⟩ (c_X0_fact l D cA cZ aB aR aL aF H.size now told rf lf ff v4 x1) (cwV 2 hts gX0_burstsWhere_X0_fact rfl rfl rfl (by decide +kernel) ⟨Nat.le_of_ble_eq_true rfl, Nat.le_of_ble_eq_true rfl⟩) hP hD hK hN ([0, 1, 2, 3] : List Nat) rfl rfl 0 0 rfl rfl rfl hl.1 rfl (Nat.le_of_ble_eq_true rfl) dX0_burstsWhere_18 ⟨Nat.zero_le _, Nat.zero_le _⟩) hP hD hS hA [0, 1, 2, 3] [] [0, 1, 2, 3] rfl rfl rfl (by decide) rfl rfl (fun H locs hP hD hS => ?_)
      refine lv_iload_n hx hb dX0_burstsWhere_21 rfl (lv_at hl 2 rfl) ?_
      refine lv_icmp_ne (tgt := 28) hx hb dX0_burstsWhere_22 (by decide) (fun c_2 => ?_) (fun c_2 => ?_)
      · refine lv_iinc (v := (v4 + 1)) (lv' := [(4, .int (v4 + 1)), (0, .ref aB), (1, .int x1), (2, .int x2), (3, .int v3)]) hx hb dX0_burstsWhere_28 hl (k := 4) rfl rfl (by decide) rfl (fun ls hl => ?_)
        refine lv_goto (tgt := 5) hx hb dX0_burstsWhere_31 (by decide) ?_
        rw [g_X0_burstsWhere_L5, if_neg c_1, if_neg c_2] at hG
        exact ih5 v3 (v4 + 1) _ _ _ (by exact ms_up c_1 hm5) hG hP hD hS (lv_sub hl [1, 2, 3, 4, 0] rfl)
      · refine lv_iinc (v := (v3 + 1)) (lv' := [(3, .int (v3 + 1)), (0, .ref aB), (1, .int x1), (2, .int x2), (4, .int v4)]) hx hb dX0_burstsWhere_25 hl (k := 3) rfl rfl (by decide) rfl (fun ls hl => ?_)
        refine lv_iinc (v := (v4 + 1)) (lv' := [(4, .int (v4 + 1)), (3, .int (v3 + 1)), (0, .ref aB), (1, .int x1), (2, .int x2)]) hx hb dX0_burstsWhere_28 hl (k := 4) rfl rfl (by decide) rfl (fun ls hl => ?_)
        refine lv_goto (tgt := 5) hx hb dX0_burstsWhere_31 (by decide) ?_
        rw [g_X0_burstsWhere_L5, if_neg c_1, if_pos c_2] at hG
        exact ih5 (v3 + 1) (v4 + 1) _ _ _ (by exact ms_up c_1 hm5) hG hP hD hS (lv_sub hl [2, 3, 4, 1, 0] rfl)

def g_X0_burstsOfFate (told : Int32) (ff : (Nat → Int32)) (x1 : Int32) : Int32 := (g_X0_burstsWhere told ff 6 x1)
set_option maxHeartbeats 4000000 in
set_option maxRecDepth 100000 in
theorem c_X0_burstsOfFate (l : Launch) (D : va_G) (cA cZ : ClassId) (aB : Nat) (aR : Nat) (aL : Nat) (aF : Nat) (szz : Nat) (now : Int32) (told : Int32) (rf : (Nat → Int32)) (lf : (Nat → Int32)) (ff : (Nat → Int32)) (x1 : Int32) : MetI l yX0_burstsOfFate wsX0_burstsOfFate 3 68 D (tyA cA cZ) [.ref aB, .int x1] (BKw cA aB aR aL aF now told rf lf ff) szz (g_X0_burstsOfFate told ff x1) (BKw cA aB aR aL aF now told rf lf ff) := by
  refine Met.ofW (cc := cX0_burstsOfFate) (maxL := 2) (ret := (some .int)) (by decide) rfl ?_
  intro p e s m args below meth c s₁ B hml hv
  obtain ⟨rfl, hsz, hP, hK, hD0, hN⟩ := hv
  have hx := B.exec
  have hb := B.bytes
  have hr := B.returns
  have hts := atoms_spec (ws := wsX0_burstsOfFate) B.pre
  have hown : s.vm.findClass RX0 = some m.cls := findClass_of_methodNamed B.named
  have hlocks := B.notSynchronized
  have iX0 : ∀ w ∈ wsX00, w ∈ wsX0_burstsOfFate := fun _ h => List.mem_cons_of_mem _ (List.mem_append_right _ h)
  subst hsz
  have hD := hD0.self (sz := s.heap.size)
  generalize hAe : va_A (BKw cA aB aR aL aF now told rf lf ff) s.heap.size = A at hD ⊢
  have hA : ∀ q : Nat, s.heap.size ≤ q → A q := fun q h => by rw [← hAe]; exact Or.inr h
  have hS : va_S A s.heap s.heap [] := va_S.rf
  have hP : va_P D vwCl (BKw cA aB aR aL aF now told rf lf ff) s.heap := hP
  obtain ⟨G, hG⟩ : ∃ G, G = (g_X0_burstsOfFate told ff x1) := ⟨_, rfl⟩
  rw [← hG]
  have hl := lv_entry ([.ref aB, .int x1]) (n := 2) (Nat.le_of_ble_eq_true rfl)
  rw [lg_entry_eq]
  generalize (lg_sl ([.ref aB, .int x1]) ++ List.replicate (2 - (lg_sl ([.ref aB, .int x1])).length) Slot.unset).toArray = ls at hl ⊢
  have hl : lv_has ls 2 [(0, .ref aB), (1, .int x1)] := hl
  refine lv_aload_n hx hb dX0_burstsOfFate_0 rfl (lv_at hl 0 rfl) ?_
  refine lv_bipush (v := 6) hx hb dX0_burstsOfFate_1 (by decide) ?_
  refine lv_iload_n hx hb dX0_burstsOfFate_3 rfl (lv_at hl 1 rfl) ?_
  refine kI (wr := ([] : va_W)) (W1 := BKw cA aB aR aL aF now told rf lf ff) (wsN := BKw cA aB aR aL aF now told rf lf ff) (rV (As := [.int 6, .int x1]) (rest := []) (W0 := BKw cA aB aR aL aF now told rf lf ff) ⟨hx, hb, hml, hown, hts⟩ (c_X0_burstsWhere l D cA cZ aB aR aL aF s.heap.size now told rf lf ff 6 x1) (cwV 2 hts gX0_burstsOfFate_X0_burstsWhere rfl rfl rfl (by decide +kernel) ⟨Nat.le_of_ble_eq_true rfl, Nat.le_of_ble_eq_true rfl⟩) hP hD hK hN ([0, 1, 2, 3] : List Nat) rfl rfl 0 0 rfl rfl rfl hl.1 rfl (Nat.le_of_ble_eq_true rfl) dX0_burstsOfFate_4 ⟨Nat.zero_le _, Nat.zero_le _⟩) hP hD hS hA [0, 1, 2, 3] [] [0, 1, 2, 3] rfl rfl rfl (by decide) rfl rfl (fun H locs hP hD hS => ?_)
  rw [g_X0_burstsOfFate] at hG
  rw [hG]
  exact W.iret (v := (g_X0_burstsWhere told ff 6 x1)) hx hb hr (fun t ht hW => ⟨⟨_, (), rfl, rfl, by rw [ht]; exact hP, va_K.moved hW.alike hK, hD⟩, hS.F ht⟩) hS.2.2 dX0_burstsOfFate_7

def g_X0_burstsWith (told : Int32) (ff : (Nat → Int32)) (x1 : Int32) : Int32 := (told - (g_X0_burstsWhere told ff x1 (-6)))
set_option maxHeartbeats 4000000 in
set_option maxRecDepth 100000 in
theorem c_X0_burstsWith (l : Launch) (D : va_G) (cA cZ : ClassId) (aB : Nat) (aR : Nat) (aL : Nat) (aF : Nat) (szz : Nat) (now : Int32) (told : Int32) (rf : (Nat → Int32)) (lf : (Nat → Int32)) (ff : (Nat → Int32)) (x1 : Int32) : MetI l yX0_burstsWith wsX0_burstsWith 3 68 D (tyA cA cZ) [.ref aB, .int x1] (BKw cA aB aR aL aF now told rf lf ff) szz (g_X0_burstsWith told ff x1) (BKw cA aB aR aL aF now told rf lf ff) := by
  refine Met.ofW (cc := cX0_burstsWith) (maxL := 2) (ret := (some .int)) (by decide) rfl ?_
  intro p e s m args below meth c s₁ B hml hv
  obtain ⟨rfl, hsz, hP, hK, hD0, hN⟩ := hv
  have hx := B.exec
  have hb := B.bytes
  have hr := B.returns
  have hts := atoms_spec (ws := wsX0_burstsWith) B.pre
  have hown : s.vm.findClass RX0 = some m.cls := findClass_of_methodNamed B.named
  have hlocks := B.notSynchronized
  have iX0 : ∀ w ∈ wsX00, w ∈ wsX0_burstsWith := fun _ h => List.mem_cons_of_mem _ (List.mem_append_right _ h)
  subst hsz
  have hD := hD0.self (sz := s.heap.size)
  generalize hAe : va_A (BKw cA aB aR aL aF now told rf lf ff) s.heap.size = A at hD ⊢
  have hA : ∀ q : Nat, s.heap.size ≤ q → A q := fun q h => by rw [← hAe]; exact Or.inr h
  have hS : va_S A s.heap s.heap [] := va_S.rf
  have hP : va_P D vwCl (BKw cA aB aR aL aF now told rf lf ff) s.heap := hP
  obtain ⟨G, hG⟩ : ∃ G, G = (g_X0_burstsWith told ff x1) := ⟨_, rfl⟩
  rw [← hG]
  have hl := lv_entry ([.ref aB, .int x1]) (n := 2) (Nat.le_of_ble_eq_true rfl)
  rw [lg_entry_eq]
  generalize (lg_sl ([.ref aB, .int x1]) ++ List.replicate (2 - (lg_sl ([.ref aB, .int x1])).length) Slot.unset).toArray = ls at hl ⊢
  have hl : lv_has ls 2 [(0, .ref aB), (1, .int x1)] := hl
  refine lv_aload_n hx hb dX0_burstsWith_0 rfl (lv_at hl 0 rfl) ?_
  refine va_get (D := D) (ci := 0) (v := .int told) (C := RX0) (T := TX0) (N := 5) hx hb hts iX0 hown hK hP 0 rfl rfl 1 (by decide) (hts (.fieldLink RX0 15 "LightBursts$Book" "told" "I") (List.mem_of_getElem? (i := 1) rfl)) (fun _ h9 => h9) rfl dX0_burstsWith_1 ?_
  refine lv_aload_n hx hb dX0_burstsWith_4 rfl (lv_at hl 0 rfl) ?_
  refine lv_iload_n hx hb dX0_burstsWith_5 rfl (lv_at hl 1 rfl) ?_
  refine lv_bipush (v := (-6)) hx hb dX0_burstsWith_6 (by decide) ?_
  refine kI (wr := ([] : va_W)) (W1 := BKw cA aB aR aL aF now told rf lf ff) (wsN := BKw cA aB aR aL aF now told rf lf ff) (rV (As := [.int x1, .int (-6)]) (rest := [.int told]) (W0 := BKw cA aB aR aL aF now told rf lf ff) ⟨hx, hb, hml, hown, hts⟩ (c_X0_burstsWhere l D cA cZ aB aR aL aF s.heap.size now told rf lf ff x1 (-6)) (cwV 2 hts gX0_burstsWith_X0_burstsWhere rfl rfl rfl (by decide +kernel) ⟨Nat.le_of_ble_eq_true rfl, Nat.le_of_ble_eq_true rfl⟩) hP hD hK hN ([0, 1, 2, 3] : List Nat) rfl rfl 0 0 rfl rfl rfl hl.1 rfl (Nat.le_of_ble_eq_true rfl) dX0_burstsWith_8 ⟨Nat.zero_le _, Nat.zero_le _⟩) hP hD hS hA [0, 1, 2, 3] [] [0, 1, 2, 3] rfl rfl rfl (by decide) rfl rfl (fun H locs hP hD hS => ?_)
  refine lv_isub hx hb dX0_burstsWith_11 ?_
  rw [g_X0_burstsWith] at hG
  rw [hG]
  exact W.iret (v := (told - (g_X0_burstsWhere told ff x1 (-6)))) hx hb hr (fun t ht hW => ⟨⟨_, (), rfl, rfl, by rw [ht]; exact hP, va_K.moved hW.alike hK, hD⟩, hS.F ht⟩) hS.2.2 dX0_burstsWith_12
