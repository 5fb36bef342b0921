def g_X3_line (now : Int32) (told : Int32) (lf : (Nat → Int32)) (ff : (Nat → Int32)) (sz : Int32) (bf : (Nat → Int32)) (gf : (Nat → Int32)) (ef : (Nat → Int32)) (x1 : Int32) (x2 : Int32) : Int32 × (Nat → Int32) × Int32 × (Nat → Int32) × (Nat → Int32) × (Nat → Int32) := (if (g_X3_isBelow x1 3) = 0 then ((-1), lf, sz, bf, gf, ef) else (if (g_X3_isWithin x2 0 60) = 0 then ((-2), lf, sz, bf, gf, ef) else (if (g_X2_lastEnd ((g_X0_showLine told ff bf gf ef x1).1) ((g_X0_showLine told ff bf gf ef x1).2.2.2)) ≤ now then ((lf x1.toNatClampNeg), (upd lf x1.toNatClampNeg x2), (g_X0_showLine told ff bf gf ef x1).1, (g_X0_showLine told ff bf gf ef x1).2.1, (g_X0_showLine told ff bf gf ef x1).2.2.1, (g_X0_showLine told ff bf gf ef x1).2.2.2) else ((-5), lf, (g_X0_showLine told ff bf gf ef x1).1, (g_X0_showLine told ff bf gf ef x1).2.1, (g_X0_showLine told ff bf gf ef x1).2.2.1, (g_X0_showLine told ff bf gf ef x1).2.2.2))))
set_option maxHeartbeats 4000000 in
set_option maxRecDepth 100000 in
theorem c_X3_line (l : Launch) (D : va_G) (cA cZ : ClassId) (aX : Nat) (aB : Nat) (aB1 : Nat) (aB2 : Nat) (aT : Nat) (aP : Nat) (aR : Nat) (aL : Nat) (aF : Nat) (aU : Nat) (aG : Nat) (aE : Nat) (szz : Nat) (kp : Int32) (now : Int32) (told : Int32) (rf : (Nat → Int32)) (lf : (Nat → Int32)) (ff : (Nat → Int32)) (sz : Int32) (bf : (Nat → Int32)) (gf : (Nat → Int32)) (ef : (Nat → Int32)) (x1 : Int32) (x2 : Int32) : MetI l yX3_line wsX3_line 3 68 D (tyA cA cZ) [.ref aX, .int x1, .int x2] (LBw aX aB aB1 aB2 aT aP kp ++ BKw cA aB aR aL aF now told rf lf ff ++ TRw cA aT aU aG aE sz bf gf ef) szz (g_X3_line now told lf ff sz bf gf ef x1 x2).1 (LBw aX aB aB1 aB2 aT aP kp ++ BKw cA aB aR aL aF now told rf ((g_X3_line now told lf ff sz bf gf ef x1 x2).2.1) ff ++ TRw cA aT aU aG aE ((g_X3_line now told lf ff sz bf gf ef x1 x2).2.2.1) ((g_X3_line now told lf ff sz bf gf ef x1 x2).2.2.2.1) ((g_X3_line now told lf ff sz bf gf ef x1 x2).2.2.2.2.1) ((g_X3_line now told lf ff sz bf gf ef x1 x2).2.2.2.2.2)) := by
  refine Met.ofW (cc := cX3_line) (maxL := 4) (ret := (some .int)) (by decide) rfl ?_
  intro p e s m args below meth c s₁ B hml hv
  obtain ⟨rfl, hsz, hP, hK, hD0, hN⟩ := hv
  have hx := B.exec
  have hb := B.bytes
  have hr := B.returns
  have hts := atoms_spec (ws := wsX3_line) B.pre
  have hown : s.vm.findClass RX3 = some m.cls := findClass_of_methodNamed B.named
  have hlocks := B.notSynchronized
  have iX3 : ∀ w ∈ wsX30, w ∈ wsX3_line := fun _ h => List.mem_cons_of_mem _ (List.mem_append_left _ (List.mem_append_left _ (List.mem_append_right _ h)))
  have iX0 : ∀ w ∈ wsX00, w ∈ wsX3_line := fun _ h => List.mem_cons_of_mem _ (List.mem_append_left _ (List.mem_append_right _ h))
  have iX2 : ∀ w ∈ wsX20, w ∈ wsX3_line := fun _ h => List.mem_cons_of_mem _ (List.mem_append_right _ h)
  subst hsz
  have hD := hD0.self (sz := s.heap.size)
  generalize hAe : va_A (LBw aX aB aB1 aB2 aT aP kp ++ BKw cA aB aR aL aF now told rf lf ff ++ TRw cA aT aU aG aE sz bf gf ef) s.heap.size = A at hD ⊢
  have hA : ∀ q : Nat, s.heap.size ≤ q → A q := fun q h => by rw [← hAe]; exact Or.inr h
  have hS : va_S A s.heap s.heap [] := va_S.rf
  have hP : va_P D vwCl (LBw aX aB aB1 aB2 aT aP kp ++ BKw cA aB aR aL aF now told rf lf ff ++ TRw cA aT aU aG aE sz bf gf ef) s.heap := hP
  obtain ⟨G, hG⟩ : ∃ G, G = (g_X3_line now told lf ff sz bf gf ef x1 x2) := ⟨_, rfl⟩
  rw [← hG]
  have hl := lv_entry ([.ref aX, .int x1, .int x2]) (n := 4) (Nat.le_of_ble_eq_true rfl)
  rw [lg_entry_eq]
  generalize (lg_sl ([.ref aX, .int x1, .int x2]) ++ List.replicate (4 - (lg_sl ([.ref aX, .int x1, .int x2])).length) Slot.unset).toArray = ls at hl ⊢
  have hl : lv_has ls 4 [(0, .ref aX), (1, .int x1), (2, .int x2)] := hl
  refine lv_iload_n hx hb dX3_line_0 rfl (lv_at hl 1 rfl) ?_
  refine lv_iconst (v := 3) hx hb dX3_line_1 (by decide) ?_
  refine kI (wr := LBw aX aB aB1 aB2 aT aP kp ++ BKw cA aB aR aL aF now told rf lf ff ++ TRw cA aT aU aG aE sz bf gf ef) (W1 := ([] : va_W)) (wsN := LBw aX aB aB1 aB2 aT aP kp ++ BKw cA aB aR aL aF now told rf lf ff ++ TRw cA aT aU aG aE sz bf gf ef) (rS (As := [.int x1, .int 3]) (rest := []) (W0 := ([] : va_W)) ⟨hx, hb, hml, hown, hts⟩ (c_X3_isBelow l D cA cZ s.heap.size x1 3) (cwS 2 hts gX3_line_X3_isBelow rfl rfl rfl (by decide +kernel) ⟨Nat.le_of_ble_eq_true rfl, Nat.le_of_ble_eq_true rfl⟩) hP hD hK hN ([] : List Nat) rfl rfl rfl hl.1 rfl (Nat.le_of_ble_eq_true rfl) dX3_line_2 ⟨Nat.zero_le _, Nat.zero_le _⟩) hP hD hS hA [] [0, 1, 2, 3, 4, 5, 6, 7, 8] [0, 1, 2, 3, 4, 5, 6, 7, 8] rfl rfl rfl (by decide) rfl rfl (fun H locs hP hD hS => ?_)
  refine lv_if_ne (tgt := 10) hx hb dX3_line_5 (by decide) (fun c_1 => ?_) (fun c_1 => ?_)
  · refine lv_iload_n hx hb dX3_line_10 rfl (lv_at hl 2 rfl) ?_
    refine lv_iconst (v := 0) hx hb dX3_line_11 (by decide) ?_
    refine lv_bipush (v := 60) hx hb dX3_line_12 (by decide) ?_
    refine kI (wr := LBw aX aB aB1 aB2 aT aP kp ++ BKw cA aB aR aL aF now told rf lf ff ++ TRw cA aT aU aG aE sz bf gf ef) (W1 := ([] : va_W)) (wsN := LBw aX aB aB1 aB2 aT aP kp ++ BKw cA aB aR aL aF now told rf lf ff ++ TRw cA aT aU aG aE sz bf gf ef) (rS (As := [.int x2, .int 0, .int 60]) (rest := []) (W0 := ([] : va_W)) ⟨hx, hb, hml, hown, hts⟩ (c_X3_isWithin l D cA cZ H.size x2 0 60) (cwS 3 hts gX3_line_X3_isWithin rfl rfl rfl (by decide +kernel) ⟨Nat.le_of_ble_eq_true rfl, Nat.le_of_ble_eq_true rfl⟩) hP hD hK hN ([] : List Nat) rfl rfl rfl hl.1 rfl (Nat.le_of_ble_eq_true rfl) dX3_line_14 ⟨Nat.zero_le _, Nat.zero_le _⟩) hP hD hS hA [] [0, 1, 2, 3, 4, 5, 6, 7, 8] [0, 1, 2, 3, 4, 5, 6, 7, 8] rfl rfl rfl (by decide) rfl rfl (fun H locs hP hD hS => ?_)
    refine lv_if_ne (tgt := 23) hx hb dX3_line_17 (by decide) (fun c_2 => ?_) (fun c_2 => ?_)
    · refine lv_aload_n hx hb dX3_line_23 rfl (lv_at hl 0 rfl) ?_
      refine va_get (D := D) (ci := 3) (v := .ref aB) (C := RX3) (T := TX3) (N := 6) hx hb hts iX3 hown hK hP 0 rfl rfl 1 (by decide) (hts (.fieldLink RX3 20 "LightBursts" "book" "LLightBursts$Book;") (List.mem_of_getElem? (i := 1) rfl)) (fun _ h9 => h9) rfl dX3_line_24 ?_
      refine lv_iload_n hx hb dX3_line_27 rfl (lv_at hl 1 rfl) ?_
      refine lv_aload_n hx hb dX3_line_28 rfl (lv_at hl 0 rfl) ?_
      refine va_get (D := D) (ci := 3) (v := .ref aT) (C := RX3) (T := TX3) (N := 6) hx hb hts iX3 hown hK hP 0 rfl rfl 2 (by decide) (hts (.fieldLink RX3 25 "LightBursts" "track" "LLightBursts$Track;") (List.mem_of_getElem? (i := 2) rfl)) (fun _ h9 => h9) rfl dX3_line_29 ?_
      refine kV (wr := LBw aX aB aB1 aB2 aT aP kp) (W1 := BKw cA aB aR aL aF now told rf lf ff ++ TRw cA aT aU aG aE ((g_X0_showLine told ff bf gf ef x1).1) ((g_X0_showLine told ff bf gf ef x1).2.1) ((g_X0_showLine told ff bf gf ef x1).2.2.1) ((g_X0_showLine told ff bf gf ef x1).2.2.2)) (wsN := LBw aX aB aB1 aB2 aT aP kp ++ BKw cA aB aR aL aF now told rf lf ff ++ TRw cA aT aU aG aE ((g_X0_showLine told ff bf gf ef x1).1) ((g_X0_showLine told ff bf gf ef x1).2.1) ((g_X0_showLine told ff bf gf ef x1).2.2.1) ((g_X0_showLine told ff bf gf ef x1).2.2.2)) (rVN (As := [.int x1, .ref aT]) (rest := []) (W0 := BKw cA aB aR aL aF now told rf lf ff ++ TRw cA aT aU aG aE sz bf gf ef) ⟨hx, hb, hml, hown, hts⟩ (c_X0_showLine l D cA cZ aB aR aL aF aT aU aG aE H.size now told rf lf ff sz bf gf ef x1) ⟨va_cnB 2 hts gX3_line_X0_showLine_n57 rfl rfl rfl (hN (.methodLinkNest RX3 57 yX0_showLine RX3) (List.mem_of_getElem? (i := 13) rfl)) (hts (.initialized RX0) (List.mem_of_getElem? (i := 11) rfl)) (by decide +kernel) ⟨Nat.le_of_ble_eq_true rfl, Nat.le_of_ble_eq_true rfl⟩, (hts (.instanceMethod yX0_showLine) (List.mem_of_getElem? (i := 10) rfl)), (hts (.selects RX0 yX0_showLine yX0_showLine) (List.mem_of_getElem? (i := 12) rfl))⟩ hP hD hK hN ([1, 2, 3, 4, 5, 6, 7, 8] : List Nat) rfl rfl 0 0 rfl rfl rfl hl.1 rfl (Nat.le_of_ble_eq_true rfl) dX3_line_32 ⟨Nat.zero_le _, Nat.zero_le _⟩) hP hD hS hA [1, 2, 3, 4, 5, 6, 7, 8] [0] [0, 1, 2, 3, 4, 5, 6, 7, 8] rfl rfl rfl (by decide) rfl rfl (fun H locs hP hD hS => ?_)
      refine lv_aload_n hx hb dX3_line_35 rfl (lv_at hl 0 rfl) ?_
      refine va_get (D := D) (ci := 3) (v := .ref aT) (C := RX3) (T := TX3) (N := 6) hx hb hts iX3 hown hK hP 0 rfl rfl 2 (by decide) (hts (.fieldLink RX3 25 "LightBursts" "track" "LLightBursts$Track;") (List.mem_of_getElem? (i := 2) rfl)) (fun _ h9 => h9) rfl dX3_line_36 ?_
      refine kI (wr := LBw aX aB aB1 aB2 aT aP kp ++ BKw cA aB aR aL aF now told rf lf ff) (W1 := TRw cA aT aU aG aE ((g_X0_showLine told ff bf gf ef x1).1) ((g_X0_showLine told ff bf gf ef x1).2.1) ((g_X0_showLine told ff bf gf ef x1).2.2.1) ((g_X0_showLine told ff bf gf ef x1).2.2.2)) (wsN := LBw aX aB aB1 aB2 aT aP kp ++ BKw cA aB aR aL aF now told rf lf ff ++ TRw cA aT aU aG aE ((g_X0_showLine told ff bf gf ef x1).1) ((g_X0_showLine told ff bf gf ef x1).2.1) ((g_X0_showLine told ff bf gf ef x1).2.2.1) ((g_X0_showLine told ff bf gf ef x1).2.2.2)) (rVN (As := []) (rest := []) (W0 := TRw cA aT aU aG aE ((g_X0_showLine told ff bf gf ef x1).1) ((g_X0_showLine told ff bf gf ef x1).2.1) ((g_X0_showLine told ff bf gf ef x1).2.2.1) ((g_X0_showLine told ff bf gf ef x1).2.2.2)) ⟨hx, hb, hml, hown, hts⟩ (c_X2_lastEnd l D cA cZ aT aU aG aE H.size ((g_X0_showLine told ff bf gf ef x1).1) ((g_X0_showLine told ff bf gf ef x1).2.1) ((g_X0_showLine told ff bf gf ef x1).2.2.1) ((g_X0_showLine told ff bf gf ef x1).2.2.2) (show ((g_X0_showLine told ff bf gf ef x1).1) ≤ 48 from by exact showLine_le)) ⟨va_cnB 0 hts gX3_line_X2_lastEnd_n61 rfl rfl rfl (hN (.methodLinkNest RX3 61 yX2_lastEnd RX3) (List.mem_of_getElem? (i := 18) rfl)) (hts (.initialized RX2) (List.mem_of_getElem? (i := 16) rfl)) (by decide +kernel) ⟨Nat.le_of_ble_eq_true rfl, Nat.le_of_ble_eq_true rfl⟩, (hts (.instanceMethod yX2_lastEnd) (List.mem_of_getElem? (i := 31) rfl)), (hts (.selects RX2 yX2_lastEnd yX2_lastEnd) (List.mem_of_getElem? (i := 32) rfl))⟩ hP hD hK hN ([5, 6, 7, 8] : List Nat) rfl rfl 2 0 rfl rfl rfl hl.1 rfl (Nat.le_of_ble_eq_true rfl) dX3_line_39 ⟨Nat.zero_le _, Nat.zero_le _⟩) hP hD hS hA [5, 6, 7, 8] [0, 1, 2, 3, 4] [0, 1, 2, 3, 4, 5, 6, 7, 8] rfl rfl rfl (by decide) rfl rfl (fun H locs hP hD hS => ?_)
      refine lv_aload_n hx hb dX3_line_42 rfl (lv_at hl 0 rfl) ?_
      refine va_get (D := D) (ci := 3) (v := .ref aB) (C := RX3) (T := TX3) (N := 6) hx hb hts iX3 hown hK hP 0 rfl rfl 1 (by decide) (hts (.fieldLink RX3 20 "LightBursts" "book" "LLightBursts$Book;") (List.mem_of_getElem? (i := 1) rfl)) (fun _ h9 => h9) rfl dX3_line_43 ?_
      refine va_getN (D := D) (ci := 0) (v := .int now) (C := RX0) (T := TX0) (N := 5) hx hb hts iX0 hown hK hP 1 rfl rfl 0 (by decide) (va_Nw.use rfl (hN (.fieldLinkNest RX3 67 "LightBursts$Book" "now" "I" RX3) (List.mem_of_getElem? (i := 3) rfl))) (fun _ h9 => h9) rfl dX3_line_46 ?_
      refine lv_icmp_le (tgt := 55) hx hb dX3_line_49 (by decide) (fun c_3 => ?_) (fun c_3 => ?_)
      · refine lv_aload_n hx hb dX3_line_55 rfl (lv_at hl 0 rfl) ?_
        refine va_get (D := D) (ci := 3) (v := .ref aB) (C := RX3) (T := TX3) (N := 6) hx hb hts iX3 hown hK hP 0 rfl rfl 1 (by decide) (hts (.fieldLink RX3 20 "LightBursts" "book" "LLightBursts$Book;") (List.mem_of_getElem? (i := 1) rfl)) (fun _ h9 => h9) rfl dX3_line_56 ?_
        refine va_getN (D := D) (ci := 0) (v := .ref aL) (C := RX0) (T := TX0) (N := 5) hx hb hts iX0 hown hK hP 1 rfl rfl 3 (by decide) (va_Nw.use rfl (hN (.fieldLinkNest RX3 70 "LightBursts$Book" "lengths" "[I" RX3) (List.mem_of_getElem? (i := 7) rfl))) (fun _ h9 => h9) rfl dX3_line_59 ?_
        refine lv_iload_n hx hb dX3_line_62 rfl (lv_at hl 1 rfl) ?_
        refine va_iald hx hb hK hP 3 0 rfl rfl (below_in c_1 rfl) dX3_line_63 ?_
        refine lv_istore_n (lv' := [(3, .int (lf x1.toNatClampNeg)), (0, .ref aX), (1, .int x1), (2, .int x2)]) hx hb dX3_line_64 rfl hl (by decide) rfl (fun ls hl => ?_)
        refine lv_aload_n hx hb dX3_line_65 rfl (lv_at hl 1 rfl) ?_
        refine va_get (D := D) (ci := 3) (v := .ref aB) (C := RX3) (T := TX3) (N := 6) hx hb hts iX3 hown hK hP 0 rfl rfl 1 (by decide) (hts (.fieldLink RX3 20 "LightBursts" "book" "LLightBursts$Book;") (List.mem_of_getElem? (i := 1) rfl)) (fun _ h9 => h9) rfl dX3_line_66 ?_
        refine va_getN (D := D) (ci := 0) (v := .ref aL) (C := RX0) (T := TX0) (N := 5) hx hb hts iX0 hown hK hP 1 rfl rfl 3 (by decide) (va_Nw.use rfl (hN (.fieldLinkNest RX3 70 "LightBursts$Book" "lengths" "[I" RX3) (List.mem_of_getElem? (i := 7) rfl))) (fun _ h9 => h9) rfl dX3_line_69 ?_
        refine lv_iload_n hx hb dX3_line_72 rfl (lv_at hl 2 rfl) ?_
        refine lv_iload_n hx hb dX3_line_73 rfl (lv_at hl 3 rfl) ?_
        refine va_iast hx hb hK hP hD hS 3 0 rfl rfl (below_in c_1 rfl) dX3_line_74 (fun H locs hP hD hS => ?_)
        have hP : va_P D vwCl (LBw aX aB aB1 aB2 aT aP kp ++ BKw cA aB aR aL aF now told rf (upd lf x1.toNatClampNeg x2) ff ++ TRw cA aT aU aG aE ((g_X0_showLine told ff bf gf ef x1).1) ((g_X0_showLine told ff bf gf ef x1).2.1) ((g_X0_showLine told ff bf gf ef x1).2.2.1) ((g_X0_showLine told ff bf gf ef x1).2.2.2)) H := hP
        have hD : va_D A (LBw aX aB aB1 aB2 aT aP kp ++ BKw cA aB aR aL aF now told rf (upd lf x1.toNatClampNeg x2) ff ++ TRw cA aT aU aG aE ((g_X0_showLine told ff bf gf ef x1).1) ((g_X0_showLine told ff bf gf ef x1).2.1) ((g_X0_showLine told ff bf gf ef x1).2.2.1) ((g_X0_showLine told ff bf gf ef x1).2.2.2)) := hD
        refine lv_iload_n hx hb dX3_line_75 rfl (lv_at hl 0 rfl) ?_
        rw [g_X3_line, if_neg c_1, if_neg c_2, if_pos c_3] at hG
        rw [hG]
        exact W.iret (v := (lf x1.toNatClampNeg)) hx hb hr (fun t ht hW => ⟨⟨_, (), rfl, rfl, by rw [ht]; exact hP, va_K.moved hW.alike hK, hD⟩, hS.F ht⟩) hS.2.2 dX3_line_76
      · refine lv_bipush (v := (-5)) hx hb dX3_line_52 (by decide) ?_
        rw [g_X3_line, if_neg c_1, if_neg c_2, if_neg c_3] at hG
        rw [hG]
        exact W.iret (v := (-5)) hx hb hr (fun t ht hW => ⟨⟨_, (), rfl, rfl, by rw [ht]; exact hP, va_K.moved hW.alike hK, hD⟩, hS.F ht⟩) hS.2.2 dX3_line_54
    · refine lv_bipush (v := (-2)) hx hb dX3_line_20 (by decide) ?_
      rw [g_X3_line, if_neg c_1, if_pos c_2] at hG
      rw [hG]
      exact W.iret (v := (-2)) hx hb hr (fun t ht hW => ⟨⟨_, (), rfl, rfl, by rw [ht]; exact hP, va_K.moved hW.alike hK, hD⟩, hS.F ht⟩) hS.2.2 dX3_line_22
  · refine lv_iconst (v := (-1)) hx hb dX3_line_8 (by decide) ?_
    rw [g_X3_line, if_pos c_1] at hG
    rw [hG]
    exact W.iret (v := (-1)) hx hb hr (fun t ht hW => ⟨⟨_, (), rfl, rfl, by rw [ht]; exact hP, va_K.moved hW.alike hK, hD⟩, hS.F ht⟩) hS.2.2 dX3_line_9

def g_X3_pass (now : Int32) (x1 : Int32) : Int32 × Int32 := (if (g_X3_isWithin x1 1 200) = 0 then ((-2), now) else ((now + x1), (now + x1)))
set_option maxHeartbeats 4000000 in
set_option maxRecDepth 100000 in
theorem c_X3_pass (l : Launch) (D : va_G) (cA cZ : ClassId) (aX : Nat) (aB : Nat) (aB1 : Nat) (aB2 : Nat) (aT : Nat) (aP : Nat) (aR : Nat) (aL : Nat) (aF : Nat) (szz : Nat) (kp : Int32) (now : Int32) (told : Int32) (rf : (Nat → Int32)) (lf : (Nat → Int32)) (ff : (Nat → Int32)) (x1 : Int32) : MetI l yX3_pass wsX3_pass 1 22 D (tyA cA cZ) [.ref aX, .int x1] (LBw aX aB aB1 aB2 aT aP kp ++ BKw cA aB aR aL aF now told rf lf ff) szz (g_X3_pass now x1).1 (LBw aX aB aB1 aB2 aT aP kp ++ BKw cA aB aR aL aF ((g_X3_pass now x1).2) told rf lf ff) := by
  refine Met.ofW (cc := cX3_pass) (maxL := 2) (ret := (some .int)) (by decide) rfl ?_
  intro p e s m args below meth c s₁ B hml hv
  obtain ⟨rfl, hsz, hP, hK, hD0, hN⟩ := hv
  have hx := B.exec
  have hb := B.bytes
  have hr := B.returns
  have hts := atoms_spec (ws := wsX3_pass) B.pre
  have hown : s.vm.findClass RX3 = some m.cls := findClass_of_methodNamed B.named
  have hlocks := B.notSynchronized
  have iX3 : ∀ w ∈ wsX30, w ∈ wsX3_pass := fun _ h => List.mem_cons_of_mem _ (List.mem_append_left _ (List.mem_append_right _ h))
  have iX0 : ∀ w ∈ wsX00, w ∈ wsX3_pass := fun _ h => List.mem_cons_of_mem _ (List.mem_append_right _ h)
  subst hsz
  have hD := hD0.self (sz := s.heap.size)
  generalize hAe : va_A (LBw aX aB aB1 aB2 aT aP kp ++ BKw cA aB aR aL aF now told rf lf ff) s.heap.size = A at hD ⊢
  have hA : ∀ q : Nat, s.heap.size ≤ q → A q := fun q h => by rw [← hAe]; exact Or.inr h
  have hS : va_S A s.heap s.heap [] := va_S.rf
  have hP : va_P D vwCl (LBw aX aB aB1 aB2 aT aP kp ++ BKw cA aB aR aL aF now told rf lf ff) s.heap := hP
  obtain ⟨G, hG⟩ : ∃ G, G = (g_X3_pass now x1) := ⟨_, rfl⟩
  rw [← hG]
  have hl := lv_entry ([.ref aX, .int x1]) (n := 2) (Nat.le_of_ble_eq_true rfl)
  rw [lg_entry_eq]
  generalize (lg_sl ([.ref aX, .int x1]) ++ List.replicate (2 - (lg_sl ([.ref aX, .int x1])).length) Slot.unset).toArray = ls at hl ⊢
  have hl : lv_has ls 2 [(0, .ref aX), (1, .int x1)] := hl
  refine lv_iload_n hx hb dX3_pass_0 rfl (lv_at hl 1 rfl) ?_
  refine lv_iconst (v := 1) hx hb dX3_pass_1 (by decide) ?_
  refine lv_sipush (v := 200) hx hb dX3_pass_2 (by decide) ?_
  refine kI (wr := LBw aX aB aB1 aB2 aT aP kp ++ BKw cA aB aR aL aF now told rf lf ff) (W1 := ([] : va_W)) (wsN := LBw aX aB aB1 aB2 aT aP kp ++ BKw cA aB aR aL aF now told rf lf ff) (rS (As := [.int x1, .int 1, .int 200]) (rest := []) (W0 := ([] : va_W)) ⟨hx, hb, hml, hown, hts⟩ (c_X3_isWithin l D cA cZ s.heap.size x1 1 200) (cwS 3 hts gX3_pass_X3_isWithin rfl rfl rfl (by decide +kernel) ⟨Nat.le_of_ble_eq_true rfl, Nat.le_of_ble_eq_true rfl⟩) hP hD hK hN ([] : List Nat) rfl rfl rfl hl.1 rfl (Nat.le_of_ble_eq_true rfl) dX3_pass_5 ⟨Nat.zero_le _, Nat.zero_le _⟩) hP hD hS hA [] [0, 1, 2, 3, 4] [0, 1, 2, 3, 4] rfl rfl rfl (by decide) rfl rfl (fun H locs hP hD hS => ?_)
  refine lv_if_ne (tgt := 14) hx hb dX3_pass_8 (by decide) (fun c_1 => ?_) (fun c_1 => ?_)
  · refine lv_aload_n hx hb dX3_pass_14 rfl (lv_at hl 0 rfl) ?_
    refine va_get (D := D) (ci := 3) (v := .ref aB) (C := RX3) (T := TX3) (N := 6) hx hb hts iX3 hown hK hP 0 rfl rfl 1 (by decide) (hts (.fieldLink RX3 20 "LightBursts" "book" "LLightBursts$Book;") (List.mem_of_getElem? (i := 1) rfl)) (fun _ h9 => h9) rfl dX3_pass_15 ?_
    refine lv_dup hx hb dX3_pass_18 rfl ?_
    refine va_getN (D := D) (ci := 0) (v := .int now) (C := RX0) (T := TX0) (N := 5) hx hb hts iX0 hown hK hP 1 rfl rfl 0 (by decide) (va_Nw.use rfl (hN (.fieldLinkNest RX3 67 "LightBursts$Book" "now" "I" RX3) (List.mem_of_getElem? (i := 3) rfl))) (fun _ h9 => h9) rfl dX3_pass_19 ?_
    refine lv_iload_n hx hb dX3_pass_22 rfl (lv_at hl 1 rfl) ?_
    refine lv_iadd hx hb dX3_pass_23 ?_
    refine va_putN (D := D) (ci := 0) (v := .int (now + x1)) (ty := .int) (C := RX0) (T := TX0) (N := 5) hx hb hts iX0 tyX0 tyX0_ok nmX0 hown hK hP hD hS 1 rfl rfl 0 (by decide) (va_Nw.use rfl (hN (.fieldLinkNest RX3 67 "LightBursts$Book" "now" "I" RX3) (List.mem_of_getElem? (i := 3) rfl))) (fun _ h9 => h9) rfl (tyX0_ok 0 (by decide)) rfl rfl (Nat.le_of_ble_eq_true rfl) dX3_pass_24 (fun H locs hP hD hS => ?_)
    have hP : va_P D vwCl (LBw aX aB aB1 aB2 aT aP kp ++ BKw cA aB aR aL aF (now + x1) told rf lf ff) H := hP
    have hD : va_D A (LBw aX aB aB1 aB2 aT aP kp ++ BKw cA aB aR aL aF (now + x1) told rf lf ff) := hD
    refine lv_aload_n hx hb dX3_pass_27 rfl (lv_at hl 0 rfl) ?_
    refine va_get (D := D) (ci := 3) (v := .ref aB) (C := RX3) (T := TX3) (N := 6) hx hb hts iX3 hown hK hP 0 rfl rfl 1 (by decide) (hts (.fieldLink RX3 20 "LightBursts" "book" "LLightBursts$Book;") (List.mem_of_getElem? (i := 1) rfl)) (fun _ h9 => h9) rfl dX3_pass_28 ?_
    refine va_getN (D := D) (ci := 0) (v := .int (now + x1)) (C := RX0) (T := TX0) (N := 5) hx hb hts iX0 hown hK hP 1 rfl rfl 0 (by decide) (va_Nw.use rfl (hN (.fieldLinkNest RX3 67 "LightBursts$Book" "now" "I" RX3) (List.mem_of_getElem? (i := 3) rfl))) (fun _ h9 => h9) rfl dX3_pass_31 ?_
    rw [g_X3_pass, if_neg c_1] at hG
    rw [hG]
    exact W.iret (v := (now + x1)) hx hb hr (fun t ht hW => ⟨⟨_, (), rfl, rfl, by rw [ht]; exact hP, va_K.moved hW.alike hK, hD⟩, hS.F ht⟩) hS.2.2 dX3_pass_34
  · refine lv_bipush (v := (-2)) hx hb dX3_pass_11 (by decide) ?_
    rw [g_X3_pass, if_pos c_1] at hG
    rw [hG]
    exact W.iret (v := (-2)) hx hb hr (fun t ht hW => ⟨⟨_, (), rfl, rfl, by rw [ht]; exact hP, va_K.moved hW.alike hK, hD⟩, hS.F ht⟩) hS.2.2 dX3_pass_13

def g_X3_tell_C57 (u57 : Int32 × Int32 × Int32 × Int32 × Int32 × Int32 × Int32 × Int32 × Int32 × Int32 × (Nat → Int32) × (Nat → Int32) × (Nat → Int32)) (told : Int32) (ff : (Nat → Int32)) (x3 : Int32) (x4 : Int32) : Int32 × Int32 × Int32 × Int32 × Int32 × Int32 × Int32 × Int32 × Int32 × Int32 × Int32 × (Nat → Int32) × Int32 × (Nat → Int32) × (Nat → Int32) × (Nat → Int32) := (told, u57.1, u57.2.1, u57.2.2.1, u57.2.2.2.1, u57.2.2.2.2.1, u57.2.2.2.2.2.1, u57.2.2.2.2.2.2.1, u57.2.2.2.2.2.2.2.1, u57.2.2.2.2.2.2.2.2.1, (told + 1), (g_X1_writeTo u57.1 u57.2.1 u57.2.2.1 u57.2.2.2.1 u57.2.2.2.2.1 u57.2.2.2.2.2.1 u57.2.2.2.2.2.2.1 u57.2.2.2.2.2.2.2.1 u57.2.2.2.2.2.2.2.2.1 (g_X0_setFact (g_X0_setFact ff told 2 x3) told 3 x4) told), u57.2.2.2.2.2.2.2.2.2.1, u57.2.2.2.2.2.2.2.2.2.2.1, u57.2.2.2.2.2.2.2.2.2.2.2.1, u57.2.2.2.2.2.2.2.2.2.2.2.2)
def g_X3_tell (q0 : Int32) (q1 : Int32) (q2 : Int32) (q3 : Int32) (q4 : Int32) (q5 : Int32) (q6 : Int32) (q7 : Int32) (q8 : Int32) (now : Int32) (told : Int32) (rf : (Nat → Int32)) (lf : (Nat → Int32)) (ff : (Nat → Int32)) (sz : Int32) (bf : (Nat → Int32)) (gf : (Nat → Int32)) (ef : (Nat → Int32)) (x1 : Int32) (x2 : Int32) (x3 : Int32) (x4 : Int32) (x5 : Int32) : Int32 × Int32 × Int32 × Int32 × Int32 × Int32 × Int32 × Int32 × Int32 × Int32 × Int32 × (Nat → Int32) × Int32 × (Nat → Int32) × (Nat → Int32) × (Nat → Int32) := (if (g_X3_refusalOfBurst x1 x2 x3 x4 x5) = 0 then (if told < 48 then (g_X3_tell_C57 (g_X1_place now told rf lf ff sz bf gf ef x1 x2 (g_X0_comingTick now rf x3 x4) x5) told ff x3 x4) else ((-4), q0, q1, q2, q3, q4, q5, q6, q7, q8, told, ff, sz, bf, gf, ef)) else ((g_X3_refusalOfBurst x1 x2 x3 x4 x5), q0, q1, q2, q3, q4, q5, q6, q7, q8, told, ff, sz, bf, gf, ef))
set_option maxHeartbeats 4000000 in
set_option maxRecDepth 100000 in
theorem c_X3_tell (l : Launch) (D : va_G) (cA cZ : ClassId) (aX : Nat) (aB : Nat) (aB1 : Nat) (aB2 : Nat) (aT : Nat) (aP : Nat) (aR : Nat) (aL : Nat) (aF : Nat) (aU : Nat) (aG : Nat) (aE : Nat) (szz : Nat) (kp : Int32) (q0 : Int32) (q1 : Int32) (q2 : Int32) (q3 : Int32) (q4 : Int32) (q5 : Int32) (q6 : Int32) (q7 : Int32) (q8 : Int32) (now : Int32) (told : Int32) (rf : (Nat → Int32)) (lf : (Nat → Int32)) (ff : (Nat → Int32)) (sz : Int32) (bf : (Nat → Int32)) (gf : (Nat → Int32)) (ef : (Nat → Int32)) (x1 : Int32) (x2 : Int32) (x3 : Int32) (x4 : Int32) (x5 : Int32) : MetI l yX3_tell wsX3_tell 6 144 D (tyA cA cZ) [.ref aX, .int x1, .int x2, .int x3, .int x4, .int x5] (LBw aX aB aB1 aB2 aT aP kp ++ PLw aP aB aT q0 q1 q2 q3 q4 q5 q6 q7 q8 ++ BKw cA aB aR aL aF now told rf lf ff ++ TRw cA aT aU aG aE sz bf gf ef) szz (g_X3_tell q0 q1 q2 q3 q4 q5 q6 q7 q8 now told rf lf ff sz bf gf ef x1 x2 x3 x4 x5).1 (LBw aX aB aB1 aB2 aT aP kp ++ PLw aP aB aT ((g_X3_tell q0 q1 q2 q3 q4 q5 q6 q7 q8 now told rf lf ff sz bf gf ef x1 x2 x3 x4 x5).2.1) ((g_X3_tell q0 q1 q2 q3 q4 q5 q6 q7 q8 now told rf lf ff sz bf gf ef x1 x2 x3 x4 x5).2.2.1) ((g_X3_tell q0 q1 q2 q3 q4 q5 q6 q7 q8 now told rf lf ff sz bf gf ef x1 x2 x3 x4 x5).2.2.2.1) ((g_X3_tell q0 q1 q2 q3 q4 q5 q6 q7 q8 now told rf lf ff sz bf gf ef x1 x2 x3 x4 x5).2.2.2.2.1) ((g_X3_tell q0 q1 q2 q3 q4 q5 q6 q7 q8 now told rf lf ff sz bf gf ef x1 x2 x3 x4 x5).2.2.2.2.2.1) ((g_X3_tell q0 q1 q2 q3 q4 q5 q6 q7 q8 now told rf lf ff sz bf gf ef x1 x2 x3 x4 x5).2.2.2.2.2.2.1) ((g_X3_tell q0 q1 q2 q3 q4 q5 q6 q7 q8 now told rf lf ff sz bf gf ef x1 x2 x3 x4 x5).2.2.2.2.2.2.2.1) ((g_X3_tell q0 q1 q2 q3 q4 q5 q6 q7 q8 now told rf lf ff sz bf gf ef x1 x2 x3 x4 x5).2.2.2.2.2.2.2.2.1) ((g_X3_tell q0 q1 q2 q3 q4 q5 q6 q7 q8 now told rf lf ff sz bf gf ef x1 x2 x3 x4 x5).2.2.2.2.2.2.2.2.2.1) ++ BKw cA aB aR aL aF now ((g_X3_tell q0 q1 q2 q3 q4 q5 q6 q7 q8 now told rf lf ff sz bf gf ef x1 x2 x3 x4 x5).2.2.2.2.2.2.2.2.2.2.1) rf lf ((g_X3_tell q0 q1 q2 q3 q4 q5 q6 q7 q8 now told rf lf ff sz bf gf ef x1 x2 x3 x4 x5).2.2.2.2.2.2.2.2.2.2.2.1) ++ TRw cA aT aU aG aE ((g_X3_tell q0 q1 q2 q3 q4 q5 q6 q7 q8 now told rf lf ff sz bf gf ef x1 x2 x3 x4 x5).2.2.2.2.2.2.2.2.2.2.2.2.1) ((g_X3_tell q0 q1 q2 q3 q4 q5 q6 q7 q8 now told rf lf ff sz bf gf ef x1 x2 x3 x4 x5).2.2.2.2.2.2.2.2.2.2.2.2.2.1) ((g_X3_tell q0 q1 q2 q3 q4 q5 q6 q7 q8 now told rf lf ff sz bf gf ef x1 x2 x3 x4 x5).2.2.2.2.2.2.2.2.2.2.2.2.2.2.1) ((g_X3_tell q0 q1 q2 q3 q4 q5 q6 q7 q8 now told rf lf ff sz bf gf ef x1 x2 x3 x4 x5).2.2.2.2.2.2.2.2.2.2.2.2.2.2.2)) := by
  refine Met.ofW (cc := cX3_tell) (maxL := 8) (ret := (some .int)) (by decide) rfl ?_
  intro p e s m args below meth c s₁ B hml hv
  obtain ⟨rfl, hsz, hP, hK, hD0, hN⟩ := hv
  have hx := B.exec
  have hb := B.bytes
  have hr := B.returns
  have hts := atoms_spec (ws := wsX3_tell) B.pre
  have hown : s.vm.findClass RX3 = some m.cls := findClass_of_methodNamed B.named
  have hlocks := B.notSynchronized
  have iX3 : ∀ w ∈ wsX30, w ∈ wsX3_tell := fun _ h => List.mem_cons_of_mem _ (List.mem_append_left _ (List.mem_append_left _ (List.mem_append_left _ (List.mem_append_right _ h))))
  have iX0 : ∀ w ∈ wsX00, w ∈ wsX3_tell := fun _ h => List.mem_cons_of_mem _ (List.mem_append_left _ (List.mem_append_left _ (List.mem_append_right _ h)))
  have iX1 : ∀ w ∈ wsX10, w ∈ wsX3_tell := fun _ h => List.mem_cons_of_mem _ (List.mem_append_left _ (List.mem_append_right _ h))
  have iX2 : ∀ w ∈ wsX20, w ∈ wsX3_tell := fun _ h => List.mem_cons_of_mem _ (List.mem_append_right _ h)
  subst hsz
  have hD := hD0.self (sz := s.heap.size)
  generalize hAe : va_A (LBw aX aB aB1 aB2 aT aP kp ++ PLw aP aB aT q0 q1 q2 q3 q4 q5 q6 q7 q8 ++ BKw cA aB aR aL aF now told rf lf ff ++ TRw cA aT aU aG aE sz bf gf ef) s.heap.size = A at hD ⊢
  have hA : ∀ q : Nat, s.heap.size ≤ q → A q := fun q h => by rw [← hAe]; exact Or.inr h
  have hS : va_S A s.heap s.heap [] := va_S.rf
  have hP : va_P D vwCl (LBw aX aB aB1 aB2 aT aP kp ++ PLw aP aB aT q0 q1 q2 q3 q4 q5 q6 q7 q8 ++ BKw cA aB aR aL aF now told rf lf ff ++ TRw cA aT aU aG aE sz bf gf ef) s.heap := hP
  obtain ⟨G, hG⟩ : ∃ G, G = (g_X3_tell q0 q1 q2 q3 q4 q5 q6 q7 q8 now told rf lf ff sz bf gf ef x1 x2 x3 x4 x5) := ⟨_, rfl⟩
  rw [← hG]
  have hl := lv_entry ([.ref aX, .int x1, .int x2, .int x3, .int x4, .int x5]) (n := 8) (Nat.le_of_ble_eq_true rfl)
  rw [lg_entry_eq]
  generalize (lg_sl ([.ref aX, .int x1, .int x2, .int x3, .int x4, .int x5]) ++ List.replicate (8 - (lg_sl ([.ref aX, .int x1, .int x2, .int x3, .int x4, .int x5])).length) Slot.unset).toArray = ls at hl ⊢
  have hl : lv_has ls 8 [(0, .ref aX), (1, .int x1), (2, .int x2), (3, .int x3), (4, .int x4), (5, .int x5)] := hl
  refine lv_iload_n hx hb dX3_tell_0 rfl (lv_at hl 1 rfl) ?_
  refine lv_iload_n hx hb dX3_tell_1 rfl (lv_at hl 2 rfl) ?_
  refine lv_iload_n hx hb dX3_tell_2 rfl (lv_at hl 3 rfl) ?_
  refine lv_iload hx hb dX3_tell_3 (lv_at hl 4 rfl) ?_
  refine lv_iload hx hb dX3_tell_5 (lv_at hl 5 rfl) ?_
  refine kI (wr := LBw aX aB aB1 aB2 aT aP kp ++ PLw aP aB aT q0 q1 q2 q3 q4 q5 q6 q7 q8 ++ BKw cA aB aR aL aF now told rf lf ff ++ TRw cA aT aU aG aE sz bf gf ef) (W1 := ([] : va_W)) (wsN := LBw aX aB aB1 aB2 aT aP kp ++ PLw aP aB aT q0 q1 q2 q3 q4 q5 q6 q7 q8 ++ BKw cA aB aR aL aF now told rf lf ff ++ TRw cA aT aU aG aE sz bf gf ef) (rS (As := [.int x1, .int x2, .int x3, .int x4, .int x5]) (rest := []) (W0 := ([] : va_W)) ⟨hx, hb, hml, hown, hts⟩ (c_X3_refusalOfBurst l D cA cZ s.heap.size x1 x2 x3 x4 x5) (cwS 5 hts gX3_tell_X3_refusalOfBurst rfl rfl rfl (by decide +kernel) ⟨Nat.le_of_ble_eq_true rfl, Nat.le_of_ble_eq_true rfl⟩) hP hD hK hN ([] : List Nat) rfl rfl rfl hl.1 rfl (Nat.le_of_ble_eq_true rfl) dX3_tell_7 ⟨Nat.zero_le _, Nat.zero_le _⟩) hP hD hS hA [] [0, 1, 2, 3, 4, 5, 6, 7, 8, 9] [0, 1, 2, 3, 4, 5, 6, 7, 8, 9] rfl rfl rfl (by decide) rfl rfl (fun H locs hP hD hS => ?_)
  refine lv_istore (lv' := [(6, .int (g_X3_refusalOfBurst x1 x2 x3 x4 x5)), (0, .ref aX), (1, .int x1), (2, .int x2), (3, .int x3), (4, .int x4), (5, .int x5)]) hx hb dX3_tell_10 hl (by decide) rfl (fun ls hl => ?_)
  refine lv_iload hx hb dX3_tell_12 (lv_at hl 0 rfl) ?_
  refine lv_if_eq (tgt := 20) hx hb dX3_tell_14 (by decide) (fun c_1 => ?_) (fun c_1 => ?_)
  · refine lv_aload_n hx hb dX3_tell_20 rfl (lv_at hl 1 rfl) ?_
    refine va_get (D := D) (ci := 3) (v := .ref aB) (C := RX3) (T := TX3) (N := 6) hx hb hts iX3 hown hK hP 0 rfl rfl 1 (by decide) (hts (.fieldLink RX3 20 "LightBursts" "book" "LLightBursts$Book;") (List.mem_of_getElem? (i := 1) rfl)) (fun _ h9 => h9) rfl dX3_tell_21 ?_
    refine va_getN (D := D) (ci := 0) (v := .int told) (C := RX0) (T := TX0) (N := 5) hx hb hts iX0 hown hK hP 2 rfl rfl 1 (by decide) (va_Nw.use rfl (hN (.fieldLinkNest RX3 77 "LightBursts$Book" "told" "I" RX3) (List.mem_of_getElem? (i := 5) rfl))) (fun _ h9 => h9) rfl dX3_tell_24 ?_
    refine lv_istore (lv' := [(7, .int told), (6, .int (g_X3_refusalOfBurst x1 x2 x3 x4 x5)), (0, .ref aX), (1, .int x1), (2, .int x2), (3, .int x3), (4, .int x4), (5, .int x5)]) hx hb dX3_tell_27 hl (by decide) rfl (fun ls hl => ?_)
    refine lv_iload hx hb dX3_tell_29 (lv_at hl 0 rfl) ?_
    refine lv_bipush (v := 48) hx hb dX3_tell_31 (by decide) ?_
    refine lv_icmp_lt (tgt := 39) hx hb dX3_tell_33 (by decide) (fun c_2 => ?_) (fun c_2 => ?_)
    · refine lv_aload_n hx hb dX3_tell_39 rfl (lv_at hl 2 rfl) ?_
      refine va_get (D := D) (ci := 3) (v := .ref aP) (C := RX3) (T := TX3) (N := 6) hx hb hts iX3 hown hK hP 0 rfl rfl 0 (by decide) (hts (.fieldLink RX3 10 "LightBursts" "placer" "LLightBursts$Placer;") (List.mem_of_getElem? (i := 2) rfl)) (fun _ h9 => h9) rfl dX3_tell_40 ?_
      refine lv_iload_n hx hb dX3_tell_43 rfl (lv_at hl 3 rfl) ?_
      refine lv_iload_n hx hb dX3_tell_44 rfl (lv_at hl 4 rfl) ?_
      refine lv_aload_n hx hb dX3_tell_45 rfl (lv_at hl 2 rfl) ?_
      refine va_get (D := D) (ci := 3) (v := .ref aB) (C := RX3) (T := TX3) (N := 6) hx hb hts iX3 hown hK hP 0 rfl rfl 1 (by decide) (hts (.fieldLink RX3 20 "LightBursts" "book" "LLightBursts$Book;") (List.mem_of_getElem? (i := 1) rfl)) (fun _ h9 => h9) rfl dX3_tell_46 ?_
      refine lv_iload_n hx hb dX3_tell_49 rfl (lv_at hl 5 rfl) ?_
      refine lv_iload hx hb dX3_tell_50 (lv_at hl 6 rfl) ?_
      refine kI (wr := LBw aX aB aB1 aB2 aT aP kp ++ PLw aP aB aT q0 q1 q2 q3 q4 q5 q6 q7 q8 ++ TRw cA aT aU aG aE sz bf gf ef) (W1 := BKw cA aB aR aL aF now told rf lf ff) (wsN := LBw aX aB aB1 aB2 aT aP kp ++ PLw aP aB aT q0 q1 q2 q3 q4 q5 q6 q7 q8 ++ BKw cA aB aR aL aF now told rf lf ff ++ TRw cA aT aU aG aE sz bf gf ef) (rVN (As := [.int x3, .int x4]) (rest := [.int x2, .int x1, .ref aP]) (W0 := BKw cA aB aR aL aF now told rf lf ff) ⟨hx, hb, hml, hown, hts⟩ (c_X0_comingTick l D cA cZ aB aR aL aF H.size now told rf lf ff x3 x4) ⟨va_cnB 2 hts gX3_tell_X0_comingTick_n80 rfl rfl rfl (hN (.methodLinkNest RX3 80 yX0_comingTick RX3) (List.mem_of_getElem? (i := 19) rfl)) (hts (.initialized RX0) (List.mem_of_getElem? (i := 17) rfl)) (by decide +kernel) ⟨Nat.le_of_ble_eq_true rfl, Nat.le_of_ble_eq_true rfl⟩, (hts (.instanceMethod yX0_comingTick) (List.mem_of_getElem? (i := 16) rfl)), (hts (.selects RX0 yX0_comingTick yX0_comingTick) (List.mem_of_getElem? (i := 18) rfl))⟩ hP hD hK hN ([2, 3, 4, 5] : List Nat) rfl rfl 0 0 rfl rfl rfl hl.1 rfl (Nat.le_of_ble_eq_true rfl) dX3_tell_52 ⟨Nat.zero_le _, Nat.zero_le _⟩) hP hD hS hA [2, 3, 4, 5] [0, 1, 6, 7, 8, 9] [0, 1, 6, 7, 8, 9, 2, 3, 4, 5] rfl rfl rfl (by decide) rfl rfl (fun H locs hP hD hS => ?_)
      refine lv_iload hx hb dX3_tell_55 (lv_at hl 7 rfl) ?_
      refine kV (wr := LBw aX aB aB1 aB2 aT aP kp) (W1 := PLw aP aB aT ((g_X1_place now told rf lf ff sz bf gf ef x1 x2 (g_X0_comingTick now rf x3 x4) x5).1) ((g_X1_place now told rf lf ff sz bf gf ef x1 x2 (g_X0_comingTick now rf x3 x4) x5).2.1) ((g_X1_place now told rf lf ff sz bf gf ef x1 x2 (g_X0_comingTick now rf x3 x4) x5).2.2.1) ((g_X1_place now told rf lf ff sz bf gf ef x1 x2 (g_X0_comingTick now rf x3 x4) x5).2.2.2.1) ((g_X1_place now told rf lf ff sz bf gf ef x1 x2 (g_X0_comingTick now rf x3 x4) x5).2.2.2.2.1) ((g_X1_place now told rf lf ff sz bf gf ef x1 x2 (g_X0_comingTick now rf x3 x4) x5).2.2.2.2.2.1) ((g_X1_place now told rf lf ff sz bf gf ef x1 x2 (g_X0_comingTick now rf x3 x4) x5).2.2.2.2.2.2.1) ((g_X1_place now told rf lf ff sz bf gf ef x1 x2 (g_X0_comingTick now rf x3 x4) x5).2.2.2.2.2.2.2.1) ((g_X1_place now told rf lf ff sz bf gf ef x1 x2 (g_X0_comingTick now rf x3 x4) x5).2.2.2.2.2.2.2.2.1) ++ BKw cA aB aR aL aF now told rf lf ff ++ TRw cA aT aU aG aE ((g_X1_place now told rf lf ff sz bf gf ef x1 x2 (g_X0_comingTick now rf x3 x4) x5).2.2.2.2.2.2.2.2.2.1) ((g_X1_place now told rf lf ff sz bf gf ef x1 x2 (g_X0_comingTick now rf x3 x4) x5).2.2.2.2.2.2.2.2.2.2.1) ((g_X1_place now told rf lf ff sz bf gf ef x1 x2 (g_X0_comingTick now rf x3 x4) x5).2.2.2.2.2.2.2.2.2.2.2.1) ((g_X1_place now told rf lf ff sz bf gf ef x1 x2 (g_X0_comingTick now rf x3 x4) x5).2.2.2.2.2.2.2.2.2.2.2.2)) (wsN := LBw aX aB aB1 aB2 aT aP kp ++ PLw aP aB aT ((g_X1_place now told rf lf ff sz bf gf ef x1 x2 (g_X0_comingTick now rf x3 x4) x5).1) ((g_X1_place now told rf lf ff sz bf gf ef x1 x2 (g_X0_comingTick now rf x3 x4) x5).2.1) ((g_X1_place now told rf lf ff sz bf gf ef x1 x2 (g_X0_comingTick now rf x3 x4) x5).2.2.1) ((g_X1_place now told rf lf ff sz bf gf ef x1 x2 (g_X0_comingTick now rf x3 x4) x5).2.2.2.1) ((g_X1_place now told rf lf ff sz bf gf ef x1 x2 (g_X0_comingTick now rf x3 x4) x5).2.2.2.2.1) ((g_X1_place now told rf lf ff sz bf gf ef x1 x2 (g_X0_comingTick now rf x3 x4) x5).2.2.2.2.2.1) ((g_X1_place now told rf lf ff sz bf gf ef x1 x2 (g_X0_comingTick now rf x3 x4) x5).2.2.2.2.2.2.1) ((g_X1_place now told rf lf ff sz bf gf ef x1 x2 (g_X0_comingTick now rf x3 x4) x5).2.2.2.2.2.2.2.1) ((g_X1_place now told rf lf ff sz bf gf ef x1 x2 (g_X0_comingTick now rf x3 x4) x5).2.2.2.2.2.2.2.2.1) ++ BKw cA aB aR aL aF now told rf lf ff ++ TRw cA aT aU aG aE ((g_X1_place now told rf lf ff sz bf gf ef x1 x2 (g_X0_comingTick now rf x3 x4) x5).2.2.2.2.2.2.2.2.2.1) ((g_X1_place now told rf lf ff sz bf gf ef x1 x2 (g_X0_comingTick now rf x3 x4) x5).2.2.2.2.2.2.2.2.2.2.1) ((g_X1_place now told rf lf ff sz bf gf ef x1 x2 (g_X0_comingTick now rf x3 x4) x5).2.2.2.2.2.2.2.2.2.2.2.1) ((g_X1_place now told rf lf ff sz bf gf ef x1 x2 (g_X0_comingTick now rf x3 x4) x5).2.2.2.2.2.2.2.2.2.2.2.2)) (rVN (As := [.int x1, .int x2, .int (g_X0_comingTick now rf x3 x4), .int x5]) (rest := []) (W0 := PLw aP aB aT q0 q1 q2 q3 q4 q5 q6 q7 q8 ++ BKw cA aB aR aL aF now told rf lf ff ++ TRw cA aT aU aG aE sz bf gf ef) ⟨hx, hb, hml, hown, hts⟩ (c_X1_place l D cA cZ aP aB aT aR aL aF aU aG aE H.size q0 q1 q2 q3 q4 q5 q6 q7 q8 now told rf lf ff sz bf gf ef x1 x2 (g_X0_comingTick now rf x3 x4) x5) ⟨va_cnB 4 hts gX3_tell_X1_place_n84 rfl rfl rfl (hN (.methodLinkNest RX3 84 yX1_place RX3) (List.mem_of_getElem? (i := 20) rfl)) (hts (.initialized RX1) (List.mem_of_getElem? (i := 27) rfl)) (by decide +kernel) ⟨Nat.le_of_ble_eq_true rfl, Nat.le_of_ble_eq_true rfl⟩, (hts (.instanceMethod yX1_place) (List.mem_of_getElem? (i := 26) rfl)), (hts (.selects RX1 yX1_place yX1_place) (List.mem_of_getElem? (i := 28) rfl))⟩ hP hD hK hN ([1, 2, 3, 4, 5, 6, 7, 8, 9] : List Nat) rfl rfl 1 0 rfl rfl rfl hl.1 rfl (Nat.le_of_ble_eq_true rfl) dX3_tell_57 ⟨Nat.zero_le _, Nat.zero_le _⟩) hP hD hS hA [1, 2, 3, 4, 5, 6, 7, 8, 9] [0] [0, 1, 2, 3, 4, 5, 6, 7, 8, 9] rfl rfl rfl (by decide) rfl rfl (fun H locs hP hD hS => ?_)
      rw [g_X3_tell, if_pos c_1, if_pos c_2] at hG
      generalize (g_X1_place now told rf lf ff sz bf gf ef x1 x2 (g_X0_comingTick now rf x3 x4) x5) = u57 at hG hP hD ⊢
      refine lv_aload_n hx hb dX3_tell_60 rfl (lv_at hl 2 rfl) ?_
      refine va_get (D := D) (ci := 3) (v := .ref aB) (C := RX3) (T := TX3) (N := 6) hx hb hts iX3 hown hK hP 0 rfl rfl 1 (by decide) (hts (.fieldLink RX3 20 "LightBursts" "book" "LLightBursts$Book;") (List.mem_of_getElem? (i := 1) rfl)) (fun _ h9 => h9) rfl dX3_tell_61 ?_
      refine lv_iload hx hb dX3_tell_64 (lv_at hl 0 rfl) ?_
      refine lv_iconst (v := 1) hx hb dX3_tell_66 (by decide) ?_
      refine lv_iadd hx hb dX3_tell_67 ?_
      refine va_putN (D := D) (ci := 0) (v := .int (told + 1)) (ty := .int) (C := RX0) (T := TX0) (N := 5) hx hb hts iX0 tyX0 tyX0_ok nmX0 hown hK hP hD hS 2 rfl rfl 1 (by decide) (va_Nw.use rfl (hN (.fieldLinkNest RX3 77 "LightBursts$Book" "told" "I" RX3) (List.mem_of_getElem? (i := 5) rfl))) (fun _ h9 => h9) rfl (tyX0_ok 1 (by decide)) rfl rfl (Nat.le_of_ble_eq_true rfl) dX3_tell_68 (fun H locs hP hD hS => ?_)
      have hP : va_P D vwCl (LBw aX aB aB1 aB2 aT aP kp ++ PLw aP aB aT u57.1 u57.2.1 u57.2.2.1 u57.2.2.2.1 u57.2.2.2.2.1 u57.2.2.2.2.2.1 u57.2.2.2.2.2.2.1 u57.2.2.2.2.2.2.2.1 u57.2.2.2.2.2.2.2.2.1 ++ BKw cA aB aR aL aF now (told + 1) rf lf ff ++ TRw cA aT aU aG aE u57.2.2.2.2.2.2.2.2.2.1 u57.2.2.2.2.2.2.2.2.2.2.1 u57.2.2.2.2.2.2.2.2.2.2.2.1 u57.2.2.2.2.2.2.2.2.2.2.2.2) H := hP
      have hD : va_D A (LBw aX aB aB1 aB2 aT aP kp ++ PLw aP aB aT u57.1 u57.2.1 u57.2.2.1 u57.2.2.2.1 u57.2.2.2.2.1 u57.2.2.2.2.2.1 u57.2.2.2.2.2.2.1 u57.2.2.2.2.2.2.2.1 u57.2.2.2.2.2.2.2.2.1 ++ BKw cA aB aR aL aF now (told + 1) rf lf ff ++ TRw cA aT aU aG aE u57.2.2.2.2.2.2.2.2.2.1 u57.2.2.2.2.2.2.2.2.2.2.1 u57.2.2.2.2.2.2.2.2.2.2.2.1 u57.2.2.2.2.2.2.2.2.2.2.2.2) := hD
      refine lv_aload_n hx hb dX3_tell_71 rfl (lv_at hl 2 rfl) ?_
      refine va_get (D := D) (ci := 3) (v := .ref aB) (C := RX3) (T := TX3) (N := 6) hx hb hts iX3 hown hK hP 0 rfl rfl 1 (by decide) (hts (.fieldLink RX3 20 "LightBursts" "book" "LLightBursts$Book;") (List.mem_of_getElem? (i := 1) rfl)) (fun _ h9 => h9) rfl dX3_tell_72 ?_
      refine lv_iload hx hb dX3_tell_75 (lv_at hl 0 rfl) ?_
      refine lv_iconst (v := 2) hx hb dX3_tell_77 (by decide) ?_
      refine lv_iload_n hx hb dX3_tell_78 rfl (lv_at hl 5 rfl) ?_
      refine kV (wr := LBw aX aB aB1 aB2 aT aP kp ++ PLw aP aB aT u57.1 u57.2.1 u57.2.2.1 u57.2.2.2.1 u57.2.2.2.2.1 u57.2.2.2.2.2.1 u57.2.2.2.2.2.2.1 u57.2.2.2.2.2.2.2.1 u57.2.2.2.2.2.2.2.2.1 ++ TRw cA aT aU aG aE u57.2.2.2.2.2.2.2.2.2.1 u57.2.2.2.2.2.2.2.2.2.2.1 u57.2.2.2.2.2.2.2.2.2.2.2.1 u57.2.2.2.2.2.2.2.2.2.2.2.2) (W1 := BKw cA aB aR aL aF now (told + 1) rf lf (g_X0_setFact ff told 2 x3)) (wsN := LBw aX aB aB1 aB2 aT aP kp ++ PLw aP aB aT u57.1 u57.2.1 u57.2.2.1 u57.2.2.2.1 u57.2.2.2.2.1 u57.2.2.2.2.2.1 u57.2.2.2.2.2.2.1 u57.2.2.2.2.2.2.2.1 u57.2.2.2.2.2.2.2.2.1 ++ BKw cA aB aR aL aF now (told + 1) rf lf (g_X0_setFact ff told 2 x3) ++ TRw cA aT aU aG aE u57.2.2.2.2.2.2.2.2.2.1 u57.2.2.2.2.2.2.2.2.2.2.1 u57.2.2.2.2.2.2.2.2.2.2.2.1 u57.2.2.2.2.2.2.2.2.2.2.2.2) (rVN (As := [.int told, .int 2, .int x3]) (rest := []) (W0 := BKw cA aB aR aL aF now (told + 1) rf lf ff) ⟨hx, hb, hml, hown, hts⟩ (c_X0_setFact l D cA cZ aB aR aL aF H.size now (told + 1) rf lf ff told 2 x3) ⟨va_cnB 3 hts gX3_tell_X0_setFact_n88 rfl rfl rfl (hN (.methodLinkNest RX3 88 yX0_setFact RX3) (List.mem_of_getElem? (i := 29) rfl)) (hts (.initialized RX0) (List.mem_of_getElem? (i := 17) rfl)) (by decide +kernel) ⟨Nat.le_of_ble_eq_true rfl, Nat.le_of_ble_eq_true rfl⟩, (hts (.instanceMethod yX0_setFact) (List.mem_of_getElem? (i := 127) rfl)), (hts (.selects RX0 yX0_setFact yX0_setFact) (List.mem_of_getElem? (i := 128) rfl))⟩ hP hD hK hN ([2, 3, 4, 5] : List Nat) rfl rfl 0 0 rfl rfl rfl hl.1 rfl (Nat.le_of_ble_eq_true rfl) dX3_tell_79 ⟨Nat.zero_le _, Nat.zero_le _⟩) hP hD hS hA [2, 3, 4, 5] [0, 1, 6, 7, 8, 9] [0, 1, 6, 7, 8, 9, 2, 3, 4, 5] rfl rfl rfl (by decide) rfl rfl (fun H locs hP hD hS => ?_)
      refine lv_aload_n hx hb dX3_tell_82 rfl (lv_at hl 2 rfl) ?_
      refine va_get (D := D) (ci := 3) (v := .ref aB) (C := RX3) (T := TX3) (N := 6) hx hb hts iX3 hown hK hP 0 rfl rfl 1 (by decide) (hts (.fieldLink RX3 20 "LightBursts" "book" "LLightBursts$Book;") (List.mem_of_getElem? (i := 1) rfl)) (fun _ h9 => h9) rfl dX3_tell_83 ?_
      refine lv_iload hx hb dX3_tell_86 (lv_at hl 0 rfl) ?_
      refine lv_iconst (v := 3) hx hb dX3_tell_88 (by decide) ?_
      refine lv_iload hx hb dX3_tell_89 (lv_at hl 6 rfl) ?_
      refine kV (wr := LBw aX aB aB1 aB2 aT aP kp ++ PLw aP aB aT u57.1 u57.2.1 u57.2.2.1 u57.2.2.2.1 u57.2.2.2.2.1 u57.2.2.2.2.2.1 u57.2.2.2.2.2.2.1 u57.2.2.2.2.2.2.2.1 u57.2.2.2.2.2.2.2.2.1 ++ TRw cA aT aU aG aE u57.2.2.2.2.2.2.2.2.2.1 u57.2.2.2.2.2.2.2.2.2.2.1 u57.2.2.2.2.2.2.2.2.2.2.2.1 u57.2.2.2.2.2.2.2.2.2.2.2.2) (W1 := BKw cA aB aR aL aF now (told + 1) rf lf (g_X0_setFact (g_X0_setFact ff told 2 x3) told 3 x4)) (wsN := LBw aX aB aB1 aB2 aT aP kp ++ PLw aP aB aT u57.1 u57.2.1 u57.2.2.1 u57.2.2.2.1 u57.2.2.2.2.1 u57.2.2.2.2.2.1 u57.2.2.2.2.2.2.1 u57.2.2.2.2.2.2.2.1 u57.2.2.2.2.2.2.2.2.1 ++ BKw cA aB aR aL aF now (told + 1) rf lf (g_X0_setFact (g_X0_setFact ff told 2 x3) told 3 x4) ++ TRw cA aT aU aG aE u57.2.2.2.2.2.2.2.2.2.1 u57.2.2.2.2.2.2.2.2.2.2.1 u57.2.2.2.2.2.2.2.2.2.2.2.1 u57.2.2.2.2.2.2.2.2.2.2.2.2) (rVN (As := [.int told, .int 3, .int x4]) (rest := []) (W0 := BKw cA aB aR aL aF now (told + 1) rf lf (g_X0_setFact ff told 2 x3)) ⟨hx, hb, hml, hown, hts⟩ (c_X0_setFact l D cA cZ aB aR aL aF H.size now (told + 1) rf lf (g_X0_setFact ff told 2 x3) told 3 x4) ⟨va_cnB 3 hts gX3_tell_X0_setFact_n88 rfl rfl rfl (hN (.methodLinkNest RX3 88 yX0_setFact RX3) (List.mem_of_getElem? (i := 29) rfl)) (hts (.initialized RX0) (List.mem_of_getElem? (i := 17) rfl)) (by decide +kernel) ⟨Nat.le_of_ble_eq_true rfl, Nat.le_of_ble_eq_true rfl⟩, (hts (.instanceMethod yX0_setFact) (List.mem_of_getElem? (i := 127) rfl)), (hts (.selects RX0 yX0_setFact yX0_setFact) (List.mem_of_getElem? (i := 128) rfl))⟩ hP hD hK hN ([2, 3, 4, 5] : List Nat) rfl rfl 0 0 rfl rfl rfl hl.1 rfl (Nat.le_of_ble_eq_true rfl) dX3_tell_91 ⟨Nat.zero_le _, Nat.zero_le _⟩) hP hD hS hA [2, 3, 4, 5] [0, 1, 6, 7, 8, 9] [0, 1, 6, 7, 8, 9, 2, 3, 4, 5] rfl rfl rfl (by decide) rfl rfl (fun H locs hP hD hS => ?_)
      refine lv_aload_n hx hb dX3_tell_94 rfl (lv_at hl 2 rfl) ?_
      refine va_get (D := D) (ci := 3) (v := .ref aP) (C := RX3) (T := TX3) (N := 6) hx hb hts iX3 hown hK hP 0 rfl rfl 0 (by decide) (hts (.fieldLink RX3 10 "LightBursts" "placer" "LLightBursts$Placer;") (List.mem_of_getElem? (i := 2) rfl)) (fun _ h9 => h9) rfl dX3_tell_95 ?_
      refine lv_iload hx hb dX3_tell_98 (lv_at hl 0 rfl) ?_
      refine kV (wr := LBw aX aB aB1 aB2 aT aP kp ++ TRw cA aT aU aG aE u57.2.2.2.2.2.2.2.2.2.1 u57.2.2.2.2.2.2.2.2.2.2.1 u57.2.2.2.2.2.2.2.2.2.2.2.1 u57.2.2.2.2.2.2.2.2.2.2.2.2) (W1 := PLw aP aB aT u57.1 u57.2.1 u57.2.2.1 u57.2.2.2.1 u57.2.2.2.2.1 u57.2.2.2.2.2.1 u57.2.2.2.2.2.2.1 u57.2.2.2.2.2.2.2.1 u57.2.2.2.2.2.2.2.2.1 ++ BKw cA aB aR aL aF now (told + 1) rf lf (g_X1_writeTo u57.1 u57.2.1 u57.2.2.1 u57.2.2.2.1 u57.2.2.2.2.1 u57.2.2.2.2.2.1 u57.2.2.2.2.2.2.1 u57.2.2.2.2.2.2.2.1 u57.2.2.2.2.2.2.2.2.1 (g_X0_setFact (g_X0_setFact ff told 2 x3) told 3 x4) told)) (wsN := LBw aX aB aB1 aB2 aT aP kp ++ PLw aP aB aT u57.1 u57.2.1 u57.2.2.1 u57.2.2.2.1 u57.2.2.2.2.1 u57.2.2.2.2.2.1 u57.2.2.2.2.2.2.1 u57.2.2.2.2.2.2.2.1 u57.2.2.2.2.2.2.2.2.1 ++ BKw cA aB aR aL aF now (told + 1) rf lf (g_X1_writeTo u57.1 u57.2.1 u57.2.2.1 u57.2.2.2.1 u57.2.2.2.2.1 u57.2.2.2.2.2.1 u57.2.2.2.2.2.2.1 u57.2.2.2.2.2.2.2.1 u57.2.2.2.2.2.2.2.2.1 (g_X0_setFact (g_X0_setFact ff told 2 x3) told 3 x4) told) ++ TRw cA aT aU aG aE u57.2.2.2.2.2.2.2.2.2.1 u57.2.2.2.2.2.2.2.2.2.2.1 u57.2.2.2.2.2.2.2.2.2.2.2.1 u57.2.2.2.2.2.2.2.2.2.2.2.2) (rVN (As := [.int told]) (rest := []) (W0 := PLw aP aB aT u57.1 u57.2.1 u57.2.2.1 u57.2.2.2.1 u57.2.2.2.2.1 u57.2.2.2.2.2.1 u57.2.2.2.2.2.2.1 u57.2.2.2.2.2.2.2.1 u57.2.2.2.2.2.2.2.2.1 ++ BKw cA aB aR aL aF now (told + 1) rf lf (g_X0_setFact (g_X0_setFact ff told 2 x3) told 3 x4)) ⟨hx, hb, hml, hown, hts⟩ (c_X1_writeTo l D cA cZ aP aB aT aR aL aF H.size u57.1 u57.2.1 u57.2.2.1 u57.2.2.2.1 u57.2.2.2.2.1 u57.2.2.2.2.2.1 u57.2.2.2.2.2.2.1 u57.2.2.2.2.2.2.2.1 u57.2.2.2.2.2.2.2.2.1 now (told + 1) rf lf (g_X0_setFact (g_X0_setFact ff told 2 x3) told 3 x4) told) ⟨va_cnB 1 hts gX3_tell_X1_writeTo_n92 rfl rfl rfl (hN (.methodLinkNest RX3 92 yX1_writeTo RX3) (List.mem_of_getElem? (i := 30) rfl)) (hts (.initialized RX1) (List.mem_of_getElem? (i := 27) rfl)) (by decide +kernel) ⟨Nat.le_of_ble_eq_true rfl, Nat.le_of_ble_eq_true rfl⟩, (hts (.instanceMethod yX1_writeTo) (List.mem_of_getElem? (i := 130) rfl)), (hts (.selects RX1 yX1_writeTo yX1_writeTo) (List.mem_of_getElem? (i := 131) rfl))⟩ hP hD hK hN ([1, 2, 3, 4, 5] : List Nat) rfl rfl 1 0 rfl rfl rfl hl.1 rfl (Nat.le_of_ble_eq_true rfl) dX3_tell_100 ⟨Nat.zero_le _, Nat.zero_le _⟩) hP hD hS hA [1, 2, 3, 4, 5] [0, 6, 7, 8, 9] [0, 5, 6, 7, 8, 9, 1, 2, 3, 4] rfl rfl rfl (by decide) rfl rfl (fun H locs hP hD hS => ?_)
      refine lv_iload hx hb dX3_tell_103 (lv_at hl 0 rfl) ?_
      rw [g_X3_tell_C57] at hG
      rw [hG]
      exact W.iret (v := told) hx hb hr (fun t ht hW => ⟨⟨_, (), rfl, rfl, by rw [ht]; exact hP, va_K.moved hW.alike hK, hD⟩, hS.F ht⟩) hS.2.2 dX3_tell_105
    · refine lv_bipush (v := (-4)) hx hb dX3_tell_36 (by decide) ?_
      rw [g_X3_tell, if_pos c_1, if_neg c_2] at hG
      rw [hG]
      exact W.iret (v := (-4)) hx hb hr (fun t ht hW => ⟨⟨_, (), rfl, rfl, by rw [ht]; exact hP, va_K.moved hW.alike hK, hD⟩, hS.F ht⟩) hS.2.2 dX3_tell_38
  · refine lv_iload hx hb dX3_tell_17 (lv_at hl 0 rfl) ?_
    rw [g_X3_tell, if_neg c_1] at hG
    rw [hG]
    exact W.iret (v := (g_X3_refusalOfBurst x1 x2 x3 x4 x5)) hx hb hr (fun t ht hW => ⟨⟨_, (), rfl, rfl, by rw [ht]; exact hP, va_K.moved hW.alike hK, hD⟩, hS.F ht⟩) hS.2.2 dX3_tell_19

def g_X3_would_C38 (u38 : Int32 × Int32 × Int32 × Int32 × Int32 × Int32 × Int32 × Int32 × Int32 × Int32 × (Nat → Int32) × (Nat → Int32) × (Nat → Int32)) : Int32 × Int32 × Int32 × Int32 × Int32 × Int32 × Int32 × Int32 × Int32 × Int32 × Int32 × (Nat → Int32) × (Nat → Int32) × (Nat → Int32) := (u38.2.2.2.2.1, u38.1, u38.2.1, u38.2.2.1, u38.2.2.2.1, u38.2.2.2.2.1, u38.2.2.2.2.2.1, u38.2.2.2.2.2.2.1, u38.2.2.2.2.2.2.2.1, u38.2.2.2.2.2.2.2.2.1, u38.2.2.2.2.2.2.2.2.2.1, u38.2.2.2.2.2.2.2.2.2.2.1, u38.2.2.2.2.2.2.2.2.2.2.2.1, u38.2.2.2.2.2.2.2.2.2.2.2.2)
def g_X3_would (q0 : Int32) (q1 : Int32) (q2 : Int32) (q3 : Int32) (q4 : Int32) (q5 : Int32) (q6 : Int32) (q7 : Int32) (q8 : Int32) (now : Int32) (told : Int32) (rf : (Nat → Int32)) (lf : (Nat → Int32)) (ff : (Nat → Int32)) (sz : Int32) (bf : (Nat → Int32)) (gf : (Nat → Int32)) (ef : (Nat → Int32)) (x1 : Int32) (x2 : Int32) (x3 : Int32) (x4 : Int32) (x5 : Int32) : Int32 × Int32 × Int32 × Int32 × Int32 × Int32 × Int32 × Int32 × Int32 × Int32 × Int32 × (Nat → Int32) × (Nat → Int32) × (Nat → Int32) := (if (g_X3_refusalOfBurst x1 x2 x3 x4 x5) = 0 then (g_X3_would_C38 (g_X1_place now told rf lf ff sz bf gf ef x1 x2 (g_X0_comingTick now rf x3 x4) x5)) else ((g_X3_refusalOfBurst x1 x2 x3 x4 x5), q0, q1, q2, q3, q4, q5, q6, q7, q8, sz, bf, gf, ef))
set_option maxHeartbeats 4000000 in
set_option maxRecDepth 100000 in
theorem c_X3_would (l : Launch) (D : va_G) (cA cZ : ClassId) (aX : Nat) (aB : Nat) (aB1 : Nat) (aB2 : Nat) (aT : Nat) (aP : Nat) (aR : Nat) (aL : Nat) (aF : Nat) (aU : Nat) (aG : Nat) (aE : Nat) (szz : Nat) (kp : Int32) (q0 : Int32) (q1 : Int32) (q2 : Int32) (q3 : Int32) (q4 : Int32) (q5 : Int32) (q6 : Int32) (q7 : Int32) (q8 : Int32) (now : Int32) (told : Int32) (rf : (Nat → Int32)) (lf : (Nat → Int32)) (ff : (Nat → Int32)) (sz : Int32) (bf : (Nat → Int32)) (gf : (Nat → Int32)) (ef : (Nat → Int32)) (x1 : Int32) (x2 : Int32) (x3 : Int32) (x4 : Int32) (x5 : Int32) : MetI l yX3_would wsX3_would 6 144 D (tyA cA cZ) [.ref aX, .int x1, .int x2, .int x3, .int x4, .int x5] (LBw aX aB aB1 aB2 aT aP kp ++ PLw aP aB aT q0 q1 q2 q3 q4 q5 q6 q7 q8 ++ BKw cA aB aR aL aF now told rf lf ff ++ TRw cA aT aU aG aE sz bf gf ef) szz (g_X3_would q0 q1 q2 q3 q4 q5 q6 q7 q8 now told rf lf ff sz bf gf ef x1 x2 x3 x4 x5).1 (LBw aX aB aB1 aB2 aT aP kp ++ PLw aP aB aT ((g_X3_would q0 q1 q2 q3 q4 q5 q6 q7 q8 now told rf lf ff sz bf gf ef x1 x2 x3 x4 x5).2.1) ((g_X3_would q0 q1 q2 q3 q4 q5 q6 q7 q8 now told rf lf ff sz bf gf ef x1 x2 x3 x4 x5).2.2.1) ((g_X3_would q0 q1 q2 q3 q4 q5 q6 q7 q8 now told rf lf ff sz bf gf ef x1 x2 x3 x4 x5).2.2.2.1) ((g_X3_would q0 q1 q2 q3 q4 q5 q6 q7 q8 now told rf lf ff sz bf gf ef x1 x2 x3 x4 x5).2.2.2.2.1) ((g_X3_would q0 q1 q2 q3 q4 q5 q6 q7 q8 now told rf lf ff sz bf gf ef x1 x2 x3 x4 x5).2.2.2.2.2.1) ((g_X3_would q0 q1 q2 q3 q4 q5 q6 q7 q8 now told rf lf ff sz bf gf ef x1 x2 x3 x4 x5).2.2.2.2.2.2.1) ((g_X3_would q0 q1 q2 q3 q4 q5 q6 q7 q8 now told rf lf ff sz bf gf ef x1 x2 x3 x4 x5).2.2.2.2.2.2.2.1) ((g_X3_would q0 q1 q2 q3 q4 q5 q6 q7 q8 now told rf lf ff sz bf gf ef x1 x2 x3 x4 x5).2.2.2.2.2.2.2.2.1) ((g_X3_would q0 q1 q2 q3 q4 q5 q6 q7 q8 now told rf lf ff sz bf gf ef x1 x2 x3 x4 x5).2.2.2.2.2.2.2.2.2.1) ++ BKw cA aB aR aL aF now told rf lf ff ++ TRw cA aT aU aG aE ((g_X3_would q0 q1 q2 q3 q4 q5 q6 q7 q8 now told rf lf ff sz bf gf ef x1 x2 x3 x4 x5).2.2.2.2.2.2.2.2.2.2.1) ((g_X3_would q0 q1 q2 q3 q4 q5 q6 q7 q8 now told rf lf ff sz bf gf ef x1 x2 x3 x4 x5).2.2.2.2.2.2.2.2.2.2.2.1) ((g_X3_would q0 q1 q2 q3 q4 q5 q6 q7 q8 now told rf lf ff sz bf gf ef x1 x2 x3 x4 x5).2.2.2.2.2.2.2.2.2.2.2.2.1) ((g_X3_would q0 q1 q2 q3 q4 q5 q6 q7 q8 now told rf lf ff sz bf gf ef x1 x2 x3 x4 x5).2.2.2.2.2.2.2.2.2.2.2.2.2)) := by
  refine Met.ofW (cc := cX3_would) (maxL := 7) (ret := (some .int)) (by decide) rfl ?_
  intro p e s m args below meth c s₁ B hml hv
  obtain ⟨rfl, hsz, hP, hK, hD0, hN⟩ := hv
  have hx := B.exec
  have hb := B.bytes
  have hr := B.returns
  have hts := atoms_spec (ws := wsX3_would) B.pre
  have hown : s.vm.findClass RX3 = some m.cls := findClass_of_methodNamed B.named
  have hlocks := B.notSynchronized
  have iX3 : ∀ w ∈ wsX30, w ∈ wsX3_would := fun _ h => List.mem_cons_of_mem _ (List.mem_append_left _ (List.mem_append_left _ (List.mem_append_left _ (List.mem_append_right _ h))))
  have iX1 : ∀ w ∈ wsX10, w ∈ wsX3_would := fun _ h => List.mem_cons_of_mem _ (List.mem_append_left _ (List.mem_append_left _ (List.mem_append_right _ h)))
  have iX0 : ∀ w ∈ wsX00, w ∈ wsX3_would := fun _ h => List.mem_cons_of_mem _ (List.mem_append_left _ (List.mem_append_right _ h))
  have iX2 : ∀ w ∈ wsX20, w ∈ wsX3_would := fun _ h => List.mem_cons_of_mem _ (List.mem_append_right _ h)
  subst hsz
  have hD := hD0.self (sz := s.heap.size)
  generalize hAe : va_A (LBw aX aB aB1 aB2 aT aP kp ++ PLw aP aB aT q0 q1 q2 q3 q4 q5 q6 q7 q8 ++ BKw cA aB aR aL aF now told rf lf ff ++ TRw cA aT aU aG aE sz bf gf ef) s.heap.size = A at hD ⊢
  have hA : ∀ q : Nat, s.heap.size ≤ q → A q := fun q h => by rw [← hAe]; exact Or.inr h
  have hS : va_S A s.heap s.heap [] := va_S.rf
  have hP : va_P D vwCl (LBw aX aB aB1 aB2 aT aP kp ++ PLw aP aB aT q0 q1 q2 q3 q4 q5 q6 q7 q8 ++ BKw cA aB aR aL aF now told rf lf ff ++ TRw cA aT aU aG aE sz bf gf ef) s.heap := hP
  obtain ⟨G, hG⟩ : ∃ G, G = (g_X3_would q0 q1 q2 q3 q4 q5 q6 q7 q8 now told rf lf ff sz bf gf ef x1 x2 x3 x4 x5) := ⟨_, rfl⟩
  rw [← hG]
  have hl := lv_entry ([.ref aX, .int x1, .int x2, .int x3, .int x4, .int x5]) (n := 7) (Nat.le_of_ble_eq_true rfl)
  rw [lg_entry_eq]
  generalize (lg_sl ([.ref aX, .int x1, .int x2, .int x3, .int x4, .int x5]) ++ List.replicate (7 - (lg_sl ([.ref aX, .int x1, .int x2, .int x3, .int x4, .int x5])).length) Slot.unset).toArray = ls at hl ⊢
  have hl : lv_has ls 7 [(0, .ref aX), (1, .int x1), (2, .int x2), (3, .int x3), (4, .int x4), (5, .int x5)] := hl
  refine lv_iload_n hx hb dX3_would_0 rfl (lv_at hl 1 rfl) ?_
  refine lv_iload_n hx hb dX3_would_1 rfl (lv_at hl 2 rfl) ?_
  refine lv_iload_n hx hb dX3_would_2 rfl (lv_at hl 3 rfl) ?_
  refine lv_iload hx hb dX3_would_3 (lv_at hl 4 rfl) ?_
  refine lv_iload hx hb dX3_would_5 (lv_at hl 5 rfl) ?_
  refine kI (wr := LBw aX aB aB1 aB2 aT aP kp ++ PLw aP aB aT q0 q1 q2 q3 q4 q5 q6 q7 q8 ++ BKw cA aB aR aL aF now told rf lf ff ++ TRw cA aT aU aG aE sz bf gf ef) (W1 := ([] : va_W)) (wsN := LBw aX aB aB1 aB2 aT aP kp ++ PLw aP aB aT q0 q1 q2 q3 q4 q5 q6 q7 q8 ++ BKw cA aB aR aL aF now told rf lf ff ++ TRw cA aT aU aG aE sz bf gf ef) (rS (As := [.int x1, .int x2, .int x3, .int x4, .int x5]) (rest := []) (W0 := ([] : va_W)) ⟨hx, hb, hml, hown, hts⟩ (c_X3_refusalOfBurst l D cA cZ s.heap.size x1 x2 x3 x4 x5) (cwS 5 hts gX3_would_X3_refusalOfBurst rfl rfl rfl (by decide +kernel) ⟨Nat.le_of_ble_eq_true rfl, Nat.le_of_ble_eq_true rfl⟩) hP hD hK hN ([] : List Nat) rfl rfl rfl hl.1 rfl (Nat.le_of_ble_eq_true rfl) dX3_would_7 ⟨Nat.zero_le _, Nat.zero_le _⟩) hP hD hS hA [] [0, 1, 2, 3, 4, 5, 6, 7, 8, 9] [0, 1, 2, 3, 4, 5, 6, 7, 8, 9] rfl rfl rfl (by decide) rfl rfl (fun H locs hP hD hS => ?_)
  refine lv_istore (lv' := [(6, .int (g_X3_refusalOfBurst x1 x2 x3 x4 x5)), (0, .ref aX), (1, .int x1), (2, .int x2), (3, .int x3), (4, .int x4), (5, .int x5)]) hx hb dX3_would_10 hl (by decide) rfl (fun ls hl => ?_)
  refine lv_iload hx hb dX3_would_12 (lv_at hl 0 rfl) ?_
  refine lv_if_eq (tgt := 20) hx hb dX3_would_14 (by decide) (fun c_1 => ?_) (fun c_1 => ?_)
  · refine lv_aload_n hx hb dX3_would_20 rfl (lv_at hl 1 rfl) ?_
    refine va_get (D := D) (ci := 3) (v := .ref aP) (C := RX3) (T := TX3) (N := 6) hx hb hts iX3 hown hK hP 0 rfl rfl 0 (by decide) (hts (.fieldLink RX3 10 "LightBursts" "placer" "LLightBursts$Placer;") (List.mem_of_getElem? (i := 1) rfl)) (fun _ h9 => h9) rfl dX3_would_21 ?_
    refine lv_iload_n hx hb dX3_would_24 rfl (lv_at hl 2 rfl) ?_
    refine lv_iload_n hx hb dX3_would_25 rfl (lv_at hl 3 rfl) ?_
    refine lv_aload_n hx hb dX3_would_26 rfl (lv_at hl 1 rfl) ?_
    refine va_get (D := D) (ci := 3) (v := .ref aB) (C := RX3) (T := TX3) (N := 6) hx hb hts iX3 hown hK hP 0 rfl rfl 1 (by decide) (hts (.fieldLink RX3 20 "LightBursts" "book" "LLightBursts$Book;") (List.mem_of_getElem? (i := 2) rfl)) (fun _ h9 => h9) rfl dX3_would_27 ?_
    refine lv_iload_n hx hb dX3_would_30 rfl (lv_at hl 4 rfl) ?_
    refine lv_iload hx hb dX3_would_31 (lv_at hl 5 rfl) ?_
    refine kI (wr := LBw aX aB aB1 aB2 aT aP kp ++ PLw aP aB aT q0 q1 q2 q3 q4 q5 q6 q7 q8 ++ TRw cA aT aU aG aE sz bf gf ef) (W1 := BKw cA aB aR aL aF now told rf lf ff) (wsN := LBw aX aB aB1 aB2 aT aP kp ++ PLw aP aB aT q0 q1 q2 q3 q4 q5 q6 q7 q8 ++ BKw cA aB aR aL aF now told rf lf ff ++ TRw cA aT aU aG aE sz bf gf ef) (rVN (As := [.int x3, .int x4]) (rest := [.int x2, .int x1, .ref aP]) (W0 := BKw cA aB aR aL aF now told rf lf ff) ⟨hx, hb, hml, hown, hts⟩ (c_X0_comingTick l D cA cZ aB aR aL aF H.size now told rf lf ff x3 x4) ⟨va_cnB 2 hts gX3_would_X0_comingTick_n80 rfl rfl rfl (hN (.methodLinkNest RX3 80 yX0_comingTick RX3) (List.mem_of_getElem? (i := 19) rfl)) (hts (.initialized RX0) (List.mem_of_getElem? (i := 17) rfl)) (by decide +kernel) ⟨Nat.le_of_ble_eq_true rfl, Nat.le_of_ble_eq_true rfl⟩, (hts (.instanceMethod yX0_comingTick) (List.mem_of_getElem? (i := 16) rfl)), (hts (.selects RX0 yX0_comingTick yX0_comingTick) (List.mem_of_getElem? (i := 18) rfl))⟩ hP hD hK hN ([2, 3, 4, 5] : List Nat) rfl rfl 0 0 rfl rfl rfl hl.1 rfl (Nat.le_of_ble_eq_true rfl) dX3_would_33 ⟨Nat.zero_le _, Nat.zero_le _⟩) hP hD hS hA [2, 3, 4, 5] [0, 1, 6, 7, 8, 9] [0, 1, 6, 7, 8, 9, 2, 3, 4, 5] rfl rfl rfl (by decide) rfl rfl (fun H locs hP hD hS => ?_)
    refine lv_iload hx hb dX3_would_36 (lv_at hl 6 rfl) ?_
    refine kV (wr := LBw aX aB aB1 aB2 aT aP kp) (W1 := PLw aP aB aT ((g_X1_place now told rf lf ff sz bf gf ef x1 x2 (g_X0_comingTick now rf x3 x4) x5).1) ((g_X1_place now told rf lf ff sz bf gf ef x1 x2 (g_X0_comingTick now rf x3 x4) x5).2.1) ((g_X1_place now told rf lf ff sz bf gf ef x1 x2 (g_X0_comingTick now rf x3 x4) x5).2.2.1) ((g_X1_place now told rf lf ff sz bf gf ef x1 x2 (g_X0_comingTick now rf x3 x4) x5).2.2.2.1) ((g_X1_place now told rf lf ff sz bf gf ef x1 x2 (g_X0_comingTick now rf x3 x4) x5).2.2.2.2.1) ((g_X1_place now told rf lf ff sz bf gf ef x1 x2 (g_X0_comingTick now rf x3 x4) x5).2.2.2.2.2.1) ((g_X1_place now told rf lf ff sz bf gf ef x1 x2 (g_X0_comingTick now rf x3 x4) x5).2.2.2.2.2.2.1) ((g_X1_place now told rf lf ff sz bf gf ef x1 x2 (g_X0_comingTick now rf x3 x4) x5).2.2.2.2.2.2.2.1) ((g_X1_place now told rf lf ff sz bf gf ef x1 x2 (g_X0_comingTick now rf x3 x4) x5).2.2.2.2.2.2.2.2.1) ++ BKw cA aB aR aL aF now told rf lf ff ++ TRw cA aT aU aG aE ((g_X1_place now told rf lf ff sz bf gf ef x1 x2 (g_X0_comingTick now rf x3 x4) x5).2.2.2.2.2.2.2.2.2.1) ((g_X1_place now told rf lf ff sz bf gf ef x1 x2 (g_X0_comingTick now rf x3 x4) x5).2.2.2.2.2.2.2.2.2.2.1) ((g_X1_place now told rf lf ff sz bf gf ef x1 x2 (g_X0_comingTick now rf x3 x4) x5).2.2.2.2.2.2.2.2.2.2.2.1) ((g_X1_place now told rf lf ff sz bf gf ef x1 x2 (g_X0_comingTick now rf x3 x4) x5).2.2.2.2.2.2.2.2.2.2.2.2)) (wsN := LBw aX aB aB1 aB2 aT aP kp ++ PLw aP aB aT ((g_X1_place now told rf lf ff sz bf gf ef x1 x2 (g_X0_comingTick now rf x3 x4) x5).1) ((g_X1_place now told rf lf ff sz bf gf ef x1 x2 (g_X0_comingTick now rf x3 x4) x5).2.1) ((g_X1_place now told rf lf ff sz bf gf ef x1 x2 (g_X0_comingTick now rf x3 x4) x5).2.2.1) ((g_X1_place now told rf lf ff sz bf gf ef x1 x2 (g_X0_comingTick now rf x3 x4) x5).2.2.2.1) ((g_X1_place now told rf lf ff sz bf gf ef x1 x2 (g_X0_comingTick now rf x3 x4) x5).2.2.2.2.1) ((g_X1_place now told rf lf ff sz bf gf ef x1 x2 (g_X0_comingTick now rf x3 x4) x5).2.2.2.2.2.1) ((g_X1_place now told rf lf ff sz bf gf ef x1 x2 (g_X0_comingTick now rf x3 x4) x5).2.2.2.2.2.2.1) ((g_X1_place now told rf lf ff sz bf gf ef x1 x2 (g_X0_comingTick now rf x3 x4) x5).2.2.2.2.2.2.2.1) ((g_X1_place now told rf lf ff sz bf gf ef x1 x2 (g_X0_comingTick now rf x3 x4) x5).2.2.2.2.2.2.2.2.1) ++ BKw cA aB aR aL aF now told rf lf ff ++ TRw cA aT aU aG aE ((g_X1_place now told rf lf ff sz bf gf ef x1 x2 (g_X0_comingTick now rf x3 x4) x5).2.2.2.2.2.2.2.2.2.1) ((g_X1_place now told rf lf ff sz bf gf ef x1 x2 (g_X0_comingTick now rf x3 x4) x5).2.2.2.2.2.2.2.2.2.2.1) ((g_X1_place now told rf lf ff sz bf gf ef x1 x2 (g_X0_comingTick now rf x3 x4) x5).2.2.2.2.2.2.2.2.2.2.2.1) ((g_X1_place now told rf lf ff sz bf gf ef x1 x2 (g_X0_comingTick now rf x3 x4) x5).2.2.2.2.2.2.2.2.2.2.2.2)) (rVN (As := [.int x1, .int x2, .int (g_X0_comingTick now rf x3 x4), .int x5]) (rest := []) (W0 := PLw aP aB aT q0 q1 q2 q3 q4 q5 q6 q7 q8 ++ BKw cA aB aR aL aF now told rf lf ff ++ TRw cA aT aU aG aE sz bf gf ef) ⟨hx, hb, hml, hown, hts⟩ (c_X1_place l D cA cZ aP aB aT aR aL aF aU aG aE H.size q0 q1 q2 q3 q4 q5 q6 q7 q8 now told rf lf ff sz bf gf ef x1 x2 (g_X0_comingTick now rf x3 x4) x5) ⟨va_cnB 4 hts gX3_would_X1_place_n84 rfl rfl rfl (hN (.methodLinkNest RX3 84 yX1_place RX3) (List.mem_of_getElem? (i := 20) rfl)) (hts (.initialized RX1) (List.mem_of_getElem? (i := 27) rfl)) (by decide +kernel) ⟨Nat.le_of_ble_eq_true rfl, Nat.le_of_ble_eq_true rfl⟩, (hts (.instanceMethod yX1_place) (List.mem_of_getElem? (i := 26) rfl)), (hts (.selects RX1 yX1_place yX1_place) (List.mem_of_getElem? (i := 28) rfl))⟩ hP hD hK hN ([1, 2, 3, 4, 5, 6, 7, 8, 9] : List Nat) rfl rfl 1 0 rfl rfl rfl hl.1 rfl (Nat.le_of_ble_eq_true rfl) dX3_would_38 ⟨Nat.zero_le _, Nat.zero_le _⟩) hP hD hS hA [1, 2, 3, 4, 5, 6, 7, 8, 9] [0] [0, 1, 2, 3, 4, 5, 6, 7, 8, 9] rfl rfl rfl (by decide) rfl rfl (fun H locs hP hD hS => ?_)
    rw [g_X3_would, if_pos c_1] at hG
    generalize (g_X1_place now told rf lf ff sz bf gf ef x1 x2 (g_X0_comingTick now rf x3 x4) x5) = u38 at hG hP hD ⊢
    refine lv_aload_n hx hb dX3_would_41 rfl (lv_at hl 1 rfl) ?_
    refine va_get (D := D) (ci := 3) (v := .ref aP) (C := RX3) (T := TX3) (N := 6) hx hb hts iX3 hown hK hP 0 rfl rfl 0 (by decide) (hts (.fieldLink RX3 10 "LightBursts" "placer" "LLightBursts$Placer;") (List.mem_of_getElem? (i := 1) rfl)) (fun _ h9 => h9) rfl dX3_would_42 ?_
    refine va_getN (D := D) (ci := 1) (v := .int u38.2.2.2.2.1) (C := RX1) (T := TX1) (N := 11) hx hb hts iX1 hown hK hP 1 rfl rfl 6 (by decide) (va_Nw.use rfl (hN (.fieldLinkNest RX3 96 "LightBursts$Placer" "fate" "I" RX3) (List.mem_of_getElem? (i := 11) rfl))) (fun _ h9 => h9) rfl dX3_would_45 ?_
    rw [g_X3_would_C38] at hG
    rw [hG]
    exact W.iret (v := u38.2.2.2.2.1) hx hb hr (fun t ht hW => ⟨⟨_, (), rfl, rfl, by rw [ht]; exact hP, va_K.moved hW.alike hK, hD⟩, hS.F ht⟩) hS.2.2 dX3_would_48
  · refine lv_iload hx hb dX3_would_17 (lv_at hl 0 rfl) ?_
    rw [g_X3_would, if_neg c_1] at hG
    rw [hG]
    exact W.iret (v := (g_X3_refusalOfBurst x1 x2 x3 x4 x5)) hx hb hr (fun t ht hW => ⟨⟨_, (), rfl, rfl, by rw [ht]; exact hP, va_K.moved hW.alike hK, hD⟩, hS.F ht⟩) hS.2.2 dX3_would_19

def g_X3_back (now : Int32) (told : Int32) (ff : (Nat → Int32)) (x1 : Int32) : Int32 × (Nat → Int32) := (if (g_X3_isBelow x1 told) = 0 then ((-1), ff) else (if now < (g_X0_fact ff x1 5) then (if (g_X0_fact ff x1 6) = 4 then ((-5), ff) else ((g_X0_fact ff x1 9), (g_X0_takeBack ff x1))) else ((-3), ff)))
set_option maxHeartbeats 4000000 in
set_option maxRecDepth 100000 in
theorem c_X3_back (l : Launch) (D : va_G) (cA cZ : ClassId) (aX : Nat) (aB : Nat) (aB1 : Nat) (aB2 : Nat) (aT : Nat) (aP : Nat) (aR : Nat) (aL : Nat) (aF : Nat) (szz : Nat) (kp : Int32) (now : Int32) (told : Int32) (rf : (Nat → Int32)) (lf : (Nat → Int32)) (ff : (Nat → Int32)) (x1 : Int32) : MetI l yX3_back wsX3_back 3 66 D (tyA cA cZ) [.ref aX, .int x1] (LBw aX aB aB1 aB2 aT aP kp ++ BKw cA aB aR aL aF now told rf lf ff) szz (g_X3_back now told ff x1).1 (LBw aX aB aB1 aB2 aT aP kp ++ BKw cA aB aR aL aF now told rf lf ((g_X3_back now told ff x1).2)) := by
  refine Met.ofW (cc := cX3_back) (maxL := 3) (ret := (some .int)) (by decide) rfl ?_
  intro p e s m args below meth c s₁ B hml hv
  obtain ⟨rfl, hsz, hP, hK, hD0, hN⟩ := hv
  have hx := B.exec
  have hb := B.bytes
  have hr := B.returns
  have hts := atoms_spec (ws := wsX3_back) B.pre
  have hown : s.vm.findClass RX3 = some m.cls := findClass_of_methodNamed B.named
  have hlocks := B.notSynchronized
  have iX3 : ∀ w ∈ wsX30, w ∈ wsX3_back := fun _ h => List.mem_cons_of_mem _ (List.mem_append_left _ (List.mem_append_right _ h))
  have iX0 : ∀ w ∈ wsX00, w ∈ wsX3_back := fun _ h => List.mem_cons_of_mem _ (List.mem_append_right _ h)
  subst hsz
  have hD := hD0.self (sz := s.heap.size)
  generalize hAe : va_A (LBw aX aB aB1 aB2 aT aP kp ++ BKw cA aB aR aL aF now told rf lf ff) s.heap.size = A at hD ⊢
  have hA : ∀ q : Nat, s.heap.size ≤ q → A q := fun q h => by rw [← hAe]; exact Or.inr h
  have hS : va_S A s.heap s.heap [] := va_S.rf
  have hP : va_P D vwCl (LBw aX aB aB1 aB2 aT aP kp ++ BKw cA aB aR aL aF now told rf lf ff) s.heap := hP
  obtain ⟨G, hG⟩ : ∃ G, G = (g_X3_back now told ff x1) := ⟨_, rfl⟩
  rw [← hG]
  have hl := lv_entry ([.ref aX, .int x1]) (n := 3) (Nat.le_of_ble_eq_true rfl)
  rw [lg_entry_eq]
  generalize (lg_sl ([.ref aX, .int x1]) ++ List.replicate (3 - (lg_sl ([.ref aX, .int x1])).length) Slot.unset).toArray = ls at hl ⊢
  have hl : lv_has ls 3 [(0, .ref aX), (1, .int x1)] := hl
  refine lv_iload_n hx hb dX3_back_0 rfl (lv_at hl 1 rfl) ?_
  refine lv_aload_n hx hb dX3_back_1 rfl (lv_at hl 0 rfl) ?_
  refine va_get (D := D) (ci := 3) (v := .ref aB) (C := RX3) (T := TX3) (N := 6) hx hb hts iX3 hown hK hP 0 rfl rfl 1 (by decide) (hts (.fieldLink RX3 20 "LightBursts" "book" "LLightBursts$Book;") (List.mem_of_getElem? (i := 1) rfl)) (fun _ h9 => h9) rfl dX3_back_2 ?_
  refine va_getN (D := D) (ci := 0) (v := .int told) (C := RX0) (T := TX0) (N := 5) hx hb hts iX0 hown hK hP 1 rfl rfl 1 (by decide) (va_Nw.use rfl (hN (.fieldLinkNest RX3 77 "LightBursts$Book" "told" "I" RX3) (List.mem_of_getElem? (i := 5) rfl))) (fun _ h9 => h9) rfl dX3_back_5 ?_
  refine kI (wr := LBw aX aB aB1 aB2 aT aP kp ++ BKw cA aB aR aL aF now told rf lf ff) (W1 := ([] : va_W)) (wsN := LBw aX aB aB1 aB2 aT aP kp ++ BKw cA aB aR aL aF now told rf lf ff) (rS (As := [.int x1, .int told]) (rest := []) (W0 := ([] : va_W)) ⟨hx, hb, hml, hown, hts⟩ (c_X3_isBelow l D cA cZ s.heap.size x1 told) (cwS 2 hts gX3_back_X3_isBelow rfl rfl rfl (by decide +kernel) ⟨Nat.le_of_ble_eq_true rfl, Nat.le_of_ble_eq_true rfl⟩) hP hD hK hN ([] : List Nat) rfl rfl rfl hl.1 rfl (Nat.le_of_ble_eq_true rfl) dX3_back_8 ⟨Nat.zero_le _, Nat.zero_le _⟩) hP hD hS hA [] [0, 1, 2, 3, 4] [0, 1, 2, 3, 4] rfl rfl rfl (by decide) rfl rfl (fun H locs hP hD hS => ?_)
  refine lv_if_ne (tgt := 16) hx hb dX3_back_11 (by decide) (fun c_1 => ?_) (fun c_1 => ?_)
  · refine lv_aload_n hx hb dX3_back_16 rfl (lv_at hl 0 rfl) ?_
    refine va_get (D := D) (ci := 3) (v := .ref aB) (C := RX3) (T := TX3) (N := 6) hx hb hts iX3 hown hK hP 0 rfl rfl 1 (by decide) (hts (.fieldLink RX3 20 "LightBursts" "book" "LLightBursts$Book;") (List.mem_of_getElem? (i := 1) rfl)) (fun _ h9 => h9) rfl dX3_back_17 ?_
    refine lv_iload_n hx hb dX3_back_20 rfl (lv_at hl 1 rfl) ?_
    refine lv_iconst (v := 5) hx hb dX3_back_21 (by decide) ?_
    refine kI (wr := LBw aX aB aB1 aB2 aT aP kp) (W1 := BKw cA aB aR aL aF now told rf lf ff) (wsN := LBw aX aB aB1 aB2 aT aP kp ++ BKw cA aB aR aL aF now told rf lf ff) (rVN (As := [.int x1, .int 5]) (rest := []) (W0 := BKw cA aB aR aL aF now told rf lf ff) ⟨hx, hb, hml, hown, hts⟩ (c_X0_fact l D cA cZ aB aR aL aF H.size now told rf lf ff x1 5) ⟨va_cnB 2 hts gX3_back_X0_fact_n99 rfl rfl rfl (hN (.methodLinkNest RX3 99 yX0_fact RX3) (List.mem_of_getElem? (i := 32) rfl)) (hts (.initialized RX0) (List.mem_of_getElem? (i := 7) rfl)) (by decide +kernel) ⟨Nat.le_of_ble_eq_true rfl, Nat.le_of_ble_eq_true rfl⟩, (hts (.instanceMethod yX0_fact) (List.mem_of_getElem? (i := 6) rfl)), (hts (.selects RX0 yX0_fact yX0_fact) (List.mem_of_getElem? (i := 8) rfl))⟩ hP hD hK hN ([1, 2, 3, 4] : List Nat) rfl rfl 0 0 rfl rfl rfl hl.1 rfl (Nat.le_of_ble_eq_true rfl) dX3_back_22 ⟨Nat.zero_le _, Nat.zero_le _⟩) hP hD hS hA [1, 2, 3, 4] [0] [0, 1, 2, 3, 4] rfl rfl rfl (by decide) rfl rfl (fun H locs hP hD hS => ?_)
    refine lv_aload_n hx hb dX3_back_25 rfl (lv_at hl 0 rfl) ?_
    refine va_get (D := D) (ci := 3) (v := .ref aB) (C := RX3) (T := TX3) (N := 6) hx hb hts iX3 hown hK hP 0 rfl rfl 1 (by decide) (hts (.fieldLink RX3 20 "LightBursts" "book" "LLightBursts$Book;") (List.mem_of_getElem? (i := 1) rfl)) (fun _ h9 => h9) rfl dX3_back_26 ?_
    refine va_getN (D := D) (ci := 0) (v := .int now) (C := RX0) (T := TX0) (N := 5) hx hb hts iX0 hown hK hP 1 rfl rfl 0 (by decide) (va_Nw.use rfl (hN (.fieldLinkNest RX3 67 "LightBursts$Book" "now" "I" RX3) (List.mem_of_getElem? (i := 3) rfl))) (fun _ h9 => h9) rfl dX3_back_29 ?_
    refine lv_icmp_gt (tgt := 38) hx hb dX3_back_32 (by decide) (fun c_2 => ?_) (fun c_2 => ?_)
    · refine lv_aload_n hx hb dX3_back_38 rfl (lv_at hl 0 rfl) ?_
      refine va_get (D := D) (ci := 3) (v := .ref aB) (C := RX3) (T := TX3) (N := 6) hx hb hts iX3 hown hK hP 0 rfl rfl 1 (by decide) (hts (.fieldLink RX3 20 "LightBursts" "book" "LLightBursts$Book;") (List.mem_of_getElem? (i := 1) rfl)) (fun _ h9 => h9) rfl dX3_back_39 ?_
      refine lv_iload_n hx hb dX3_back_42 rfl (lv_at hl 1 rfl) ?_
      refine lv_bipush (v := 6) hx hb dX3_back_43 (by decide) ?_
      refine kI (wr := LBw aX aB aB1 aB2 aT aP kp) (W1 := BKw cA aB aR aL aF now told rf lf ff) (wsN := LBw aX aB aB1 aB2 aT aP kp ++ BKw cA aB aR aL aF now told rf lf ff) (rVN (As := [.int x1, .int 6]) (rest := []) (W0 := BKw cA aB aR aL aF now told rf lf ff) ⟨hx, hb, hml, hown, hts⟩ (c_X0_fact l D cA cZ aB aR aL aF H.size now told rf lf ff x1 6) ⟨va_cnB 2 hts gX3_back_X0_fact_n99 rfl rfl rfl (hN (.methodLinkNest RX3 99 yX0_fact RX3) (List.mem_of_getElem? (i := 32) rfl)) (hts (.initialized RX0) (List.mem_of_getElem? (i := 7) rfl)) (by decide +kernel) ⟨Nat.le_of_ble_eq_true rfl, Nat.le_of_ble_eq_true rfl⟩, (hts (.instanceMethod yX0_fact) (List.mem_of_getElem? (i := 6) rfl)), (hts (.selects RX0 yX0_fact yX0_fact) (List.mem_of_getElem? (i := 8) rfl))⟩ hP hD hK hN ([1, 2, 3, 4] : List Nat) rfl rfl 0 0 rfl rfl rfl hl.1 rfl (Nat.le_of_ble_eq_true rfl) dX3_back_45 ⟨Nat.zero_le _, Nat.zero_le _⟩) hP hD hS hA [1, 2, 3, 4] [0] [0, 1, 2, 3, 4] rfl rfl rfl (by decide) rfl rfl (fun H locs hP hD hS => ?_)
      refine lv_iconst (v := 4) hx hb dX3_back_48 (by decide) ?_
      refine lv_icmp_ne (tgt := 55) hx hb dX3_back_49 (by decide) (fun c_3 => ?_) (fun c_3 => ?_)
      · refine lv_aload_n hx hb dX3_back_55 rfl (lv_at hl 0 rfl) ?_
        refine va_get (D := D) (ci := 3) (v := .ref aB) (C := RX3) (T := TX3) (N := 6) hx hb hts iX3 hown hK hP 0 rfl rfl 1 (by decide) (hts (.fieldLink RX3 20 "LightBursts" "book" "LLightBursts$Book;") (List.mem_of_getElem? (i := 1) rfl)) (fun _ h9 => h9) rfl dX3_back_56 ?_
        refine lv_iload_n hx hb dX3_back_59 rfl (lv_at hl 1 rfl) ?_
        refine lv_bipush (v := 9) hx hb dX3_back_60 (by decide) ?_
        refine kI (wr := LBw aX aB aB1 aB2 aT aP kp) (W1 := BKw cA aB aR aL aF now told rf lf ff) (wsN := LBw aX aB aB1 aB2 aT aP kp ++ BKw cA aB aR aL aF now told rf lf ff) (rVN (As := [.int x1, .int 9]) (rest := []) (W0 := BKw cA aB aR aL aF now told rf lf ff) ⟨hx, hb, hml, hown, hts⟩ (c_X0_fact l D cA cZ aB aR aL aF H.size now told rf lf ff x1 9) ⟨va_cnB 2 hts gX3_back_X0_fact_n99 rfl rfl rfl (hN (.methodLinkNest RX3 99 yX0_fact RX3) (List.mem_of_getElem? (i := 32) rfl)) (hts (.initialized RX0) (List.mem_of_getElem? (i := 7) rfl)) (by decide +kernel) ⟨Nat.le_of_ble_eq_true rfl, Nat.le_of_ble_eq_true rfl⟩, (hts (.instanceMethod yX0_fact) (List.mem_of_getElem? (i := 6) rfl)), (hts (.selects RX0 yX0_fact yX0_fact) (List.mem_of_getElem? (i := 8) rfl))⟩ hP hD hK hN ([1, 2, 3, 4] : List Nat) rfl rfl 0 0 rfl rfl rfl hl.1 rfl (Nat.le_of_ble_eq_true rfl) dX3_back_62 ⟨Nat.zero_le _, Nat.zero_le _⟩) hP hD hS hA [1, 2, 3, 4] [0] [0, 1, 2, 3, 4] rfl rfl rfl (by decide) rfl rfl (fun H locs hP hD hS => ?_)
        refine lv_istore_n (lv' := [(2, .int (g_X0_fact ff x1 9)), (0, .ref aX), (1, .int x1)]) hx hb dX3_back_65 rfl hl (by decide) rfl (fun ls hl => ?_)
        refine lv_aload_n hx hb dX3_back_66 rfl (lv_at hl 1 rfl) ?_
        refine va_get (D := D) (ci := 3) (v := .ref aB) (C := RX3) (T := TX3) (N := 6) hx hb hts iX3 hown hK hP 0 rfl rfl 1 (by decide) (hts (.fieldLink RX3 20 "LightBursts" "book" "LLightBursts$Book;") (List.mem_of_getElem? (i := 1) rfl)) (fun _ h9 => h9) rfl dX3_back_67 ?_
        refine lv_iload_n hx hb dX3_back_70 rfl (lv_at hl 2 rfl) ?_
        refine kV (wr := LBw aX aB aB1 aB2 aT aP kp) (W1 := BKw cA aB aR aL aF now told rf lf (g_X0_takeBack ff x1)) (wsN := LBw aX aB aB1 aB2 aT aP kp ++ BKw cA aB aR aL aF now told rf lf (g_X0_takeBack ff x1)) (rVN (As := [.int x1]) (rest := []) (W0 := BKw cA aB aR aL aF now told rf lf ff) ⟨hx, hb, hml, hown, hts⟩ (c_X0_takeBack l D cA cZ aB aR aL aF H.size now told rf lf ff x1) ⟨va_cnB 1 hts gX3_back_X0_takeBack_n102 rfl rfl rfl (hN (.methodLinkNest RX3 102 yX0_takeBack RX3) (List.mem_of_getElem? (i := 33) rfl)) (hts (.initialized RX0) (List.mem_of_getElem? (i := 7) rfl)) (by decide +kernel) ⟨Nat.le_of_ble_eq_true rfl, Nat.le_of_ble_eq_true rfl⟩, (hts (.instanceMethod yX0_takeBack) (List.mem_of_getElem? (i := 11) rfl)), (hts (.selects RX0 yX0_takeBack yX0_takeBack) (List.mem_of_getElem? (i := 12) rfl))⟩ hP hD hK hN ([1, 2, 3, 4] : List Nat) rfl rfl 0 0 rfl rfl rfl hl.1 rfl (Nat.le_of_ble_eq_true rfl) dX3_back_71 ⟨Nat.zero_le _, Nat.zero_le _⟩) hP hD hS hA [1, 2, 3, 4] [0] [0, 1, 2, 3, 4] rfl rfl rfl (by decide) rfl rfl (fun H locs hP hD hS => ?_)
        refine lv_iload_n hx hb dX3_back_74 rfl (lv_at hl 0 rfl) ?_
        rw [g_X3_back, if_neg c_1, if_pos c_2, if_neg c_3] at hG
        rw [hG]
        exact W.iret (v := (g_X0_fact ff x1 9)) hx hb hr (fun t ht hW => ⟨⟨_, (), rfl, rfl, by rw [ht]; exact hP, va_K.moved hW.alike hK, hD⟩, hS.F ht⟩) hS.2.2 dX3_back_75
      · refine lv_bipush (v := (-5)) hx hb dX3_back_52 (by decide) ?_
        rw [g_X3_back, if_neg c_1, if_pos c_2, if_pos c_3] at hG
        rw [hG]
        exact W.iret (v := (-5)) hx hb hr (fun t ht hW => ⟨⟨_, (), rfl, rfl, by rw [ht]; exact hP, va_K.moved hW.alike hK, hD⟩, hS.F ht⟩) hS.2.2 dX3_back_54
    · refine lv_bipush (v := (-3)) hx hb dX3_back_35 (by decide) ?_
      rw [g_X3_back, if_neg c_1, if_neg c_2] at hG
      rw [hG]
      exact W.iret (v := (-3)) hx hb hr (fun t ht hW => ⟨⟨_, (), rfl, rfl, by rw [ht]; exact hP, va_K.moved hW.alike hK, hD⟩, hS.F ht⟩) hS.2.2 dX3_back_37
  · refine lv_iconst (v := (-1)) hx hb dX3_back_14 (by decide) ?_
    rw [g_X3_back, if_pos c_1] at hG
    rw [hG]
    exact W.iret (v := (-1)) hx hb hr (fun t ht hW => ⟨⟨_, (), rfl, rfl, by rw [ht]; exact hP, va_K.moved hW.alike hK, hD⟩, hS.F ht⟩) hS.2.2 dX3_back_15

def g_X3_burst (told : Int32) (ff : (Nat → Int32)) (x1 : Int32) (x2 : Int32) : Int32 := (if (g_X3_isBelow x1 told) = 0 then (-1) else (if (g_X3_isBelow x2 11) = 0 then (-2) else (g_X0_fact ff x1 x2)))
set_option maxHeartbeats 4000000 in
set_option maxRecDepth 100000 in
theorem c_X3_burst (l : Launch) (D : va_G) (cA cZ : ClassId) (aX : Nat) (aB : Nat) (aB1 : Nat) (aB2 : Nat) (aT : Nat) (aP : Nat) (aR : Nat) (aL : Nat) (aF : Nat) (szz : Nat) (kp : Int32) (now : Int32) (told : Int32) (rf : (Nat → Int32)) (lf : (Nat → Int32)) (ff : (Nat → Int32)) (x1 : Int32) (x2 : Int32) : MetI l yX3_burst wsX3_burst 2 44 D (tyA cA cZ) [.ref aX, .int x1, .int x2] (LBw aX aB aB1 aB2 aT aP kp ++ BKw cA aB aR aL aF now told rf lf ff) szz (g_X3_burst told ff x1 x2) (LBw aX aB aB1 aB2 aT aP kp ++ BKw cA aB aR aL aF now told rf lf ff) := by
  refine Met.ofW (cc := cX3_burst) (maxL := 3) (ret := (some .int)) (by decide) rfl ?_
  intro p e s m args below meth c s₁ B hml hv
  obtain ⟨rfl, hsz, hP, hK, hD0, hN⟩ := hv
  have hx := B.exec
  have hb := B.bytes
  have hr := B.returns
  have hts := atoms_spec (ws := wsX3_burst) B.pre
  have hown : s.vm.findClass RX3 = some m.cls := findClass_of_methodNamed B.named
  have hlocks := B.notSynchronized
  have iX3 : ∀ w ∈ wsX30, w ∈ wsX3_burst := fun _ h => List.mem_cons_of_mem _ (List.mem_append_left _ (List.mem_append_right _ h))
  have iX0 : ∀ w ∈ wsX00, w ∈ wsX3_burst := fun _ h => List.mem_cons_of_mem _ (List.mem_append_right _ h)
  subst hsz
  have hD := hD0.self (sz := s.heap.size)
  generalize hAe : va_A (LBw aX aB aB1 aB2 aT aP kp ++ BKw cA aB aR aL aF now told rf lf ff) s.heap.size = A at hD ⊢
  have hA : ∀ q : Nat, s.heap.size ≤ q → A q := fun q h => by rw [← hAe]; exact Or.inr h
  have hS : va_S A s.heap s.heap [] := va_S.rf
  have hP : va_P D vwCl (LBw aX aB aB1 aB2 aT aP kp ++ BKw cA aB aR aL aF now told rf lf ff) s.heap := hP
  obtain ⟨G, hG⟩ : ∃ G, G = (g_X3_burst told ff x1 x2) := ⟨_, rfl⟩
  rw [← hG]
  have hl := lv_entry ([.ref aX, .int x1, .int x2]) (n := 3) (Nat.le_of_ble_eq_true rfl)
  rw [lg_entry_eq]
  generalize (lg_sl ([.ref aX, .int x1, .int x2]) ++ List.replicate (3 - (lg_sl ([.ref aX, .int x1, .int x2])).length) Slot.unset).toArray = ls at hl ⊢
  have hl : lv_has ls 3 [(0, .ref aX), (1, .int x1), (2, .int x2)] := hl
  refine lv_iload_n hx hb dX3_burst_0 rfl (lv_at hl 1 rfl) ?_
  refine lv_aload_n hx hb dX3_burst_1 rfl (lv_at hl 0 rfl) ?_
  refine va_get (D := D) (ci := 3) (v := .ref aB) (C := RX3) (T := TX3) (N := 6) hx hb hts iX3 hown hK hP 0 rfl rfl 1 (by decide) (hts (.fieldLink RX3 20 "LightBursts" "book" "LLightBursts$Book;") (List.mem_of_getElem? (i := 1) rfl)) (fun _ h9 => h9) rfl dX3_burst_2 ?_
  refine va_getN (D := D) (ci := 0) (v := .int told) (C := RX0) (T := TX0) (N := 5) hx hb hts iX0 hown hK hP 1 rfl rfl 1 (by decide) (va_Nw.use rfl (hN (.fieldLinkNest RX3 77 "LightBursts$Book" "told" "I" RX3) (List.mem_of_getElem? (i := 5) rfl))) (fun _ h9 => h9) rfl dX3_burst_5 ?_
  refine kI (wr := LBw aX aB aB1 aB2 aT aP kp ++ BKw cA aB aR aL aF now told rf lf ff) (W1 := ([] : va_W)) (wsN := LBw aX aB aB1 aB2 aT aP kp ++ BKw cA aB aR aL aF now told rf lf ff) (rS (As := [.int x1, .int told]) (rest := []) (W0 := ([] : va_W)) ⟨hx, hb, hml, hown, hts⟩ (c_X3_isBelow l D cA cZ s.heap.size x1 told) (cwS 2 hts gX3_burst_X3_isBelow rfl rfl rfl (by decide +kernel) ⟨Nat.le_of_ble_eq_true rfl, Nat.le_of_ble_eq_true rfl⟩) hP hD hK hN ([] : List Nat) rfl rfl rfl hl.1 rfl (Nat.le_of_ble_eq_true rfl) dX3_burst_8 ⟨Nat.zero_le _, Nat.zero_le _⟩) hP hD hS hA [] [0, 1, 2, 3, 4] [0, 1, 2, 3, 4] rfl rfl rfl (by decide) rfl rfl (fun H locs hP hD hS => ?_)
  refine lv_if_ne (tgt := 16) hx hb dX3_burst_11 (by decide) (fun c_1 => ?_) (fun c_1 => ?_)
  · refine lv_iload_n hx hb dX3_burst_16 rfl (lv_at hl 2 rfl) ?_
    refine lv_bipush (v := 11) hx hb dX3_burst_17 (by decide) ?_
    refine kI (wr := LBw aX aB aB1 aB2 aT aP kp ++ BKw cA aB aR aL aF now told rf lf ff) (W1 := ([] : va_W)) (wsN := LBw aX aB aB1 aB2 aT aP kp ++ BKw cA aB aR aL aF now told rf lf ff) (rS (As := [.int x2, .int 11]) (rest := []) (W0 := ([] : va_W)) ⟨hx, hb, hml, hown, hts⟩ (c_X3_isBelow l D cA cZ H.size x2 11) (cwS 2 hts gX3_burst_X3_isBelow rfl rfl rfl (by decide +kernel) ⟨Nat.le_of_ble_eq_true rfl, Nat.le_of_ble_eq_true rfl⟩) hP hD hK hN ([] : List Nat) rfl rfl rfl hl.1 rfl (Nat.le_of_ble_eq_true rfl) dX3_burst_19 ⟨Nat.zero_le _, Nat.zero_le _⟩) hP hD hS hA [] [0, 1, 2, 3, 4] [0, 1, 2, 3, 4] rfl rfl rfl (by decide) rfl rfl (fun H locs hP hD hS => ?_)
    refine lv_if_eq (tgt := 37) hx hb dX3_burst_22 (by decide) (fun c_2 => ?_) (fun c_2 => ?_)
    · refine lv_bipush (v := (-2)) hx hb dX3_burst_37 (by decide) ?_
      rw [g_X3_burst, if_neg c_1, if_pos c_2] at hG
      rw [hG]
      exact W.iret (v := (-2)) hx hb hr (fun t ht hW => ⟨⟨_, (), rfl, rfl, by rw [ht]; exact hP, va_K.moved hW.alike hK, hD⟩, hS.F ht⟩) hS.2.2 dX3_burst_39
    · refine lv_aload_n hx hb dX3_burst_25 rfl (lv_at hl 0 rfl) ?_
      refine va_get (D := D) (ci := 3) (v := .ref aB) (C := RX3) (T := TX3) (N := 6) hx hb hts iX3 hown hK hP 0 rfl rfl 1 (by decide) (hts (.fieldLink RX3 20 "LightBursts" "book" "LLightBursts$Book;") (List.mem_of_getElem? (i := 1) rfl)) (fun _ h9 => h9) rfl dX3_burst_26 ?_
      refine lv_iload_n hx hb dX3_burst_29 rfl (lv_at hl 1 rfl) ?_
      refine lv_iload_n hx hb dX3_burst_30 rfl (lv_at hl 2 rfl) ?_
      refine kI (wr := LBw aX aB aB1 aB2 aT aP kp) (W1 := BKw cA aB aR aL aF now told rf lf ff) (wsN := LBw aX aB aB1 aB2 aT aP kp ++ BKw cA aB aR aL aF now told rf lf ff) (rVN (As := [.int x1, .int x2]) (rest := []) (W0 := BKw cA aB aR aL aF now told rf lf ff) ⟨hx, hb, hml, hown, hts⟩ (c_X0_fact l D cA cZ aB aR aL aF H.size now told rf lf ff x1 x2) ⟨va_cnB 2 hts gX3_burst_X0_fact_n99 rfl rfl rfl (hN (.methodLinkNest RX3 99 yX0_fact RX3) (List.mem_of_getElem? (i := 32) rfl)) (hts (.initialized RX0) (List.mem_of_getElem? (i := 7) rfl)) (by decide +kernel) ⟨Nat.le_of_ble_eq_true rfl, Nat.le_of_ble_eq_true rfl⟩, (hts (.instanceMethod yX0_fact) (List.mem_of_getElem? (i := 6) rfl)), (hts (.selects RX0 yX0_fact yX0_fact) (List.mem_of_getElem? (i := 8) rfl))⟩ hP hD hK hN ([1, 2, 3, 4] : List Nat) rfl rfl 0 0 rfl rfl rfl hl.1 rfl (Nat.le_of_ble_eq_true rfl) dX3_burst_31 ⟨Nat.zero_le _, Nat.zero_le _⟩) hP hD hS hA [1, 2, 3, 4] [0] [0, 1, 2, 3, 4] rfl rfl rfl (by decide) rfl rfl (fun H locs hP hD hS => ?_)
      refine lv_goto (tgt := 39) hx hb dX3_burst_34 (by decide) ?_
      rw [g_X3_burst, if_neg c_1, if_neg c_2] at hG
      rw [hG]
      exact W.iret (v := (g_X0_fact ff x1 x2)) hx hb hr (fun t ht hW => ⟨⟨_, (), rfl, rfl, by rw [ht]; exact hP, va_K.moved hW.alike hK, hD⟩, hS.F ht⟩) hS.2.2 dX3_burst_39
  · refine lv_iconst (v := (-1)) hx hb dX3_burst_14 (by decide) ?_
    rw [g_X3_burst, if_pos c_1] at hG
    rw [hG]
    exact W.iret (v := (-1)) hx hb hr (fun t ht hW => ⟨⟨_, (), rfl, rfl, by rw [ht]; exact hP, va_K.moved hW.alike hK, hD⟩, hS.F ht⟩) hS.2.2 dX3_burst_15

def g_X3_ofBooking (sz : Int32) (bf : (Nat → Int32)) (gf : (Nat → Int32)) (ef : (Nat → Int32)) (x1 : Int32) (x2 : Int32) : Int32 := (if x2 = 0 then (g_X2_begin sz gf x1) else (if x2 = 1 then (g_X2_ticks sz gf ef x1) else (if x2 = 2 then (g_X2_burstOf sz bf x1) else (-2))))
set_option maxHeartbeats 4000000 in
set_option maxRecDepth 100000 in
theorem c_X3_ofBooking (l : Launch) (D : va_G) (cA cZ : ClassId) (aX : Nat) (aB : Nat) (aB1 : Nat) (aB2 : Nat) (aT : Nat) (aP : Nat) (aU : Nat) (aG : Nat) (aE : Nat) (szz : Nat) (kp : Int32) (sz : Int32) (bf : (Nat → Int32)) (gf : (Nat → Int32)) (ef : (Nat → Int32)) (x1 : Int32) (x2 : Int32) (hsz : sz ≤ 48) : MetI l yX3_ofBooking wsX3_ofBooking 3 63 D (tyA cA cZ) [.ref aX, .int x1, .int x2] (LBw aX aB aB1 aB2 aT aP kp ++ TRw cA aT aU aG aE sz bf gf ef) szz (g_X3_ofBooking sz bf gf ef x1 x2) (LBw aX aB aB1 aB2 aT aP kp ++ TRw cA aT aU aG aE sz bf gf ef) := by
  refine Met.ofW (cc := cX3_ofBooking) (maxL := 3) (ret := (some .int)) (by decide) rfl ?_
  intro p e s m args below meth c s₁ B hml hv
  obtain ⟨rfl, hsz, hP, hK, hD0, hN⟩ := hv
  have hx := B.exec
  have hb := B.bytes
  have hr := B.returns
  have hts := atoms_spec (ws := wsX3_ofBooking) B.pre
  have hown : s.vm.findClass RX3 = some m.cls := findClass_of_methodNamed B.named
  have hlocks := B.notSynchronized
  have iX3 : ∀ w ∈ wsX30, w ∈ wsX3_ofBooking := fun _ h => List.mem_cons_of_mem _ (List.mem_append_left _ (List.mem_append_right _ h))
  have iX2 : ∀ w ∈ wsX20, w ∈ wsX3_ofBooking := fun _ h => List.mem_cons_of_mem _ (List.mem_append_right _ h)
  subst hsz
  have hD := hD0.self (sz := s.heap.size)
  generalize hAe : va_A (LBw aX aB aB1 aB2 aT aP kp ++ TRw cA aT aU aG aE sz bf gf ef) s.heap.size = A at hD ⊢
  have hA : ∀ q : Nat, s.heap.size ≤ q → A q := fun q h => by rw [← hAe]; exact Or.inr h
  have hS : va_S A s.heap s.heap [] := va_S.rf
  have hP : va_P D vwCl (LBw aX aB aB1 aB2 aT aP kp ++ TRw cA aT aU aG aE sz bf gf ef) s.heap := hP
  obtain ⟨G, hG⟩ : ∃ G, G = (g_X3_ofBooking sz bf gf ef x1 x2) := ⟨_, rfl⟩
  rw [← hG]
  have hl := lv_entry ([.ref aX, .int x1, .int x2]) (n := 3) (Nat.le_of_ble_eq_true rfl)
  rw [lg_entry_eq]
  generalize (lg_sl ([.ref aX, .int x1, .int x2]) ++ List.replicate (3 - (lg_sl ([.ref aX, .int x1, .int x2])).length) Slot.unset).toArray = ls at hl ⊢
  have hl : lv_has ls 3 [(0, .ref aX), (1, .int x1), (2, .int x2)] := hl
  refine lv_iload_n hx hb dX3_ofBooking_0 rfl (lv_at hl 2 rfl) ?_
  rcases Decidable.em (x2 = 0) with c_1 | c_1
  · refine lv_tableIn (off := 27) (tgt := 28) hx hb dX3_ofBooking_1 (by rw [c_1]; decide) (by rw [c_1]; decide) (by rw [c_1]; rfl) (by decide) ?_
    refine lv_aload_n hx hb dX3_ofBooking_28 rfl (lv_at hl 0 rfl) ?_
    refine va_get (D := D) (ci := 3) (v := .ref aT) (C := RX3) (T := TX3) (N := 6) hx hb hts iX3 hown hK hP 0 rfl rfl 2 (by decide) (hts (.fieldLink RX3 25 "LightBursts" "track" "LLightBursts$Track;") (List.mem_of_getElem? (i := 1) rfl)) (fun _ h9 => h9) rfl dX3_ofBooking_29 ?_
    refine lv_iload_n hx hb dX3_ofBooking_32 rfl (lv_at hl 1 rfl) ?_
    refine kI (wr := LBw aX aB aB1 aB2 aT aP kp) (W1 := TRw cA aT aU aG aE sz bf gf ef) (wsN := LBw aX aB aB1 aB2 aT aP kp ++ TRw cA aT aU aG aE sz bf gf ef) (rVN (As := [.int x1]) (rest := []) (W0 := TRw cA aT aU aG aE sz bf gf ef) ⟨hx, hb, hml, hown, hts⟩ (c_X2_begin l D cA cZ aT aU aG aE s.heap.size sz bf gf ef x1 (show sz ≤ 48 from by exact hsz)) ⟨va_cnB 1 hts gX3_ofBooking_X2_begin_n134 rfl rfl rfl (hN (.methodLinkNest RX3 134 yX2_begin RX3) (List.mem_of_getElem? (i := 35) rfl)) (hts (.initialized RX2) (List.mem_of_getElem? (i := 3) rfl)) (by decide +kernel) ⟨Nat.le_of_ble_eq_true rfl, Nat.le_of_ble_eq_true rfl⟩, (hts (.instanceMethod yX2_begin) (List.mem_of_getElem? (i := 2) rfl)), (hts (.selects RX2 yX2_begin yX2_begin) (List.mem_of_getElem? (i := 4) rfl))⟩ hP hD hK hN ([1, 2, 3, 4] : List Nat) rfl rfl 2 0 rfl rfl rfl hl.1 rfl (Nat.le_of_ble_eq_true rfl) dX3_ofBooking_33 ⟨Nat.zero_le _, Nat.zero_le _⟩) hP hD hS hA [1, 2, 3, 4] [0] [0, 1, 2, 3, 4] rfl rfl rfl (by decide) rfl rfl (fun H locs hP hD hS => ?_)
    rw [g_X3_ofBooking, if_pos c_1] at hG
    rw [hG]
    exact W.iret (v := (g_X2_begin sz gf x1)) hx hb hr (fun t ht hW => ⟨⟨_, (), rfl, rfl, by rw [ht]; exact hP, va_K.moved hW.alike hK, hD⟩, hS.F ht⟩) hS.2.2 dX3_ofBooking_36
  · rcases Decidable.em (x2 = 1) with c_2 | c_2
    · refine lv_tableIn (off := 36) (tgt := 37) hx hb dX3_ofBooking_1 (by rw [c_2]; decide) (by rw [c_2]; decide) (by rw [c_2]; rfl) (by decide) ?_
      refine lv_aload_n hx hb dX3_ofBooking_37 rfl (lv_at hl 0 rfl) ?_
      refine va_get (D := D) (ci := 3) (v := .ref aT) (C := RX3) (T := TX3) (N := 6) hx hb hts iX3 hown hK hP 0 rfl rfl 2 (by decide) (hts (.fieldLink RX3 25 "LightBursts" "track" "LLightBursts$Track;") (List.mem_of_getElem? (i := 1) rfl)) (fun _ h9 => h9) rfl dX3_ofBooking_38 ?_
      refine lv_iload_n hx hb dX3_ofBooking_41 rfl (lv_at hl 1 rfl) ?_
      refine kI (wr := LBw aX aB aB1 aB2 aT aP kp) (W1 := TRw cA aT aU aG aE sz bf gf ef) (wsN := LBw aX aB aB1 aB2 aT aP kp ++ TRw cA aT aU aG aE sz bf gf ef) (rVN (As := [.int x1]) (rest := []) (W0 := TRw cA aT aU aG aE sz bf gf ef) ⟨hx, hb, hml, hown, hts⟩ (c_X2_ticks l D cA cZ aT aU aG aE s.heap.size sz bf gf ef x1 (show sz ≤ 48 from by exact hsz)) ⟨va_cnB 1 hts gX3_ofBooking_X2_ticks_n171 rfl rfl rfl (hN (.methodLinkNest RX3 171 yX2_ticks RX3) (List.mem_of_getElem? (i := 36) rfl)) (hts (.initialized RX2) (List.mem_of_getElem? (i := 3) rfl)) (by decide +kernel) ⟨Nat.le_of_ble_eq_true rfl, Nat.le_of_ble_eq_true rfl⟩, (hts (.instanceMethod yX2_ticks) (List.mem_of_getElem? (i := 15) rfl)), (hts (.selects RX2 yX2_ticks yX2_ticks) (List.mem_of_getElem? (i := 16) rfl))⟩ hP hD hK hN ([1, 2, 3, 4] : List Nat) rfl rfl 2 0 rfl rfl rfl hl.1 rfl (Nat.le_of_ble_eq_true rfl) dX3_ofBooking_42 ⟨Nat.zero_le _, Nat.zero_le _⟩) hP hD hS hA [1, 2, 3, 4] [0] [0, 1, 2, 3, 4] rfl rfl rfl (by decide) rfl rfl (fun H locs hP hD hS => ?_)
      rw [g_X3_ofBooking, if_neg c_1, if_pos c_2] at hG
      rw [hG]
      exact W.iret (v := (g_X2_ticks sz gf ef x1)) hx hb hr (fun t ht hW => ⟨⟨_, (), rfl, rfl, by rw [ht]; exact hP, va_K.moved hW.alike hK, hD⟩, hS.F ht⟩) hS.2.2 dX3_ofBooking_45
    · rcases Decidable.em (x2 = 2) with c_3 | c_3
      · refine lv_tableIn (off := 45) (tgt := 46) hx hb dX3_ofBooking_1 (by rw [c_3]; decide) (by rw [c_3]; decide) (by rw [c_3]; rfl) (by decide) ?_
        refine lv_aload_n hx hb dX3_ofBooking_46 rfl (lv_at hl 0 rfl) ?_
        refine va_get (D := D) (ci := 3) (v := .ref aT) (C := RX3) (T := TX3) (N := 6) hx hb hts iX3 hown hK hP 0 rfl rfl 2 (by decide) (hts (.fieldLink RX3 25 "LightBursts" "track" "LLightBursts$Track;") (List.mem_of_getElem? (i := 1) rfl)) (fun _ h9 => h9) rfl dX3_ofBooking_47 ?_
        refine lv_iload_n hx hb dX3_ofBooking_50 rfl (lv_at hl 1 rfl) ?_
        refine kI (wr := LBw aX aB aB1 aB2 aT aP kp) (W1 := TRw cA aT aU aG aE sz bf gf ef) (wsN := LBw aX aB aB1 aB2 aT aP kp ++ TRw cA aT aU aG aE sz bf gf ef) (rVN (As := [.int x1]) (rest := []) (W0 := TRw cA aT aU aG aE sz bf gf ef) ⟨hx, hb, hml, hown, hts⟩ (c_X2_burstOf l D cA cZ aT aU aG aE s.heap.size sz bf gf ef x1 (show sz ≤ 48 from by exact hsz)) ⟨va_cnB 1 hts gX3_ofBooking_X2_burstOf_n174 rfl rfl rfl (hN (.methodLinkNest RX3 174 yX2_burstOf RX3) (List.mem_of_getElem? (i := 37) rfl)) (hts (.initialized RX2) (List.mem_of_getElem? (i := 3) rfl)) (by decide +kernel) ⟨Nat.le_of_ble_eq_true rfl, Nat.le_of_ble_eq_true rfl⟩, (hts (.instanceMethod yX2_burstOf) (List.mem_of_getElem? (i := 19) rfl)), (hts (.selects RX2 yX2_burstOf yX2_burstOf) (List.mem_of_getElem? (i := 20) rfl))⟩ hP hD hK hN ([1, 2, 3, 4] : List Nat) rfl rfl 2 0 rfl rfl rfl hl.1 rfl (Nat.le_of_ble_eq_true rfl) dX3_ofBooking_51 ⟨Nat.zero_le _, Nat.zero_le _⟩) hP hD hS hA [1, 2, 3, 4] [0] [0, 1, 2, 3, 4] rfl rfl rfl (by decide) rfl rfl (fun H locs hP hD hS => ?_)
        rw [g_X3_ofBooking, if_neg c_1, if_neg c_2, if_pos c_3] at hG
        rw [hG]
        exact W.iret (v := (g_X2_burstOf sz bf x1)) hx hb hr (fun t ht hW => ⟨⟨_, (), rfl, rfl, by rw [ht]; exact hP, va_K.moved hW.alike hK, hD⟩, hS.F ht⟩) hS.2.2 dX3_ofBooking_54
      · refine lv_tableOut (tgt := 55) hx hb dX3_ofBooking_1 (sw_out3 c_1 c_2 c_3) (by decide) ?_
        refine lv_bipush (v := (-2)) hx hb dX3_ofBooking_55 (by decide) ?_
        rw [g_X3_ofBooking, if_neg c_1, if_neg c_2, if_neg c_3] at hG
        rw [hG]
        exact W.iret (v := (-2)) hx hb hr (fun t ht hW => ⟨⟨_, (), rfl, rfl, by rw [ht]; exact hP, va_K.moved hW.alike hK, hD⟩, hS.F ht⟩) hS.2.2 dX3_ofBooking_57

def g_X3_booking (told : Int32) (ff : (Nat → Int32)) (sz : Int32) (bf : (Nat → Int32)) (gf : (Nat → Int32)) (ef : (Nat → Int32)) (x1 : Int32) (x2 : Int32) (x3 : Int32) (x4 : Int32) : Int32 × Int32 × (Nat → Int32) × (Nat → Int32) × (Nat → Int32) := (if (g_X3_isColour x1 x2) = 0 then ((-1), sz, bf, gf, ef) else ((g_X3_ofBooking ((g_X0_showColour told ff bf gf ef x1 x2).1) ((g_X0_showColour told ff bf gf ef x1 x2).2.1) ((g_X0_showColour told ff bf gf ef x1 x2).2.2.1) ((g_X0_showColour told ff bf gf ef x1 x2).2.2.2) x3 x4), (g_X0_showColour told ff bf gf ef x1 x2).1, (g_X0_showColour told ff bf gf ef x1 x2).2.1, (g_X0_showColour told ff bf gf ef x1 x2).2.2.1, (g_X0_showColour told ff bf gf ef x1 x2).2.2.2))
set_option maxHeartbeats 4000000 in
set_option maxRecDepth 100000 in
theorem c_X3_booking (l : Launch) (D : va_G) (cA cZ : ClassId) (aX : Nat) (aB : Nat) (aB1 : Nat) (aB2 : Nat) (aT : Nat) (aP : Nat) (aR : Nat) (aL : Nat) (aF : Nat) (aU : Nat) (aG : Nat) (aE : Nat) (szz : Nat) (kp : Int32) (now : Int32) (told : Int32) (rf : (Nat → Int32)) (lf : (Nat → Int32)) (ff : (Nat → Int32)) (sz : Int32) (bf : (Nat → Int32)) (gf : (Nat → Int32)) (ef : (Nat → Int32)) (x1 : Int32) (x2 : Int32) (x3 : Int32) (x4 : Int32) : MetI l yX3_booking wsX3_booking 4 85 D (tyA cA cZ) [.ref aX, .int x1, .int x2, .int x3, .int x4] (LBw aX aB aB1 aB2 aT aP kp ++ BKw cA aB aR aL aF now told rf lf ff ++ TRw cA aT aU aG aE sz bf gf ef) szz (g_X3_booking told ff sz bf gf ef x1 x2 x3 x4).1 (LBw aX aB aB1 aB2 aT aP kp ++ BKw cA aB aR aL aF now told rf lf ff ++ TRw cA aT aU aG aE ((g_X3_booking told ff sz bf gf ef x1 x2 x3 x4).2.1) ((g_X3_booking told ff sz bf gf ef x1 x2 x3 x4).2.2.1) ((g_X3_booking told ff sz bf gf ef x1 x2 x3 x4).2.2.2.1) ((g_X3_booking told ff sz bf gf ef x1 x2 x3 x4).2.2.2.2)) := by
  refine Met.ofW (cc := cX3_booking) (maxL := 5) (ret := (some .int)) (by decide) rfl ?_
  intro p e s m args below meth c s₁ B hml hv
  obtain ⟨rfl, hsz, hP, hK, hD0, hN⟩ := hv
  have hx := B.exec
  have hb := B.bytes
  have hr := B.returns
  have hts := atoms_spec (ws := wsX3_booking) B.pre
  have hown : s.vm.findClass RX3 = some m.cls := findClass_of_methodNamed B.named
  have hlocks := B.notSynchronized
  have iX3 : ∀ w ∈ wsX30, w ∈ wsX3_booking := fun _ h => List.mem_cons_of_mem _ (List.mem_append_left _ (List.mem_append_left _ (List.mem_append_right _ h)))
  have iX0 : ∀ w ∈ wsX00, w ∈ wsX3_booking := fun _ h => List.mem_cons_of_mem _ (List.mem_append_left _ (List.mem_append_right _ h))
  have iX2 : ∀ w ∈ wsX20, w ∈ wsX3_booking := fun _ h => List.mem_cons_of_mem _ (List.mem_append_right _ h)
  subst hsz
  have hD := hD0.self (sz := s.heap.size)
  generalize hAe : va_A (LBw aX aB aB1 aB2 aT aP kp ++ BKw cA aB aR aL aF now told rf lf ff ++ TRw cA aT aU aG aE sz bf gf ef) s.heap.size = A at hD ⊢
  have hA : ∀ q : Nat, s.heap.size ≤ q → A q := fun q h => by rw [← hAe]; exact Or.inr h
  have hS : va_S A s.heap s.heap [] := va_S.rf
  have hP : va_P D vwCl (LBw aX aB aB1 aB2 aT aP kp ++ BKw cA aB aR aL aF now told rf lf ff ++ TRw cA aT aU aG aE sz bf gf ef) s.heap := hP
  obtain ⟨G, hG⟩ : ∃ G, G = (g_X3_booking told ff sz bf gf ef x1 x2 x3 x4) := ⟨_, rfl⟩
  rw [← hG]
  have hl := lv_entry ([.ref aX, .int x1, .int x2, .int x3, .int x4]) (n := 5) (Nat.le_of_ble_eq_true rfl)
  rw [lg_entry_eq]
  generalize (lg_sl ([.ref aX, .int x1, .int x2, .int x3, .int x4]) ++ List.replicate (5 - (lg_sl ([.ref aX, .int x1, .int x2, .int x3, .int x4])).length) Slot.unset).toArray = ls at hl ⊢
  have hl : lv_has ls 5 [(0, .ref aX), (1, .int x1), (2, .int x2), (3, .int x3), (4, .int x4)] := hl
  refine lv_iload_n hx hb dX3_booking_0 rfl (lv_at hl 1 rfl) ?_
  refine lv_iload_n hx hb dX3_booking_1 rfl (lv_at hl 2 rfl) ?_
  refine kI (wr := LBw aX aB aB1 aB2 aT aP kp ++ BKw cA aB aR aL aF now told rf lf ff ++ TRw cA aT aU aG aE sz bf gf ef) (W1 := ([] : va_W)) (wsN := LBw aX aB aB1 aB2 aT aP kp ++ BKw cA aB aR aL aF now told rf lf ff ++ TRw cA aT aU aG aE sz bf gf ef) (rS (As := [.int x1, .int x2]) (rest := []) (W0 := ([] : va_W)) ⟨hx, hb, hml, hown, hts⟩ (c_X3_isColour l D cA cZ s.heap.size x1 x2) (cwS 2 hts gX3_booking_X3_isColour rfl rfl rfl (by decide +kernel) ⟨Nat.le_of_ble_eq_true rfl, Nat.le_of_ble_eq_true rfl⟩) hP hD hK hN ([] : List Nat) rfl rfl rfl hl.1 rfl (Nat.le_of_ble_eq_true rfl) dX3_booking_2 ⟨Nat.zero_le _, Nat.zero_le _⟩) hP hD hS hA [] [0, 1, 2, 3, 4, 5, 6, 7, 8] [0, 1, 2, 3, 4, 5, 6, 7, 8] rfl rfl rfl (by decide) rfl rfl (fun H locs hP hD hS => ?_)
  refine lv_if_ne (tgt := 10) hx hb dX3_booking_5 (by decide) (fun c_1 => ?_) (fun c_1 => ?_)
  · refine lv_aload_n hx hb dX3_booking_10 rfl (lv_at hl 0 rfl) ?_
    refine va_get (D := D) (ci := 3) (v := .ref aB) (C := RX3) (T := TX3) (N := 6) hx hb hts iX3 hown hK hP 0 rfl rfl 1 (by decide) (hts (.fieldLink RX3 20 "LightBursts" "book" "LLightBursts$Book;") (List.mem_of_getElem? (i := 1) rfl)) (fun _ h9 => h9) rfl dX3_booking_11 ?_
    refine lv_iload_n hx hb dX3_booking_14 rfl (lv_at hl 1 rfl) ?_
    refine lv_iload_n hx hb dX3_booking_15 rfl (lv_at hl 2 rfl) ?_
    refine lv_aload_n hx hb dX3_booking_16 rfl (lv_at hl 0 rfl) ?_
    refine va_get (D := D) (ci := 3) (v := .ref aT) (C := RX3) (T := TX3) (N := 6) hx hb hts iX3 hown hK hP 0 rfl rfl 2 (by decide) (hts (.fieldLink RX3 25 "LightBursts" "track" "LLightBursts$Track;") (List.mem_of_getElem? (i := 2) rfl)) (fun _ h9 => h9) rfl dX3_booking_17 ?_
    refine kV (wr := LBw aX aB aB1 aB2 aT aP kp) (W1 := BKw cA aB aR aL aF now told rf lf ff ++ TRw cA aT aU aG aE ((g_X0_showColour told ff bf gf ef x1 x2).1) ((g_X0_showColour told ff bf gf ef x1 x2).2.1) ((g_X0_showColour told ff bf gf ef x1 x2).2.2.1) ((g_X0_showColour told ff bf gf ef x1 x2).2.2.2)) (wsN := LBw aX aB aB1 aB2 aT aP kp ++ BKw cA aB aR aL aF now told rf lf ff ++ TRw cA aT aU aG aE ((g_X0_showColour told ff bf gf ef x1 x2).1) ((g_X0_showColour told ff bf gf ef x1 x2).2.1) ((g_X0_showColour told ff bf gf ef x1 x2).2.2.1) ((g_X0_showColour told ff bf gf ef x1 x2).2.2.2)) (rVN (As := [.int x1, .int x2, .ref aT]) (rest := []) (W0 := BKw cA aB aR aL aF now told rf lf ff ++ TRw cA aT aU aG aE sz bf gf ef) ⟨hx, hb, hml, hown, hts⟩ (c_X0_showColour l D cA cZ aB aR aL aF aT aU aG aE H.size now told rf lf ff sz bf gf ef x1 x2) ⟨va_cnB 3 hts gX3_booking_X0_showColour_n108 rfl rfl rfl (hN (.methodLinkNest RX3 108 yX0_showColour RX3) (List.mem_of_getElem? (i := 34) rfl)) (hts (.initialized RX0) (List.mem_of_getElem? (i := 11) rfl)) (by decide +kernel) ⟨Nat.le_of_ble_eq_true rfl, Nat.le_of_ble_eq_true rfl⟩, (hts (.instanceMethod yX0_showColour) (List.mem_of_getElem? (i := 10) rfl)), (hts (.selects RX0 yX0_showColour yX0_showColour) (List.mem_of_getElem? (i := 12) rfl))⟩ hP hD hK hN ([1, 2, 3, 4, 5, 6, 7, 8] : List Nat) rfl rfl 0 0 rfl rfl rfl hl.1 rfl (Nat.le_of_ble_eq_true rfl) dX3_booking_20 ⟨Nat.zero_le _, Nat.zero_le _⟩) hP hD hS hA [1, 2, 3, 4, 5, 6, 7, 8] [0] [0, 1, 2, 3, 4, 5, 6, 7, 8] rfl rfl rfl (by decide) rfl rfl (fun H locs hP hD hS => ?_)
    refine lv_aload_n hx hb dX3_booking_23 rfl (lv_at hl 0 rfl) ?_
    refine lv_iload_n hx hb dX3_booking_24 rfl (lv_at hl 3 rfl) ?_
    refine lv_iload hx hb dX3_booking_25 (lv_at hl 4 rfl) ?_
    refine kI (wr := BKw cA aB aR aL aF now told rf lf ff) (W1 := LBw aX aB aB1 aB2 aT aP kp ++ TRw cA aT aU aG aE ((g_X0_showColour told ff bf gf ef x1 x2).1) ((g_X0_showColour told ff bf gf ef x1 x2).2.1) ((g_X0_showColour told ff bf gf ef x1 x2).2.2.1) ((g_X0_showColour told ff bf gf ef x1 x2).2.2.2)) (wsN := LBw aX aB aB1 aB2 aT aP kp ++ BKw cA aB aR aL aF now told rf lf ff ++ TRw cA aT aU aG aE ((g_X0_showColour told ff bf gf ef x1 x2).1) ((g_X0_showColour told ff bf gf ef x1 x2).2.1) ((g_X0_showColour told ff bf gf ef x1 x2).2.2.1) ((g_X0_showColour told ff bf gf ef x1 x2).2.2.2)) (rV (As := [.int x3, .int x4]) (rest := []) (W0 := LBw aX aB aB1 aB2 aT aP kp ++ TRw cA aT aU aG aE ((g_X0_showColour told ff bf gf ef x1 x2).1) ((g_X0_showColour told ff bf gf ef x1 x2).2.1) ((g_X0_showColour told ff bf gf ef x1 x2).2.2.1) ((g_X0_showColour told ff bf gf ef x1 x2).2.2.2)) ⟨hx, hb, hml, hown, hts⟩ (c_X3_ofBooking l D cA cZ aX aB aB1 aB2 aT aP aU aG aE H.size kp ((g_X0_showColour told ff bf gf ef x1 x2).1) ((g_X0_showColour told ff bf gf ef x1 x2).2.1) ((g_X0_showColour told ff bf gf ef x1 x2).2.2.1) ((g_X0_showColour told ff bf gf ef x1 x2).2.2.2) x3 x4 (show ((g_X0_showColour told ff bf gf ef x1 x2).1) ≤ 48 from by exact showColour_le)) (cwV 2 hts gX3_booking_X3_ofBooking rfl rfl rfl (by decide +kernel) ⟨Nat.le_of_ble_eq_true rfl, Nat.le_of_ble_eq_true rfl⟩) hP hD hK hN ([0, 5, 6, 7, 8] : List Nat) rfl rfl 3 0 rfl rfl rfl hl.1 rfl (Nat.le_of_ble_eq_true rfl) dX3_booking_27 ⟨Nat.zero_le _, Nat.zero_le _⟩) hP hD hS hA [0, 5, 6, 7, 8] [1, 2, 3, 4] [4, 0, 1, 2, 3, 5, 6, 7, 8] rfl rfl rfl (by decide) rfl rfl (fun H locs hP hD hS => ?_)
    rw [g_X3_booking, if_neg c_1] at hG
    rw [hG]
    exact W.iret (v := (g_X3_ofBooking ((g_X0_showColour told ff bf gf ef x1 x2).1) ((g_X0_showColour told ff bf gf ef x1 x2).2.1) ((g_X0_showColour told ff bf gf ef x1 x2).2.2.1) ((g_X0_showColour told ff bf gf ef x1 x2).2.2.2) x3 x4)) hx hb hr (fun t ht hW => ⟨⟨_, (), rfl, rfl, by rw [ht]; exact hP, va_K.moved hW.alike hK, hD⟩, hS.F ht⟩) hS.2.2 dX3_booking_30
  · refine lv_iconst (v := (-1)) hx hb dX3_booking_8 (by decide) ?_
    rw [g_X3_booking, if_pos c_1] at hG
    rw [hG]
    exact W.iret (v := (-1)) hx hb hr (fun t ht hW => ⟨⟨_, (), rfl, rfl, by rw [ht]; exact hP, va_K.moved hW.alike hK, hD⟩, hS.F ht⟩) hS.2.2 dX3_booking_9

def g_X3_held (told : Int32) (ff : (Nat → Int32)) (sz : Int32) (bf : (Nat → Int32)) (gf : (Nat → Int32)) (ef : (Nat → Int32)) (x1 : Int32) (x2 : Int32) (x3 : Int32) : Int32 × Int32 × (Nat → Int32) × (Nat → Int32) × (Nat → Int32) := (if (g_X3_isBelow x1 3) = 0 then ((-1), sz, bf, gf, ef) else ((g_X3_ofBooking ((g_X0_showLine told ff bf gf ef x1).1) ((g_X0_showLine told ff bf gf ef x1).2.1) ((g_X0_showLine told ff bf gf ef x1).2.2.1) ((g_X0_showLine told ff bf gf ef x1).2.2.2) x2 x3), (g_X0_showLine told ff bf gf ef x1).1, (g_X0_showLine told ff bf gf ef x1).2.1, (g_X0_showLine told ff bf gf ef x1).2.2.1, (g_X0_showLine told ff bf gf ef x1).2.2.2))
set_option maxHeartbeats 4000000 in
set_option maxRecDepth 100000 in
theorem c_X3_held (l : Launch) (D : va_G) (cA cZ : ClassId) (aX : Nat) (aB : Nat) (aB1 : Nat) (aB2 : Nat) (aT : Nat) (aP : Nat) (aR : Nat) (aL : Nat) (aF : Nat) (aU : Nat) (aG : Nat) (aE : Nat) (szz : Nat) (kp : Int32) (now : Int32) (told : Int32) (rf : (Nat → Int32)) (lf : (Nat → Int32)) (ff : (Nat → Int32)) (sz : Int32) (bf : (Nat → Int32)) (gf : (Nat → Int32)) (ef : (Nat → Int32)) (x1 : Int32) (x2 : Int32) (x3 : Int32) : MetI l yX3_held wsX3_held 4 85 D (tyA cA cZ) [.ref aX, .int x1, .int x2, .int x3] (LBw aX aB aB1 aB2 aT aP kp ++ BKw cA aB aR aL aF now told rf lf ff ++ TRw cA aT aU aG aE sz bf gf ef) szz (g_X3_held told ff sz bf gf ef x1 x2 x3).1 (LBw aX aB aB1 aB2 aT aP kp ++ BKw cA aB aR aL aF now told rf lf ff ++ TRw cA aT aU aG aE ((g_X3_held told ff sz bf gf ef x1 x2 x3).2.1) ((g_X3_held told ff sz bf gf ef x1 x2 x3).2.2.1) ((g_X3_held told ff sz bf gf ef x1 x2 x3).2.2.2.1) ((g_X3_held told ff sz bf gf ef x1 x2 x3).2.2.2.2)) := by
  refine Met.ofW (cc := cX3_held) (maxL := 4) (ret := (some .int)) (by decide) rfl ?_
  intro p e s m args below meth c s₁ B hml hv
  obtain ⟨rfl, hsz, hP, hK, hD0, hN⟩ := hv
  have hx := B.exec
  have hb := B.bytes
  have hr := B.returns
  have hts := atoms_spec (ws := wsX3_held) B.pre
  have hown : s.vm.findClass RX3 = some m.cls := findClass_of_methodNamed B.named
  have hlocks := B.notSynchronized
  have iX3 : ∀ w ∈ wsX30, w ∈ wsX3_held := fun _ h => List.mem_cons_of_mem _ (List.mem_append_left _ (List.mem_append_left _ (List.mem_append_right _ h)))
  have iX0 : ∀ w ∈ wsX00, w ∈ wsX3_held := fun _ h => List.mem_cons_of_mem _ (List.mem_append_left _ (List.mem_append_right _ h))
  have iX2 : ∀ w ∈ wsX20, w ∈ wsX3_held := fun _ h => List.mem_cons_of_mem _ (List.mem_append_right _ h)
  subst hsz
  have hD := hD0.self (sz := s.heap.size)
  generalize hAe : va_A (LBw aX aB aB1 aB2 aT aP kp ++ BKw cA aB aR aL aF now told rf lf ff ++ TRw cA aT aU aG aE sz bf gf ef) s.heap.size = A at hD ⊢
  have hA : ∀ q : Nat, s.heap.size ≤ q → A q := fun q h => by rw [← hAe]; exact Or.inr h
  have hS : va_S A s.heap s.heap [] := va_S.rf
  have hP : va_P D vwCl (LBw aX aB aB1 aB2 aT aP kp ++ BKw cA aB aR aL aF now told rf lf ff ++ TRw cA aT aU aG aE sz bf gf ef) s.heap := hP
  obtain ⟨G, hG⟩ : ∃ G, G = (g_X3_held told ff sz bf gf ef x1 x2 x3) := ⟨_, rfl⟩
  rw [← hG]
  have hl := lv_entry ([.ref aX, .int x1, .int x2, .int x3]) (n := 4) (Nat.le_of_ble_eq_true rfl)
  rw [lg_entry_eq]
  generalize (lg_sl ([.ref aX, .int x1, .int x2, .int x3]) ++ List.replicate (4 - (lg_sl ([.ref aX, .int x1, .int x2, .int x3])).length) Slot.unset).toArray = ls at hl ⊢
  have hl : lv_has ls 4 [(0, .ref aX), (1, .int x1), (2, .int x2), (3, .int x3)] := hl
  refine lv_iload_n hx hb dX3_held_0 rfl (lv_at hl 1 rfl) ?_
  refine lv_iconst (v := 3) hx hb dX3_held_1 (by decide) ?_
  refine kI (wr := LBw aX aB aB1 aB2 aT aP kp ++ BKw cA aB aR aL aF now told rf lf ff ++ TRw cA aT aU aG aE sz bf gf ef) (W1 := ([] : va_W)) (wsN := LBw aX aB aB1 aB2 aT aP kp ++ BKw cA aB aR aL aF now told rf lf ff ++ TRw cA aT aU aG aE sz bf gf ef) (rS (As := [.int x1, .int 3]) (rest := []) (W0 := ([] : va_W)) ⟨hx, hb, hml, hown, hts⟩ (c_X3_isBelow l D cA cZ s.heap.size x1 3) (cwS 2 hts gX3_held_X3_isBelow rfl rfl rfl (by decide +kernel) ⟨Nat.le_of_ble_eq_true rfl, Nat.le_of_ble_eq_true rfl⟩) hP hD hK hN ([] : List Nat) rfl rfl rfl hl.1 rfl (Nat.le_of_ble_eq_true rfl) dX3_held_2 ⟨Nat.zero_le _, Nat.zero_le _⟩) hP hD hS hA [] [0, 1, 2, 3, 4, 5, 6, 7, 8] [0, 1, 2, 3, 4, 5, 6, 7, 8] rfl rfl rfl (by decide) rfl rfl (fun H locs hP hD hS => ?_)
  refine lv_if_ne (tgt := 10) hx hb dX3_held_5 (by decide) (fun c_1 => ?_) (fun c_1 => ?_)
  · refine lv_aload_n hx hb dX3_held_10 rfl (lv_at hl 0 rfl) ?_
    refine va_get (D := D) (ci := 3) (v := .ref aB) (C := RX3) (T := TX3) (N := 6) hx hb hts iX3 hown hK hP 0 rfl rfl 1 (by decide) (hts (.fieldLink RX3 20 "LightBursts" "book" "LLightBursts$Book;") (List.mem_of_getElem? (i := 1) rfl)) (fun _ h9 => h9) rfl dX3_held_11 ?_
    refine lv_iload_n hx hb dX3_held_14 rfl (lv_at hl 1 rfl) ?_
    refine lv_aload_n hx hb dX3_held_15 rfl (lv_at hl 0 rfl) ?_
    refine va_get (D := D) (ci := 3) (v := .ref aT) (C := RX3) (T := TX3) (N := 6) hx hb hts iX3 hown hK hP 0 rfl rfl 2 (by decide) (hts (.fieldLink RX3 25 "LightBursts" "track" "LLightBursts$Track;") (List.mem_of_getElem? (i := 2) rfl)) (fun _ h9 => h9) rfl dX3_held_16 ?_
    refine kV (wr := LBw aX aB aB1 aB2 aT aP kp) (W1 := BKw cA aB aR aL aF now told rf lf ff ++ TRw cA aT aU aG aE ((g_X0_showLine told ff bf gf ef x1).1) ((g_X0_showLine told ff bf gf ef x1).2.1) ((g_X0_showLine told ff bf gf ef x1).2.2.1) ((g_X0_showLine told ff bf gf ef x1).2.2.2)) (wsN := LBw aX aB aB1 aB2 aT aP kp ++ BKw cA aB aR aL aF now told rf lf ff ++ TRw cA aT aU aG aE ((g_X0_showLine told ff bf gf ef x1).1) ((g_X0_showLine told ff bf gf ef x1).2.1) ((g_X0_showLine told ff bf gf ef x1).2.2.1) ((g_X0_showLine told ff bf gf ef x1).2.2.2)) (rVN (As := [.int x1, .ref aT]) (rest := []) (W0 := BKw cA aB aR aL aF now told rf lf ff ++ TRw cA aT aU aG aE sz bf gf ef) ⟨hx, hb, hml, hown, hts⟩ (c_X0_showLine l D cA cZ aB aR aL aF aT aU aG aE H.size now told rf lf ff sz bf gf ef x1) ⟨va_cnB 2 hts gX3_held_X0_showLine_n57 rfl rfl rfl (hN (.methodLinkNest RX3 57 yX0_showLine RX3) (List.mem_of_getElem? (i := 13) rfl)) (hts (.initialized RX0) (List.mem_of_getElem? (i := 8) rfl)) (by decide +kernel) ⟨Nat.le_of_ble_eq_true rfl, Nat.le_of_ble_eq_true rfl⟩, (hts (.instanceMethod yX0_showLine) (List.mem_of_getElem? (i := 7) rfl)), (hts (.selects RX0 yX0_showLine yX0_showLine) (List.mem_of_getElem? (i := 9) rfl))⟩ hP hD hK hN ([1, 2, 3, 4, 5, 6, 7, 8] : List Nat) rfl rfl 0 0 rfl rfl rfl hl.1 rfl (Nat.le_of_ble_eq_true rfl) dX3_held_19 ⟨Nat.zero_le _, Nat.zero_le _⟩) hP hD hS hA [1, 2, 3, 4, 5, 6, 7, 8] [0] [0, 1, 2, 3, 4, 5, 6, 7, 8] rfl rfl rfl (by decide) rfl rfl (fun H locs hP hD hS => ?_)
    refine lv_aload_n hx hb dX3_held_22 rfl (lv_at hl 0 rfl) ?_
    refine lv_iload_n hx hb dX3_held_23 rfl (lv_at hl 2 rfl) ?_
    refine lv_iload_n hx hb dX3_held_24 rfl (lv_at hl 3 rfl) ?_
    refine kI (wr := BKw cA aB aR aL aF now told rf lf ff) (W1 := LBw aX aB aB1 aB2 aT aP kp ++ TRw cA aT aU aG aE ((g_X0_showLine told ff bf gf ef x1).1) ((g_X0_showLine told ff bf gf ef x1).2.1) ((g_X0_showLine told ff bf gf ef x1).2.2.1) ((g_X0_showLine told ff bf gf ef x1).2.2.2)) (wsN := LBw aX aB aB1 aB2 aT aP kp ++ BKw cA aB aR aL aF now told rf lf ff ++ TRw cA aT aU aG aE ((g_X0_showLine told ff bf gf ef x1).1) ((g_X0_showLine told ff bf gf ef x1).2.1) ((g_X0_showLine told ff bf gf ef x1).2.2.1) ((g_X0_showLine told ff bf gf ef x1).2.2.2)) (rV (As := [.int x2, .int x3]) (rest := []) (W0 := LBw aX aB aB1 aB2 aT aP kp ++ TRw cA aT aU aG aE ((g_X0_showLine told ff bf gf ef x1).1) ((g_X0_showLine told ff bf gf ef x1).2.1) ((g_X0_showLine told ff bf gf ef x1).2.2.1) ((g_X0_showLine told ff bf gf ef x1).2.2.2)) ⟨hx, hb, hml, hown, hts⟩ (c_X3_ofBooking l D cA cZ aX aB aB1 aB2 aT aP aU aG aE H.size kp ((g_X0_showLine told ff bf gf ef x1).1) ((g_X0_showLine told ff bf gf ef x1).2.1) ((g_X0_showLine told ff bf gf ef x1).2.2.1) ((g_X0_showLine told ff bf gf ef x1).2.2.2) x2 x3 (show ((g_X0_showLine told ff bf gf ef x1).1) ≤ 48 from by exact showLine_le)) (cwV 2 hts gX3_held_X3_ofBooking rfl rfl rfl (by decide +kernel) ⟨Nat.le_of_ble_eq_true rfl, Nat.le_of_ble_eq_true rfl⟩) hP hD hK hN ([0, 5, 6, 7, 8] : List Nat) rfl rfl 3 0 rfl rfl rfl hl.1 rfl (Nat.le_of_ble_eq_true rfl) dX3_held_25 ⟨Nat.zero_le _, Nat.zero_le _⟩) hP hD hS hA [0, 5, 6, 7, 8] [1, 2, 3, 4] [4, 0, 1, 2, 3, 5, 6, 7, 8] rfl rfl rfl (by decide) rfl rfl (fun H locs hP hD hS => ?_)
    rw [g_X3_held, if_neg c_1] at hG
    rw [hG]
    exact W.iret (v := (g_X3_ofBooking ((g_X0_showLine told ff bf gf ef x1).1) ((g_X0_showLine told ff bf gf ef x1).2.1) ((g_X0_showLine told ff bf gf ef x1).2.2.1) ((g_X0_showLine told ff bf gf ef x1).2.2.2) x2 x3)) hx hb hr (fun t ht hW => ⟨⟨_, (), rfl, rfl, by rw [ht]; exact hP, va_K.moved hW.alike hK, hD⟩, hS.F ht⟩) hS.2.2 dX3_held_28
  · refine lv_iconst (v := (-1)) hx hb dX3_held_8 (by decide) ?_
    rw [g_X3_held, if_pos c_1] at hG
    rw [hG]
    exact W.iret (v := (-1)) hx hb hr (fun t ht hW => ⟨⟨_, (), rfl, rfl, by rw [ht]; exact hP, va_K.moved hW.alike hK, hD⟩, hS.F ht⟩) hS.2.2 dX3_held_9

def g_X3_busy (told : Int32) (ff : (Nat → Int32)) (sz : Int32) (bf : (Nat → Int32)) (gf : (Nat → Int32)) (ef : (Nat → Int32)) (x1 : Int32) (x2 : Int32) (x3 : Int32) (x4 : Int32) : Int32 × Int32 × (Nat → Int32) × (Nat → Int32) × (Nat → Int32) := (if (g_X3_isColour x1 x2) = 0 then ((-1), sz, bf, gf, ef) else (if (g_X3_isSpan x3 x4) = 0 then ((-2), sz, bf, gf, ef) else ((g_X2_bookedTicks ((g_X0_showColour told ff bf gf ef x1 x2).1) ((g_X0_showColour told ff bf gf ef x1 x2).2.2.1) ((g_X0_showColour told ff bf gf ef x1 x2).2.2.2) x3 (x3 + x4)), (g_X0_showColour told ff bf gf ef x1 x2).1, (g_X0_showColour told ff bf gf ef x1 x2).2.1, (g_X0_showColour told ff bf gf ef x1 x2).2.2.1, (g_X0_showColour told ff bf gf ef x1 x2).2.2.2)))
set_option maxHeartbeats 4000000 in
set_option maxRecDepth 100000 in
theorem c_X3_busy (l : Launch) (D : va_G) (cA cZ : ClassId) (aX : Nat) (aB : Nat) (aB1 : Nat) (aB2 : Nat) (aT : Nat) (aP : Nat) (aR : Nat) (aL : Nat) (aF : Nat) (aU : Nat) (aG : Nat) (aE : Nat) (szz : Nat) (kp : Int32) (now : Int32) (told : Int32) (rf : (Nat → Int32)) (lf : (Nat → Int32)) (ff : (Nat → Int32)) (sz : Int32) (bf : (Nat → Int32)) (gf : (Nat → Int32)) (ef : (Nat → Int32)) (x1 : Int32) (x2 : Int32) (x3 : Int32) (x4 : Int32) : MetI l yX3_busy wsX3_busy 3 69 D (tyA cA cZ) [.ref aX, .int x1, .int x2, .int x3, .int x4] (LBw aX aB aB1 aB2 aT aP kp ++ BKw cA aB aR aL aF now told rf lf ff ++ TRw cA aT aU aG aE sz bf gf ef) szz (g_X3_busy told ff sz bf gf ef x1 x2 x3 x4).1 (LBw aX aB aB1 aB2 aT aP kp ++ BKw cA aB aR aL aF now told rf lf ff ++ TRw cA aT aU aG aE ((g_X3_busy told ff sz bf gf ef x1 x2 x3 x4).2.1) ((g_X3_busy told ff sz bf gf ef x1 x2 x3 x4).2.2.1) ((g_X3_busy told ff sz bf gf ef x1 x2 x3 x4).2.2.2.1) ((g_X3_busy told ff sz bf gf ef x1 x2 x3 x4).2.2.2.2)) := by
  refine Met.ofW (cc := cX3_busy) (maxL := 5) (ret := (some .int)) (by decide) rfl ?_
  intro p e s m args below meth c s₁ B hml hv
  obtain ⟨rfl, hsz, hP, hK, hD0, hN⟩ := hv
  have hx := B.exec
  have hb := B.bytes
  have hr := B.returns
  have hts := atoms_spec (ws := wsX3_busy) B.pre
  have hown : s.vm.findClass RX3 = some m.cls := findClass_of_methodNamed B.named
  have hlocks := B.notSynchronized
  have iX3 : ∀ w ∈ wsX30, w ∈ wsX3_busy := fun _ h => List.mem_cons_of_mem _ (List.mem_append_left _ (List.mem_append_left _ (List.mem_append_right _ h)))
  have iX0 : ∀ w ∈ wsX00, w ∈ wsX3_busy := fun _ h => List.mem_cons_of_mem _ (List.mem_append_left _ (List.mem_append_right _ h))
  have iX2 : ∀ w ∈ wsX20, w ∈ wsX3_busy := fun _ h => List.mem_cons_of_mem _ (List.mem_append_right _ h)
  subst hsz
  have hD := hD0.self (sz := s.heap.size)
  generalize hAe : va_A (LBw aX aB aB1 aB2 aT aP kp ++ BKw cA aB aR aL aF now told rf lf ff ++ TRw cA aT aU aG aE sz bf gf ef) s.heap.size = A at hD ⊢
  have hA : ∀ q : Nat, s.heap.size ≤ q → A q := fun q h => by rw [← hAe]; exact Or.inr h
  have hS : va_S A s.heap s.heap [] := va_S.rf
  have hP : va_P D vwCl (LBw aX aB aB1 aB2 aT aP kp ++ BKw cA aB aR aL aF now told rf lf ff ++ TRw cA aT aU aG aE sz bf gf ef) s.heap := hP
  obtain ⟨G, hG⟩ : ∃ G, G = (g_X3_busy told ff sz bf gf ef x1 x2 x3 x4) := ⟨_, rfl⟩
  rw [← hG]
  have hl := lv_entry ([.ref aX, .int x1, .int x2, .int x3, .int x4]) (n := 5) (Nat.le_of_ble_eq_true rfl)
  rw [lg_entry_eq]
  generalize (lg_sl ([.ref aX, .int x1, .int x2, .int x3, .int x4]) ++ List.replicate (5 - (lg_sl ([.ref aX, .int x1, .int x2, .int x3, .int x4])).length) Slot.unset).toArray = ls at hl ⊢
  have hl : lv_has ls 5 [(0, .ref aX), (1, .int x1), (2, .int x2), (3, .int x3), (4, .int x4)] := hl
  refine lv_iload_n hx hb dX3_busy_0 rfl (lv_at hl 1 rfl) ?_
  refine lv_iload_n hx hb dX3_busy_1 rfl (lv_at hl 2 rfl) ?_
  refine kI (wr := LBw aX aB aB1 aB2 aT aP kp ++ BKw cA aB aR aL aF now told rf lf ff ++ TRw cA aT aU aG aE sz bf gf ef) (W1 := ([] : va_W)) (wsN := LBw aX aB aB1 aB2 aT aP kp ++ BKw cA aB aR aL aF now told rf lf ff ++ TRw cA aT aU aG aE sz bf gf ef) (rS (As := [.int x1, .int x2]) (rest := []) (W0 := ([] : va_W)) ⟨hx, hb, hml, hown, hts⟩ (c_X3_isColour l D cA cZ s.heap.size x1 x2) (cwS 2 hts gX3_busy_X3_isColour rfl rfl rfl (by decide +kernel) ⟨Nat.le_of_ble_eq_true rfl, Nat.le_of_ble_eq_true rfl⟩) hP hD hK hN ([] : List Nat) rfl rfl rfl hl.1 rfl (Nat.le_of_ble_eq_true rfl) dX3_busy_2 ⟨Nat.zero_le _, Nat.zero_le _⟩) hP hD hS hA [] [0, 1, 2, 3, 4, 5, 6, 7, 8] [0, 1, 2, 3, 4, 5, 6, 7, 8] rfl rfl rfl (by decide) rfl rfl (fun H locs hP hD hS => ?_)
  refine lv_if_ne (tgt := 10) hx hb dX3_busy_5 (by decide) (fun c_1 => ?_) (fun c_1 => ?_)
  · refine lv_iload_n hx hb dX3_busy_10 rfl (lv_at hl 3 rfl) ?_
    refine lv_iload hx hb dX3_busy_11 (lv_at hl 4 rfl) ?_
    refine kI (wr := LBw aX aB aB1 aB2 aT aP kp ++ BKw cA aB aR aL aF now told rf lf ff ++ TRw cA aT aU aG aE sz bf gf ef) (W1 := ([] : va_W)) (wsN := LBw aX aB aB1 aB2 aT aP kp ++ BKw cA aB aR aL aF now told rf lf ff ++ TRw cA aT aU aG aE sz bf gf ef) (rS (As := [.int x3, .int x4]) (rest := []) (W0 := ([] : va_W)) ⟨hx, hb, hml, hown, hts⟩ (c_X3_isSpan l D cA cZ H.size x3 x4) (cwS 2 hts gX3_busy_X3_isSpan rfl rfl rfl (by decide +kernel) ⟨Nat.le_of_ble_eq_true rfl, Nat.le_of_ble_eq_true rfl⟩) hP hD hK hN ([] : List Nat) rfl rfl rfl hl.1 rfl (Nat.le_of_ble_eq_true rfl) dX3_busy_13 ⟨Nat.zero_le _, Nat.zero_le _⟩) hP hD hS hA [] [0, 1, 2, 3, 4, 5, 6, 7, 8] [0, 1, 2, 3, 4, 5, 6, 7, 8] rfl rfl rfl (by decide) rfl rfl (fun H locs hP hD hS => ?_)
    refine lv_if_ne (tgt := 22) hx hb dX3_busy_16 (by decide) (fun c_2 => ?_) (fun c_2 => ?_)
    · refine lv_aload_n hx hb dX3_busy_22 rfl (lv_at hl 0 rfl) ?_
      refine va_get (D := D) (ci := 3) (v := .ref aB) (C := RX3) (T := TX3) (N := 6) hx hb hts iX3 hown hK hP 0 rfl rfl 1 (by decide) (hts (.fieldLink RX3 20 "LightBursts" "book" "LLightBursts$Book;") (List.mem_of_getElem? (i := 1) rfl)) (fun _ h9 => h9) rfl dX3_busy_23 ?_
      refine lv_iload_n hx hb dX3_busy_26 rfl (lv_at hl 1 rfl) ?_
      refine lv_iload_n hx hb dX3_busy_27 rfl (lv_at hl 2 rfl) ?_
      refine lv_aload_n hx hb dX3_busy_28 rfl (lv_at hl 0 rfl) ?_
      refine va_get (D := D) (ci := 3) (v := .ref aT) (C := RX3) (T := TX3) (N := 6) hx hb hts iX3 hown hK hP 0 rfl rfl 2 (by decide) (hts (.fieldLink RX3 25 "LightBursts" "track" "LLightBursts$Track;") (List.mem_of_getElem? (i := 2) rfl)) (fun _ h9 => h9) rfl dX3_busy_29 ?_
      refine kV (wr := LBw aX aB aB1 aB2 aT aP kp) (W1 := BKw cA aB aR aL aF now told rf lf ff ++ TRw cA aT aU aG aE ((g_X0_showColour told ff bf gf ef x1 x2).1) ((g_X0_showColour told ff bf gf ef x1 x2).2.1) ((g_X0_showColour told ff bf gf ef x1 x2).2.2.1) ((g_X0_showColour told ff bf gf ef x1 x2).2.2.2)) (wsN := LBw aX aB aB1 aB2 aT aP kp ++ BKw cA aB aR aL aF now told rf lf ff ++ TRw cA aT aU aG aE ((g_X0_showColour told ff bf gf ef x1 x2).1) ((g_X0_showColour told ff bf gf ef x1 x2).2.1) ((g_X0_showColour told ff bf gf ef x1 x2).2.2.1) ((g_X0_showColour told ff bf gf ef x1 x2).2.2.2)) (rVN (As := [.int x1, .int x2, .ref aT]) (rest := []) (W0 := BKw cA aB aR aL aF now told rf lf ff ++ TRw cA aT aU aG aE sz bf gf ef) ⟨hx, hb, hml, hown, hts⟩ (c_X0_showColour l D cA cZ aB aR aL aF aT aU aG aE H.size now told rf lf ff sz bf gf ef x1 x2) ⟨va_cnB 3 hts gX3_busy_X0_showColour_n108 rfl rfl rfl (hN (.methodLinkNest RX3 108 yX0_showColour RX3) (List.mem_of_getElem? (i := 34) rfl)) (hts (.initialized RX0) (List.mem_of_getElem? (i := 17) rfl)) (by decide +kernel) ⟨Nat.le_of_ble_eq_true rfl, Nat.le_of_ble_eq_true rfl⟩, (hts (.instanceMethod yX0_showColour) (List.mem_of_getElem? (i := 16) rfl)), (hts (.selects RX0 yX0_showColour yX0_showColour) (List.mem_of_getElem? (i := 18) rfl))⟩ hP hD hK hN ([1, 2, 3, 4, 5, 6, 7, 8] : List Nat) rfl rfl 0 0 rfl rfl rfl hl.1 rfl (Nat.le_of_ble_eq_true rfl) dX3_busy_32 ⟨Nat.zero_le _, Nat.zero_le _⟩) hP hD hS hA [1, 2, 3, 4, 5, 6, 7, 8] [0] [0, 1, 2, 3, 4, 5, 6, 7, 8] rfl rfl rfl (by decide) rfl rfl (fun H locs hP hD hS => ?_)
      refine lv_aload_n hx hb dX3_busy_35 rfl (lv_at hl 0 rfl) ?_
      refine va_get (D := D) (ci := 3) (v := .ref aT) (C := RX3) (T := TX3) (N := 6) hx hb hts iX3 hown hK hP 0 rfl rfl 2 (by decide) (hts (.fieldLink RX3 25 "LightBursts" "track" "LLightBursts$Track;") (List.mem_of_getElem? (i := 2) rfl)) (fun _ h9 => h9) rfl dX3_busy_36 ?_
      refine lv_iload_n hx hb dX3_busy_39 rfl (lv_at hl 3 rfl) ?_
      refine lv_iload_n hx hb dX3_busy_40 rfl (lv_at hl 3 rfl) ?_
      refine lv_iload hx hb dX3_busy_41 (lv_at hl 4 rfl) ?_
      refine lv_iadd hx hb dX3_busy_43 ?_
      refine kI (wr := LBw aX aB aB1 aB2 aT aP kp ++ BKw cA aB aR aL aF now told rf lf ff) (W1 := TRw cA aT aU aG aE ((g_X0_showColour told ff bf gf ef x1 x2).1) ((g_X0_showColour told ff bf gf ef x1 x2).2.1) ((g_X0_showColour told ff bf gf ef x1 x2).2.2.1) ((g_X0_showColour told ff bf gf ef x1 x2).2.2.2)) (wsN := LBw aX aB aB1 aB2 aT aP kp ++ BKw cA aB aR aL aF now told rf lf ff ++ TRw cA aT aU aG aE ((g_X0_showColour told ff bf gf ef x1 x2).1) ((g_X0_showColour told ff bf gf ef x1 x2).2.1) ((g_X0_showColour told ff bf gf ef x1 x2).2.2.1) ((g_X0_showColour told ff bf gf ef x1 x2).2.2.2)) (rVN (As := [.int x3, .int (x3 + x4)]) (rest := []) (W0 := TRw cA aT aU aG aE ((g_X0_showColour told ff bf gf ef x1 x2).1) ((g_X0_showColour told ff bf gf ef x1 x2).2.1) ((g_X0_showColour told ff bf gf ef x1 x2).2.2.1) ((g_X0_showColour told ff bf gf ef x1 x2).2.2.2)) ⟨hx, hb, hml, hown, hts⟩ (c_X2_bookedTicks l D cA cZ aT aU aG aE H.size ((g_X0_showColour told ff bf gf ef x1 x2).1) ((g_X0_showColour told ff bf gf ef x1 x2).2.1) ((g_X0_showColour told ff bf gf ef x1 x2).2.2.1) ((g_X0_showColour told ff bf gf ef x1 x2).2.2.2) x3 (x3 + x4) (show ((g_X0_showColour told ff bf gf ef x1 x2).1) ≤ 48 from by exact showColour_le)) ⟨va_cnB 2 hts gX3_busy_X2_bookedTicks_n118 rfl rfl rfl (hN (.methodLinkNest RX3 118 yX2_bookedTicks RX3) (List.mem_of_getElem? (i := 38) rfl)) (hts (.initialized RX2) (List.mem_of_getElem? (i := 22) rfl)) (by decide +kernel) ⟨Nat.le_of_ble_eq_true rfl, Nat.le_of_ble_eq_true rfl⟩, (hts (.instanceMethod yX2_bookedTicks) (List.mem_of_getElem? (i := 37) rfl)), (hts (.selects RX2 yX2_bookedTicks yX2_bookedTicks) (List.mem_of_getElem? (i := 38) rfl))⟩ hP hD hK hN ([5, 6, 7, 8] : List Nat) rfl rfl 2 0 rfl rfl rfl hl.1 rfl (Nat.le_of_ble_eq_true rfl) dX3_busy_44 ⟨Nat.zero_le _, Nat.zero_le _⟩) hP hD hS hA [5, 6, 7, 8] [0, 1, 2, 3, 4] [0, 1, 2, 3, 4, 5, 6, 7, 8] rfl rfl rfl (by decide) rfl rfl (fun H locs hP hD hS => ?_)
      rw [g_X3_busy, if_neg c_1, if_neg c_2] at hG
      rw [hG]
      exact W.iret (v := (g_X2_bookedTicks ((g_X0_showColour told ff bf gf ef x1 x2).1) ((g_X0_showColour told ff bf gf ef x1 x2).2.2.1) ((g_X0_showColour told ff bf gf ef x1 x2).2.2.2) x3 (x3 + x4))) hx hb hr (fun t ht hW => ⟨⟨_, (), rfl, rfl, by rw [ht]; exact hP, va_K.moved hW.alike hK, hD⟩, hS.F ht⟩) hS.2.2 dX3_busy_47
    · refine lv_bipush (v := (-2)) hx hb dX3_busy_19 (by decide) ?_
      rw [g_X3_busy, if_neg c_1, if_pos c_2] at hG
      rw [hG]
      exact W.iret (v := (-2)) hx hb hr (fun t ht hW => ⟨⟨_, (), rfl, rfl, by rw [ht]; exact hP, va_K.moved hW.alike hK, hD⟩, hS.F ht⟩) hS.2.2 dX3_busy_21
  · refine lv_iconst (v := (-1)) hx hb dX3_busy_8 (by decide) ?_
    rw [g_X3_busy, if_pos c_1] at hG
    rw [hG]
    exact W.iret (v := (-1)) hx hb hr (fun t ht hW => ⟨⟨_, (), rfl, rfl, by rw [ht]; exact hP, va_K.moved hW.alike hK, hD⟩, hS.F ht⟩) hS.2.2 dX3_busy_9

def g_X3_next (told : Int32) (ff : (Nat → Int32)) (sz : Int32) (bf : (Nat → Int32)) (gf : (Nat → Int32)) (ef : (Nat → Int32)) (x1 : Int32) (x2 : Int32) (x3 : Int32) (x4 : Int32) : Int32 × Int32 × (Nat → Int32) × (Nat → Int32) × (Nat → Int32) := (if (g_X3_isColour x1 x2) = 0 then ((-1), sz, bf, gf, ef) else (if (g_X3_isSpan x3 x4) = 0 then ((-2), sz, bf, gf, ef) else ((g_X2_firstFree ((g_X0_showColour told ff bf gf ef x1 x2).1) ((g_X0_showColour told ff bf gf ef x1 x2).2.2.1) ((g_X0_showColour told ff bf gf ef x1 x2).2.2.2) x3 x4), (g_X0_showColour told ff bf gf ef x1 x2).1, (g_X0_showColour told ff bf gf ef x1 x2).2.1, (g_X0_showColour told ff bf gf ef x1 x2).2.2.1, (g_X0_showColour told ff bf gf ef x1 x2).2.2.2)))
set_option maxHeartbeats 4000000 in
set_option maxRecDepth 100000 in
theorem c_X3_next (l : Launch) (D : va_G) (cA cZ : ClassId) (aX : Nat) (aB : Nat) (aB1 : Nat) (aB2 : Nat) (aT : Nat) (aP : Nat) (aR : Nat) (aL : Nat) (aF : Nat) (aU : Nat) (aG : Nat) (aE : Nat) (szz : Nat) (kp : Int32) (now : Int32) (told : Int32) (rf : (Nat → Int32)) (lf : (Nat → Int32)) (ff : (Nat → Int32)) (sz : Int32) (bf : (Nat → Int32)) (gf : (Nat → Int32)) (ef : (Nat → Int32)) (x1 : Int32) (x2 : Int32) (x3 : Int32) (x4 : Int32) : MetI l yX3_next wsX3_next 3 69 D (tyA cA cZ) [.ref aX, .int x1, .int x2, .int x3, .int x4] (LBw aX aB aB1 aB2 aT aP kp ++ BKw cA aB aR aL aF now told rf lf ff ++ TRw cA aT aU aG aE sz bf gf ef) szz (g_X3_next told ff sz bf gf ef x1 x2 x3 x4).1 (LBw aX aB aB1 aB2 aT aP kp ++ BKw cA aB aR aL aF now told rf lf ff ++ TRw cA aT aU aG aE ((g_X3_next told ff sz bf gf ef x1 x2 x3 x4).2.1) ((g_X3_next told ff sz bf gf ef x1 x2 x3 x4).2.2.1) ((g_X3_next told ff sz bf gf ef x1 x2 x3 x4).2.2.2.1) ((g_X3_next told ff sz bf gf ef x1 x2 x3 x4).2.2.2.2)) := by
  refine Met.ofW (cc := cX3_next) (maxL := 5) (ret := (some .int)) (by decide) rfl ?_
  intro p e s m args below meth c s₁ B hml hv
  obtain ⟨rfl, hsz, hP, hK, hD0, hN⟩ := hv
  have hx := B.exec
  have hb := B.bytes
  have hr := B.returns
  have hts := atoms_spec (ws := wsX3_next) B.pre
  have hown : s.vm.findClass RX3 = some m.cls := findClass_of_methodNamed B.named
  have hlocks := B.notSynchronized
  have iX3 : ∀ w ∈ wsX30, w ∈ wsX3_next := fun _ h => List.mem_cons_of_mem _ (List.mem_append_left _ (List.mem_append_left _ (List.mem_append_right _ h)))
  have iX0 : ∀ w ∈ wsX00, w ∈ wsX3_next := fun _ h => List.mem_cons_of_mem _ (List.mem_append_left _ (List.mem_append_right _ h))
  have iX2 : ∀ w ∈ wsX20, w ∈ wsX3_next := fun _ h => List.mem_cons_of_mem _ (List.mem_append_right _ h)
  subst hsz
  have hD := hD0.self (sz := s.heap.size)
  generalize hAe : va_A (LBw aX aB aB1 aB2 aT aP kp ++ BKw cA aB aR aL aF now told rf lf ff ++ TRw cA aT aU aG aE sz bf gf ef) s.heap.size = A at hD ⊢
  have hA : ∀ q : Nat, s.heap.size ≤ q → A q := fun q h => by rw [← hAe]; exact Or.inr h
  have hS : va_S A s.heap s.heap [] := va_S.rf
  have hP : va_P D vwCl (LBw aX aB aB1 aB2 aT aP kp ++ BKw cA aB aR aL aF now told rf lf ff ++ TRw cA aT aU aG aE sz bf gf ef) s.heap := hP
  obtain ⟨G, hG⟩ : ∃ G, G = (g_X3_next told ff sz bf gf ef x1 x2 x3 x4) := ⟨_, rfl⟩
  rw [← hG]
  have hl := lv_entry ([.ref aX, .int x1, .int x2, .int x3, .int x4]) (n := 5) (Nat.le_of_ble_eq_true rfl)
  rw [lg_entry_eq]
  generalize (lg_sl ([.ref aX, .int x1, .int x2, .int x3, .int x4]) ++ List.replicate (5 - (lg_sl ([.ref aX, .int x1, .int x2, .int x3, .int x4])).length) Slot.unset).toArray = ls at hl ⊢
  have hl : lv_has ls 5 [(0, .ref aX), (1, .int x1), (2, .int x2), (3, .int x3), (4, .int x4)] := hl
  refine lv_iload_n hx hb dX3_next_0 rfl (lv_at hl 1 rfl) ?_
  refine lv_iload_n hx hb dX3_next_1 rfl (lv_at hl 2 rfl) ?_
  refine kI (wr := LBw aX aB aB1 aB2 aT aP kp ++ BKw cA aB aR aL aF now told rf lf ff ++ TRw cA aT aU aG aE sz bf gf ef) (W1 := ([] : va_W)) (wsN := LBw aX aB aB1 aB2 aT aP kp ++ BKw cA aB aR aL aF now told rf lf ff ++ TRw cA aT aU aG aE sz bf gf ef) (rS (As := [.int x1, .int x2]) (rest := []) (W0 := ([] : va_W)) ⟨hx, hb, hml, hown, hts⟩ (c_X3_isColour l D cA cZ s.heap.size x1 x2) (cwS 2 hts gX3_next_X3_isColour rfl rfl rfl (by decide +kernel) ⟨Nat.le_of_ble_eq_true rfl, Nat.le_of_ble_eq_true rfl⟩) hP hD hK hN ([] : List Nat) rfl rfl rfl hl.1 rfl (Nat.le_of_ble_eq_true rfl) dX3_next_2 ⟨Nat.zero_le _, Nat.zero_le _⟩) hP hD hS hA [] [0, 1, 2, 3, 4, 5, 6, 7, 8] [0, 1, 2, 3, 4, 5, 6, 7, 8] rfl rfl rfl (by decide) rfl rfl (fun H locs hP hD hS => ?_)
  refine lv_if_ne (tgt := 10) hx hb dX3_next_5 (by decide) (fun c_1 => ?_) (fun c_1 => ?_)
  · refine lv_iload_n hx hb dX3_next_10 rfl (lv_at hl 3 rfl) ?_
    refine lv_iload hx hb dX3_next_11 (lv_at hl 4 rfl) ?_
    refine kI (wr := LBw aX aB aB1 aB2 aT aP kp ++ BKw cA aB aR aL aF now told rf lf ff ++ TRw cA aT aU aG aE sz bf gf ef) (W1 := ([] : va_W)) (wsN := LBw aX aB aB1 aB2 aT aP kp ++ BKw cA aB aR aL aF now told rf lf ff ++ TRw cA aT aU aG aE sz bf gf ef) (rS (As := [.int x3, .int x4]) (rest := []) (W0 := ([] : va_W)) ⟨hx, hb, hml, hown, hts⟩ (c_X3_isSpan l D cA cZ H.size x3 x4) (cwS 2 hts gX3_next_X3_isSpan rfl rfl rfl (by decide +kernel) ⟨Nat.le_of_ble_eq_true rfl, Nat.le_of_ble_eq_true rfl⟩) hP hD hK hN ([] : List Nat) rfl rfl rfl hl.1 rfl (Nat.le_of_ble_eq_true rfl) dX3_next_13 ⟨Nat.zero_le _, Nat.zero_le _⟩) hP hD hS hA [] [0, 1, 2, 3, 4, 5, 6, 7, 8] [0, 1, 2, 3, 4, 5, 6, 7, 8] rfl rfl rfl (by decide) rfl rfl (fun H locs hP hD hS => ?_)
    refine lv_if_ne (tgt := 22) hx hb dX3_next_16 (by decide) (fun c_2 => ?_) (fun c_2 => ?_)
    · refine lv_aload_n hx hb dX3_next_22 rfl (lv_at hl 0 rfl) ?_
      refine va_get (D := D) (ci := 3) (v := .ref aB) (C := RX3) (T := TX3) (N := 6) hx hb hts iX3 hown hK hP 0 rfl rfl 1 (by decide) (hts (.fieldLink RX3 20 "LightBursts" "book" "LLightBursts$Book;") (List.mem_of_getElem? (i := 1) rfl)) (fun _ h9 => h9) rfl dX3_next_23 ?_
      refine lv_iload_n hx hb dX3_next_26 rfl (lv_at hl 1 rfl) ?_
      refine lv_iload_n hx hb dX3_next_27 rfl (lv_at hl 2 rfl) ?_
      refine lv_aload_n hx hb dX3_next_28 rfl (lv_at hl 0 rfl) ?_
      refine va_get (D := D) (ci := 3) (v := .ref aT) (C := RX3) (T := TX3) (N := 6) hx hb hts iX3 hown hK hP 0 rfl rfl 2 (by decide) (hts (.fieldLink RX3 25 "LightBursts" "track" "LLightBursts$Track;") (List.mem_of_getElem? (i := 2) rfl)) (fun _ h9 => h9) rfl dX3_next_29 ?_
      refine kV (wr := LBw aX aB aB1 aB2 aT aP kp) (W1 := BKw cA aB aR aL aF now told rf lf ff ++ TRw cA aT aU aG aE ((g_X0_showColour told ff bf gf ef x1 x2).1) ((g_X0_showColour told ff bf gf ef x1 x2).2.1) ((g_X0_showColour told ff bf gf ef x1 x2).2.2.1) ((g_X0_showColour told ff bf gf ef x1 x2).2.2.2)) (wsN := LBw aX aB aB1 aB2 aT aP kp ++ BKw cA aB aR aL aF now told rf lf ff ++ TRw cA aT aU aG aE ((g_X0_showColour told ff bf gf ef x1 x2).1) ((g_X0_showColour told ff bf gf ef x1 x2).2.1) ((g_X0_showColour told ff bf gf ef x1 x2).2.2.1) ((g_X0_showColour told ff bf gf ef x1 x2).2.2.2)) (rVN (As := [.int x1, .int x2, .ref aT]) (rest := []) (W0 := BKw cA aB aR aL aF now told rf lf ff ++ TRw cA aT aU aG aE sz bf gf ef) ⟨hx, hb, hml, hown, hts⟩ (c_X0_showColour l D cA cZ aB aR aL aF aT aU aG aE H.size now told rf lf ff sz bf gf ef x1 x2) ⟨va_cnB 3 hts gX3_next_X0_showColour_n108 rfl rfl rfl (hN (.methodLinkNest RX3 108 yX0_showColour RX3) (List.mem_of_getElem? (i := 34) rfl)) (hts (.initialized RX0) (List.mem_of_getElem? (i := 17) rfl)) (by decide +kernel) ⟨Nat.le_of_ble_eq_true rfl, Nat.le_of_ble_eq_true rfl⟩, (hts (.instanceMethod yX0_showColour) (List.mem_of_getElem? (i := 16) rfl)), (hts (.selects RX0 yX0_showColour yX0_showColour) (List.mem_of_getElem? (i := 18) rfl))⟩ hP hD hK hN ([1, 2, 3, 4, 5, 6, 7, 8] : List Nat) rfl rfl 0 0 rfl rfl rfl hl.1 rfl (Nat.le_of_ble_eq_true rfl) dX3_next_32 ⟨Nat.zero_le _, Nat.zero_le _⟩) hP hD hS hA [1, 2, 3, 4, 5, 6, 7, 8] [0] [0, 1, 2, 3, 4, 5, 6, 7, 8] rfl rfl rfl (by decide) rfl rfl (fun H locs hP hD hS => ?_)
      refine lv_aload_n hx hb dX3_next_35 rfl (lv_at hl 0 rfl) ?_
      refine va_get (D := D) (ci := 3) (v := .ref aT) (C := RX3) (T := TX3) (N := 6) hx hb hts iX3 hown hK hP 0 rfl rfl 2 (by decide) (hts (.fieldLink RX3 25 "LightBursts" "track" "LLightBursts$Track;") (List.mem_of_getElem? (i := 2) rfl)) (fun _ h9 => h9) rfl dX3_next_36 ?_
      refine lv_iload_n hx hb dX3_next_39 rfl (lv_at hl 3 rfl) ?_
      refine lv_iload hx hb dX3_next_40 (lv_at hl 4 rfl) ?_
      refine kI (wr := LBw aX aB aB1 aB2 aT aP kp ++ BKw cA aB aR aL aF now told rf lf ff) (W1 := TRw cA aT aU aG aE ((g_X0_showColour told ff bf gf ef x1 x2).1) ((g_X0_showColour told ff bf gf ef x1 x2).2.1) ((g_X0_showColour told ff bf gf ef x1 x2).2.2.1) ((g_X0_showColour told ff bf gf ef x1 x2).2.2.2)) (wsN := LBw aX aB aB1 aB2 aT aP kp ++ BKw cA aB aR aL aF now told rf lf ff ++ TRw cA aT aU aG aE ((g_X0_showColour told ff bf gf ef x1 x2).1) ((g_X0_showColour told ff bf gf ef x1 x2).2.1) ((g_X0_showColour told ff bf gf ef x1 x2).2.2.1) ((g_X0_showColour told ff bf gf ef x1 x2).2.2.2)) (rVN (As := [.int x3, .int x4]) (rest := []) (W0 := TRw cA aT aU aG aE ((g_X0_showColour told ff bf gf ef x1 x2).1) ((g_X0_showColour told ff bf gf ef x1 x2).2.1) ((g_X0_showColour told ff bf gf ef x1 x2).2.2.1) ((g_X0_showColour told ff bf gf ef x1 x2).2.2.2)) ⟨hx, hb, hml, hown, hts⟩ (c_X2_firstFree l D cA cZ aT aU aG aE H.size ((g_X0_showColour told ff bf gf ef x1 x2).1) ((g_X0_showColour told ff bf gf ef x1 x2).2.1) ((g_X0_showColour told ff bf gf ef x1 x2).2.2.1) ((g_X0_showColour told ff bf gf ef x1 x2).2.2.2) x3 x4 (show ((g_X0_showColour told ff bf gf ef x1 x2).1) ≤ 48 from by exact showColour_le)) ⟨va_cnB 2 hts gX3_next_X2_firstFree_n125 rfl rfl rfl (hN (.methodLinkNest RX3 125 yX2_firstFree RX3) (List.mem_of_getElem? (i := 40) rfl)) (hts (.initialized RX2) (List.mem_of_getElem? (i := 22) rfl)) (by decide +kernel) ⟨Nat.le_of_ble_eq_true rfl, Nat.le_of_ble_eq_true rfl⟩, (hts (.instanceMethod yX2_firstFree) (List.mem_of_getElem? (i := 37) rfl)), (hts (.selects RX2 yX2_firstFree yX2_firstFree) (List.mem_of_getElem? (i := 38) rfl))⟩ hP hD hK hN ([5, 6, 7, 8] : List Nat) rfl rfl 2 0 rfl rfl rfl hl.1 rfl (Nat.le_of_ble_eq_true rfl) dX3_next_42 ⟨Nat.zero_le _, Nat.zero_le _⟩) hP hD hS hA [5, 6, 7, 8] [0, 1, 2, 3, 4] [0, 1, 2, 3, 4, 5, 6, 7, 8] rfl rfl rfl (by decide) rfl rfl (fun H locs hP hD hS => ?_)
      rw [g_X3_next, if_neg c_1, if_neg c_2] at hG
      rw [hG]
      exact W.iret (v := (g_X2_firstFree ((g_X0_showColour told ff bf gf ef x1 x2).1) ((g_X0_showColour told ff bf gf ef x1 x2).2.2.1) ((g_X0_showColour told ff bf gf ef x1 x2).2.2.2) x3 x4)) hx hb hr (fun t ht hW => ⟨⟨_, (), rfl, rfl, by rw [ht]; exact hP, va_K.moved hW.alike hK, hD⟩, hS.F ht⟩) hS.2.2 dX3_next_45
    · refine lv_bipush (v := (-2)) hx hb dX3_next_19 (by decide) ?_
      rw [g_X3_next, if_neg c_1, if_pos c_2] at hG
      rw [hG]
      exact W.iret (v := (-2)) hx hb hr (fun t ht hW => ⟨⟨_, (), rfl, rfl, by rw [ht]; exact hP, va_K.moved hW.alike hK, hD⟩, hS.F ht⟩) hS.2.2 dX3_next_21
  · refine lv_iconst (v := (-1)) hx hb dX3_next_8 (by decide) ?_
    rw [g_X3_next, if_pos c_1] at hG
    rw [hG]
    exact W.iret (v := (-1)) hx hb hr (fun t ht hW => ⟨⟨_, (), rfl, rfl, by rw [ht]; exact hP, va_K.moved hW.alike hK, hD⟩, hS.F ht⟩) hS.2.2 dX3_next_9

def g_X3_hole (now : Int32) (told : Int32) (ff : (Nat → Int32)) (sz : Int32) (bf : (Nat → Int32)) (gf : (Nat → Int32)) (ef : (Nat → Int32)) (x1 : Int32) (x2 : Int32) (x3 : Int32) (x4 : Int32) : Int32 × Int32 × (Nat → Int32) × (Nat → Int32) × (Nat → Int32) := (if (g_X3_isColour x1 x2) = 0 then ((-1), sz, bf, gf, ef) else (if (g_X3_isBelow x4 2) = 0 then ((-2), sz, bf, gf, ef) else (if (g_X2_closingOfVoid ((g_X0_showColour told ff bf gf ef x1 x2).1) ((g_X0_showColour told ff bf gf ef x1 x2).2.2.1) ((g_X0_showColour told ff bf gf ef x1 x2).2.2.2) x3 now) = (-6) then ((-6), (g_X0_showColour told ff bf gf ef x1 x2).1, (g_X0_showColour told ff bf gf ef x1 x2).2.1, (g_X0_showColour told ff bf gf ef x1 x2).2.2.1, (g_X0_showColour told ff bf gf ef x1 x2).2.2.2) else (if x4 = 0 then ((g_X2_voidBefore ((g_X0_showColour told ff bf gf ef x1 x2).1) ((g_X0_showColour told ff bf gf ef x1 x2).2.2.2) (g_X2_closingOfVoid ((g_X0_showColour told ff bf gf ef x1 x2).1) ((g_X0_showColour told ff bf gf ef x1 x2).2.2.1) ((g_X0_showColour told ff bf gf ef x1 x2).2.2.2) x3 now) now), (g_X0_showColour told ff bf gf ef x1 x2).1, (g_X0_showColour told ff bf gf ef x1 x2).2.1, (g_X0_showColour told ff bf gf ef x1 x2).2.2.1, (g_X0_showColour told ff bf gf ef x1 x2).2.2.2) else (((g_X2_begin ((g_X0_showColour told ff bf gf ef x1 x2).1) ((g_X0_showColour told ff bf gf ef x1 x2).2.2.1) (g_X2_closingOfVoid ((g_X0_showColour told ff bf gf ef x1 x2).1) ((g_X0_showColour told ff bf gf ef x1 x2).2.2.1) ((g_X0_showColour told ff bf gf ef x1 x2).2.2.2) x3 now)) - (g_X2_voidBefore ((g_X0_showColour told ff bf gf ef x1 x2).1) ((g_X0_showColour told ff bf gf ef x1 x2).2.2.2) (g_X2_closingOfVoid ((g_X0_showColour told ff bf gf ef x1 x2).1) ((g_X0_showColour told ff bf gf ef x1 x2).2.2.1) ((g_X0_showColour told ff bf gf ef x1 x2).2.2.2) x3 now) now)), (g_X0_showColour told ff bf gf ef x1 x2).1, (g_X0_showColour told ff bf gf ef x1 x2).2.1, (g_X0_showColour told ff bf gf ef x1 x2).2.2.1, (g_X0_showColour told ff bf gf ef x1 x2).2.2.2)))))
set_option maxHeartbeats 4000000 in
set_option maxRecDepth 100000 in
theorem c_X3_hole (l : Launch) (D : va_G) (cA cZ : ClassId) (aX : Nat) (aB : Nat) (aB1 : Nat) (aB2 : Nat) (aT : Nat) (aP : Nat) (aR : Nat) (aL : Nat) (aF : Nat) (aU : Nat) (aG : Nat) (aE : Nat) (szz : Nat) (kp : Int32) (now : Int32) (told : Int32) (rf : (Nat → Int32)) (lf : (Nat → Int32)) (ff : (Nat → Int32)) (sz : Int32) (bf : (Nat → Int32)) (gf : (Nat → Int32)) (ef : (Nat → Int32)) (x1 : Int32) (x2 : Int32) (x3 : Int32) (x4 : Int32) : MetI l yX3_hole wsX3_hole 4 88 D (tyA cA cZ) [.ref aX, .int x1, .int x2, .int x3, .int x4] (LBw aX aB aB1 aB2 aT aP kp ++ BKw cA aB aR aL aF now told rf lf ff ++ TRw cA aT aU aG aE sz bf gf ef) szz (g_X3_hole now told ff sz bf gf ef x1 x2 x3 x4).1 (LBw aX aB aB1 aB2 aT aP kp ++ BKw cA aB aR aL aF now told rf lf ff ++ TRw cA aT aU aG aE ((g_X3_hole now told ff sz bf gf ef x1 x2 x3 x4).2.1) ((g_X3_hole now told ff sz bf gf ef x1 x2 x3 x4).2.2.1) ((g_X3_hole now told ff sz bf gf ef x1 x2 x3 x4).2.2.2.1) ((g_X3_hole now told ff sz bf gf ef x1 x2 x3 x4).2.2.2.2)) := by
  refine Met.ofW (cc := cX3_hole) (maxL := 7) (ret := (some .int)) (by decide) rfl ?_
  intro p e s m args below meth c s₁ B hml hv
  obtain ⟨rfl, hsz, hP, hK, hD0, hN⟩ := hv
  have hx := B.exec
  have hb := B.bytes
  have hr := B.returns
  have hts := atoms_spec (ws := wsX3_hole) B.pre
  have hown : s.vm.findClass RX3 = some m.cls := findClass_of_methodNamed B.named
  have hlocks := B.notSynchronized
  have iX3 : ∀ w ∈ wsX30, w ∈ wsX3_hole := fun _ h => List.mem_cons_of_mem _ (List.mem_append_left _ (List.mem_append_left _ (List.mem_append_right _ h)))
  have iX0 : ∀ w ∈ wsX00, w ∈ wsX3_hole := fun _ h => List.mem_cons_of_mem _ (List.mem_append_left _ (List.mem_append_right _ h))
  have iX2 : ∀ w ∈ wsX20, w ∈ wsX3_hole := fun _ h => List.mem_cons_of_mem _ (List.mem_append_right _ h)
  subst hsz
  have hD := hD0.self (sz := s.heap.size)
  generalize hAe : va_A (LBw aX aB aB1 aB2 aT aP kp ++ BKw cA aB aR aL aF now told rf lf ff ++ TRw cA aT aU aG aE sz bf gf ef) s.heap.size = A at hD ⊢
  have hA : ∀ q : Nat, s.heap.size ≤ q → A q := fun q h => by rw [← hAe]; exact Or.inr h
  have hS : va_S A s.heap s.heap [] := va_S.rf
  have hP : va_P D vwCl (LBw aX aB aB1 aB2 aT aP kp ++ BKw cA aB aR aL aF now told rf lf ff ++ TRw cA aT aU aG aE sz bf gf ef) s.heap := hP
  obtain ⟨G, hG⟩ : ∃ G, G = (g_X3_hole now told ff sz bf gf ef x1 x2 x3 x4) := ⟨_, rfl⟩
  rw [← hG]
  have hl := lv_entry ([.ref aX, .int x1, .int x2, .int x3, .int x4]) (n := 7) (Nat.le_of_ble_eq_true rfl)
  rw [lg_entry_eq]
  generalize (lg_sl ([.ref aX, .int x1, .int x2, .int x3, .int x4]) ++ List.replicate (7 - (lg_sl ([.ref aX, .int x1, .int x2, .int x3, .int x4])).length) Slot.unset).toArray = ls at hl ⊢
  have hl : lv_has ls 7 [(0, .ref aX), (1, .int x1), (2, .int x2), (3, .int x3), (4, .int x4)] := hl
  refine lv_iload_n hx hb dX3_hole_0 rfl (lv_at hl 1 rfl) ?_
  refine lv_iload_n hx hb dX3_hole_1 rfl (lv_at hl 2 rfl) ?_
  refine kI (wr := LBw aX aB aB1 aB2 aT aP kp ++ BKw cA aB aR aL aF now told rf lf ff ++ TRw cA aT aU aG aE sz bf gf ef) (W1 := ([] : va_W)) (wsN := LBw aX aB aB1 aB2 aT aP kp ++ BKw cA aB aR aL aF now told rf lf ff ++ TRw cA aT aU aG aE sz bf gf ef) (rS (As := [.int x1, .int x2]) (rest := []) (W0 := ([] : va_W)) ⟨hx, hb, hml, hown, hts⟩ (c_X3_isColour l D cA cZ s.heap.size x1 x2) (cwS 2 hts gX3_hole_X3_isColour rfl rfl rfl (by decide +kernel) ⟨Nat.le_of_ble_eq_true rfl, Nat.le_of_ble_eq_true rfl⟩) hP hD hK hN ([] : List Nat) rfl rfl rfl hl.1 rfl (Nat.le_of_ble_eq_true rfl) dX3_hole_2 ⟨Nat.zero_le _, Nat.zero_le _⟩) hP hD hS hA [] [0, 1, 2, 3, 4, 5, 6, 7, 8] [0, 1, 2, 3, 4, 5, 6, 7, 8] rfl rfl rfl (by decide) rfl rfl (fun H locs hP hD hS => ?_)
  refine lv_if_ne (tgt := 10) hx hb dX3_hole_5 (by decide) (fun c_1 => ?_) (fun c_1 => ?_)
  · refine lv_iload hx hb dX3_hole_10 (lv_at hl 4 rfl) ?_
    refine lv_iconst (v := 2) hx hb dX3_hole_12 (by decide) ?_
    refine kI (wr := LBw aX aB aB1 aB2 aT aP kp ++ BKw cA aB aR aL aF now told rf lf ff ++ TRw cA aT aU aG aE sz bf gf ef) (W1 := ([] : va_W)) (wsN := LBw aX aB aB1 aB2 aT aP kp ++ BKw cA aB aR aL aF now told rf lf ff ++ TRw cA aT aU aG aE sz bf gf ef) (rS (As := [.int x4, .int 2]) (rest := []) (W0 := ([] : va_W)) ⟨hx, hb, hml, hown, hts⟩ (c_X3_isBelow l D cA cZ H.size x4 2) (cwS 2 hts gX3_hole_X3_isBelow rfl rfl rfl (by decide +kernel) ⟨Nat.le_of_ble_eq_true rfl, Nat.le_of_ble_eq_true rfl⟩) hP hD hK hN ([] : List Nat) rfl rfl rfl hl.1 rfl (Nat.le_of_ble_eq_true rfl) dX3_hole_13 ⟨Nat.zero_le _, Nat.zero_le _⟩) hP hD hS hA [] [0, 1, 2, 3, 4, 5, 6, 7, 8] [0, 1, 2, 3, 4, 5, 6, 7, 8] rfl rfl rfl (by decide) rfl rfl (fun H locs hP hD hS => ?_)
    refine lv_if_ne (tgt := 22) hx hb dX3_hole_16 (by decide) (fun c_2 => ?_) (fun c_2 => ?_)
    · refine lv_aload_n hx hb dX3_hole_22 rfl (lv_at hl 0 rfl) ?_
      refine va_get (D := D) (ci := 3) (v := .ref aB) (C := RX3) (T := TX3) (N := 6) hx hb hts iX3 hown hK hP 0 rfl rfl 1 (by decide) (hts (.fieldLink RX3 20 "LightBursts" "book" "LLightBursts$Book;") (List.mem_of_getElem? (i := 1) rfl)) (fun _ h9 => h9) rfl dX3_hole_23 ?_
      refine lv_iload_n hx hb dX3_hole_26 rfl (lv_at hl 1 rfl) ?_
      refine lv_iload_n hx hb dX3_hole_27 rfl (lv_at hl 2 rfl) ?_
      refine lv_aload_n hx hb dX3_hole_28 rfl (lv_at hl 0 rfl) ?_
      refine va_get (D := D) (ci := 3) (v := .ref aT) (C := RX3) (T := TX3) (N := 6) hx hb hts iX3 hown hK hP 0 rfl rfl 2 (by decide) (hts (.fieldLink RX3 25 "LightBursts" "track" "LLightBursts$Track;") (List.mem_of_getElem? (i := 2) rfl)) (fun _ h9 => h9) rfl dX3_hole_29 ?_
      refine kV (wr := LBw aX aB aB1 aB2 aT aP kp) (W1 := BKw cA aB aR aL aF now told rf lf ff ++ TRw cA aT aU aG aE ((g_X0_showColour told ff bf gf ef x1 x2).1) ((g_X0_showColour told ff bf gf ef x1 x2).2.1) ((g_X0_showColour told ff bf gf ef x1 x2).2.2.1) ((g_X0_showColour told ff bf gf ef x1 x2).2.2.2)) (wsN := LBw aX aB aB1 aB2 aT aP kp ++ BKw cA aB aR aL aF now told rf lf ff ++ TRw cA aT aU aG aE ((g_X0_showColour told ff bf gf ef x1 x2).1) ((g_X0_showColour told ff bf gf ef x1 x2).2.1) ((g_X0_showColour told ff bf gf ef x1 x2).2.2.1) ((g_X0_showColour told ff bf gf ef x1 x2).2.2.2)) (rVN (As := [.int x1, .int x2, .ref aT]) (rest := []) (W0 := BKw cA aB aR aL aF now told rf lf ff ++ TRw cA aT aU aG aE sz bf gf ef) ⟨hx, hb, hml, hown, hts⟩ (c_X0_showColour l D cA cZ aB aR aL aF aT aU aG aE H.size now told rf lf ff sz bf gf ef x1 x2) ⟨va_cnB 3 hts gX3_hole_X0_showColour_n108 rfl rfl rfl (hN (.methodLinkNest RX3 108 yX0_showColour RX3) (List.mem_of_getElem? (i := 34) rfl)) (hts (.initialized RX0) (List.mem_of_getElem? (i := 11) rfl)) (by decide +kernel) ⟨Nat.le_of_ble_eq_true rfl, Nat.le_of_ble_eq_true rfl⟩, (hts (.instanceMethod yX0_showColour) (List.mem_of_getElem? (i := 10) rfl)), (hts (.selects RX0 yX0_showColour yX0_showColour) (List.mem_of_getElem? (i := 12) rfl))⟩ hP hD hK hN ([1, 2, 3, 4, 5, 6, 7, 8] : List Nat) rfl rfl 0 0 rfl rfl rfl hl.1 rfl (Nat.le_of_ble_eq_true rfl) dX3_hole_32 ⟨Nat.zero_le _, Nat.zero_le _⟩) hP hD hS hA [1, 2, 3, 4, 5, 6, 7, 8] [0] [0, 1, 2, 3, 4, 5, 6, 7, 8] rfl rfl rfl (by decide) rfl rfl (fun H locs hP hD hS => ?_)
      refine lv_aload_n hx hb dX3_hole_35 rfl (lv_at hl 0 rfl) ?_
      refine va_get (D := D) (ci := 3) (v := .ref aT) (C := RX3) (T := TX3) (N := 6) hx hb hts iX3 hown hK hP 0 rfl rfl 2 (by decide) (hts (.fieldLink RX3 25 "LightBursts" "track" "LLightBursts$Track;") (List.mem_of_getElem? (i := 2) rfl)) (fun _ h9 => h9) rfl dX3_hole_36 ?_
      refine lv_iload_n hx hb dX3_hole_39 rfl (lv_at hl 3 rfl) ?_
      refine lv_aload_n hx hb dX3_hole_40 rfl (lv_at hl 0 rfl) ?_
      refine va_get (D := D) (ci := 3) (v := .ref aB) (C := RX3) (T := TX3) (N := 6) hx hb hts iX3 hown hK hP 0 rfl rfl 1 (by decide) (hts (.fieldLink RX3 20 "LightBursts" "book" "LLightBursts$Book;") (List.mem_of_getElem? (i := 1) rfl)) (fun _ h9 => h9) rfl dX3_hole_41 ?_
      refine va_getN (D := D) (ci := 0) (v := .int now) (C := RX0) (T := TX0) (N := 5) hx hb hts iX0 hown hK hP 1 rfl rfl 0 (by decide) (va_Nw.use rfl (hN (.fieldLinkNest RX3 67 "LightBursts$Book" "now" "I" RX3) (List.mem_of_getElem? (i := 3) rfl))) (fun _ h9 => h9) rfl dX3_hole_44 ?_
      refine kI (wr := LBw aX aB aB1 aB2 aT aP kp ++ BKw cA aB aR aL aF now told rf lf ff) (W1 := TRw cA aT aU aG aE ((g_X0_showColour told ff bf gf ef x1 x2).1) ((g_X0_showColour told ff bf gf ef x1 x2).2.1) ((g_X0_showColour told ff bf gf ef x1 x2).2.2.1) ((g_X0_showColour told ff bf gf ef x1 x2).2.2.2)) (wsN := LBw aX aB aB1 aB2 aT aP kp ++ BKw cA aB aR aL aF now told rf lf ff ++ TRw cA aT aU aG aE ((g_X0_showColour told ff bf gf ef x1 x2).1) ((g_X0_showColour told ff bf gf ef x1 x2).2.1) ((g_X0_showColour told ff bf gf ef x1 x2).2.2.1) ((g_X0_showColour told ff bf gf ef x1 x2).2.2.2)) (rVN (As := [.int x3, .int now]) (rest := []) (W0 := TRw cA aT aU aG aE ((g_X0_showColour told ff bf gf ef x1 x2).1) ((g_X0_showColour told ff bf gf ef x1 x2).2.1) ((g_X0_showColour told ff bf gf ef x1 x2).2.2.1) ((g_X0_showColour told ff bf gf ef x1 x2).2.2.2)) ⟨hx, hb, hml, hown, hts⟩ (c_X2_closingOfVoid l D cA cZ aT aU aG aE H.size ((g_X0_showColour told ff bf gf ef x1 x2).1) ((g_X0_showColour told ff bf gf ef x1 x2).2.1) ((g_X0_showColour told ff bf gf ef x1 x2).2.2.1) ((g_X0_showColour told ff bf gf ef x1 x2).2.2.2) x3 now (show ((g_X0_showColour told ff bf gf ef x1 x2).1) ≤ 48 from by exact showColour_le)) ⟨va_cnB 2 hts gX3_hole_X2_closingOfVoid_n128 rfl rfl rfl (hN (.methodLinkNest RX3 128 yX2_closingOfVoid RX3) (List.mem_of_getElem? (i := 41) rfl)) (hts (.initialized RX2) (List.mem_of_getElem? (i := 16) rfl)) (by decide +kernel) ⟨Nat.le_of_ble_eq_true rfl, Nat.le_of_ble_eq_true rfl⟩, (hts (.instanceMethod yX2_closingOfVoid) (List.mem_of_getElem? (i := 31) rfl)), (hts (.selects RX2 yX2_closingOfVoid yX2_closingOfVoid) (List.mem_of_getElem? (i := 32) rfl))⟩ hP hD hK hN ([5, 6, 7, 8] : List Nat) rfl rfl 2 0 rfl rfl rfl hl.1 rfl (Nat.le_of_ble_eq_true rfl) dX3_hole_47 ⟨Nat.zero_le _, Nat.zero_le _⟩) hP hD hS hA [5, 6, 7, 8] [0, 1, 2, 3, 4] [0, 1, 2, 3, 4, 5, 6, 7, 8] rfl rfl rfl (by decide) rfl rfl (fun H locs hP hD hS => ?_)
      refine lv_istore (lv' := [(5, .int (g_X2_closingOfVoid ((g_X0_showColour told ff bf gf ef x1 x2).1) ((g_X0_showColour told ff bf gf ef x1 x2).2.2.1) ((g_X0_showColour told ff bf gf ef x1 x2).2.2.2) x3 now)), (0, .ref aX), (1, .int x1), (2, .int x2), (3, .int x3), (4, .int x4)]) hx hb dX3_hole_50 hl (by decide) rfl (fun ls hl => ?_)
      refine lv_iload hx hb dX3_hole_52 (lv_at hl 0 rfl) ?_
      refine lv_bipush (v := (-6)) hx hb dX3_hole_54 (by decide) ?_
      refine lv_icmp_ne (tgt := 62) hx hb dX3_hole_56 (by decide) (fun c_3 => ?_) (fun c_3 => ?_)
      · refine lv_aload_n hx hb dX3_hole_62 rfl (lv_at hl 1 rfl) ?_
        refine va_get (D := D) (ci := 3) (v := .ref aT) (C := RX3) (T := TX3) (N := 6) hx hb hts iX3 hown hK hP 0 rfl rfl 2 (by decide) (hts (.fieldLink RX3 25 "LightBursts" "track" "LLightBursts$Track;") (List.mem_of_getElem? (i := 2) rfl)) (fun _ h9 => h9) rfl dX3_hole_63 ?_
        refine lv_iload hx hb dX3_hole_66 (lv_at hl 0 rfl) ?_
        refine lv_aload_n hx hb dX3_hole_68 rfl (lv_at hl 1 rfl) ?_
        refine va_get (D := D) (ci := 3) (v := .ref aB) (C := RX3) (T := TX3) (N := 6) hx hb hts iX3 hown hK hP 0 rfl rfl 1 (by decide) (hts (.fieldLink RX3 20 "LightBursts" "book" "LLightBursts$Book;") (List.mem_of_getElem? (i := 1) rfl)) (fun _ h9 => h9) rfl dX3_hole_69 ?_
        refine va_getN (D := D) (ci := 0) (v := .int now) (C := RX0) (T := TX0) (N := 5) hx hb hts iX0 hown hK hP 1 rfl rfl 0 (by decide) (va_Nw.use rfl (hN (.fieldLinkNest RX3 67 "LightBursts$Book" "now" "I" RX3) (List.mem_of_getElem? (i := 3) rfl))) (fun _ h9 => h9) rfl dX3_hole_72 ?_
        refine kI (wr := LBw aX aB aB1 aB2 aT aP kp ++ BKw cA aB aR aL aF now told rf lf ff) (W1 := TRw cA aT aU aG aE ((g_X0_showColour told ff bf gf ef x1 x2).1) ((g_X0_showColour told ff bf gf ef x1 x2).2.1) ((g_X0_showColour told ff bf gf ef x1 x2).2.2.1) ((g_X0_showColour told ff bf gf ef x1 x2).2.2.2)) (wsN := LBw aX aB aB1 aB2 aT aP kp ++ BKw cA aB aR aL aF now told rf lf ff ++ TRw cA aT aU aG aE ((g_X0_showColour told ff bf gf ef x1 x2).1) ((g_X0_showColour told ff bf gf ef x1 x2).2.1) ((g_X0_showColour told ff bf gf ef x1 x2).2.2.1) ((g_X0_showColour told ff bf gf ef x1 x2).2.2.2)) (rVN (As := [.int (g_X2_closingOfVoid ((g_X0_showColour told ff bf gf ef x1 x2).1) ((g_X0_showColour told ff bf gf ef x1 x2).2.2.1) ((g_X0_showColour told ff bf gf ef x1 x2).2.2.2) x3 now), .int now]) (rest := []) (W0 := TRw cA aT aU aG aE ((g_X0_showColour told ff bf gf ef x1 x2).1) ((g_X0_showColour told ff bf gf ef x1 x2).2.1) ((g_X0_showColour told ff bf gf ef x1 x2).2.2.1) ((g_X0_showColour told ff bf gf ef x1 x2).2.2.2)) ⟨hx, hb, hml, hown, hts⟩ (c_X2_voidBefore l D cA cZ aT aU aG aE H.size ((g_X0_showColour told ff bf gf ef x1 x2).1) ((g_X0_showColour told ff bf gf ef x1 x2).2.1) ((g_X0_showColour told ff bf gf ef x1 x2).2.2.1) ((g_X0_showColour told ff bf gf ef x1 x2).2.2.2) (g_X2_closingOfVoid ((g_X0_showColour told ff bf gf ef x1 x2).1) ((g_X0_showColour told ff bf gf ef x1 x2).2.2.1) ((g_X0_showColour told ff bf gf ef x1 x2).2.2.2) x3 now) now (show ((g_X0_showColour told ff bf gf ef x1 x2).1) ≤ 48 from by exact showColour_le)) ⟨va_cnB 2 hts gX3_hole_X2_voidBefore_n131 rfl rfl rfl (hN (.methodLinkNest RX3 131 yX2_voidBefore RX3) (List.mem_of_getElem? (i := 42) rfl)) (hts (.initialized RX2) (List.mem_of_getElem? (i := 16) rfl)) (by decide +kernel) ⟨Nat.le_of_ble_eq_true rfl, Nat.le_of_ble_eq_true rfl⟩, (hts (.instanceMethod yX2_voidBefore) (List.mem_of_getElem? (i := 35) rfl)), (hts (.selects RX2 yX2_voidBefore yX2_voidBefore) (List.mem_of_getElem? (i := 36) rfl))⟩ hP hD hK hN ([5, 6, 7, 8] : List Nat) rfl rfl 2 0 rfl rfl rfl hl.1 rfl (Nat.le_of_ble_eq_true rfl) dX3_hole_75 ⟨Nat.zero_le _, Nat.zero_le _⟩) hP hD hS hA [5, 6, 7, 8] [0, 1, 2, 3, 4] [0, 1, 2, 3, 4, 5, 6, 7, 8] rfl rfl rfl (by decide) rfl rfl (fun H locs hP hD hS => ?_)
        refine lv_istore (lv' := [(6, .int (g_X2_voidBefore ((g_X0_showColour told ff bf gf ef x1 x2).1) ((g_X0_showColour told ff bf gf ef x1 x2).2.2.2) (g_X2_closingOfVoid ((g_X0_showColour told ff bf gf ef x1 x2).1) ((g_X0_showColour told ff bf gf ef x1 x2).2.2.1) ((g_X0_showColour told ff bf gf ef x1 x2).2.2.2) x3 now) now)), (5, .int (g_X2_closingOfVoid ((g_X0_showColour told ff bf gf ef x1 x2).1) ((g_X0_showColour told ff bf gf ef x1 x2).2.2.1) ((g_X0_showColour told ff bf gf ef x1 x2).2.2.2) x3 now)), (0, .ref aX), (1, .int x1), (2, .int x2), (3, .int x3), (4, .int x4)]) hx hb dX3_hole_78 hl (by decide) rfl (fun ls hl => ?_)
        refine lv_iload hx hb dX3_hole_80 (lv_at hl 6 rfl) ?_
        refine lv_if_ne (tgt := 90) hx hb dX3_hole_82 (by decide) (fun c_4 => ?_) (fun c_4 => ?_)
        · refine lv_aload_n hx hb dX3_hole_90 rfl (lv_at hl 2 rfl) ?_
          refine va_get (D := D) (ci := 3) (v := .ref aT) (C := RX3) (T := TX3) (N := 6) hx hb hts iX3 hown hK hP 0 rfl rfl 2 (by decide) (hts (.fieldLink RX3 25 "LightBursts" "track" "LLightBursts$Track;") (List.mem_of_getElem? (i := 2) rfl)) (fun _ h9 => h9) rfl dX3_hole_91 ?_
          refine lv_iload hx hb dX3_hole_94 (lv_at hl 1 rfl) ?_
          refine kI (wr := LBw aX aB aB1 aB2 aT aP kp ++ BKw cA aB aR aL aF now told rf lf ff) (W1 := TRw cA aT aU aG aE ((g_X0_showColour told ff bf gf ef x1 x2).1) ((g_X0_showColour told ff bf gf ef x1 x2).2.1) ((g_X0_showColour told ff bf gf ef x1 x2).2.2.1) ((g_X0_showColour told ff bf gf ef x1 x2).2.2.2)) (wsN := LBw aX aB aB1 aB2 aT aP kp ++ BKw cA aB aR aL aF now told rf lf ff ++ TRw cA aT aU aG aE ((g_X0_showColour told ff bf gf ef x1 x2).1) ((g_X0_showColour told ff bf gf ef x1 x2).2.1) ((g_X0_showColour told ff bf gf ef x1 x2).2.2.1) ((g_X0_showColour told ff bf gf ef x1 x2).2.2.2)) (rVN (As := [.int (g_X2_closingOfVoid ((g_X0_showColour told ff bf gf ef x1 x2).1) ((g_X0_showColour told ff bf gf ef x1 x2).2.2.1) ((g_X0_showColour told ff bf gf ef x1 x2).2.2.2) x3 now)]) (rest := []) (W0 := TRw cA aT aU aG aE ((g_X0_showColour told ff bf gf ef x1 x2).1) ((g_X0_showColour told ff bf gf ef x1 x2).2.1) ((g_X0_showColour told ff bf gf ef x1 x2).2.2.1) ((g_X0_showColour told ff bf gf ef x1 x2).2.2.2)) ⟨hx, hb, hml, hown, hts⟩ (c_X2_begin l D cA cZ aT aU aG aE H.size ((g_X0_showColour told ff bf gf ef x1 x2).1) ((g_X0_showColour told ff bf gf ef x1 x2).2.1) ((g_X0_showColour told ff bf gf ef x1 x2).2.2.1) ((g_X0_showColour told ff bf gf ef x1 x2).2.2.2) (g_X2_closingOfVoid ((g_X0_showColour told ff bf gf ef x1 x2).1) ((g_X0_showColour told ff bf gf ef x1 x2).2.2.1) ((g_X0_showColour told ff bf gf ef x1 x2).2.2.2) x3 now) (show ((g_X0_showColour told ff bf gf ef x1 x2).1) ≤ 48 from by exact showColour_le)) ⟨va_cnB 1 hts gX3_hole_X2_begin_n134 rfl rfl rfl (hN (.methodLinkNest RX3 134 yX2_begin RX3) (List.mem_of_getElem? (i := 35) rfl)) (hts (.initialized RX2) (List.mem_of_getElem? (i := 16) rfl)) (by decide +kernel) ⟨Nat.le_of_ble_eq_true rfl, Nat.le_of_ble_eq_true rfl⟩, (hts (.instanceMethod yX2_begin) (List.mem_of_getElem? (i := 46) rfl)), (hts (.selects RX2 yX2_begin yX2_begin) (List.mem_of_getElem? (i := 47) rfl))⟩ hP hD hK hN ([5, 6, 7, 8] : List Nat) rfl rfl 2 0 rfl rfl rfl hl.1 rfl (Nat.le_of_ble_eq_true rfl) dX3_hole_96 ⟨Nat.zero_le _, Nat.zero_le _⟩) hP hD hS hA [5, 6, 7, 8] [0, 1, 2, 3, 4] [0, 1, 2, 3, 4, 5, 6, 7, 8] rfl rfl rfl (by decide) rfl rfl (fun H locs hP hD hS => ?_)
          refine lv_iload hx hb dX3_hole_99 (lv_at hl 0 rfl) ?_
          refine lv_isub hx hb dX3_hole_101 ?_
          rw [g_X3_hole, if_neg c_1, if_neg c_2, if_neg c_3, if_neg c_4] at hG
          rw [hG]
          exact W.iret (v := ((g_X2_begin ((g_X0_showColour told ff bf gf ef x1 x2).1) ((g_X0_showColour told ff bf gf ef x1 x2).2.2.1) (g_X2_closingOfVoid ((g_X0_showColour told ff bf gf ef x1 x2).1) ((g_X0_showColour told ff bf gf ef x1 x2).2.2.1) ((g_X0_showColour told ff bf gf ef x1 x2).2.2.2) x3 now)) - (g_X2_voidBefore ((g_X0_showColour told ff bf gf ef x1 x2).1) ((g_X0_showColour told ff bf gf ef x1 x2).2.2.2) (g_X2_closingOfVoid ((g_X0_showColour told ff bf gf ef x1 x2).1) ((g_X0_showColour told ff bf gf ef x1 x2).2.2.1) ((g_X0_showColour told ff bf gf ef x1 x2).2.2.2) x3 now) now))) hx hb hr (fun t ht hW => ⟨⟨_, (), rfl, rfl, by rw [ht]; exact hP, va_K.moved hW.alike hK, hD⟩, hS.F ht⟩) hS.2.2 dX3_hole_102
        · refine lv_iload hx hb dX3_hole_85 (lv_at hl 0 rfl) ?_
          refine lv_goto (tgt := 102) hx hb dX3_hole_87 (by decide) ?_
          rw [g_X3_hole, if_neg c_1, if_neg c_2, if_neg c_3, if_pos c_4] at hG
          rw [hG]
          exact W.iret (v := (g_X2_voidBefore ((g_X0_showColour told ff bf gf ef x1 x2).1) ((g_X0_showColour told ff bf gf ef x1 x2).2.2.2) (g_X2_closingOfVoid ((g_X0_showColour told ff bf gf ef x1 x2).1) ((g_X0_showColour told ff bf gf ef x1 x2).2.2.1) ((g_X0_showColour told ff bf gf ef x1 x2).2.2.2) x3 now) now)) hx hb hr (fun t ht hW => ⟨⟨_, (), rfl, rfl, by rw [ht]; exact hP, va_K.moved hW.alike hK, hD⟩, hS.F ht⟩) hS.2.2 dX3_hole_102
      · refine lv_bipush (v := (-6)) hx hb dX3_hole_59 (by decide) ?_
        rw [g_X3_hole, if_neg c_1, if_neg c_2, if_pos c_3] at hG
        rw [hG]
        exact W.iret (v := (-6)) hx hb hr (fun t ht hW => ⟨⟨_, (), rfl, rfl, by rw [ht]; exact hP, va_K.moved hW.alike hK, hD⟩, hS.F ht⟩) hS.2.2 dX3_hole_61
    · refine lv_bipush (v := (-2)) hx hb dX3_hole_19 (by decide) ?_
      rw [g_X3_hole, if_neg c_1, if_pos c_2] at hG
      rw [hG]
      exact W.iret (v := (-2)) hx hb hr (fun t ht hW => ⟨⟨_, (), rfl, rfl, by rw [ht]; exact hP, va_K.moved hW.alike hK, hD⟩, hS.F ht⟩) hS.2.2 dX3_hole_21
  · refine lv_iconst (v := (-1)) hx hb dX3_hole_8 (by decide) ?_
    rw [g_X3_hole, if_pos c_1] at hG
    rw [hG]
    exact W.iret (v := (-1)) hx hb hr (fun t ht hW => ⟨⟨_, (), rfl, rfl, by rw [ht]; exact hP, va_K.moved hW.alike hK, hD⟩, hS.F ht⟩) hS.2.2 dX3_hole_9

def g_X3_free_L27 (told : Int32) (ff : (Nat → Int32)) (x1 : Int32) (x2 : Int32) (x3 : Int32) : Nat → Int32 → Int32 → Int32 → (Nat → Int32) → (Nat → Int32) → (Nat → Int32) → (Int32 × Int32 × (Nat → Int32) × (Nat → Int32) × (Nat → Int32))
  | 0, _, _, _, _, _, _ => (0, 0, (fun _ => 0), (fun _ => 0), (fun _ => 0))
  | n + 1, v4, v5, w_sz, w_bf, w_gf, w_ef => (if 6 ≤ v5 then (v4, w_sz, w_bf, w_gf, w_ef) else (if (g_X2_isFree ((g_X0_showColour told ff w_bf w_gf w_ef x1 v5).1) ((g_X0_showColour told ff w_bf w_gf w_ef x1 v5).2.2.1) ((g_X0_showColour told ff w_bf w_gf w_ef x1 v5).2.2.2) x2 (x2 + x3) 1) = 0 then (g_X3_free_L27 told ff x1 x2 x3 n v4 (v5 + 1) ((g_X0_showColour told ff w_bf w_gf w_ef x1 v5).1) ((g_X0_showColour told ff w_bf w_gf w_ef x1 v5).2.1) ((g_X0_showColour told ff w_bf w_gf w_ef x1 v5).2.2.1) ((g_X0_showColour told ff w_bf w_gf w_ef x1 v5).2.2.2)) else (g_X3_free_L27 told ff x1 x2 x3 n (v4 ||| (1 <<< (v5 &&& 31))) (v5 + 1) ((g_X0_showColour told ff w_bf w_gf w_ef x1 v5).1) ((g_X0_showColour told ff w_bf w_gf w_ef x1 v5).2.1) ((g_X0_showColour told ff w_bf w_gf w_ef x1 v5).2.2.1) ((g_X0_showColour told ff w_bf w_gf w_ef x1 v5).2.2.2))))
def g_X3_free (told : Int32) (ff : (Nat → Int32)) (sz : Int32) (bf : (Nat → Int32)) (gf : (Nat → Int32)) (ef : (Nat → Int32)) (x1 : Int32) (x2 : Int32) (x3 : Int32) : Int32 × Int32 × (Nat → Int32) × (Nat → Int32) × (Nat → Int32) := (if (g_X3_isBelow x1 2) = 0 then ((-1), sz, bf, gf, ef) else (if (g_X3_isSpan x2 x3) = 0 then ((-2), sz, bf, gf, ef) else (g_X3_free_L27 told ff x1 x2 x3 (((6 : Int32).toInt - ((0 : Int32)).toInt).toNat + 1) 0 0 sz bf gf ef)))
set_option maxHeartbeats 4000000 in
set_option maxRecDepth 100000 in
theorem c_X3_free (l : Launch) (D : va_G) (cA cZ : ClassId) (aX : Nat) (aB : Nat) (aB1 : Nat) (aB2 : Nat) (aT : Nat) (aP : Nat) (aR : Nat) (aL : Nat) (aF : Nat) (aU : Nat) (aG : Nat) (aE : Nat) (szz : Nat) (kp : Int32) (now : Int32) (told : Int32) (rf : (Nat → Int32)) (lf : (Nat → Int32)) (ff : (Nat → Int32)) (sz : Int32) (bf : (Nat → Int32)) (gf : (Nat → Int32)) (ef : (Nat → Int32)) (x1 : Int32) (x2 : Int32) (x3 : Int32) : MetI l yX3_free wsX3_free 3 69 D (tyA cA cZ) [.ref aX, .int x1, .int x2, .int x3] (LBw aX aB aB1 aB2 aT aP kp ++ BKw cA aB aR aL aF now told rf lf ff ++ TRw cA aT aU aG aE sz bf gf ef) szz (g_X3_free told ff sz bf gf ef x1 x2 x3).1 (LBw aX aB aB1 aB2 aT aP kp ++ BKw cA aB aR aL aF now told rf lf ff ++ TRw cA aT aU aG aE ((g_X3_free told ff sz bf gf ef x1 x2 x3).2.1) ((g_X3_free told ff sz bf gf ef x1 x2 x3).2.2.1) ((g_X3_free told ff sz bf gf ef x1 x2 x3).2.2.2.1) ((g_X3_free told ff sz bf gf ef x1 x2 x3).2.2.2.2)) := by
  refine Met.ofW (cc := cX3_free) (maxL := 6) (ret := (some .int)) (by decide) rfl ?_
  intro p e s m args below meth c s₁ B hml hv
  obtain ⟨rfl, hsz, hP, hK, hD0, hN⟩ := hv
  have hx := B.exec
  have hb := B.bytes
  have hr := B.returns
  have hts := atoms_spec (ws := wsX3_free) B.pre
  have hown : s.vm.findClass RX3 = some m.cls := findClass_of_methodNamed B.named
  have hlocks := B.notSynchronized
  have iX3 : ∀ w ∈ wsX30, w ∈ wsX3_free := fun _ h => List.mem_cons_of_mem _ (List.mem_append_left _ (List.mem_append_left _ (List.mem_append_right _ h)))
  have iX0 : ∀ w ∈ wsX00, w ∈ wsX3_free := fun _ h => List.mem_cons_of_mem _ (List.mem_append_left _ (List.mem_append_right _ h))
  have iX2 : ∀ w ∈ wsX20, w ∈ wsX3_free := fun _ h => List.mem_cons_of_mem _ (List.mem_append_right _ h)
  subst hsz
  have hD := hD0.self (sz := s.heap.size)
  generalize hAe : va_A (LBw aX aB aB1 aB2 aT aP kp ++ BKw cA aB aR aL aF now told rf lf ff ++ TRw cA aT aU aG aE sz bf gf ef) s.heap.size = A at hD ⊢
  have hA : ∀ q : Nat, s.heap.size ≤ q → A q := fun q h => by rw [← hAe]; exact Or.inr h
  have hS : va_S A s.heap s.heap [] := va_S.rf
  have hP : va_P D vwCl (LBw aX aB aB1 aB2 aT aP kp ++ BKw cA aB aR aL aF now told rf lf ff ++ TRw cA aT aU aG aE sz bf gf ef) s.heap := hP
  obtain ⟨G, hG⟩ : ∃ G, G = (g_X3_free told ff sz bf gf ef x1 x2 x3) := ⟨_, rfl⟩
  rw [← hG]
  have hl := lv_entry ([.ref aX, .int x1, .int x2, .int x3]) (n := 6) (Nat.le_of_ble_eq_true rfl)
  rw [lg_entry_eq]
  generalize (lg_sl ([.ref aX, .int x1, .int x2, .int x3]) ++ List.replicate (6 - (lg_sl ([.ref aX, .int x1, .int x2, .int x3])).length) Slot.unset).toArray = ls at hl ⊢
  have hl : lv_has ls 6 [(0, .ref aX), (1, .int x1), (2, .int x2), (3, .int x3)] := hl
  refine lv_iload_n hx hb dX3_free_0 rfl (lv_at hl 1 rfl) ?_
  refine lv_iconst (v := 2) hx hb dX3_free_1 (by decide) ?_
  refine kI (wr := LBw aX aB aB1 aB2 aT aP kp ++ BKw cA aB aR aL aF now told rf lf ff ++ TRw cA aT aU aG aE sz bf gf ef) (W1 := ([] : va_W)) (wsN := LBw aX aB aB1 aB2 aT aP kp ++ BKw cA aB aR aL aF now told rf lf ff ++ TRw cA aT aU aG aE sz bf gf ef) (rS (As := [.int x1, .int 2]) (rest := []) (W0 := ([] : va_W)) ⟨hx, hb, hml, hown, hts⟩ (c_X3_isBelow l D cA cZ s.heap.size x1 2) (cwS 2 hts gX3_free_X3_isBelow rfl rfl rfl (by decide +kernel) ⟨Nat.le_of_ble_eq_true rfl, Nat.le_of_ble_eq_true rfl⟩) hP hD hK hN ([] : List Nat) rfl rfl rfl hl.1 rfl (Nat.le_of_ble_eq_true rfl) dX3_free_2 ⟨Nat.zero_le _, Nat.zero_le _⟩) hP hD hS hA [] [0, 1, 2, 3, 4, 5, 6, 7, 8] [0, 1, 2, 3, 4, 5, 6, 7, 8] rfl rfl rfl (by decide) rfl rfl (fun H locs hP hD hS => ?_)
  refine lv_if_ne (tgt := 10) hx hb dX3_free_5 (by decide) (fun c_1 => ?_) (fun c_1 => ?_)
  · refine lv_iload_n hx hb dX3_free_10 rfl (lv_at hl 2 rfl) ?_
    refine lv_iload_n hx hb dX3_free_11 rfl (lv_at hl 3 rfl) ?_
    refine kI (wr := LBw aX aB aB1 aB2 aT aP kp ++ BKw cA aB aR aL aF now told rf lf ff ++ TRw cA aT aU aG aE sz bf gf ef) (W1 := ([] : va_W)) (wsN := LBw aX aB aB1 aB2 aT aP kp ++ BKw cA aB aR aL aF now told rf lf ff ++ TRw cA aT aU aG aE sz bf gf ef) (rS (As := [.int x2, .int x3]) (rest := []) (W0 := ([] : va_W)) ⟨hx, hb, hml, hown, hts⟩ (c_X3_isSpan l D cA cZ H.size x2 x3) (cwS 2 hts gX3_free_X3_isSpan rfl rfl rfl (by decide +kernel) ⟨Nat.le_of_ble_eq_true rfl, Nat.le_of_ble_eq_true rfl⟩) hP hD hK hN ([] : List Nat) rfl rfl rfl hl.1 rfl (Nat.le_of_ble_eq_true rfl) dX3_free_12 ⟨Nat.zero_le _, Nat.zero_le _⟩) hP hD hS hA [] [0, 1, 2, 3, 4, 5, 6, 7, 8] [0, 1, 2, 3, 4, 5, 6, 7, 8] rfl rfl rfl (by decide) rfl rfl (fun H locs hP hD hS => ?_)
    refine lv_if_ne (tgt := 21) hx hb dX3_free_15 (by decide) (fun c_2 => ?_) (fun c_2 => ?_)
    · refine lv_iconst (v := 0) hx hb dX3_free_21 (by decide) ?_
      refine lv_istore (lv' := [(4, .int 0), (0, .ref aX), (1, .int x1), (2, .int x2), (3, .int x3)]) hx hb dX3_free_22 hl (by decide) rfl (fun ls hl => ?_)
      refine lv_iconst (v := 0) hx hb dX3_free_24 (by decide) ?_
      refine lv_istore (lv' := [(5, .int 0), (4, .int 0), (0, .ref aX), (1, .int x1), (2, .int x2), (3, .int x3)]) hx hb dX3_free_25 hl (by decide) rfl (fun ls hl => ?_)
      rw [g_X3_free, if_neg c_1, if_neg c_2] at hG
      refine (?_ : ∀ (n : Nat) (v4 : Int32) (v5 : Int32) (w_sz : Int32) (w_bf : (Nat → Int32)) (w_gf : (Nat → Int32)) (w_ef : (Nat → Int32)) (H : Heap) (locs : List Loc) (ls : Array Slot), ((6 : Int32).toInt - (v5).toInt).toNat < n → G = g_X3_free_L27 told ff x1 x2 x3 n v4 v5 w_sz w_bf w_gf w_ef → va_P D vwCl (LBw aX aB aB1 aB2 aT aP kp ++ BKw cA aB aR aL aF now told rf lf ff ++ TRw cA aT aU aG aE w_sz w_bf w_gf w_ef) H → va_D A (LBw aX aB aB1 aB2 aT aP kp ++ BKw cA aB aR aL aF now told rf lf ff ++ TRw cA aT aU aG aE w_sz w_bf w_gf w_ef) → va_S A s.heap H locs → lv_has ls 6 [(0, .ref aX), (1, .int x1), (2, .int x2), (3, .int x3), (4, .int v4), (5, .int v5)] → W p l e _ s m _ below meth c H locs _ _ _ (F0 m 27 ls [])) (((6 : Int32).toInt - ((0 : Int32)).toInt).toNat + 1) 0 0 sz bf gf ef _ _ _ (Nat.lt_succ_self _) hG hP hD hS (lv_sub hl [2, 3, 4, 5, 1, 0] rfl)
      clear hG hP hD hS hl
      intro n
      induction n with
      | zero => intros; omega
      | succ n27 ih27 =>
        intro v4 v5 w_sz w_bf w_gf w_ef H locs ls hm27 hG hP hD hS hl
        refine lv_iload hx hb dX3_free_27 (lv_at hl 5 rfl) ?_
        refine lv_bipush (v := 6) hx hb dX3_free_29 (by decide) ?_
        refine lv_icmp_ge (tgt := 78) hx hb dX3_free_31 (by decide) (fun c_3 => ?_) (fun c_3 => ?_)
        · refine lv_iload hx hb dX3_free_78 (lv_at hl 4 rfl) ?_
          rw [g_X3_free_L27, if_pos c_3] at hG
          rw [hG]
          exact W.iret (v := v4) hx hb hr (fun t ht hW => ⟨⟨_, (), rfl, rfl, by rw [ht]; exact hP, va_K.moved hW.alike hK, hD⟩, hS.F ht⟩) hS.2.2 dX3_free_80
        · refine lv_aload_n hx hb dX3_free_34 rfl (lv_at hl 0 rfl) ?_
          refine va_get (D := D) (ci := 3) (v := .ref aB) (C := RX3) (T := TX3) (N := 6) hx hb hts iX3 hown hK hP 0 rfl rfl 1 (by decide) (hts (.fieldLink RX3 20 "LightBursts" "book" "LLightBursts$Book;") (List.mem_of_getElem? (i := 1) rfl)) (fun _ h9 => h9) rfl dX3_free_35 ?_
          refine lv_iload_n hx hb dX3_free_38 rfl (lv_at hl 1 rfl) ?_
          refine lv_iload hx hb dX3_free_39 (lv_at hl 5 rfl) ?_
          refine lv_aload_n hx hb dX3_free_41 rfl (lv_at hl 0 rfl) ?_
          refine va_get (D := D) (ci := 3) (v := .ref aT) (C := RX3) (T := TX3) (N := 6) hx hb hts iX3 hown hK hP 0 rfl rfl 2 (by decide) (hts (.fieldLink RX3 25 "LightBursts" "track" "LLightBursts$Track;") (List.mem_of_getElem? (i := 2) rfl)) (fun _ h9 => h9) rfl dX3_free_42 ?_
          refine kV (wr := LBw aX aB aB1 aB2 aT aP kp) (W1 := BKw cA aB aR aL aF now told rf lf ff ++ TRw cA aT aU aG aE ((g_X0_showColour told ff w_bf w_gf w_ef x1 v5).1) ((g_X0_showColour told ff w_bf w_gf w_ef x1 v5).2.1) ((g_X0_showColour told ff w_bf w_gf w_ef x1 v5).2.2.1) ((g_X0_showColour told ff w_bf w_gf w_ef x1 v5).2.2.2)) (wsN := LBw aX aB aB1 aB2 aT aP kp ++ BKw cA aB aR aL aF now told rf lf ff ++ TRw cA aT aU aG aE ((g_X0_showColour told ff w_bf w_gf w_ef x1 v5).1) ((g_X0_showColour told ff w_bf w_gf w_ef x1 v5).2.1) ((g_X0_showColour told ff w_bf w_gf w_ef x1 v5).2.2.1) ((g_X0_showColour told ff w_bf w_gf w_ef x1 v5).2.2.2)) (rVN (As := [.int x1, .int v5, .ref aT]) (rest := []) (W0 := BKw cA aB aR aL aF now told rf lf ff ++ TRw cA aT aU aG aE w_sz w_bf w_gf w_ef) ⟨hx, hb, hml, hown, hts⟩ (c_X0_showColour l D cA cZ aB aR aL aF aT aU aG aE H.size now told rf lf ff w_sz w_bf w_gf w_ef x1 v5) ⟨va_cnB 3 hts gX3_free_X0_showColour_n108 rfl rfl rfl (hN (.methodLinkNest RX3 108 yX0_showColour RX3) (List.mem_of_getElem? (i := 34) rfl)) (hts (.initialized RX0) (List.mem_of_getElem? (i := 14) rfl)) (by decide +kernel) ⟨Nat.le_of_ble_eq_true rfl, Nat.le_of_ble_eq_true rfl⟩, (hts (.instanceMethod yX0_showColour) (List.mem_of_getElem? (i := 13) rfl)), (hts (.selects RX0 yX0_showColour yX0_showColour) (List.mem_of_getElem? (i := 15) rfl))⟩ hP hD hK hN ([1, 2, 3, 4, 5, 6, 7, 8] : List Nat) rfl rfl 0 0 rfl rfl rfl hl.1 rfl (Nat.le_of_ble_eq_true rfl) dX3_free_45 ⟨Nat.zero_le _, Nat.zero_le _⟩) hP hD hS hA [1, 2, 3, 4, 5, 6, 7, 8] [0] [0, 1, 2, 3, 4, 5, 6, 7, 8] rfl rfl rfl (by decide) rfl rfl (fun H locs hP hD hS => ?_)
          refine lv_aload_n hx hb dX3_free_48 rfl (lv_at hl 0 rfl) ?_
          refine va_get (D := D) (ci := 3) (v := .ref aT) (C := RX3) (T := TX3) (N := 6) hx hb hts iX3 hown hK hP 0 rfl rfl 2 (by decide) (hts (.fieldLink RX3 25 "LightBursts" "track" "LLightBursts$Track;") (List.mem_of_getElem? (i := 2) rfl)) (fun _ h9 => h9) rfl dX3_free_49 ?_
          refine lv_iload_n hx hb dX3_free_52 rfl (lv_at hl 2 rfl) ?_
          refine lv_iload_n hx hb dX3_free_53 rfl (lv_at hl 2 rfl) ?_
          refine lv_iload_n hx hb dX3_free_54 rfl (lv_at hl 3 rfl) ?_
          refine lv_iadd hx hb dX3_free_55 ?_
          refine lv_iconst (v := 1) hx hb dX3_free_56 (by decide) ?_
          refine kI (wr := LBw aX aB aB1 aB2 aT aP kp ++ BKw cA aB aR aL aF now told rf lf ff) (W1 := TRw cA aT aU aG aE ((g_X0_showColour told ff w_bf w_gf w_ef x1 v5).1) ((g_X0_showColour told ff w_bf w_gf w_ef x1 v5).2.1) ((g_X0_showColour told ff w_bf w_gf w_ef x1 v5).2.2.1) ((g_X0_showColour told ff w_bf w_gf w_ef x1 v5).2.2.2)) (wsN := LBw aX aB aB1 aB2 aT aP kp ++ BKw cA aB aR aL aF now told rf lf ff ++ TRw cA aT aU aG aE ((g_X0_showColour told ff w_bf w_gf w_ef x1 v5).1) ((g_X0_showColour told ff w_bf w_gf w_ef x1 v5).2.1) ((g_X0_showColour told ff w_bf w_gf w_ef x1 v5).2.2.1) ((g_X0_showColour told ff w_bf w_gf w_ef x1 v5).2.2.2)) (rVN (As := [.int x2, .int (x2 + x3), .int 1]) (rest := []) (W0 := TRw cA aT aU aG aE ((g_X0_showColour told ff w_bf w_gf w_ef x1 v5).1) ((g_X0_showColour told ff w_bf w_gf w_ef x1 v5).2.1) ((g_X0_showColour told ff w_bf w_gf w_ef x1 v5).2.2.1) ((g_X0_showColour told ff w_bf w_gf w_ef x1 v5).2.2.2)) ⟨hx, hb, hml, hown, hts⟩ (c_X2_isFree l D cA cZ aT aU aG aE H.size ((g_X0_showColour told ff w_bf w_gf w_ef x1 v5).1) ((g_X0_showColour told ff w_bf w_gf w_ef x1 v5).2.1) ((g_X0_showColour told ff w_bf w_gf w_ef x1 v5).2.2.1) ((g_X0_showColour told ff w_bf w_gf w_ef x1 v5).2.2.2) x2 (x2 + x3) 1 (show ((g_X0_showColour told ff w_bf w_gf w_ef x1 v5).1) ≤ 48 from by exact showColour_le)) ⟨va_cnB 3 hts gX3_free_X2_isFree_n121 rfl rfl rfl (hN (.methodLinkNest RX3 121 yX2_isFree RX3) (List.mem_of_getElem? (i := 39) rfl)) (hts (.initialized RX2) (List.mem_of_getElem? (i := 19) rfl)) (by decide +kernel) ⟨Nat.le_of_ble_eq_true rfl, Nat.le_of_ble_eq_true rfl⟩, (hts (.instanceMethod yX2_isFree) (List.mem_of_getElem? (i := 34) rfl)), (hts (.selects RX2 yX2_isFree yX2_isFree) (List.mem_of_getElem? (i := 35) rfl))⟩ hP hD hK hN ([5, 6, 7, 8] : List Nat) rfl rfl 2 0 rfl rfl rfl hl.1 rfl (Nat.le_of_ble_eq_true rfl) dX3_free_57 ⟨Nat.zero_le _, Nat.zero_le _⟩) hP hD hS hA [5, 6, 7, 8] [0, 1, 2, 3, 4] [0, 1, 2, 3, 4, 5, 6, 7, 8] rfl rfl rfl (by decide) rfl rfl (fun H locs hP hD hS => ?_)
          refine lv_if_eq (tgt := 72) hx hb dX3_free_60 (by decide) (fun c_4 => ?_) (fun c_4 => ?_)
          · refine lv_iinc (v := (v5 + 1)) (lv' := [(5, .int (v5 + 1)), (0, .ref aX), (1, .int x1), (2, .int x2), (3, .int x3), (4, .int v4)]) hx hb dX3_free_72 hl (k := 5) rfl rfl (by decide) rfl (fun ls hl => ?_)
            refine lv_goto (tgt := 27) hx hb dX3_free_75 (by decide) ?_
            rw [g_X3_free_L27, if_neg c_3, if_pos c_4] at hG
            exact ih27 v4 (v5 + 1) ((g_X0_showColour told ff w_bf w_gf w_ef x1 v5).1) ((g_X0_showColour told ff w_bf w_gf w_ef x1 v5).2.1) ((g_X0_showColour told ff w_bf w_gf w_ef x1 v5).2.2.1) ((g_X0_showColour told ff w_bf w_gf w_ef x1 v5).2.2.2) _ _ _ (by exact ms_up c_3 hm27) hG hP hD hS (lv_sub hl [1, 2, 3, 4, 5, 0] rfl)
          · refine lv_iload hx hb dX3_free_63 (lv_at hl 4 rfl) ?_
            refine lv_iconst (v := 1) hx hb dX3_free_65 (by decide) ?_
            refine lv_iload hx hb dX3_free_66 (lv_at hl 5 rfl) ?_
            refine lv_ishl hx hb dX3_free_68 ?_
            refine lv_ior hx hb dX3_free_69 ?_
            refine lv_istore (lv' := [(4, .int (v4 ||| (1 <<< (v5 &&& 31)))), (0, .ref aX), (1, .int x1), (2, .int x2), (3, .int x3), (5, .int v5)]) hx hb dX3_free_70 hl (by decide) rfl (fun ls hl => ?_)
            refine lv_iinc (v := (v5 + 1)) (lv' := [(5, .int (v5 + 1)), (4, .int (v4 ||| (1 <<< (v5 &&& 31)))), (0, .ref aX), (1, .int x1), (2, .int x2), (3, .int x3)]) hx hb dX3_free_72 hl (k := 5) rfl rfl (by decide) rfl (fun ls hl => ?_)
            refine lv_goto (tgt := 27) hx hb dX3_free_75 (by decide) ?_
            rw [g_X3_free_L27, if_neg c_3, if_neg c_4] at hG
            exact ih27 (v4 ||| (1 <<< (v5 &&& 31))) (v5 + 1) ((g_X0_showColour told ff w_bf w_gf w_ef x1 v5).1) ((g_X0_showColour told ff w_bf w_gf w_ef x1 v5).2.1) ((g_X0_showColour told ff w_bf w_gf w_ef x1 v5).2.2.1) ((g_X0_showColour told ff w_bf w_gf w_ef x1 v5).2.2.2) _ _ _ (by exact ms_up c_3 hm27) hG hP hD hS (lv_sub hl [2, 3, 4, 5, 1, 0] rfl)
    · refine lv_bipush (v := (-2)) hx hb dX3_free_18 (by decide) ?_
      rw [g_X3_free, if_neg c_1, if_pos c_2] at hG
      rw [hG]
      exact W.iret (v := (-2)) hx hb hr (fun t ht hW => ⟨⟨_, (), rfl, rfl, by rw [ht]; exact hP, va_K.moved hW.alike hK, hD⟩, hS.F ht⟩) hS.2.2 dX3_free_20
  · refine lv_iconst (v := (-1)) hx hb dX3_free_8 (by decide) ?_
    rw [g_X3_free, if_pos c_1] at hG
    rw [hG]
    exact W.iret (v := (-1)) hx hb hr (fun t ht hW => ⟨⟨_, (), rfl, rfl, by rw [ht]; exact hP, va_K.moved hW.alike hK, hD⟩, hS.F ht⟩) hS.2.2 dX3_free_9

def g_X3_partLost (told : Int32) (ff : (Nat → Int32)) (x1 : Int32) (x2 : Int32) : Int32 := (if (g_X0_sumOfClass told ff x1 4) = 0 then (-6) else (if (g_X3_commonDivisor (g_X0_sumOfClass told ff x1 4) ((g_X0_sumOfClass told ff x1 4) - (g_X0_sumOfClass told ff x1 9))) = 0 then (-6) else (if x2 = 0 then ((g_X0_sumOfClass told ff x1 4) / (g_X3_commonDivisor (g_X0_sumOfClass told ff x1 4) ((g_X0_sumOfClass told ff x1 4) - (g_X0_sumOfClass told ff x1 9)))) else (((g_X0_sumOfClass told ff x1 4) - (g_X0_sumOfClass told ff x1 9)) / (g_X3_commonDivisor (g_X0_sumOfClass told ff x1 4) ((g_X0_sumOfClass told ff x1 4) - (g_X0_sumOfClass told ff x1 9)))))))
set_option maxHeartbeats 4000000 in
set_option maxRecDepth 100000 in
theorem c_X3_partLost (l : Launch) (D : va_G) (cA cZ : ClassId) (aX : Nat) (aB : Nat) (aB1 : Nat) (aB2 : Nat) (aT : Nat) (aP : Nat) (aR : Nat) (aL : Nat) (aF : Nat) (szz : Nat) (kp : Int32) (now : Int32) (told : Int32) (rf : (Nat → Int32)) (lf : (Nat → Int32)) (ff : (Nat → Int32)) (x1 : Int32) (x2 : Int32) : MetI l yX3_partLost wsX3_partLost 4 90 D (tyA cA cZ) [.ref aX, .int x1, .int x2] (LBw aX aB aB1 aB2 aT aP kp ++ BKw cA aB aR aL aF now told rf lf ff) szz (g_X3_partLost told ff x1 x2) (LBw aX aB aB1 aB2 aT aP kp ++ BKw cA aB aR aL aF now told rf lf ff) := by
  refine Met.ofW (cc := cX3_partLost) (maxL := 6) (ret := (some .int)) (by decide) rfl ?_
  intro p e s m args below meth c s₁ B hml hv
  obtain ⟨rfl, hsz, hP, hK, hD0, hN⟩ := hv
  have hx := B.exec
  have hb := B.bytes
  have hr := B.returns
  have hts := atoms_spec (ws := wsX3_partLost) B.pre
  have hown : s.vm.findClass RX3 = some m.cls := findClass_of_methodNamed B.named
  have hlocks := B.notSynchronized
  have iX3 : ∀ w ∈ wsX30, w ∈ wsX3_partLost := fun _ h => List.mem_cons_of_mem _ (List.mem_append_left _ (List.mem_append_right _ h))
  have iX0 : ∀ w ∈ wsX00, w ∈ wsX3_partLost := fun _ h => List.mem_cons_of_mem _ (List.mem_append_right _ h)
  subst hsz
  have hD := hD0.self (sz := s.heap.size)
  generalize hAe : va_A (LBw aX aB aB1 aB2 aT aP kp ++ BKw cA aB aR aL aF now told rf lf ff) s.heap.size = A at hD ⊢
  have hA : ∀ q : Nat, s.heap.size ≤ q → A q := fun q h => by rw [← hAe]; exact Or.inr h
  have hS : va_S A s.heap s.heap [] := va_S.rf
  have hP : va_P D vwCl (LBw aX aB aB1 aB2 aT aP kp ++ BKw cA aB aR aL aF now told rf lf ff) s.heap := hP
  obtain ⟨G, hG⟩ : ∃ G, G = (g_X3_partLost told ff x1 x2) := ⟨_, rfl⟩
  rw [← hG]
  have hl := lv_entry ([.ref aX, .int x1, .int x2]) (n := 6) (Nat.le_of_ble_eq_true rfl)
  rw [lg_entry_eq]
  generalize (lg_sl ([.ref aX, .int x1, .int x2]) ++ List.replicate (6 - (lg_sl ([.ref aX, .int x1, .int x2])).length) Slot.unset).toArray = ls at hl ⊢
  have hl : lv_has ls 6 [(0, .ref aX), (1, .int x1), (2, .int x2)] := hl
  refine lv_aload_n hx hb dX3_partLost_0 rfl (lv_at hl 0 rfl) ?_
  refine va_get (D := D) (ci := 3) (v := .ref aB) (C := RX3) (T := TX3) (N := 6) hx hb hts iX3 hown hK hP 0 rfl rfl 1 (by decide) (hts (.fieldLink RX3 20 "LightBursts" "book" "LLightBursts$Book;") (List.mem_of_getElem? (i := 1) rfl)) (fun _ h9 => h9) rfl dX3_partLost_1 ?_
  refine lv_iload_n hx hb dX3_partLost_4 rfl (lv_at hl 1 rfl) ?_
  refine lv_iconst (v := 4) hx hb dX3_partLost_5 (by decide) ?_
  refine kI (wr := LBw aX aB aB1 aB2 aT aP kp) (W1 := BKw cA aB aR aL aF now told rf lf ff) (wsN := LBw aX aB aB1 aB2 aT aP kp ++ BKw cA aB aR aL aF now told rf lf ff) (rVN (As := [.int x1, .int 4]) (rest := []) (W0 := BKw cA aB aR aL aF now told rf lf ff) ⟨hx, hb, hml, hown, hts⟩ (c_X0_sumOfClass l D cA cZ aB aR aL aF s.heap.size now told rf lf ff x1 4) ⟨va_cnB 2 hts gX3_partLost_X0_sumOfClass_n141 rfl rfl rfl (hN (.methodLinkNest RX3 141 yX0_sumOfClass RX3) (List.mem_of_getElem? (i := 44) rfl)) (hts (.initialized RX0) (List.mem_of_getElem? (i := 3) rfl)) (by decide +kernel) ⟨Nat.le_of_ble_eq_true rfl, Nat.le_of_ble_eq_true rfl⟩, (hts (.instanceMethod yX0_sumOfClass) (List.mem_of_getElem? (i := 2) rfl)), (hts (.selects RX0 yX0_sumOfClass yX0_sumOfClass) (List.mem_of_getElem? (i := 4) rfl))⟩ hP hD hK hN ([1, 2, 3, 4] : List Nat) rfl rfl 0 0 rfl rfl rfl hl.1 rfl (Nat.le_of_ble_eq_true rfl) dX3_partLost_6 ⟨Nat.zero_le _, Nat.zero_le _⟩) hP hD hS hA [1, 2, 3, 4] [0] [0, 1, 2, 3, 4] rfl rfl rfl (by decide) rfl rfl (fun H locs hP hD hS => ?_)
  refine lv_istore_n (lv' := [(3, .int (g_X0_sumOfClass told ff x1 4)), (0, .ref aX), (1, .int x1), (2, .int x2)]) hx hb dX3_partLost_9 rfl hl (by decide) rfl (fun ls hl => ?_)
  refine lv_iload_n hx hb dX3_partLost_10 rfl (lv_at hl 0 rfl) ?_
  refine lv_aload_n hx hb dX3_partLost_11 rfl (lv_at hl 1 rfl) ?_
  refine va_get (D := D) (ci := 3) (v := .ref aB) (C := RX3) (T := TX3) (N := 6) hx hb hts iX3 hown hK hP 0 rfl rfl 1 (by decide) (hts (.fieldLink RX3 20 "LightBursts" "book" "LLightBursts$Book;") (List.mem_of_getElem? (i := 1) rfl)) (fun _ h9 => h9) rfl dX3_partLost_12 ?_
  refine lv_iload_n hx hb dX3_partLost_15 rfl (lv_at hl 2 rfl) ?_
  refine lv_bipush (v := 9) hx hb dX3_partLost_16 (by decide) ?_
  refine kI (wr := LBw aX aB aB1 aB2 aT aP kp) (W1 := BKw cA aB aR aL aF now told rf lf ff) (wsN := LBw aX aB aB1 aB2 aT aP kp ++ BKw cA aB aR aL aF now told rf lf ff) (rVN (As := [.int x1, .int 9]) (rest := [.int (g_X0_sumOfClass told ff x1 4)]) (W0 := BKw cA aB aR aL aF now told rf lf ff) ⟨hx, hb, hml, hown, hts⟩ (c_X0_sumOfClass l D cA cZ aB aR aL aF H.size now told rf lf ff x1 9) ⟨va_cnB 2 hts gX3_partLost_X0_sumOfClass_n141 rfl rfl rfl (hN (.methodLinkNest RX3 141 yX0_sumOfClass RX3) (List.mem_of_getElem? (i := 44) rfl)) (hts (.initialized RX0) (List.mem_of_getElem? (i := 3) rfl)) (by decide +kernel) ⟨Nat.le_of_ble_eq_true rfl, Nat.le_of_ble_eq_true rfl⟩, (hts (.instanceMethod yX0_sumOfClass) (List.mem_of_getElem? (i := 2) rfl)), (hts (.selects RX0 yX0_sumOfClass yX0_sumOfClass) (List.mem_of_getElem? (i := 4) rfl))⟩ hP hD hK hN ([1, 2, 3, 4] : List Nat) rfl rfl 0 0 rfl rfl rfl hl.1 rfl (Nat.le_of_ble_eq_true rfl) dX3_partLost_18 ⟨Nat.zero_le _, Nat.zero_le _⟩) hP hD hS hA [1, 2, 3, 4] [0] [0, 1, 2, 3, 4] rfl rfl rfl (by decide) rfl rfl (fun H locs hP hD hS => ?_)
  refine lv_isub hx hb dX3_partLost_21 ?_
  refine lv_istore (lv' := [(4, .int ((g_X0_sumOfClass told ff x1 4) - (g_X0_sumOfClass told ff x1 9))), (3, .int (g_X0_sumOfClass told ff x1 4)), (0, .ref aX), (1, .int x1), (2, .int x2)]) hx hb dX3_partLost_22 hl (by decide) rfl (fun ls hl => ?_)
  refine lv_iload_n hx hb dX3_partLost_24 rfl (lv_at hl 1 rfl) ?_
  refine lv_iload hx hb dX3_partLost_25 (lv_at hl 0 rfl) ?_
  refine kI (wr := LBw aX aB aB1 aB2 aT aP kp ++ BKw cA aB aR aL aF now told rf lf ff) (W1 := ([] : va_W)) (wsN := LBw aX aB aB1 aB2 aT aP kp ++ BKw cA aB aR aL aF now told rf lf ff) (rS (As := [.int (g_X0_sumOfClass told ff x1 4), .int ((g_X0_sumOfClass told ff x1 4) - (g_X0_sumOfClass told ff x1 9))]) (rest := []) (W0 := ([] : va_W)) ⟨hx, hb, hml, hown, hts⟩ (c_X3_commonDivisor l D cA cZ H.size (g_X0_sumOfClass told ff x1 4) ((g_X0_sumOfClass told ff x1 4) - (g_X0_sumOfClass told ff x1 9))) (cwS 2 hts gX3_partLost_X3_commonDivisor rfl rfl rfl (by decide +kernel) ⟨Nat.le_of_ble_eq_true rfl, Nat.le_of_ble_eq_true rfl⟩) hP hD hK hN ([] : List Nat) rfl rfl rfl hl.1 rfl (Nat.le_of_ble_eq_true rfl) dX3_partLost_27 ⟨Nat.zero_le _, Nat.zero_le _⟩) hP hD hS hA [] [0, 1, 2, 3, 4] [0, 1, 2, 3, 4] rfl rfl rfl (by decide) rfl rfl (fun H locs hP hD hS => ?_)
  refine lv_istore (lv' := [(5, .int (g_X3_commonDivisor (g_X0_sumOfClass told ff x1 4) ((g_X0_sumOfClass told ff x1 4) - (g_X0_sumOfClass told ff x1 9)))), (4, .int ((g_X0_sumOfClass told ff x1 4) - (g_X0_sumOfClass told ff x1 9))), (3, .int (g_X0_sumOfClass told ff x1 4)), (0, .ref aX), (1, .int x1), (2, .int x2)]) hx hb dX3_partLost_30 hl (by decide) rfl (fun ls hl => ?_)
  refine lv_iload_n hx hb dX3_partLost_32 rfl (lv_at hl 2 rfl) ?_
  refine lv_if_eq (tgt := 41) hx hb dX3_partLost_33 (by decide) (fun c_1 => ?_) (fun c_1 => ?_)
  · refine lv_bipush (v := (-6)) hx hb dX3_partLost_41 (by decide) ?_
    rw [g_X3_partLost, if_pos c_1] at hG
    rw [hG]
    exact W.iret (v := (-6)) hx hb hr (fun t ht hW => ⟨⟨_, (), rfl, rfl, by rw [ht]; exact hP, va_K.moved hW.alike hK, hD⟩, hS.F ht⟩) hS.2.2 dX3_partLost_43
  · refine lv_iload hx hb dX3_partLost_36 (lv_at hl 0 rfl) ?_
    refine lv_if_ne (tgt := 44) hx hb dX3_partLost_38 (by decide) (fun c_2 => ?_) (fun c_2 => ?_)
    · refine lv_iload_n hx hb dX3_partLost_44 rfl (lv_at hl 5 rfl) ?_
      refine lv_if_eq (tgt := 53) hx hb dX3_partLost_45 (by decide) (fun c_3 => ?_) (fun c_3 => ?_)
      · refine lv_iload_n hx hb dX3_partLost_53 rfl (lv_at hl 2 rfl) ?_
        refine lv_iload hx hb dX3_partLost_54 (lv_at hl 0 rfl) ?_
        refine lv_idiv hx hb dX3_partLost_56 (by first | assumption | exact div_ne (by assumption)) ?_
        rw [g_X3_partLost, if_neg c_1, if_neg c_2, if_pos c_3] at hG
        rw [hG]
        exact W.iret (v := ((g_X0_sumOfClass told ff x1 4) / (g_X3_commonDivisor (g_X0_sumOfClass told ff x1 4) ((g_X0_sumOfClass told ff x1 4) - (g_X0_sumOfClass told ff x1 9))))) hx hb hr (fun t ht hW => ⟨⟨_, (), rfl, rfl, by rw [ht]; exact hP, va_K.moved hW.alike hK, hD⟩, hS.F ht⟩) hS.2.2 dX3_partLost_57
      · refine lv_iload hx hb dX3_partLost_48 (lv_at hl 1 rfl) ?_
        refine lv_goto (tgt := 54) hx hb dX3_partLost_50 (by decide) ?_
        refine lv_iload hx hb dX3_partLost_54 (lv_at hl 0 rfl) ?_
        refine lv_idiv hx hb dX3_partLost_56 (by first | assumption | exact div_ne (by assumption)) ?_
        rw [g_X3_partLost, if_neg c_1, if_neg c_2, if_neg c_3] at hG
        rw [hG]
        exact W.iret (v := (((g_X0_sumOfClass told ff x1 4) - (g_X0_sumOfClass told ff x1 9)) / (g_X3_commonDivisor (g_X0_sumOfClass told ff x1 4) ((g_X0_sumOfClass told ff x1 4) - (g_X0_sumOfClass told ff x1 9))))) hx hb hr (fun t ht hW => ⟨⟨_, (), rfl, rfl, by rw [ht]; exact hP, va_K.moved hW.alike hK, hD⟩, hS.F ht⟩) hS.2.2 dX3_partLost_57
    · refine lv_bipush (v := (-6)) hx hb dX3_partLost_41 (by decide) ?_
      rw [g_X3_partLost, if_neg c_1, if_pos c_2] at hG
      rw [hG]
      exact W.iret (v := (-6)) hx hb hr (fun t ht hW => ⟨⟨_, (), rfl, rfl, by rw [ht]; exact hP, va_K.moved hW.alike hK, hD⟩, hS.F ht⟩) hS.2.2 dX3_partLost_43

def g_X3_tally (told : Int32) (ff : (Nat → Int32)) (x1 : Int32) (x2 : Int32) : Int32 := (if (g_X3_isBelow x1 3) = 0 then (-1) else (if x2 = 0 then (g_X0_burstsOfClass told ff x1) else (if x2 = 1 then (g_X0_sumOfClass told ff x1 4) else (if x2 = 2 then (g_X0_sumOfClass told ff x1 9) else (if x2 = 3 then (g_X0_lostOfClass told ff x1) else (if x2 = 4 then (g_X3_partLost told ff x1 1) else (if x2 = 5 then (g_X3_partLost told ff x1 0) else (-2))))))))
set_option maxHeartbeats 4000000 in
set_option maxRecDepth 100000 in
theorem c_X3_tally (l : Launch) (D : va_G) (cA cZ : ClassId) (aX : Nat) (aB : Nat) (aB1 : Nat) (aB2 : Nat) (aT : Nat) (aP : Nat) (aR : Nat) (aL : Nat) (aF : Nat) (szz : Nat) (kp : Int32) (now : Int32) (told : Int32) (rf : (Nat → Int32)) (lf : (Nat → Int32)) (ff : (Nat → Int32)) (x1 : Int32) (x2 : Int32) : MetI l yX3_tally wsX3_tally 5 115 D (tyA cA cZ) [.ref aX, .int x1, .int x2] (LBw aX aB aB1 aB2 aT aP kp ++ BKw cA aB aR aL aF now told rf lf ff) szz (g_X3_tally told ff x1 x2) (LBw aX aB aB1 aB2 aT aP kp ++ BKw cA aB aR aL aF now told rf lf ff) := by
  refine Met.ofW (cc := cX3_tally) (maxL := 3) (ret := (some .int)) (by decide) rfl ?_
  intro p e s m args below meth c s₁ B hml hv
  obtain ⟨rfl, hsz, hP, hK, hD0, hN⟩ := hv
  have hx := B.exec
  have hb := B.bytes
  have hr := B.returns
  have hts := atoms_spec (ws := wsX3_tally) B.pre
  have hown : s.vm.findClass RX3 = some m.cls := findClass_of_methodNamed B.named
  have hlocks := B.notSynchronized
  have iX3 : ∀ w ∈ wsX30, w ∈ wsX3_tally := fun _ h => List.mem_cons_of_mem _ (List.mem_append_left _ (List.mem_append_right _ h))
  have iX0 : ∀ w ∈ wsX00, w ∈ wsX3_tally := fun _ h => List.mem_cons_of_mem _ (List.mem_append_right _ h)
  subst hsz
  have hD := hD0.self (sz := s.heap.size)
  generalize hAe : va_A (LBw aX aB aB1 aB2 aT aP kp ++ BKw cA aB aR aL aF now told rf lf ff) s.heap.size = A at hD ⊢
  have hA : ∀ q : Nat, s.heap.size ≤ q → A q := fun q h => by rw [← hAe]; exact Or.inr h
  have hS : va_S A s.heap s.heap [] := va_S.rf
  have hP : va_P D vwCl (LBw aX aB aB1 aB2 aT aP kp ++ BKw cA aB aR aL aF now told rf lf ff) s.heap := hP
  obtain ⟨G, hG⟩ : ∃ G, G = (g_X3_tally told ff x1 x2) := ⟨_, rfl⟩
  rw [← hG]
  have hl := lv_entry ([.ref aX, .int x1, .int x2]) (n := 3) (Nat.le_of_ble_eq_true rfl)
  rw [lg_entry_eq]
  generalize (lg_sl ([.ref aX, .int x1, .int x2]) ++ List.replicate (3 - (lg_sl ([.ref aX, .int x1, .int x2])).length) Slot.unset).toArray = ls at hl ⊢
  have hl : lv_has ls 3 [(0, .ref aX), (1, .int x1), (2, .int x2)] := hl
  refine lv_iload_n hx hb dX3_tally_0 rfl (lv_at hl 1 rfl) ?_
  refine lv_iconst (v := 3) hx hb dX3_tally_1 (by decide) ?_
  refine kI (wr := LBw aX aB aB1 aB2 aT aP kp ++ BKw cA aB aR aL aF now told rf lf ff) (W1 := ([] : va_W)) (wsN := LBw aX aB aB1 aB2 aT aP kp ++ BKw cA aB aR aL aF now told rf lf ff) (rS (As := [.int x1, .int 3]) (rest := []) (W0 := ([] : va_W)) ⟨hx, hb, hml, hown, hts⟩ (c_X3_isBelow l D cA cZ s.heap.size x1 3) (cwS 2 hts gX3_tally_X3_isBelow rfl rfl rfl (by decide +kernel) ⟨Nat.le_of_ble_eq_true rfl, Nat.le_of_ble_eq_true rfl⟩) hP hD hK hN ([] : List Nat) rfl rfl rfl hl.1 rfl (Nat.le_of_ble_eq_true rfl) dX3_tally_2 ⟨Nat.zero_le _, Nat.zero_le _⟩) hP hD hS hA [] [0, 1, 2, 3, 4] [0, 1, 2, 3, 4] rfl rfl rfl (by decide) rfl rfl (fun H locs hP hD hS => ?_)
  refine lv_if_ne (tgt := 10) hx hb dX3_tally_5 (by decide) (fun c_1 => ?_) (fun c_1 => ?_)
  · refine lv_iload_n hx hb dX3_tally_10 rfl (lv_at hl 2 rfl) ?_
    rcases Decidable.em (x2 = 0) with c_2 | c_2
    · refine lv_tableIn (off := 37) (tgt := 48) hx hb dX3_tally_11 (by rw [c_2]; decide) (by rw [c_2]; decide) (by rw [c_2]; rfl) (by decide) ?_
      refine lv_aload_n hx hb dX3_tally_48 rfl (lv_at hl 0 rfl) ?_
      refine va_get (D := D) (ci := 3) (v := .ref aB) (C := RX3) (T := TX3) (N := 6) hx hb hts iX3 hown hK hP 0 rfl rfl 1 (by decide) (hts (.fieldLink RX3 20 "LightBursts" "book" "LLightBursts$Book;") (List.mem_of_getElem? (i := 1) rfl)) (fun _ h9 => h9) rfl dX3_tally_49 ?_
      refine lv_iload_n hx hb dX3_tally_52 rfl (lv_at hl 1 rfl) ?_
      refine kI (wr := LBw aX aB aB1 aB2 aT aP kp) (W1 := BKw cA aB aR aL aF now told rf lf ff) (wsN := LBw aX aB aB1 aB2 aT aP kp ++ BKw cA aB aR aL aF now told rf lf ff) (rVN (As := [.int x1]) (rest := []) (W0 := BKw cA aB aR aL aF now told rf lf ff) ⟨hx, hb, hml, hown, hts⟩ (c_X0_burstsOfClass l D cA cZ aB aR aL aF H.size now told rf lf ff x1) ⟨va_cnB 1 hts gX3_tally_X0_burstsOfClass_n138 rfl rfl rfl (hN (.methodLinkNest RX3 138 yX0_burstsOfClass RX3) (List.mem_of_getElem? (i := 43) rfl)) (hts (.initialized RX0) (List.mem_of_getElem? (i := 7) rfl)) (by decide +kernel) ⟨Nat.le_of_ble_eq_true rfl, Nat.le_of_ble_eq_true rfl⟩, (hts (.instanceMethod yX0_burstsOfClass) (List.mem_of_getElem? (i := 6) rfl)), (hts (.selects RX0 yX0_burstsOfClass yX0_burstsOfClass) (List.mem_of_getElem? (i := 8) rfl))⟩ hP hD hK hN ([1, 2, 3, 4] : List Nat) rfl rfl 0 0 rfl rfl rfl hl.1 rfl (Nat.le_of_ble_eq_true rfl) dX3_tally_53 ⟨Nat.zero_le _, Nat.zero_le _⟩) hP hD hS hA [1, 2, 3, 4] [0] [0, 1, 2, 3, 4] rfl rfl rfl (by decide) rfl rfl (fun H locs hP hD hS => ?_)
      rw [g_X3_tally, if_neg c_1, if_pos c_2] at hG
      rw [hG]
      exact W.iret (v := (g_X0_burstsOfClass told ff x1)) hx hb hr (fun t ht hW => ⟨⟨_, (), rfl, rfl, by rw [ht]; exact hP, va_K.moved hW.alike hK, hD⟩, hS.F ht⟩) hS.2.2 dX3_tally_56
    · rcases Decidable.em (x2 = 1) with c_3 | c_3
      · refine lv_tableIn (off := 46) (tgt := 57) hx hb dX3_tally_11 (by rw [c_3]; decide) (by rw [c_3]; decide) (by rw [c_3]; rfl) (by decide) ?_
        refine lv_aload_n hx hb dX3_tally_57 rfl (lv_at hl 0 rfl) ?_
        refine va_get (D := D) (ci := 3) (v := .ref aB) (C := RX3) (T := TX3) (N := 6) hx hb hts iX3 hown hK hP 0 rfl rfl 1 (by decide) (hts (.fieldLink RX3 20 "LightBursts" "book" "LLightBursts$Book;") (List.mem_of_getElem? (i := 1) rfl)) (fun _ h9 => h9) rfl dX3_tally_58 ?_
        refine lv_iload_n hx hb dX3_tally_61 rfl (lv_at hl 1 rfl) ?_
        refine lv_iconst (v := 4) hx hb dX3_tally_62 (by decide) ?_
        refine kI (wr := LBw aX aB aB1 aB2 aT aP kp) (W1 := BKw cA aB aR aL aF now told rf lf ff) (wsN := LBw aX aB aB1 aB2 aT aP kp ++ BKw cA aB aR aL aF now told rf lf ff) (rVN (As := [.int x1, .int 4]) (rest := []) (W0 := BKw cA aB aR aL aF now told rf lf ff) ⟨hx, hb, hml, hown, hts⟩ (c_X0_sumOfClass l D cA cZ aB aR aL aF H.size now told rf lf ff x1 4) ⟨va_cnB 2 hts gX3_tally_X0_sumOfClass_n141 rfl rfl rfl (hN (.methodLinkNest RX3 141 yX0_sumOfClass RX3) (List.mem_of_getElem? (i := 44) rfl)) (hts (.initialized RX0) (List.mem_of_getElem? (i := 7) rfl)) (by decide +kernel) ⟨Nat.le_of_ble_eq_true rfl, Nat.le_of_ble_eq_true rfl⟩, (hts (.instanceMethod yX0_sumOfClass) (List.mem_of_getElem? (i := 20) rfl)), (hts (.selects RX0 yX0_sumOfClass yX0_sumOfClass) (List.mem_of_getElem? (i := 21) rfl))⟩ hP hD hK hN ([1, 2, 3, 4] : List Nat) rfl rfl 0 0 rfl rfl rfl hl.1 rfl (Nat.le_of_ble_eq_true rfl) dX3_tally_63 ⟨Nat.zero_le _, Nat.zero_le _⟩) hP hD hS hA [1, 2, 3, 4] [0] [0, 1, 2, 3, 4] rfl rfl rfl (by decide) rfl rfl (fun H locs hP hD hS => ?_)
        rw [g_X3_tally, if_neg c_1, if_neg c_2, if_pos c_3] at hG
        rw [hG]
        exact W.iret (v := (g_X0_sumOfClass told ff x1 4)) hx hb hr (fun t ht hW => ⟨⟨_, (), rfl, rfl, by rw [ht]; exact hP, va_K.moved hW.alike hK, hD⟩, hS.F ht⟩) hS.2.2 dX3_tally_66
      · rcases Decidable.em (x2 = 2) with c_4 | c_4
        · refine lv_tableIn (off := 56) (tgt := 67) hx hb dX3_tally_11 (by rw [c_4]; decide) (by rw [c_4]; decide) (by rw [c_4]; rfl) (by decide) ?_
          refine lv_aload_n hx hb dX3_tally_67 rfl (lv_at hl 0 rfl) ?_
          refine va_get (D := D) (ci := 3) (v := .ref aB) (C := RX3) (T := TX3) (N := 6) hx hb hts iX3 hown hK hP 0 rfl rfl 1 (by decide) (hts (.fieldLink RX3 20 "LightBursts" "book" "LLightBursts$Book;") (List.mem_of_getElem? (i := 1) rfl)) (fun _ h9 => h9) rfl dX3_tally_68 ?_
          refine lv_iload_n hx hb dX3_tally_71 rfl (lv_at hl 1 rfl) ?_
          refine lv_bipush (v := 9) hx hb dX3_tally_72 (by decide) ?_
          refine kI (wr := LBw aX aB aB1 aB2 aT aP kp) (W1 := BKw cA aB aR aL aF now told rf lf ff) (wsN := LBw aX aB aB1 aB2 aT aP kp ++ BKw cA aB aR aL aF now told rf lf ff) (rVN (As := [.int x1, .int 9]) (rest := []) (W0 := BKw cA aB aR aL aF now told rf lf ff) ⟨hx, hb, hml, hown, hts⟩ (c_X0_sumOfClass l D cA cZ aB aR aL aF H.size now told rf lf ff x1 9) ⟨va_cnB 2 hts gX3_tally_X0_sumOfClass_n141 rfl rfl rfl (hN (.methodLinkNest RX3 141 yX0_sumOfClass RX3) (List.mem_of_getElem? (i := 44) rfl)) (hts (.initialized RX0) (List.mem_of_getElem? (i := 7) rfl)) (by decide +kernel) ⟨Nat.le_of_ble_eq_true rfl, Nat.le_of_ble_eq_true rfl⟩, (hts (.instanceMethod yX0_sumOfClass) (List.mem_of_getElem? (i := 20) rfl)), (hts (.selects RX0 yX0_sumOfClass yX0_sumOfClass) (List.mem_of_getElem? (i := 21) rfl))⟩ hP hD hK hN ([1, 2, 3, 4] : List Nat) rfl rfl 0 0 rfl rfl rfl hl.1 rfl (Nat.le_of_ble_eq_true rfl) dX3_tally_74 ⟨Nat.zero_le _, Nat.zero_le _⟩) hP hD hS hA [1, 2, 3, 4] [0] [0, 1, 2, 3, 4] rfl rfl rfl (by decide) rfl rfl (fun H locs hP hD hS => ?_)
          rw [g_X3_tally, if_neg c_1, if_neg c_2, if_neg c_3, if_pos c_4] at hG
          rw [hG]
          exact W.iret (v := (g_X0_sumOfClass told ff x1 9)) hx hb hr (fun t ht hW => ⟨⟨_, (), rfl, rfl, by rw [ht]; exact hP, va_K.moved hW.alike hK, hD⟩, hS.F ht⟩) hS.2.2 dX3_tally_77
        · rcases Decidable.em (x2 = 3) with c_5 | c_5
          · refine lv_tableIn (off := 67) (tgt := 78) hx hb dX3_tally_11 (by rw [c_5]; decide) (by rw [c_5]; decide) (by rw [c_5]; rfl) (by decide) ?_
            refine lv_aload_n hx hb dX3_tally_78 rfl (lv_at hl 0 rfl) ?_
            refine va_get (D := D) (ci := 3) (v := .ref aB) (C := RX3) (T := TX3) (N := 6) hx hb hts iX3 hown hK hP 0 rfl rfl 1 (by decide) (hts (.fieldLink RX3 20 "LightBursts" "book" "LLightBursts$Book;") (List.mem_of_getElem? (i := 1) rfl)) (fun _ h9 => h9) rfl dX3_tally_79 ?_
            refine lv_iload_n hx hb dX3_tally_82 rfl (lv_at hl 1 rfl) ?_
            refine kI (wr := LBw aX aB aB1 aB2 aT aP kp) (W1 := BKw cA aB aR aL aF now told rf lf ff) (wsN := LBw aX aB aB1 aB2 aT aP kp ++ BKw cA aB aR aL aF now told rf lf ff) (rVN (As := [.int x1]) (rest := []) (W0 := BKw cA aB aR aL aF now told rf lf ff) ⟨hx, hb, hml, hown, hts⟩ (c_X0_lostOfClass l D cA cZ aB aR aL aF H.size now told rf lf ff x1) ⟨va_cnB 1 hts gX3_tally_X0_lostOfClass_n144 rfl rfl rfl (hN (.methodLinkNest RX3 144 yX0_lostOfClass RX3) (List.mem_of_getElem? (i := 45) rfl)) (hts (.initialized RX0) (List.mem_of_getElem? (i := 7) rfl)) (by decide +kernel) ⟨Nat.le_of_ble_eq_true rfl, Nat.le_of_ble_eq_true rfl⟩, (hts (.instanceMethod yX0_lostOfClass) (List.mem_of_getElem? (i := 23) rfl)), (hts (.selects RX0 yX0_lostOfClass yX0_lostOfClass) (List.mem_of_getElem? (i := 24) rfl))⟩ hP hD hK hN ([1, 2, 3, 4] : List Nat) rfl rfl 0 0 rfl rfl rfl hl.1 rfl (Nat.le_of_ble_eq_true rfl) dX3_tally_83 ⟨Nat.zero_le _, Nat.zero_le _⟩) hP hD hS hA [1, 2, 3, 4] [0] [0, 1, 2, 3, 4] rfl rfl rfl (by decide) rfl rfl (fun H locs hP hD hS => ?_)
            rw [g_X3_tally, if_neg c_1, if_neg c_2, if_neg c_3, if_neg c_4, if_pos c_5] at hG
            rw [hG]
            exact W.iret (v := (g_X0_lostOfClass told ff x1)) hx hb hr (fun t ht hW => ⟨⟨_, (), rfl, rfl, by rw [ht]; exact hP, va_K.moved hW.alike hK, hD⟩, hS.F ht⟩) hS.2.2 dX3_tally_86
          · rcases Decidable.em (x2 = 4) with c_6 | c_6
            · refine lv_tableIn (off := 76) (tgt := 87) hx hb dX3_tally_11 (by rw [c_6]; decide) (by rw [c_6]; decide) (by rw [c_6]; rfl) (by decide) ?_
              refine lv_aload_n hx hb dX3_tally_87 rfl (lv_at hl 0 rfl) ?_
              refine lv_iload_n hx hb dX3_tally_88 rfl (lv_at hl 1 rfl) ?_
              refine lv_iload_n hx hb dX3_tally_89 rfl (lv_at hl 2 rfl) ?_
              refine lv_iconst (v := 4) hx hb dX3_tally_90 (by decide) ?_
              refine lv_icmp_ne (tgt := 98) hx hb dX3_tally_91 (by decide) (fun h9 => absurd c_6 h9) (fun _ => ?_)
              refine lv_iconst (v := 1) hx hb dX3_tally_94 (by decide) ?_
              refine lv_goto (tgt := 99) hx hb dX3_tally_95 (by decide) ?_
              refine kI (wr := ([] : va_W)) (W1 := LBw aX aB aB1 aB2 aT aP kp ++ BKw cA aB aR aL aF now told rf lf ff) (wsN := LBw aX aB aB1 aB2 aT aP kp ++ BKw cA aB aR aL aF now told rf lf ff) (rV (As := [.int x1, .int 1]) (rest := []) (W0 := LBw aX aB aB1 aB2 aT aP kp ++ BKw cA aB aR aL aF now told rf lf ff) ⟨hx, hb, hml, hown, hts⟩ (c_X3_partLost l D cA cZ aX aB aB1 aB2 aT aP aR aL aF H.size kp now told rf lf ff x1 1) (cwV 2 hts gX3_tally_X3_partLost rfl rfl rfl (by decide +kernel) ⟨Nat.le_of_ble_eq_true rfl, Nat.le_of_ble_eq_true rfl⟩) hP hD hK hN ([0, 1, 2, 3, 4] : List Nat) rfl rfl 3 0 rfl rfl rfl hl.1 rfl (Nat.le_of_ble_eq_true rfl) dX3_tally_99 ⟨Nat.zero_le _, Nat.zero_le _⟩) hP hD hS hA [0, 1, 2, 3, 4] [] [0, 1, 2, 3, 4] rfl rfl rfl (by decide) rfl rfl (fun H locs hP hD hS => ?_)
              rw [g_X3_tally, if_neg c_1, if_neg c_2, if_neg c_3, if_neg c_4, if_neg c_5, if_pos c_6] at hG
              rw [hG]
              exact W.iret (v := (g_X3_partLost told ff x1 1)) hx hb hr (fun t ht hW => ⟨⟨_, (), rfl, rfl, by rw [ht]; exact hP, va_K.moved hW.alike hK, hD⟩, hS.F ht⟩) hS.2.2 dX3_tally_102
            · rcases Decidable.em (x2 = 5) with c_7 | c_7
              · refine lv_tableIn (off := 76) (tgt := 87) hx hb dX3_tally_11 (by rw [c_7]; decide) (by rw [c_7]; decide) (by rw [c_7]; rfl) (by decide) ?_
                refine lv_aload_n hx hb dX3_tally_87 rfl (lv_at hl 0 rfl) ?_
                refine lv_iload_n hx hb dX3_tally_88 rfl (lv_at hl 1 rfl) ?_
                refine lv_iload_n hx hb dX3_tally_89 rfl (lv_at hl 2 rfl) ?_
                refine lv_iconst (v := 4) hx hb dX3_tally_90 (by decide) ?_
                refine lv_icmp_ne (tgt := 98) hx hb dX3_tally_91 (by decide) (fun _ => ?_) (fun h9 => absurd h9 c_6)
                refine lv_iconst (v := 0) hx hb dX3_tally_98 (by decide) ?_
                refine kI (wr := ([] : va_W)) (W1 := LBw aX aB aB1 aB2 aT aP kp ++ BKw cA aB aR aL aF now told rf lf ff) (wsN := LBw aX aB aB1 aB2 aT aP kp ++ BKw cA aB aR aL aF now told rf lf ff) (rV (As := [.int x1, .int 0]) (rest := []) (W0 := LBw aX aB aB1 aB2 aT aP kp ++ BKw cA aB aR aL aF now told rf lf ff) ⟨hx, hb, hml, hown, hts⟩ (c_X3_partLost l D cA cZ aX aB aB1 aB2 aT aP aR aL aF H.size kp now told rf lf ff x1 0) (cwV 2 hts gX3_tally_X3_partLost rfl rfl rfl (by decide +kernel) ⟨Nat.le_of_ble_eq_true rfl, Nat.le_of_ble_eq_true rfl⟩) hP hD hK hN ([0, 1, 2, 3, 4] : List Nat) rfl rfl 3 0 rfl rfl rfl hl.1 rfl (Nat.le_of_ble_eq_true rfl) dX3_tally_99 ⟨Nat.zero_le _, Nat.zero_le _⟩) hP hD hS hA [0, 1, 2, 3, 4] [] [0, 1, 2, 3, 4] rfl rfl rfl (by decide) rfl rfl (fun H locs hP hD hS => ?_)
                rw [g_X3_tally, if_neg c_1, if_neg c_2, if_neg c_3, if_neg c_4, if_neg c_5, if_neg c_6, if_pos c_7] at hG
                rw [hG]
                exact W.iret (v := (g_X3_partLost told ff x1 0)) hx hb hr (fun t ht hW => ⟨⟨_, (), rfl, rfl, by rw [ht]; exact hP, va_K.moved hW.alike hK, hD⟩, hS.F ht⟩) hS.2.2 dX3_tally_102
              · refine lv_tableOut (tgt := 103) hx hb dX3_tally_11 (sw_out6 c_2 c_3 c_4 c_5 c_6 c_7) (by decide) ?_
                refine lv_bipush (v := (-2)) hx hb dX3_tally_103 (by decide) ?_
                rw [g_X3_tally, if_neg c_1, if_neg c_2, if_neg c_3, if_neg c_4, if_neg c_5, if_neg c_6, if_neg c_7] at hG
                rw [hG]
                exact W.iret (v := (-2)) hx hb hr (fun t ht hW => ⟨⟨_, (), rfl, rfl, by rw [ht]; exact hP, va_K.moved hW.alike hK, hD⟩, hS.F ht⟩) hS.2.2 dX3_tally_105
  · refine lv_iconst (v := (-1)) hx hb dX3_tally_8 (by decide) ?_
    rw [g_X3_tally, if_pos c_1] at hG
    rw [hG]
    exact W.iret (v := (-1)) hx hb hr (fun t ht hW => ⟨⟨_, (), rfl, rfl, by rw [ht]; exact hP, va_K.moved hW.alike hK, hD⟩, hS.F ht⟩) hS.2.2 dX3_tally_9

def g_X3_count (kp : Int32) (now : Int32) (told : Int32) (rf : (Nat → Int32)) (lf : (Nat → Int32)) (ff : (Nat → Int32)) (x1 : Int32) : Int32 := (if (g_X3_isWithin x1 2 6) = 0 then (if (g_X3_isWithin x1 10 15) = 0 then (if (g_X3_isWithin x1 20 22) = 0 then (if x1 = 0 then now else (if x1 = 1 then told else (if x1 = 2 then (-2) else (if x1 = 3 then (-2) else (if x1 = 4 then (-2) else (if x1 = 5 then (-2) else (if x1 = 6 then (-2) else (if x1 = 7 then (g_X0_burstsWith told ff 7) else (if x1 = 8 then (g_X0_burstsWith told ff 10) else (if x1 = 9 then kp else (-2))))))))))) else (g_X0_lengthNow lf (x1 - 20))) else (g_X0_ruleNow rf (x1 - 10))) else (g_X0_burstsOfFate told ff (x1 - 2)))
set_option maxHeartbeats 4000000 in
set_option maxRecDepth 100000 in
theorem c_X3_count (l : Launch) (D : va_G) (cA cZ : ClassId) (aX : Nat) (aB : Nat) (aB1 : Nat) (aB2 : Nat) (aT : Nat) (aP : Nat) (aR : Nat) (aL : Nat) (aF : Nat) (szz : Nat) (kp : Int32) (now : Int32) (told : Int32) (rf : (Nat → Int32)) (lf : (Nat → Int32)) (ff : (Nat → Int32)) (x1 : Int32) : MetI l yX3_count wsX3_count 4 89 D (tyA cA cZ) [.ref aX, .int x1] (LBw aX aB aB1 aB2 aT aP kp ++ BKw cA aB aR aL aF now told rf lf ff) szz (g_X3_count kp now told rf lf ff x1) (LBw aX aB aB1 aB2 aT aP kp ++ BKw cA aB aR aL aF now told rf lf ff) := by
  refine Met.ofW (cc := cX3_count) (maxL := 2) (ret := (some .int)) (by decide) rfl ?_
  intro p e s m args below meth c s₁ B hml hv
  obtain ⟨rfl, hsz, hP, hK, hD0, hN⟩ := hv
  have hx := B.exec
  have hb := B.bytes
  have hr := B.returns
  have hts := atoms_spec (ws := wsX3_count) B.pre
  have hown : s.vm.findClass RX3 = some m.cls := findClass_of_methodNamed B.named
  have hlocks := B.notSynchronized
  have iX3 : ∀ w ∈ wsX30, w ∈ wsX3_count := fun _ h => List.mem_cons_of_mem _ (List.mem_append_left _ (List.mem_append_right _ h))
  have iX0 : ∀ w ∈ wsX00, w ∈ wsX3_count := fun _ h => List.mem_cons_of_mem _ (List.mem_append_right _ h)
  subst hsz
  have hD := hD0.self (sz := s.heap.size)
  generalize hAe : va_A (LBw aX aB aB1 aB2 aT aP kp ++ BKw cA aB aR aL aF now told rf lf ff) s.heap.size = A at hD ⊢
  have hA : ∀ q : Nat, s.heap.size ≤ q → A q := fun q h => by rw [← hAe]; exact Or.inr h
  have hS : va_S A s.heap s.heap [] := va_S.rf
  have hP : va_P D vwCl (LBw aX aB aB1 aB2 aT aP kp ++ BKw cA aB aR aL aF now told rf lf ff) s.heap := hP
  obtain ⟨G, hG⟩ : ∃ G, G = (g_X3_count kp now told rf lf ff x1) := ⟨_, rfl⟩
  rw [← hG]
  have hl := lv_entry ([.ref aX, .int x1]) (n := 2) (Nat.le_of_ble_eq_true rfl)
  rw [lg_entry_eq]
  generalize (lg_sl ([.ref aX, .int x1]) ++ List.replicate (2 - (lg_sl ([.ref aX, .int x1])).length) Slot.unset).toArray = ls at hl ⊢
  have hl : lv_has ls 2 [(0, .ref aX), (1, .int x1)] := hl
  refine lv_iload_n hx hb dX3_count_0 rfl (lv_at hl 1 rfl) ?_
  refine lv_iconst (v := 2) hx hb dX3_count_1 (by decide) ?_
  refine lv_bipush (v := 6) hx hb dX3_count_2 (by decide) ?_
  refine kI (wr := LBw aX aB aB1 aB2 aT aP kp ++ BKw cA aB aR aL aF now told rf lf ff) (W1 := ([] : va_W)) (wsN := LBw aX aB aB1 aB2 aT aP kp ++ BKw cA aB aR aL aF now told rf lf ff) (rS (As := [.int x1, .int 2, .int 6]) (rest := []) (W0 := ([] : va_W)) ⟨hx, hb, hml, hown, hts⟩ (c_X3_isWithin l D cA cZ s.heap.size x1 2 6) (cwS 3 hts gX3_count_X3_isWithin rfl rfl rfl (by decide +kernel) ⟨Nat.le_of_ble_eq_true rfl, Nat.le_of_ble_eq_true rfl⟩) hP hD hK hN ([] : List Nat) rfl rfl rfl hl.1 rfl (Nat.le_of_ble_eq_true rfl) dX3_count_4 ⟨Nat.zero_le _, Nat.zero_le _⟩) hP hD hS hA [] [0, 1, 2, 3, 4] [0, 1, 2, 3, 4] rfl rfl rfl (by decide) rfl rfl (fun H locs hP hD hS => ?_)
  refine lv_if_eq (tgt := 21) hx hb dX3_count_7 (by decide) (fun c_1 => ?_) (fun c_1 => ?_)
  · refine lv_iload_n hx hb dX3_count_21 rfl (lv_at hl 1 rfl) ?_
    refine lv_bipush (v := 10) hx hb dX3_count_22 (by decide) ?_
    refine lv_bipush (v := 15) hx hb dX3_count_24 (by decide) ?_
    refine kI (wr := LBw aX aB aB1 aB2 aT aP kp ++ BKw cA aB aR aL aF now told rf lf ff) (W1 := ([] : va_W)) (wsN := LBw aX aB aB1 aB2 aT aP kp ++ BKw cA aB aR aL aF now told rf lf ff) (rS (As := [.int x1, .int 10, .int 15]) (rest := []) (W0 := ([] : va_W)) ⟨hx, hb, hml, hown, hts⟩ (c_X3_isWithin l D cA cZ H.size x1 10 15) (cwS 3 hts gX3_count_X3_isWithin rfl rfl rfl (by decide +kernel) ⟨Nat.le_of_ble_eq_true rfl, Nat.le_of_ble_eq_true rfl⟩) hP hD hK hN ([] : List Nat) rfl rfl rfl hl.1 rfl (Nat.le_of_ble_eq_true rfl) dX3_count_26 ⟨Nat.zero_le _, Nat.zero_le _⟩) hP hD hS hA [] [0, 1, 2, 3, 4] [0, 1, 2, 3, 4] rfl rfl rfl (by decide) rfl rfl (fun H locs hP hD hS => ?_)
    refine lv_if_eq (tgt := 44) hx hb dX3_count_29 (by decide) (fun c_2 => ?_) (fun c_2 => ?_)
    · refine lv_iload_n hx hb dX3_count_44 rfl (lv_at hl 1 rfl) ?_
      refine lv_bipush (v := 20) hx hb dX3_count_45 (by decide) ?_
      refine lv_bipush (v := 22) hx hb dX3_count_47 (by decide) ?_
      refine kI (wr := LBw aX aB aB1 aB2 aT aP kp ++ BKw cA aB aR aL aF now told rf lf ff) (W1 := ([] : va_W)) (wsN := LBw aX aB aB1 aB2 aT aP kp ++ BKw cA aB aR aL aF now told rf lf ff) (rS (As := [.int x1, .int 20, .int 22]) (rest := []) (W0 := ([] : va_W)) ⟨hx, hb, hml, hown, hts⟩ (c_X3_isWithin l D cA cZ H.size x1 20 22) (cwS 3 hts gX3_count_X3_isWithin rfl rfl rfl (by decide +kernel) ⟨Nat.le_of_ble_eq_true rfl, Nat.le_of_ble_eq_true rfl⟩) hP hD hK hN ([] : List Nat) rfl rfl rfl hl.1 rfl (Nat.le_of_ble_eq_true rfl) dX3_count_49 ⟨Nat.zero_le _, Nat.zero_le _⟩) hP hD hS hA [] [0, 1, 2, 3, 4] [0, 1, 2, 3, 4] rfl rfl rfl (by decide) rfl rfl (fun H locs hP hD hS => ?_)
      refine lv_if_eq (tgt := 67) hx hb dX3_count_52 (by decide) (fun c_3 => ?_) (fun c_3 => ?_)
      · refine lv_iload_n hx hb dX3_count_67 rfl (lv_at hl 1 rfl) ?_
        rcases Decidable.em (x1 = 0) with c_4 | c_4
        · refine lv_tableIn (off := 56) (tgt := 124) hx hb dX3_count_68 (by rw [c_4]; decide) (by rw [c_4]; decide) (by rw [c_4]; rfl) (by decide) ?_
          refine lv_aload_n hx hb dX3_count_124 rfl (lv_at hl 0 rfl) ?_
          refine va_get (D := D) (ci := 3) (v := .ref aB) (C := RX3) (T := TX3) (N := 6) hx hb hts iX3 hown hK hP 0 rfl rfl 1 (by decide) (hts (.fieldLink RX3 20 "LightBursts" "book" "LLightBursts$Book;") (List.mem_of_getElem? (i := 1) rfl)) (fun _ h9 => h9) rfl dX3_count_125 ?_
          refine va_getN (D := D) (ci := 0) (v := .int now) (C := RX0) (T := TX0) (N := 5) hx hb hts iX0 hown hK hP 1 rfl rfl 0 (by decide) (va_Nw.use rfl (hN (.fieldLinkNest RX3 67 "LightBursts$Book" "now" "I" RX3) (List.mem_of_getElem? (i := 3) rfl))) (fun _ h9 => h9) rfl dX3_count_128 ?_
          rw [g_X3_count, if_pos c_1, if_pos c_2, if_pos c_3, if_pos c_4] at hG
          rw [hG]
          exact W.iret (v := now) hx hb hr (fun t ht hW => ⟨⟨_, (), rfl, rfl, by rw [ht]; exact hP, va_K.moved hW.alike hK, hD⟩, hS.F ht⟩) hS.2.2 dX3_count_131
        · rcases Decidable.em (x1 = 1) with c_5 | c_5
          · refine lv_tableIn (off := 64) (tgt := 132) hx hb dX3_count_68 (by rw [c_5]; decide) (by rw [c_5]; decide) (by rw [c_5]; rfl) (by decide) ?_
            refine lv_aload_n hx hb dX3_count_132 rfl (lv_at hl 0 rfl) ?_
            refine va_get (D := D) (ci := 3) (v := .ref aB) (C := RX3) (T := TX3) (N := 6) hx hb hts iX3 hown hK hP 0 rfl rfl 1 (by decide) (hts (.fieldLink RX3 20 "LightBursts" "book" "LLightBursts$Book;") (List.mem_of_getElem? (i := 1) rfl)) (fun _ h9 => h9) rfl dX3_count_133 ?_
            refine va_getN (D := D) (ci := 0) (v := .int told) (C := RX0) (T := TX0) (N := 5) hx hb hts iX0 hown hK hP 1 rfl rfl 1 (by decide) (va_Nw.use rfl (hN (.fieldLinkNest RX3 77 "LightBursts$Book" "told" "I" RX3) (List.mem_of_getElem? (i := 5) rfl))) (fun _ h9 => h9) rfl dX3_count_136 ?_
            rw [g_X3_count, if_pos c_1, if_pos c_2, if_pos c_3, if_neg c_4, if_pos c_5] at hG
            rw [hG]
            exact W.iret (v := told) hx hb hr (fun t ht hW => ⟨⟨_, (), rfl, rfl, by rw [ht]; exact hP, va_K.moved hW.alike hK, hD⟩, hS.F ht⟩) hS.2.2 dX3_count_139
          · rcases Decidable.em (x1 = 2) with c_6 | c_6
            · refine lv_tableIn (off := 97) (tgt := 165) hx hb dX3_count_68 (by rw [c_6]; decide) (by rw [c_6]; decide) (by rw [c_6]; rfl) (by decide) ?_
              refine lv_bipush (v := (-2)) hx hb dX3_count_165 (by decide) ?_
              rw [g_X3_count, if_pos c_1, if_pos c_2, if_pos c_3, if_neg c_4, if_neg c_5, if_pos c_6] at hG
              rw [hG]
              exact W.iret (v := (-2)) hx hb hr (fun t ht hW => ⟨⟨_, (), rfl, rfl, by rw [ht]; exact hP, va_K.moved hW.alike hK, hD⟩, hS.F ht⟩) hS.2.2 dX3_count_167
            · rcases Decidable.em (x1 = 3) with c_7 | c_7
              · refine lv_tableIn (off := 97) (tgt := 165) hx hb dX3_count_68 (by rw [c_7]; decide) (by rw [c_7]; decide) (by rw [c_7]; rfl) (by decide) ?_
                refine lv_bipush (v := (-2)) hx hb dX3_count_165 (by decide) ?_
                rw [g_X3_count, if_pos c_1, if_pos c_2, if_pos c_3, if_neg c_4, if_neg c_5, if_neg c_6, if_pos c_7] at hG
                rw [hG]
                exact W.iret (v := (-2)) hx hb hr (fun t ht hW => ⟨⟨_, (), rfl, rfl, by rw [ht]; exact hP, va_K.moved hW.alike hK, hD⟩, hS.F ht⟩) hS.2.2 dX3_count_167
              · rcases Decidable.em (x1 = 4) with c_8 | c_8
                · refine lv_tableIn (off := 97) (tgt := 165) hx hb dX3_count_68 (by rw [c_8]; decide) (by rw [c_8]; decide) (by rw [c_8]; rfl) (by decide) ?_
                  refine lv_bipush (v := (-2)) hx hb dX3_count_165 (by decide) ?_
                  rw [g_X3_count, if_pos c_1, if_pos c_2, if_pos c_3, if_neg c_4, if_neg c_5, if_neg c_6, if_neg c_7, if_pos c_8] at hG
                  rw [hG]
                  exact W.iret (v := (-2)) hx hb hr (fun t ht hW => ⟨⟨_, (), rfl, rfl, by rw [ht]; exact hP, va_K.moved hW.alike hK, hD⟩, hS.F ht⟩) hS.2.2 dX3_count_167
                · rcases Decidable.em (x1 = 5) with c_9 | c_9
                  · refine lv_tableIn (off := 97) (tgt := 165) hx hb dX3_count_68 (by rw [c_9]; decide) (by rw [c_9]; decide) (by rw [c_9]; rfl) (by decide) ?_
                    refine lv_bipush (v := (-2)) hx hb dX3_count_165 (by decide) ?_
                    rw [g_X3_count, if_pos c_1, if_pos c_2, if_pos c_3, if_neg c_4, if_neg c_5, if_neg c_6, if_neg c_7, if_neg c_8, if_pos c_9] at hG
                    rw [hG]
                    exact W.iret (v := (-2)) hx hb hr (fun t ht hW => ⟨⟨_, (), rfl, rfl, by rw [ht]; exact hP, va_K.moved hW.alike hK, hD⟩, hS.F ht⟩) hS.2.2 dX3_count_167
                  · rcases Decidable.em (x1 = 6) with c_10 | c_10
                    · refine lv_tableIn (off := 97) (tgt := 165) hx hb dX3_count_68 (by rw [c_10]; decide) (by rw [c_10]; decide) (by rw [c_10]; rfl) (by decide) ?_
                      refine lv_bipush (v := (-2)) hx hb dX3_count_165 (by decide) ?_
                      rw [g_X3_count, if_pos c_1, if_pos c_2, if_pos c_3, if_neg c_4, if_neg c_5, if_neg c_6, if_neg c_7, if_neg c_8, if_neg c_9, if_pos c_10] at hG
                      rw [hG]
                      exact W.iret (v := (-2)) hx hb hr (fun t ht hW => ⟨⟨_, (), rfl, rfl, by rw [ht]; exact hP, va_K.moved hW.alike hK, hD⟩, hS.F ht⟩) hS.2.2 dX3_count_167
                    · rcases Decidable.em (x1 = 7) with c_11 | c_11
                      · refine lv_tableIn (off := 72) (tgt := 140) hx hb dX3_count_68 (by rw [c_11]; decide) (by rw [c_11]; decide) (by rw [c_11]; rfl) (by decide) ?_
                        refine lv_aload_n hx hb dX3_count_140 rfl (lv_at hl 0 rfl) ?_
                        refine va_get (D := D) (ci := 3) (v := .ref aB) (C := RX3) (T := TX3) (N := 6) hx hb hts iX3 hown hK hP 0 rfl rfl 1 (by decide) (hts (.fieldLink RX3 20 "LightBursts" "book" "LLightBursts$Book;") (List.mem_of_getElem? (i := 1) rfl)) (fun _ h9 => h9) rfl dX3_count_141 ?_
                        refine lv_bipush (v := 7) hx hb dX3_count_144 (by decide) ?_
                        refine kI (wr := LBw aX aB aB1 aB2 aT aP kp) (W1 := BKw cA aB aR aL aF now told rf lf ff) (wsN := LBw aX aB aB1 aB2 aT aP kp ++ BKw cA aB aR aL aF now told rf lf ff) (rVN (As := [.int 7]) (rest := []) (W0 := BKw cA aB aR aL aF now told rf lf ff) ⟨hx, hb, hml, hown, hts⟩ (c_X0_burstsWith l D cA cZ aB aR aL aF H.size now told rf lf ff 7) ⟨va_cnB 1 hts gX3_count_X0_burstsWith_n160 rfl rfl rfl (hN (.methodLinkNest RX3 160 yX0_burstsWith RX3) (List.mem_of_getElem? (i := 49) rfl)) (hts (.initialized RX0) (List.mem_of_getElem? (i := 8) rfl)) (by decide +kernel) ⟨Nat.le_of_ble_eq_true rfl, Nat.le_of_ble_eq_true rfl⟩, (hts (.instanceMethod yX0_burstsWith) (List.mem_of_getElem? (i := 31) rfl)), (hts (.selects RX0 yX0_burstsWith yX0_burstsWith) (List.mem_of_getElem? (i := 32) rfl))⟩ hP hD hK hN ([1, 2, 3, 4] : List Nat) rfl rfl 0 0 rfl rfl rfl hl.1 rfl (Nat.le_of_ble_eq_true rfl) dX3_count_146 ⟨Nat.zero_le _, Nat.zero_le _⟩) hP hD hS hA [1, 2, 3, 4] [0] [0, 1, 2, 3, 4] rfl rfl rfl (by decide) rfl rfl (fun H locs hP hD hS => ?_)
                        rw [g_X3_count, if_pos c_1, if_pos c_2, if_pos c_3, if_neg c_4, if_neg c_5, if_neg c_6, if_neg c_7, if_neg c_8, if_neg c_9, if_neg c_10, if_pos c_11] at hG
                        rw [hG]
                        exact W.iret (v := (g_X0_burstsWith told ff 7)) hx hb hr (fun t ht hW => ⟨⟨_, (), rfl, rfl, by rw [ht]; exact hP, va_K.moved hW.alike hK, hD⟩, hS.F ht⟩) hS.2.2 dX3_count_149
                      · rcases Decidable.em (x1 = 8) with c_12 | c_12
                        · refine lv_tableIn (off := 82) (tgt := 150) hx hb dX3_count_68 (by rw [c_12]; decide) (by rw [c_12]; decide) (by rw [c_12]; rfl) (by decide) ?_
                          refine lv_aload_n hx hb dX3_count_150 rfl (lv_at hl 0 rfl) ?_
                          refine va_get (D := D) (ci := 3) (v := .ref aB) (C := RX3) (T := TX3) (N := 6) hx hb hts iX3 hown hK hP 0 rfl rfl 1 (by decide) (hts (.fieldLink RX3 20 "LightBursts" "book" "LLightBursts$Book;") (List.mem_of_getElem? (i := 1) rfl)) (fun _ h9 => h9) rfl dX3_count_151 ?_
                          refine lv_bipush (v := 10) hx hb dX3_count_154 (by decide) ?_
                          refine kI (wr := LBw aX aB aB1 aB2 aT aP kp) (W1 := BKw cA aB aR aL aF now told rf lf ff) (wsN := LBw aX aB aB1 aB2 aT aP kp ++ BKw cA aB aR aL aF now told rf lf ff) (rVN (As := [.int 10]) (rest := []) (W0 := BKw cA aB aR aL aF now told rf lf ff) ⟨hx, hb, hml, hown, hts⟩ (c_X0_burstsWith l D cA cZ aB aR aL aF H.size now told rf lf ff 10) ⟨va_cnB 1 hts gX3_count_X0_burstsWith_n160 rfl rfl rfl (hN (.methodLinkNest RX3 160 yX0_burstsWith RX3) (List.mem_of_getElem? (i := 49) rfl)) (hts (.initialized RX0) (List.mem_of_getElem? (i := 8) rfl)) (by decide +kernel) ⟨Nat.le_of_ble_eq_true rfl, Nat.le_of_ble_eq_true rfl⟩, (hts (.instanceMethod yX0_burstsWith) (List.mem_of_getElem? (i := 31) rfl)), (hts (.selects RX0 yX0_burstsWith yX0_burstsWith) (List.mem_of_getElem? (i := 32) rfl))⟩ hP hD hK hN ([1, 2, 3, 4] : List Nat) rfl rfl 0 0 rfl rfl rfl hl.1 rfl (Nat.le_of_ble_eq_true rfl) dX3_count_156 ⟨Nat.zero_le _, Nat.zero_le _⟩) hP hD hS hA [1, 2, 3, 4] [0] [0, 1, 2, 3, 4] rfl rfl rfl (by decide) rfl rfl (fun H locs hP hD hS => ?_)
                          rw [g_X3_count, if_pos c_1, if_pos c_2, if_pos c_3, if_neg c_4, if_neg c_5, if_neg c_6, if_neg c_7, if_neg c_8, if_neg c_9, if_neg c_10, if_neg c_11, if_pos c_12] at hG
                          rw [hG]
                          exact W.iret (v := (g_X0_burstsWith told ff 10)) hx hb hr (fun t ht hW => ⟨⟨_, (), rfl, rfl, by rw [ht]; exact hP, va_K.moved hW.alike hK, hD⟩, hS.F ht⟩) hS.2.2 dX3_count_159
                        · rcases Decidable.em (x1 = 9) with c_13 | c_13
                          · refine lv_tableIn (off := 92) (tgt := 160) hx hb dX3_count_68 (by rw [c_13]; decide) (by rw [c_13]; decide) (by rw [c_13]; rfl) (by decide) ?_
                            refine lv_aload_n hx hb dX3_count_160 rfl (lv_at hl 0 rfl) ?_
                            refine va_get (D := D) (ci := 3) (v := .int kp) (C := RX3) (T := TX3) (N := 6) hx hb hts iX3 hown hK hP 0 rfl rfl 5 (by decide) (hts (.fieldLink RX3 35 "LightBursts" "keptImages" "I") (List.mem_of_getElem? (i := 2) rfl)) (fun _ h9 => h9) rfl dX3_count_161 ?_
                            rw [g_X3_count, if_pos c_1, if_pos c_2, if_pos c_3, if_neg c_4, if_neg c_5, if_neg c_6, if_neg c_7, if_neg c_8, if_neg c_9, if_neg c_10, if_neg c_11, if_neg c_12, if_pos c_13] at hG
                            rw [hG]
                            exact W.iret (v := kp) hx hb hr (fun t ht hW => ⟨⟨_, (), rfl, rfl, by rw [ht]; exact hP, va_K.moved hW.alike hK, hD⟩, hS.F ht⟩) hS.2.2 dX3_count_164
                          · refine lv_tableOut (tgt := 165) hx hb dX3_count_68 (sw_out10 c_4 c_5 c_6 c_7 c_8 c_9 c_10 c_11 c_12 c_13) (by decide) ?_
                            refine lv_bipush (v := (-2)) hx hb dX3_count_165 (by decide) ?_
                            rw [g_X3_count, if_pos c_1, if_pos c_2, if_pos c_3, if_neg c_4, if_neg c_5, if_neg c_6, if_neg c_7, if_neg c_8, if_neg c_9, if_neg c_10, if_neg c_11, if_neg c_12, if_neg c_13] at hG
                            rw [hG]
                            exact W.iret (v := (-2)) hx hb hr (fun t ht hW => ⟨⟨_, (), rfl, rfl, by rw [ht]; exact hP, va_K.moved hW.alike hK, hD⟩, hS.F ht⟩) hS.2.2 dX3_count_167
      · refine lv_aload_n hx hb dX3_count_55 rfl (lv_at hl 0 rfl) ?_
        refine va_get (D := D) (ci := 3) (v := .ref aB) (C := RX3) (T := TX3) (N := 6) hx hb hts iX3 hown hK hP 0 rfl rfl 1 (by decide) (hts (.fieldLink RX3 20 "LightBursts" "book" "LLightBursts$Book;") (List.mem_of_getElem? (i := 1) rfl)) (fun _ h9 => h9) rfl dX3_count_56 ?_
        refine lv_iload_n hx hb dX3_count_59 rfl (lv_at hl 1 rfl) ?_
        refine lv_bipush (v := 20) hx hb dX3_count_60 (by decide) ?_
        refine lv_isub hx hb dX3_count_62 ?_
        refine kI (wr := LBw aX aB aB1 aB2 aT aP kp) (W1 := BKw cA aB aR aL aF now told rf lf ff) (wsN := LBw aX aB aB1 aB2 aT aP kp ++ BKw cA aB aR aL aF now told rf lf ff) (rVN (As := [.int (x1 - 20)]) (rest := []) (W0 := BKw cA aB aR aL aF now told rf lf ff) ⟨hx, hb, hml, hown, hts⟩ (c_X0_lengthNow l D cA cZ aB aR aL aF H.size now told rf lf ff (x1 - 20)) ⟨va_cnB 1 hts gX3_count_X0_lengthNow_n157 rfl rfl rfl (hN (.methodLinkNest RX3 157 yX0_lengthNow RX3) (List.mem_of_getElem? (i := 48) rfl)) (hts (.initialized RX0) (List.mem_of_getElem? (i := 8) rfl)) (by decide +kernel) ⟨Nat.le_of_ble_eq_true rfl, Nat.le_of_ble_eq_true rfl⟩, (hts (.instanceMethod yX0_lengthNow) (List.mem_of_getElem? (i := 27) rfl)), (hts (.selects RX0 yX0_lengthNow yX0_lengthNow) (List.mem_of_getElem? (i := 28) rfl))⟩ hP hD hK hN ([1, 2, 3, 4] : List Nat) rfl rfl 0 0 rfl rfl rfl hl.1 rfl (Nat.le_of_ble_eq_true rfl) dX3_count_63 ⟨Nat.zero_le _, Nat.zero_le _⟩) hP hD hS hA [1, 2, 3, 4] [0] [0, 1, 2, 3, 4] rfl rfl rfl (by decide) rfl rfl (fun H locs hP hD hS => ?_)
        rw [g_X3_count, if_pos c_1, if_pos c_2, if_neg c_3] at hG
        rw [hG]
        exact W.iret (v := (g_X0_lengthNow lf (x1 - 20))) hx hb hr (fun t ht hW => ⟨⟨_, (), rfl, rfl, by rw [ht]; exact hP, va_K.moved hW.alike hK, hD⟩, hS.F ht⟩) hS.2.2 dX3_count_66
    · refine lv_aload_n hx hb dX3_count_32 rfl (lv_at hl 0 rfl) ?_
      refine va_get (D := D) (ci := 3) (v := .ref aB) (C := RX3) (T := TX3) (N := 6) hx hb hts iX3 hown hK hP 0 rfl rfl 1 (by decide) (hts (.fieldLink RX3 20 "LightBursts" "book" "LLightBursts$Book;") (List.mem_of_getElem? (i := 1) rfl)) (fun _ h9 => h9) rfl dX3_count_33 ?_
      refine lv_iload_n hx hb dX3_count_36 rfl (lv_at hl 1 rfl) ?_
      refine lv_bipush (v := 10) hx hb dX3_count_37 (by decide) ?_
      refine lv_isub hx hb dX3_count_39 ?_
      refine kI (wr := LBw aX aB aB1 aB2 aT aP kp) (W1 := BKw cA aB aR aL aF now told rf lf ff) (wsN := LBw aX aB aB1 aB2 aT aP kp ++ BKw cA aB aR aL aF now told rf lf ff) (rVN (As := [.int (x1 - 10)]) (rest := []) (W0 := BKw cA aB aR aL aF now told rf lf ff) ⟨hx, hb, hml, hown, hts⟩ (c_X0_ruleNow l D cA cZ aB aR aL aF H.size now told rf lf ff (x1 - 10)) ⟨va_cnB 1 hts gX3_count_X0_ruleNow_n154 rfl rfl rfl (hN (.methodLinkNest RX3 154 yX0_ruleNow RX3) (List.mem_of_getElem? (i := 47) rfl)) (hts (.initialized RX0) (List.mem_of_getElem? (i := 8) rfl)) (by decide +kernel) ⟨Nat.le_of_ble_eq_true rfl, Nat.le_of_ble_eq_true rfl⟩, (hts (.instanceMethod yX0_ruleNow) (List.mem_of_getElem? (i := 23) rfl)), (hts (.selects RX0 yX0_ruleNow yX0_ruleNow) (List.mem_of_getElem? (i := 24) rfl))⟩ hP hD hK hN ([1, 2, 3, 4] : List Nat) rfl rfl 0 0 rfl rfl rfl hl.1 rfl (Nat.le_of_ble_eq_true rfl) dX3_count_40 ⟨Nat.zero_le _, Nat.zero_le _⟩) hP hD hS hA [1, 2, 3, 4] [0] [0, 1, 2, 3, 4] rfl rfl rfl (by decide) rfl rfl (fun H locs hP hD hS => ?_)
      rw [g_X3_count, if_pos c_1, if_neg c_2] at hG
      rw [hG]
      exact W.iret (v := (g_X0_ruleNow rf (x1 - 10))) hx hb hr (fun t ht hW => ⟨⟨_, (), rfl, rfl, by rw [ht]; exact hP, va_K.moved hW.alike hK, hD⟩, hS.F ht⟩) hS.2.2 dX3_count_43
  · refine lv_aload_n hx hb dX3_count_10 rfl (lv_at hl 0 rfl) ?_
    refine va_get (D := D) (ci := 3) (v := .ref aB) (C := RX3) (T := TX3) (N := 6) hx hb hts iX3 hown hK hP 0 rfl rfl 1 (by decide) (hts (.fieldLink RX3 20 "LightBursts" "book" "LLightBursts$Book;") (List.mem_of_getElem? (i := 1) rfl)) (fun _ h9 => h9) rfl dX3_count_11 ?_
    refine lv_iload_n hx hb dX3_count_14 rfl (lv_at hl 1 rfl) ?_
    refine lv_iconst (v := 2) hx hb dX3_count_15 (by decide) ?_
    refine lv_isub hx hb dX3_count_16 ?_
    refine kI (wr := LBw aX aB aB1 aB2 aT aP kp) (W1 := BKw cA aB aR aL aF now told rf lf ff) (wsN := LBw aX aB aB1 aB2 aT aP kp ++ BKw cA aB aR aL aF now told rf lf ff) (rVN (As := [.int (x1 - 2)]) (rest := []) (W0 := BKw cA aB aR aL aF now told rf lf ff) ⟨hx, hb, hml, hown, hts⟩ (c_X0_burstsOfFate l D cA cZ aB aR aL aF H.size now told rf lf ff (x1 - 2)) ⟨va_cnB 1 hts gX3_count_X0_burstsOfFate_n151 rfl rfl rfl (hN (.methodLinkNest RX3 151 yX0_burstsOfFate RX3) (List.mem_of_getElem? (i := 46) rfl)) (hts (.initialized RX0) (List.mem_of_getElem? (i := 8) rfl)) (by decide +kernel) ⟨Nat.le_of_ble_eq_true rfl, Nat.le_of_ble_eq_true rfl⟩, (hts (.instanceMethod yX0_burstsOfFate) (List.mem_of_getElem? (i := 7) rfl)), (hts (.selects RX0 yX0_burstsOfFate yX0_burstsOfFate) (List.mem_of_getElem? (i := 9) rfl))⟩ hP hD hK hN ([1, 2, 3, 4] : List Nat) rfl rfl 0 0 rfl rfl rfl hl.1 rfl (Nat.le_of_ble_eq_true rfl) dX3_count_17 ⟨Nat.zero_le _, Nat.zero_le _⟩) hP hD hS hA [1, 2, 3, 4] [0] [0, 1, 2, 3, 4] rfl rfl rfl (by decide) rfl rfl (fun H locs hP hD hS => ?_)
    rw [g_X3_count, if_neg c_1] at hG
    rw [hG]
    exact W.iret (v := (g_X0_burstsOfFate told ff (x1 - 2))) hx hb hr (fun t ht hW => ⟨⟨_, (), rfl, rfl, by rw [ht]; exact hP, va_K.moved hW.alike hK, hD⟩, hS.F ht⟩) hS.2.2 dX3_count_20
