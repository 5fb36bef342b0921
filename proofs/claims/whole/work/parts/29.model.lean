theorem bkA_L20_ok {sf : Nat → Int32} {x1 x2 v4 v5 : Int32} (hm : sf 10 ≤ 48) (K : Int32 → Int32 → Int32) (hK : ∀ a b, (a < 0 ∨ bok a) → (K a b < 0 ∨ bok (K a b))) : ∀ (n : Nat) (v6 v7 : Int32), (v6 < 0 ∨ bok v6) → 0 ≤ v7 → (g_X4_bookingAt_L20 K sf x1 x2 v4 v5 n v6 v7 < 0 ∨ bok (g_X4_bookingAt_L20 K sf x1 x2 v4 v5 n v6 v7)) := by
  intro n
  induction n with
  | zero => intros; exact Or.inr (show bok 0 from ⟨by decide, by decide⟩)
  | succ n ih =>
    intro v6 v7 h6 h7
    rw [g_X4_bookingAt_L20]
    split
    · split
      · exact hK _ _ h6
      · exact Or.inl (by decide)
    · rename_i c
      have h8 : 0 ≤ v7 + 1 := up_ge h7 c
      have h9 : v7 < 0 ∨ bok v7 := Or.inr (bok_of h7 c hm)
      repeat' split
      all_goals first | exact ih _ _ h6 h8 | exact ih _ _ h9 h8
theorem bkA_L7_ok {sf : Nat → Int32} {x1 x2 x3 : Int32} (hm : sf 10 ≤ 48) : ∀ (n : Nat) (v4 v5 : Int32), (v4 < 0 ∨ bok v4) → (g_X4_bookingAt_L7 sf x1 x2 x3 n v4 v5 < 0 ∨ bok (g_X4_bookingAt_L7 sf x1 x2 x3 n v4 v5)) := by
  intro n
  induction n with
  | zero => intros; exact Or.inr (show bok 0 from ⟨by decide, by decide⟩)
  | succ n ih =>
    intro v4 v5 h4
    rw [g_X4_bookingAt_L7]
    split
    · exact h4
    · exact bkA_L20_ok hm _ (fun a b h => ih a b h) _ _ _ (Or.inl (by decide)) (by decide)
theorem bookingAt_ok {sf : Nat → Int32} {x1 x2 x3 : Int32} (hm : sf 10 ≤ 48) : g_X4_bookingAt sf x1 x2 x3 < 0 ∨ bok (g_X4_bookingAt sf x1 x2 x3) := by
  unfold g_X4_bookingAt
  exact bkA_L7_ok hm _ _ _ (Or.inl (by decide))
theorem up_m1 {i b : Int32} (h : -1 ≤ i.toInt) (c : ¬ b ≤ i) : -1 ≤ (i + 1).toInt := by
  have h1 := lt_of_nle c
  rw [i32_s h1]; omega
theorem cnt10 {x : Int32} (h : ¬ g_X4_in x 10 15 = 0) : vp_in (x - 10) 539 := by
  have e10 : (10 : Int32).toInt = 10 := rfl
  have e15 : (15 : Int32).toInt = 15 := rfl
  have h1 := in_iff.mp h
  rw [vp_in_iff, i32_sub (by omega) (by omega)]; omega
theorem cnt20 {x : Int32} (h : ¬ g_X4_in x 20 22 = 0) : vp_in ((6 + x) - 20) 539 := by
  have e6 : (6 : Int32).toInt = 6 := rfl
  have e20 : (20 : Int32).toInt = 20 := rfl
  have e22 : (22 : Int32).toInt = 22 := rfl
  have h1 := in_iff.mp h
  have e : (6 + x).toInt = 6 + x.toInt := by rw [i32_add (by omega) (by omega), e6]
  rw [vp_in_iff, i32_sub (by omega) (by omega)]; omega
theorem img_in {x v : Int32} (h : ¬ g_X4_in x 0 1 = 0) (h0 : 0 ≤ v) (c : ¬ 539 ≤ v) : vp_in ((539 * x) + v) 1078 := by
  have e0 : (0 : Int32).toInt = 0 := rfl
  have e1 : (1 : Int32).toInt = 1 := rfl
  have e5 : (539 : Int32).toInt = 539 := rfl
  have h1 := in_iff.mp h
  have h2 := lt_of_nle c
  rw [Int32.le_iff_toInt_le] at h0
  have m : ((539 : Int32) * x).toInt = 539 * x.toInt := by rw [i32_mul (by rw [e5]; omega) (by rw [e5]; omega), e5]
  rw [vp_in_iff, i32_add (by omega) (by omega)]; omega

def g_X4_booking (sf : (Nat → Int32)) (x1 : Int32) (x2 : Int32) (x3 : Int32) (x4 : Int32) : Int32 := (if (g_X4_isOut x1) = 0 then (-1) else (if (g_X4_isColour x2) = 0 then (-1) else (if (g_X4_in x4 0 2) = 0 then (-2) else (if 0 ≤ (g_X4_bookingAt sf x1 x2 x3) then (if x4 = 0 then (g_X4_of sf (g_X4_bookingAt sf x1 x2 x3) 8) else (if x4 = 1 then (g_X4_of sf (g_X4_bookingAt sf x1 x2 x3) 9) else (g_X4_bookingAt sf x1 x2 x3))) else (-6)))))
set_option maxHeartbeats 4000000 in
set_option maxRecDepth 100000 in
theorem c_X4_booking (l : Launch) (D : va_G) (cA cZ : ClassId) (aM : Nat) (aS : Nat) (aI : Nat) (aK : Nat) (szz : Nat) (sf : (Nat → Int32)) (mf : (Nat → Int32)) (kf : (Nat → Int32)) (m0 : Int32) (m1 : Int32) (m2 : Int32) (m3 : Int32) (m4 : Int32) (x1 : Int32) (x2 : Int32) (x3 : Int32) (x4 : Int32) (hm : (sf 10) ≤ 48) : MetI l yX4_booking wsX4_booking 4 94 D (tyA cA cZ) [.ref aM, .int x1, .int x2, .int x3, .int x4] (MDw cA cZ aM aS aI aK sf mf kf m0 m1 m2 m3 m4) szz (g_X4_booking sf x1 x2 x3 x4) (MDw cA cZ aM aS aI aK sf mf kf m0 m1 m2 m3 m4) := by
  refine Met.ofW (cc := cX4_booking) (maxL := 6) (ret := (some .int)) (by decide) rfl ?_
  intro p e s m args below meth c s₁ B hml hv
  obtain ⟨rfl, hsz, hP, hK, hD0, hN⟩ := hv
  have hx := B.exec
  have hb := B.bytes
  have hr := B.returns
  have hts := atoms_spec (ws := wsX4_booking) B.pre
  have hown : s.vm.findClass RX4 = some m.cls := findClass_of_methodNamed B.named
  have hlocks := B.notSynchronized
  have iX4 : ∀ w ∈ wsX40, w ∈ wsX4_booking := fun _ h => List.mem_cons_of_mem _ (List.mem_append_right _ h)
  subst hsz
  have hD := hD0.self (sz := s.heap.size)
  generalize hAe : va_A (MDw cA cZ aM aS aI aK sf mf kf m0 m1 m2 m3 m4) s.heap.size = A at hD ⊢
  have hA : ∀ q : Nat, s.heap.size ≤ q → A q := fun q h => by rw [← hAe]; exact Or.inr h
  have hS : va_S A s.heap s.heap [] := va_S.rf
  have hP : va_P D vwCl (MDw cA cZ aM aS aI aK sf mf kf m0 m1 m2 m3 m4) s.heap := hP
  obtain ⟨G, hG⟩ : ∃ G, G = (g_X4_booking sf x1 x2 x3 x4) := ⟨_, rfl⟩
  rw [← hG]
  have hl := lv_entry ([.ref aM, .int x1, .int x2, .int x3, .int x4]) (n := 6) (Nat.le_of_ble_eq_true rfl)
  rw [lg_entry_eq]
  generalize (lg_sl ([.ref aM, .int x1, .int x2, .int x3, .int x4]) ++ List.replicate (6 - (lg_sl ([.ref aM, .int x1, .int x2, .int x3, .int x4])).length) Slot.unset).toArray = ls at hl ⊢
  have hl : lv_has ls 6 [(0, .ref aM), (1, .int x1), (2, .int x2), (3, .int x3), (4, .int x4)] := hl
  refine lv_iload_n hx hb dX4_booking_0 rfl (lv_at hl 1 rfl) ?_
  refine kI (wr := MDw cA cZ aM aS aI aK sf mf kf m0 m1 m2 m3 m4) (W1 := ([] : va_W)) (wsN := MDw cA cZ aM aS aI aK sf mf kf m0 m1 m2 m3 m4) (rS (As := [.int x1]) (rest := []) (W0 := ([] : va_W)) ⟨hx, hb, hml, hown, hts⟩ (c_X4_isOut l D cA cZ s.heap.size x1) (cwS 1 hts gX4_booking_X4_isOut rfl rfl rfl (by decide +kernel) ⟨Nat.le_of_ble_eq_true rfl, Nat.le_of_ble_eq_true rfl⟩) hP hD hK hN ([] : List Nat) rfl rfl rfl hl.1 rfl (Nat.le_of_ble_eq_true rfl) dX4_booking_1 ⟨Nat.zero_le _, Nat.zero_le _⟩) hP hD hS hA [] [0, 1, 2, 3] [0, 1, 2, 3] rfl rfl rfl (by decide) rfl rfl (fun H locs hP hD hS => ?_)
  refine lv_if_eq (tgt := 14) hx hb dX4_booking_4 (by decide) (fun c_1 => ?_) (fun c_1 => ?_)
  · refine lv_iconst (v := (-1)) hx hb dX4_booking_14 (by decide) ?_
    rw [g_X4_booking, if_pos c_1] at hG
    rw [hG]
    exact W.iret (v := (-1)) hx hb hr (fun t ht hW => ⟨⟨_, (), rfl, rfl, by rw [ht]; exact hP, va_K.moved hW.alike hK, hD⟩, hS.F ht⟩) hS.2.2 dX4_booking_15
  · refine lv_iload_n hx hb dX4_booking_7 rfl (lv_at hl 2 rfl) ?_
    refine kI (wr := MDw cA cZ aM aS aI aK sf mf kf m0 m1 m2 m3 m4) (W1 := ([] : va_W)) (wsN := MDw cA cZ aM aS aI aK sf mf kf m0 m1 m2 m3 m4) (rS (As := [.int x2]) (rest := []) (W0 := ([] : va_W)) ⟨hx, hb, hml, hown, hts⟩ (c_X4_isColour l D cA cZ H.size x2) (cwS 1 hts gX4_booking_X4_isColour rfl rfl rfl (by decide +kernel) ⟨Nat.le_of_ble_eq_true rfl, Nat.le_of_ble_eq_true rfl⟩) hP hD hK hN ([] : List Nat) rfl rfl rfl hl.1 rfl (Nat.le_of_ble_eq_true rfl) dX4_booking_8 ⟨Nat.zero_le _, Nat.zero_le _⟩) hP hD hS hA [] [0, 1, 2, 3] [0, 1, 2, 3] rfl rfl rfl (by decide) rfl rfl (fun H locs hP hD hS => ?_)
    refine lv_if_ne (tgt := 16) hx hb dX4_booking_11 (by decide) (fun c_2 => ?_) (fun c_2 => ?_)
    · refine lv_iload hx hb dX4_booking_16 (lv_at hl 4 rfl) ?_
      refine lv_iconst (v := 0) hx hb dX4_booking_18 (by decide) ?_
      refine lv_iconst (v := 2) hx hb dX4_booking_19 (by decide) ?_
      refine kI (wr := MDw cA cZ aM aS aI aK sf mf kf m0 m1 m2 m3 m4) (W1 := ([] : va_W)) (wsN := MDw cA cZ aM aS aI aK sf mf kf m0 m1 m2 m3 m4) (rS (As := [.int x4, .int 0, .int 2]) (rest := []) (W0 := ([] : va_W)) ⟨hx, hb, hml, hown, hts⟩ (c_X4_in l D cA cZ H.size x4 0 2) (cwS 3 hts gX4_booking_X4_in rfl rfl rfl (by decide +kernel) ⟨Nat.le_of_ble_eq_true rfl, Nat.le_of_ble_eq_true rfl⟩) hP hD hK hN ([] : List Nat) rfl rfl rfl hl.1 rfl (Nat.le_of_ble_eq_true rfl) dX4_booking_20 ⟨Nat.zero_le _, Nat.zero_le _⟩) hP hD hS hA [] [0, 1, 2, 3] [0, 1, 2, 3] rfl rfl rfl (by decide) rfl rfl (fun H locs hP hD hS => ?_)
      refine lv_if_ne (tgt := 29) hx hb dX4_booking_23 (by decide) (fun c_3 => ?_) (fun c_3 => ?_)
      · refine lv_aload_n hx hb dX4_booking_29 rfl (lv_at hl 0 rfl) ?_
        refine lv_iload_n hx hb dX4_booking_30 rfl (lv_at hl 1 rfl) ?_
        refine lv_iload_n hx hb dX4_booking_31 rfl (lv_at hl 2 rfl) ?_
        refine lv_iload_n hx hb dX4_booking_32 rfl (lv_at hl 3 rfl) ?_
        refine kI (wr := ([] : va_W)) (W1 := MDw cA cZ aM aS aI aK sf mf kf m0 m1 m2 m3 m4) (wsN := MDw cA cZ aM aS aI aK sf mf kf m0 m1 m2 m3 m4) (rV (As := [.int x1, .int x2, .int x3]) (rest := []) (W0 := MDw cA cZ aM aS aI aK sf mf kf m0 m1 m2 m3 m4) ⟨hx, hb, hml, hown, hts⟩ (c_X4_bookingAt l D cA cZ aM aS aI aK H.size sf mf kf m0 m1 m2 m3 m4 x1 x2 x3 (show (sf 10) ≤ 48 from by exact hm)) (cwV 3 hts gX4_booking_X4_bookingAt rfl rfl rfl (by decide +kernel) ⟨Nat.le_of_ble_eq_true rfl, Nat.le_of_ble_eq_true rfl⟩) hP hD hK hN ([0, 1, 2, 3] : List Nat) rfl rfl 4 0 rfl rfl rfl hl.1 rfl (Nat.le_of_ble_eq_true rfl) dX4_booking_33 ⟨Nat.zero_le _, Nat.zero_le _⟩) hP hD hS hA [0, 1, 2, 3] [] [0, 1, 2, 3] rfl rfl rfl (by decide) rfl rfl (fun H locs hP hD hS => ?_)
        refine lv_istore (lv' := [(5, .int (g_X4_bookingAt sf x1 x2 x3)), (0, .ref aM), (1, .int x1), (2, .int x2), (3, .int x3), (4, .int x4)]) hx hb dX4_booking_36 hl (by decide) rfl (fun ls hl => ?_)
        refine lv_iload hx hb dX4_booking_38 (lv_at hl 0 rfl) ?_
        refine lv_if_ge (tgt := 48) hx hb dX4_booking_40 (by decide) (fun c_4 => ?_) (fun c_4 => ?_)
        · refine lv_iload hx hb dX4_booking_48 (lv_at hl 5 rfl) ?_
          refine lv_if_ne (tgt := 64) hx hb dX4_booking_50 (by decide) (fun c_5 => ?_) (fun c_5 => ?_)
          · refine lv_iload hx hb dX4_booking_64 (lv_at hl 5 rfl) ?_
            refine lv_iconst (v := 1) hx hb dX4_booking_66 (by decide) ?_
            refine lv_icmp_ne (tgt := 81) hx hb dX4_booking_67 (by decide) (fun c_6 => ?_) (fun c_6 => ?_)
            · refine lv_iload hx hb dX4_booking_81 (lv_at hl 0 rfl) ?_
              rw [g_X4_booking, if_neg c_1, if_neg c_2, if_neg c_3, if_pos c_4, if_neg c_5, if_neg c_6] at hG
              rw [hG]
              exact W.iret (v := (g_X4_bookingAt sf x1 x2 x3)) hx hb hr (fun t ht hW => ⟨⟨_, (), rfl, rfl, by rw [ht]; exact hP, va_K.moved hW.alike hK, hD⟩, hS.F ht⟩) hS.2.2 dX4_booking_83
            · refine lv_aload_n hx hb dX4_booking_70 rfl (lv_at hl 1 rfl) ?_
              refine lv_iload hx hb dX4_booking_71 (lv_at hl 0 rfl) ?_
              refine lv_bipush (v := 9) hx hb dX4_booking_73 (by decide) ?_
              refine kI (wr := ([] : va_W)) (W1 := MDw cA cZ aM aS aI aK sf mf kf m0 m1 m2 m3 m4) (wsN := MDw cA cZ aM aS aI aK sf mf kf m0 m1 m2 m3 m4) (rV (As := [.int (g_X4_bookingAt sf x1 x2 x3), .int 9]) (rest := []) (W0 := MDw cA cZ aM aS aI aK sf mf kf m0 m1 m2 m3 m4) ⟨hx, hb, hml, hown, hts⟩ (c_X4_of l D cA cZ aM aS aI aK H.size sf mf kf m0 m1 m2 m3 m4 (g_X4_bookingAt sf x1 x2 x3) 9 (show bok (g_X4_bookingAt sf x1 x2 x3) from by exact (bookingAt_ok hm).resolve_left (nlt_of_le c_4)) (show wok 9 from by exact ⟨by decide, by decide⟩)) (cwV 2 hts gX4_booking_X4_of rfl rfl rfl (by decide +kernel) ⟨Nat.le_of_ble_eq_true rfl, Nat.le_of_ble_eq_true rfl⟩) hP hD hK hN ([0, 1, 2, 3] : List Nat) rfl rfl 4 0 rfl rfl rfl hl.1 rfl (Nat.le_of_ble_eq_true rfl) dX4_booking_75 ⟨Nat.zero_le _, Nat.zero_le _⟩) hP hD hS hA [0, 1, 2, 3] [] [0, 1, 2, 3] rfl rfl rfl (by decide) rfl rfl (fun H locs hP hD hS => ?_)
              refine lv_goto (tgt := 83) hx hb dX4_booking_78 (by decide) ?_
              rw [g_X4_booking, if_neg c_1, if_neg c_2, if_neg c_3, if_pos c_4, if_neg c_5, if_pos c_6] at hG
              rw [hG]
              exact W.iret (v := (g_X4_of sf (g_X4_bookingAt sf x1 x2 x3) 9)) hx hb hr (fun t ht hW => ⟨⟨_, (), rfl, rfl, by rw [ht]; exact hP, va_K.moved hW.alike hK, hD⟩, hS.F ht⟩) hS.2.2 dX4_booking_83
          · refine lv_aload_n hx hb dX4_booking_53 rfl (lv_at hl 1 rfl) ?_
            refine lv_iload hx hb dX4_booking_54 (lv_at hl 0 rfl) ?_
            refine lv_bipush (v := 8) hx hb dX4_booking_56 (by decide) ?_
            refine kI (wr := ([] : va_W)) (W1 := MDw cA cZ aM aS aI aK sf mf kf m0 m1 m2 m3 m4) (wsN := MDw cA cZ aM aS aI aK sf mf kf m0 m1 m2 m3 m4) (rV (As := [.int (g_X4_bookingAt sf x1 x2 x3), .int 8]) (rest := []) (W0 := MDw cA cZ aM aS aI aK sf mf kf m0 m1 m2 m3 m4) ⟨hx, hb, hml, hown, hts⟩ (c_X4_of l D cA cZ aM aS aI aK H.size sf mf kf m0 m1 m2 m3 m4 (g_X4_bookingAt sf x1 x2 x3) 8 (show bok (g_X4_bookingAt sf x1 x2 x3) from by exact (bookingAt_ok hm).resolve_left (nlt_of_le c_4)) (show wok 8 from by exact ⟨by decide, by decide⟩)) (cwV 2 hts gX4_booking_X4_of rfl rfl rfl (by decide +kernel) ⟨Nat.le_of_ble_eq_true rfl, Nat.le_of_ble_eq_true rfl⟩) hP hD hK hN ([0, 1, 2, 3] : List Nat) rfl rfl 4 0 rfl rfl rfl hl.1 rfl (Nat.le_of_ble_eq_true rfl) dX4_booking_58 ⟨Nat.zero_le _, Nat.zero_le _⟩) hP hD hS hA [0, 1, 2, 3] [] [0, 1, 2, 3] rfl rfl rfl (by decide) rfl rfl (fun H locs hP hD hS => ?_)
            refine lv_goto (tgt := 83) hx hb dX4_booking_61 (by decide) ?_
            rw [g_X4_booking, if_neg c_1, if_neg c_2, if_neg c_3, if_pos c_4, if_pos c_5] at hG
            rw [hG]
            exact W.iret (v := (g_X4_of sf (g_X4_bookingAt sf x1 x2 x3) 8)) hx hb hr (fun t ht hW => ⟨⟨_, (), rfl, rfl, by rw [ht]; exact hP, va_K.moved hW.alike hK, hD⟩, hS.F ht⟩) hS.2.2 dX4_booking_83
        · refine lv_bipush (v := (-6)) hx hb dX4_booking_43 (by decide) ?_
          refine lv_goto (tgt := 83) hx hb dX4_booking_45 (by decide) ?_
          rw [g_X4_booking, if_neg c_1, if_neg c_2, if_neg c_3, if_neg c_4] at hG
          rw [hG]
          exact W.iret (v := (-6)) hx hb hr (fun t ht hW => ⟨⟨_, (), rfl, rfl, by rw [ht]; exact hP, va_K.moved hW.alike hK, hD⟩, hS.F ht⟩) hS.2.2 dX4_booking_83
      · refine lv_bipush (v := (-2)) hx hb dX4_booking_26 (by decide) ?_
        rw [g_X4_booking, if_neg c_1, if_neg c_2, if_pos c_3] at hG
        rw [hG]
        exact W.iret (v := (-2)) hx hb hr (fun t ht hW => ⟨⟨_, (), rfl, rfl, by rw [ht]; exact hP, va_K.moved hW.alike hK, hD⟩, hS.F ht⟩) hS.2.2 dX4_booking_28
    · refine lv_iconst (v := (-1)) hx hb dX4_booking_14 (by decide) ?_
      rw [g_X4_booking, if_neg c_1, if_pos c_2] at hG
      rw [hG]
      exact W.iret (v := (-1)) hx hb hr (fun t ht hW => ⟨⟨_, (), rfl, rfl, by rw [ht]; exact hP, va_K.moved hW.alike hK, hD⟩, hS.F ht⟩) hS.2.2 dX4_booking_15

def g_X4_held (sf : (Nat → Int32)) (x1 : Int32) (x2 : Int32) (x3 : Int32) : Int32 := (if (g_X4_in x1 0 2) = 0 then (-1) else (if (g_X4_in x3 0 2) = 0 then (-2) else (if 0 ≤ (g_X4_bookingAt sf (-6) x1 x2) then (if x3 = 0 then (g_X4_of sf (g_X4_bookingAt sf (-6) x1 x2) 5) else (if x3 = 1 then (g_X4_of sf (g_X4_bookingAt sf (-6) x1 x2) 4) else (g_X4_bookingAt sf (-6) x1 x2))) else (-6))))
set_option maxHeartbeats 4000000 in
set_option maxRecDepth 100000 in
theorem c_X4_held (l : Launch) (D : va_G) (cA cZ : ClassId) (aM : Nat) (aS : Nat) (aI : Nat) (aK : Nat) (szz : Nat) (sf : (Nat → Int32)) (mf : (Nat → Int32)) (kf : (Nat → Int32)) (m0 : Int32) (m1 : Int32) (m2 : Int32) (m3 : Int32) (m4 : Int32) (x1 : Int32) (x2 : Int32) (x3 : Int32) (hm : (sf 10) ≤ 48) : MetI l yX4_held wsX4_held 4 94 D (tyA cA cZ) [.ref aM, .int x1, .int x2, .int x3] (MDw cA cZ aM aS aI aK sf mf kf m0 m1 m2 m3 m4) szz (g_X4_held sf x1 x2 x3) (MDw cA cZ aM aS aI aK sf mf kf m0 m1 m2 m3 m4) := by
  refine Met.ofW (cc := cX4_held) (maxL := 5) (ret := (some .int)) (by decide) rfl ?_
  intro p e s m args below meth c s₁ B hml hv
  obtain ⟨rfl, hsz, hP, hK, hD0, hN⟩ := hv
  have hx := B.exec
  have hb := B.bytes
  have hr := B.returns
  have hts := atoms_spec (ws := wsX4_held) B.pre
  have hown : s.vm.findClass RX4 = some m.cls := findClass_of_methodNamed B.named
  have hlocks := B.notSynchronized
  have iX4 : ∀ w ∈ wsX40, w ∈ wsX4_held := fun _ h => List.mem_cons_of_mem _ (List.mem_append_right _ h)
  subst hsz
  have hD := hD0.self (sz := s.heap.size)
  generalize hAe : va_A (MDw cA cZ aM aS aI aK sf mf kf m0 m1 m2 m3 m4) s.heap.size = A at hD ⊢
  have hA : ∀ q : Nat, s.heap.size ≤ q → A q := fun q h => by rw [← hAe]; exact Or.inr h
  have hS : va_S A s.heap s.heap [] := va_S.rf
  have hP : va_P D vwCl (MDw cA cZ aM aS aI aK sf mf kf m0 m1 m2 m3 m4) s.heap := hP
  obtain ⟨G, hG⟩ : ∃ G, G = (g_X4_held sf x1 x2 x3) := ⟨_, rfl⟩
  rw [← hG]
  have hl := lv_entry ([.ref aM, .int x1, .int x2, .int x3]) (n := 5) (Nat.le_of_ble_eq_true rfl)
  rw [lg_entry_eq]
  generalize (lg_sl ([.ref aM, .int x1, .int x2, .int x3]) ++ List.replicate (5 - (lg_sl ([.ref aM, .int x1, .int x2, .int x3])).length) Slot.unset).toArray = ls at hl ⊢
  have hl : lv_has ls 5 [(0, .ref aM), (1, .int x1), (2, .int x2), (3, .int x3)] := hl
  refine lv_iload_n hx hb dX4_held_0 rfl (lv_at hl 1 rfl) ?_
  refine lv_iconst (v := 0) hx hb dX4_held_1 (by decide) ?_
  refine lv_iconst (v := 2) hx hb dX4_held_2 (by decide) ?_
  refine kI (wr := MDw cA cZ aM aS aI aK sf mf kf m0 m1 m2 m3 m4) (W1 := ([] : va_W)) (wsN := MDw cA cZ aM aS aI aK sf mf kf m0 m1 m2 m3 m4) (rS (As := [.int x1, .int 0, .int 2]) (rest := []) (W0 := ([] : va_W)) ⟨hx, hb, hml, hown, hts⟩ (c_X4_in l D cA cZ s.heap.size x1 0 2) (cwS 3 hts gX4_held_X4_in rfl rfl rfl (by decide +kernel) ⟨Nat.le_of_ble_eq_true rfl, Nat.le_of_ble_eq_true rfl⟩) hP hD hK hN ([] : List Nat) rfl rfl rfl hl.1 rfl (Nat.le_of_ble_eq_true rfl) dX4_held_3 ⟨Nat.zero_le _, Nat.zero_le _⟩) hP hD hS hA [] [0, 1, 2, 3] [0, 1, 2, 3] rfl rfl rfl (by decide) rfl rfl (fun H locs hP hD hS => ?_)
  refine lv_if_ne (tgt := 11) hx hb dX4_held_6 (by decide) (fun c_1 => ?_) (fun c_1 => ?_)
  · refine lv_iload_n hx hb dX4_held_11 rfl (lv_at hl 3 rfl) ?_
    refine lv_iconst (v := 0) hx hb dX4_held_12 (by decide) ?_
    refine lv_iconst (v := 2) hx hb dX4_held_13 (by decide) ?_
    refine kI (wr := MDw cA cZ aM aS aI aK sf mf kf m0 m1 m2 m3 m4) (W1 := ([] : va_W)) (wsN := MDw cA cZ aM aS aI aK sf mf kf m0 m1 m2 m3 m4) (rS (As := [.int x3, .int 0, .int 2]) (rest := []) (W0 := ([] : va_W)) ⟨hx, hb, hml, hown, hts⟩ (c_X4_in l D cA cZ H.size x3 0 2) (cwS 3 hts gX4_held_X4_in rfl rfl rfl (by decide +kernel) ⟨Nat.le_of_ble_eq_true rfl, Nat.le_of_ble_eq_true rfl⟩) hP hD hK hN ([] : List Nat) rfl rfl rfl hl.1 rfl (Nat.le_of_ble_eq_true rfl) dX4_held_14 ⟨Nat.zero_le _, Nat.zero_le _⟩) hP hD hS hA [] [0, 1, 2, 3] [0, 1, 2, 3] rfl rfl rfl (by decide) rfl rfl (fun H locs hP hD hS => ?_)
    refine lv_if_ne (tgt := 23) hx hb dX4_held_17 (by decide) (fun c_2 => ?_) (fun c_2 => ?_)
    · refine lv_aload_n hx hb dX4_held_23 rfl (lv_at hl 0 rfl) ?_
      refine lv_bipush (v := (-6)) hx hb dX4_held_24 (by decide) ?_
      refine lv_iload_n hx hb dX4_held_26 rfl (lv_at hl 1 rfl) ?_
      refine lv_iload_n hx hb dX4_held_27 rfl (lv_at hl 2 rfl) ?_
      refine kI (wr := ([] : va_W)) (W1 := MDw cA cZ aM aS aI aK sf mf kf m0 m1 m2 m3 m4) (wsN := MDw cA cZ aM aS aI aK sf mf kf m0 m1 m2 m3 m4) (rV (As := [.int (-6), .int x1, .int x2]) (rest := []) (W0 := MDw cA cZ aM aS aI aK sf mf kf m0 m1 m2 m3 m4) ⟨hx, hb, hml, hown, hts⟩ (c_X4_bookingAt l D cA cZ aM aS aI aK H.size sf mf kf m0 m1 m2 m3 m4 (-6) x1 x2 (show (sf 10) ≤ 48 from by exact hm)) (cwV 3 hts gX4_held_X4_bookingAt rfl rfl rfl (by decide +kernel) ⟨Nat.le_of_ble_eq_true rfl, Nat.le_of_ble_eq_true rfl⟩) hP hD hK hN ([0, 1, 2, 3] : List Nat) rfl rfl 4 0 rfl rfl rfl hl.1 rfl (Nat.le_of_ble_eq_true rfl) dX4_held_28 ⟨Nat.zero_le _, Nat.zero_le _⟩) hP hD hS hA [0, 1, 2, 3] [] [0, 1, 2, 3] rfl rfl rfl (by decide) rfl rfl (fun H locs hP hD hS => ?_)
      refine lv_istore (lv' := [(4, .int (g_X4_bookingAt sf (-6) x1 x2)), (0, .ref aM), (1, .int x1), (2, .int x2), (3, .int x3)]) hx hb dX4_held_31 hl (by decide) rfl (fun ls hl => ?_)
      refine lv_iload hx hb dX4_held_33 (lv_at hl 0 rfl) ?_
      refine lv_if_ge (tgt := 43) hx hb dX4_held_35 (by decide) (fun c_3 => ?_) (fun c_3 => ?_)
      · refine lv_iload_n hx hb dX4_held_43 rfl (lv_at hl 4 rfl) ?_
        refine lv_if_ne (tgt := 57) hx hb dX4_held_44 (by decide) (fun c_4 => ?_) (fun c_4 => ?_)
        · refine lv_iload_n hx hb dX4_held_57 rfl (lv_at hl 4 rfl) ?_
          refine lv_iconst (v := 1) hx hb dX4_held_58 (by decide) ?_
          refine lv_icmp_ne (tgt := 72) hx hb dX4_held_59 (by decide) (fun c_5 => ?_) (fun c_5 => ?_)
          · refine lv_iload hx hb dX4_held_72 (lv_at hl 0 rfl) ?_
            rw [g_X4_held, if_neg c_1, if_neg c_2, if_pos c_3, if_neg c_4, if_neg c_5] at hG
            rw [hG]
            exact W.iret (v := (g_X4_bookingAt sf (-6) x1 x2)) hx hb hr (fun t ht hW => ⟨⟨_, (), rfl, rfl, by rw [ht]; exact hP, va_K.moved hW.alike hK, hD⟩, hS.F ht⟩) hS.2.2 dX4_held_74
          · refine lv_aload_n hx hb dX4_held_62 rfl (lv_at hl 1 rfl) ?_
            refine lv_iload hx hb dX4_held_63 (lv_at hl 0 rfl) ?_
            refine lv_iconst (v := 4) hx hb dX4_held_65 (by decide) ?_
            refine kI (wr := ([] : va_W)) (W1 := MDw cA cZ aM aS aI aK sf mf kf m0 m1 m2 m3 m4) (wsN := MDw cA cZ aM aS aI aK sf mf kf m0 m1 m2 m3 m4) (rV (As := [.int (g_X4_bookingAt sf (-6) x1 x2), .int 4]) (rest := []) (W0 := MDw cA cZ aM aS aI aK sf mf kf m0 m1 m2 m3 m4) ⟨hx, hb, hml, hown, hts⟩ (c_X4_of l D cA cZ aM aS aI aK H.size sf mf kf m0 m1 m2 m3 m4 (g_X4_bookingAt sf (-6) x1 x2) 4 (show bok (g_X4_bookingAt sf (-6) x1 x2) from by exact (bookingAt_ok hm).resolve_left (nlt_of_le c_3)) (show wok 4 from by exact ⟨by decide, by decide⟩)) (cwV 2 hts gX4_held_X4_of rfl rfl rfl (by decide +kernel) ⟨Nat.le_of_ble_eq_true rfl, Nat.le_of_ble_eq_true rfl⟩) hP hD hK hN ([0, 1, 2, 3] : List Nat) rfl rfl 4 0 rfl rfl rfl hl.1 rfl (Nat.le_of_ble_eq_true rfl) dX4_held_66 ⟨Nat.zero_le _, Nat.zero_le _⟩) hP hD hS hA [0, 1, 2, 3] [] [0, 1, 2, 3] rfl rfl rfl (by decide) rfl rfl (fun H locs hP hD hS => ?_)
            refine lv_goto (tgt := 74) hx hb dX4_held_69 (by decide) ?_
            rw [g_X4_held, if_neg c_1, if_neg c_2, if_pos c_3, if_neg c_4, if_pos c_5] at hG
            rw [hG]
            exact W.iret (v := (g_X4_of sf (g_X4_bookingAt sf (-6) x1 x2) 4)) hx hb hr (fun t ht hW => ⟨⟨_, (), rfl, rfl, by rw [ht]; exact hP, va_K.moved hW.alike hK, hD⟩, hS.F ht⟩) hS.2.2 dX4_held_74
        · refine lv_aload_n hx hb dX4_held_47 rfl (lv_at hl 1 rfl) ?_
          refine lv_iload hx hb dX4_held_48 (lv_at hl 0 rfl) ?_
          refine lv_iconst (v := 5) hx hb dX4_held_50 (by decide) ?_
          refine kI (wr := ([] : va_W)) (W1 := MDw cA cZ aM aS aI aK sf mf kf m0 m1 m2 m3 m4) (wsN := MDw cA cZ aM aS aI aK sf mf kf m0 m1 m2 m3 m4) (rV (As := [.int (g_X4_bookingAt sf (-6) x1 x2), .int 5]) (rest := []) (W0 := MDw cA cZ aM aS aI aK sf mf kf m0 m1 m2 m3 m4) ⟨hx, hb, hml, hown, hts⟩ (c_X4_of l D cA cZ aM aS aI aK H.size sf mf kf m0 m1 m2 m3 m4 (g_X4_bookingAt sf (-6) x1 x2) 5 (show bok (g_X4_bookingAt sf (-6) x1 x2) from by exact (bookingAt_ok hm).resolve_left (nlt_of_le c_3)) (show wok 5 from by exact ⟨by decide, by decide⟩)) (cwV 2 hts gX4_held_X4_of rfl rfl rfl (by decide +kernel) ⟨Nat.le_of_ble_eq_true rfl, Nat.le_of_ble_eq_true rfl⟩) hP hD hK hN ([0, 1, 2, 3] : List Nat) rfl rfl 4 0 rfl rfl rfl hl.1 rfl (Nat.le_of_ble_eq_true rfl) dX4_held_51 ⟨Nat.zero_le _, Nat.zero_le _⟩) hP hD hS hA [0, 1, 2, 3] [] [0, 1, 2, 3] rfl rfl rfl (by decide) rfl rfl (fun H locs hP hD hS => ?_)
          refine lv_goto (tgt := 74) hx hb dX4_held_54 (by decide) ?_
          rw [g_X4_held, if_neg c_1, if_neg c_2, if_pos c_3, if_pos c_4] at hG
          rw [hG]
          exact W.iret (v := (g_X4_of sf (g_X4_bookingAt sf (-6) x1 x2) 5)) hx hb hr (fun t ht hW => ⟨⟨_, (), rfl, rfl, by rw [ht]; exact hP, va_K.moved hW.alike hK, hD⟩, hS.F ht⟩) hS.2.2 dX4_held_74
      · refine lv_bipush (v := (-6)) hx hb dX4_held_38 (by decide) ?_
        refine lv_goto (tgt := 74) hx hb dX4_held_40 (by decide) ?_
        rw [g_X4_held, if_neg c_1, if_neg c_2, if_neg c_3] at hG
        rw [hG]
        exact W.iret (v := (-6)) hx hb hr (fun t ht hW => ⟨⟨_, (), rfl, rfl, by rw [ht]; exact hP, va_K.moved hW.alike hK, hD⟩, hS.F ht⟩) hS.2.2 dX4_held_74
    · refine lv_bipush (v := (-2)) hx hb dX4_held_20 (by decide) ?_
      rw [g_X4_held, if_neg c_1, if_pos c_2] at hG
      rw [hG]
      exact W.iret (v := (-2)) hx hb hr (fun t ht hW => ⟨⟨_, (), rfl, rfl, by rw [ht]; exact hP, va_K.moved hW.alike hK, hD⟩, hS.F ht⟩) hS.2.2 dX4_held_22
  · refine lv_iconst (v := (-1)) hx hb dX4_held_9 (by decide) ?_
    rw [g_X4_held, if_pos c_1] at hG
    rw [hG]
    exact W.iret (v := (-1)) hx hb hr (fun t ht hW => ⟨⟨_, (), rfl, rfl, by rw [ht]; exact hP, va_K.moved hW.alike hK, hD⟩, hS.F ht⟩) hS.2.2 dX4_held_10

def g_X4_busy_L34 (sf : (Nat → Int32)) (x1 : Int32) (x2 : Int32) (x3 : Int32) (x4 : Int32) : Nat → Int32 → Int32 → (Int32)
  | 0, _, _ => 0
  | n + 1, v5, v6 => (if (x3 + x4) ≤ v6 then v5 else (if (g_X4_isClear sf x1 x2 v6 1) = 0 then (g_X4_busy_L34 sf x1 x2 x3 x4 n (v5 + 1) (v6 + 1)) else (g_X4_busy_L34 sf x1 x2 x3 x4 n (v5 + 0) (v6 + 1))))
def g_X4_busy (sf : (Nat → Int32)) (x1 : Int32) (x2 : Int32) (x3 : Int32) (x4 : Int32) : Int32 := (if (g_X4_isOut x1) = 0 then (-1) else (if (g_X4_isColour x2) = 0 then (-1) else (if (g_X4_isSpan x3 x4) = 0 then (-2) else (g_X4_busy_L34 sf x1 x2 x3 x4 ((((x3 + x4)).toInt - (x3).toInt).toNat + 1) 0 x3))))
set_option maxHeartbeats 4000000 in
set_option maxRecDepth 100000 in
theorem c_X4_busy (l : Launch) (D : va_G) (cA cZ : ClassId) (aM : Nat) (aS : Nat) (aI : Nat) (aK : Nat) (szz : Nat) (sf : (Nat → Int32)) (mf : (Nat → Int32)) (kf : (Nat → Int32)) (m0 : Int32) (m1 : Int32) (m2 : Int32) (m3 : Int32) (m4 : Int32) (x1 : Int32) (x2 : Int32) (x3 : Int32) (x4 : Int32) (hm : (sf 10) ≤ 48) : MetI l yX4_busy wsX4_busy 4 91 D (tyA cA cZ) [.ref aM, .int x1, .int x2, .int x3, .int x4] (MDw cA cZ aM aS aI aK sf mf kf m0 m1 m2 m3 m4) szz (g_X4_busy sf x1 x2 x3 x4) (MDw cA cZ aM aS aI aK sf mf kf m0 m1 m2 m3 m4) := by
  refine Met.ofW (cc := cX4_busy) (maxL := 7) (ret := (some .int)) (by decide) rfl ?_
  intro p e s m args below meth c s₁ B hml hv
  obtain ⟨rfl, hsz, hP, hK, hD0, hN⟩ := hv
  have hx := B.exec
  have hb := B.bytes
  have hr := B.returns
  have hts := atoms_spec (ws := wsX4_busy) B.pre
  have hown : s.vm.findClass RX4 = some m.cls := findClass_of_methodNamed B.named
  have hlocks := B.notSynchronized
  have iX4 : ∀ w ∈ wsX40, w ∈ wsX4_busy := fun _ h => List.mem_cons_of_mem _ (List.mem_append_right _ h)
  subst hsz
  have hD := hD0.self (sz := s.heap.size)
  generalize hAe : va_A (MDw cA cZ aM aS aI aK sf mf kf m0 m1 m2 m3 m4) s.heap.size = A at hD ⊢
  have hA : ∀ q : Nat, s.heap.size ≤ q → A q := fun q h => by rw [← hAe]; exact Or.inr h
  have hS : va_S A s.heap s.heap [] := va_S.rf
  have hP : va_P D vwCl (MDw cA cZ aM aS aI aK sf mf kf m0 m1 m2 m3 m4) s.heap := hP
  obtain ⟨G, hG⟩ : ∃ G, G = (g_X4_busy sf x1 x2 x3 x4) := ⟨_, rfl⟩
  rw [← hG]
  have hl := lv_entry ([.ref aM, .int x1, .int x2, .int x3, .int x4]) (n := 7) (Nat.le_of_ble_eq_true rfl)
  rw [lg_entry_eq]
  generalize (lg_sl ([.ref aM, .int x1, .int x2, .int x3, .int x4]) ++ List.replicate (7 - (lg_sl ([.ref aM, .int x1, .int x2, .int x3, .int x4])).length) Slot.unset).toArray = ls at hl ⊢
  have hl : lv_has ls 7 [(0, .ref aM), (1, .int x1), (2, .int x2), (3, .int x3), (4, .int x4)] := hl
  refine lv_iload_n hx hb dX4_busy_0 rfl (lv_at hl 1 rfl) ?_
  refine kI (wr := MDw cA cZ aM aS aI aK sf mf kf m0 m1 m2 m3 m4) (W1 := ([] : va_W)) (wsN := MDw cA cZ aM aS aI aK sf mf kf m0 m1 m2 m3 m4) (rS (As := [.int x1]) (rest := []) (W0 := ([] : va_W)) ⟨hx, hb, hml, hown, hts⟩ (c_X4_isOut l D cA cZ s.heap.size x1) (cwS 1 hts gX4_busy_X4_isOut rfl rfl rfl (by decide +kernel) ⟨Nat.le_of_ble_eq_true rfl, Nat.le_of_ble_eq_true rfl⟩) hP hD hK hN ([] : List Nat) rfl rfl rfl hl.1 rfl (Nat.le_of_ble_eq_true rfl) dX4_busy_1 ⟨Nat.zero_le _, Nat.zero_le _⟩) hP hD hS hA [] [0, 1, 2, 3] [0, 1, 2, 3] rfl rfl rfl (by decide) rfl rfl (fun H locs hP hD hS => ?_)
  refine lv_if_eq (tgt := 14) hx hb dX4_busy_4 (by decide) (fun c_1 => ?_) (fun c_1 => ?_)
  · refine lv_iconst (v := (-1)) hx hb dX4_busy_14 (by decide) ?_
    rw [g_X4_busy, if_pos c_1] at hG
    rw [hG]
    exact W.iret (v := (-1)) hx hb hr (fun t ht hW => ⟨⟨_, (), rfl, rfl, by rw [ht]; exact hP, va_K.moved hW.alike hK, hD⟩, hS.F ht⟩) hS.2.2 dX4_busy_15
  · refine lv_iload_n hx hb dX4_busy_7 rfl (lv_at hl 2 rfl) ?_
    refine kI (wr := MDw cA cZ aM aS aI aK sf mf kf m0 m1 m2 m3 m4) (W1 := ([] : va_W)) (wsN := MDw cA cZ aM aS aI aK sf mf kf m0 m1 m2 m3 m4) (rS (As := [.int x2]) (rest := []) (W0 := ([] : va_W)) ⟨hx, hb, hml, hown, hts⟩ (c_X4_isColour l D cA cZ H.size x2) (cwS 1 hts gX4_busy_X4_isColour rfl rfl rfl (by decide +kernel) ⟨Nat.le_of_ble_eq_true rfl, Nat.le_of_ble_eq_true rfl⟩) hP hD hK hN ([] : List Nat) rfl rfl rfl hl.1 rfl (Nat.le_of_ble_eq_true rfl) dX4_busy_8 ⟨Nat.zero_le _, Nat.zero_le _⟩) hP hD hS hA [] [0, 1, 2, 3] [0, 1, 2, 3] rfl rfl rfl (by decide) rfl rfl (fun H locs hP hD hS => ?_)
    refine lv_if_ne (tgt := 16) hx hb dX4_busy_11 (by decide) (fun c_2 => ?_) (fun c_2 => ?_)
    · refine lv_iload_n hx hb dX4_busy_16 rfl (lv_at hl 3 rfl) ?_
      refine lv_iload hx hb dX4_busy_17 (lv_at hl 4 rfl) ?_
      refine kI (wr := MDw cA cZ aM aS aI aK sf mf kf m0 m1 m2 m3 m4) (W1 := ([] : va_W)) (wsN := MDw cA cZ aM aS aI aK sf mf kf m0 m1 m2 m3 m4) (rS (As := [.int x3, .int x4]) (rest := []) (W0 := ([] : va_W)) ⟨hx, hb, hml, hown, hts⟩ (c_X4_isSpan l D cA cZ H.size x3 x4) (cwS 2 hts gX4_busy_X4_isSpan rfl rfl rfl (by decide +kernel) ⟨Nat.le_of_ble_eq_true rfl, Nat.le_of_ble_eq_true rfl⟩) hP hD hK hN ([] : List Nat) rfl rfl rfl hl.1 rfl (Nat.le_of_ble_eq_true rfl) dX4_busy_19 ⟨Nat.zero_le _, Nat.zero_le _⟩) hP hD hS hA [] [0, 1, 2, 3] [0, 1, 2, 3] rfl rfl rfl (by decide) rfl rfl (fun H locs hP hD hS => ?_)
      refine lv_if_ne (tgt := 28) hx hb dX4_busy_22 (by decide) (fun c_3 => ?_) (fun c_3 => ?_)
      · refine lv_iconst (v := 0) hx hb dX4_busy_28 (by decide) ?_
        refine lv_istore (lv' := [(5, .int 0), (0, .ref aM), (1, .int x1), (2, .int x2), (3, .int x3), (4, .int x4)]) hx hb dX4_busy_29 hl (by decide) rfl (fun ls hl => ?_)
        refine lv_iload_n hx hb dX4_busy_31 rfl (lv_at hl 4 rfl) ?_
        refine lv_istore (lv' := [(6, .int x3), (5, .int 0), (0, .ref aM), (1, .int x1), (2, .int x2), (3, .int x3), (4, .int x4)]) hx hb dX4_busy_32 hl (by decide) rfl (fun ls hl => ?_)
        rw [g_X4_busy, if_neg c_1, if_neg c_2, if_neg c_3] at hG
        refine (?_ : ∀ (n : Nat) (v5 : Int32) (v6 : Int32) (H : Heap) (locs : List Loc) (ls : Array Slot), (((x3 + x4)).toInt - (v6).toInt).toNat < n → G = g_X4_busy_L34 sf x1 x2 x3 x4 n v5 v6 → va_P D vwCl (MDw cA cZ aM aS aI aK sf mf kf m0 m1 m2 m3 m4) H → va_D A (MDw cA cZ aM aS aI aK sf mf kf m0 m1 m2 m3 m4) → va_S A s.heap H locs → lv_has ls 7 [(0, .ref aM), (1, .int x1), (2, .int x2), (3, .int x3), (4, .int x4), (5, .int v5), (6, .int v6)] → W p l e _ s m _ below meth c H locs _ _ _ (F0 m 34 ls [])) ((((x3 + x4)).toInt - (x3).toInt).toNat + 1) 0 x3 _ _ _ (Nat.lt_succ_self _) hG hP hD hS (lv_sub hl [2, 3, 4, 5, 6, 1, 0] rfl)
        clear hG hP hD hS hl
        intro n
        induction n with
        | zero => intros; omega
        | succ n34 ih34 =>
          intro v5 v6 H locs ls hm34 hG hP hD hS hl
          refine lv_iload hx hb dX4_busy_34 (lv_at hl 6 rfl) ?_
          refine lv_iload_n hx hb dX4_busy_36 rfl (lv_at hl 3 rfl) ?_
          refine lv_iload hx hb dX4_busy_37 (lv_at hl 4 rfl) ?_
          refine lv_iadd hx hb dX4_busy_39 ?_
          refine lv_icmp_ge (tgt := 71) hx hb dX4_busy_40 (by decide) (fun c_4 => ?_) (fun c_4 => ?_)
          · refine lv_iload hx hb dX4_busy_71 (lv_at hl 5 rfl) ?_
            rw [g_X4_busy_L34, if_pos c_4] at hG
            rw [hG]
            exact W.iret (v := v5) hx hb hr (fun t ht hW => ⟨⟨_, (), rfl, rfl, by rw [ht]; exact hP, va_K.moved hW.alike hK, hD⟩, hS.F ht⟩) hS.2.2 dX4_busy_73
          · refine lv_iload hx hb dX4_busy_43 (lv_at hl 5 rfl) ?_
            refine lv_aload_n hx hb dX4_busy_45 rfl (lv_at hl 0 rfl) ?_
            refine lv_iload_n hx hb dX4_busy_46 rfl (lv_at hl 1 rfl) ?_
            refine lv_iload_n hx hb dX4_busy_47 rfl (lv_at hl 2 rfl) ?_
            refine lv_iload hx hb dX4_busy_48 (lv_at hl 6 rfl) ?_
            refine lv_iconst (v := 1) hx hb dX4_busy_50 (by decide) ?_
            refine kI (wr := ([] : va_W)) (W1 := MDw cA cZ aM aS aI aK sf mf kf m0 m1 m2 m3 m4) (wsN := MDw cA cZ aM aS aI aK sf mf kf m0 m1 m2 m3 m4) (rV (As := [.int x1, .int x2, .int v6, .int 1]) (rest := [.int v5]) (W0 := MDw cA cZ aM aS aI aK sf mf kf m0 m1 m2 m3 m4) ⟨hx, hb, hml, hown, hts⟩ (c_X4_isClear l D cA cZ aM aS aI aK H.size sf mf kf m0 m1 m2 m3 m4 x1 x2 v6 1 (show (sf 10) ≤ 48 from by exact hm)) (cwV 4 hts gX4_busy_X4_isClear rfl rfl rfl (by decide +kernel) ⟨Nat.le_of_ble_eq_true rfl, Nat.le_of_ble_eq_true rfl⟩) hP hD hK hN ([0, 1, 2, 3] : List Nat) rfl rfl 4 0 rfl rfl rfl hl.1 rfl (Nat.le_of_ble_eq_true rfl) dX4_busy_51 ⟨Nat.zero_le _, Nat.zero_le _⟩) hP hD hS hA [0, 1, 2, 3] [] [0, 1, 2, 3] rfl rfl rfl (by decide) rfl rfl (fun H locs hP hD hS => ?_)
            refine lv_if_eq (tgt := 61) hx hb dX4_busy_54 (by decide) (fun c_5 => ?_) (fun c_5 => ?_)
            · refine lv_iconst (v := 1) hx hb dX4_busy_61 (by decide) ?_
              refine lv_iadd hx hb dX4_busy_62 ?_
              refine lv_istore (lv' := [(5, .int (v5 + 1)), (0, .ref aM), (1, .int x1), (2, .int x2), (3, .int x3), (4, .int x4), (6, .int v6)]) hx hb dX4_busy_63 hl (by decide) rfl (fun ls hl => ?_)
              refine lv_iinc (v := (v6 + 1)) (lv' := [(6, .int (v6 + 1)), (5, .int (v5 + 1)), (0, .ref aM), (1, .int x1), (2, .int x2), (3, .int x3), (4, .int x4)]) hx hb dX4_busy_65 hl (k := 6) rfl rfl (by decide) rfl (fun ls hl => ?_)
              refine lv_goto (tgt := 34) hx hb dX4_busy_68 (by decide) ?_
              rw [g_X4_busy_L34, if_neg c_4, if_pos c_5] at hG
              exact ih34 (v5 + 1) (v6 + 1) _ _ _ (by exact ms_up c_4 hm34) hG hP hD hS (lv_sub hl [2, 3, 4, 5, 6, 1, 0] rfl)
            · refine lv_iconst (v := 0) hx hb dX4_busy_57 (by decide) ?_
              refine lv_goto (tgt := 62) hx hb dX4_busy_58 (by decide) ?_
              refine lv_iadd hx hb dX4_busy_62 ?_
              refine lv_istore (lv' := [(5, .int (v5 + 0)), (0, .ref aM), (1, .int x1), (2, .int x2), (3, .int x3), (4, .int x4), (6, .int v6)]) hx hb dX4_busy_63 hl (by decide) rfl (fun ls hl => ?_)
              refine lv_iinc (v := (v6 + 1)) (lv' := [(6, .int (v6 + 1)), (5, .int (v5 + 0)), (0, .ref aM), (1, .int x1), (2, .int x2), (3, .int x3), (4, .int x4)]) hx hb dX4_busy_65 hl (k := 6) rfl rfl (by decide) rfl (fun ls hl => ?_)
              refine lv_goto (tgt := 34) hx hb dX4_busy_68 (by decide) ?_
              rw [g_X4_busy_L34, if_neg c_4, if_neg c_5] at hG
              exact ih34 (v5 + 0) (v6 + 1) _ _ _ (by exact ms_up c_4 hm34) hG hP hD hS (lv_sub hl [2, 3, 4, 5, 6, 1, 0] rfl)
      · refine lv_bipush (v := (-2)) hx hb dX4_busy_25 (by decide) ?_
        rw [g_X4_busy, if_neg c_1, if_neg c_2, if_pos c_3] at hG
        rw [hG]
        exact W.iret (v := (-2)) hx hb hr (fun t ht hW => ⟨⟨_, (), rfl, rfl, by rw [ht]; exact hP, va_K.moved hW.alike hK, hD⟩, hS.F ht⟩) hS.2.2 dX4_busy_27
    · refine lv_iconst (v := (-1)) hx hb dX4_busy_14 (by decide) ?_
      rw [g_X4_busy, if_neg c_1, if_pos c_2] at hG
      rw [hG]
      exact W.iret (v := (-1)) hx hb hr (fun t ht hW => ⟨⟨_, (), rfl, rfl, by rw [ht]; exact hP, va_K.moved hW.alike hK, hD⟩, hS.F ht⟩) hS.2.2 dX4_busy_15

def g_X4_free_L26 (sf : (Nat → Int32)) (x1 : Int32) (x2 : Int32) (x3 : Int32) : Nat → Int32 → Int32 → (Int32)
  | 0, _, _ => 0
  | n + 1, v4, v5 => (if 6 ≤ v5 then v4 else (if (g_X4_isClear sf x1 v5 x2 x3) = 0 then (g_X4_free_L26 sf x1 x2 x3 n (v4 ||| 0) (v5 + 1)) else (g_X4_free_L26 sf x1 x2 x3 n (v4 ||| (1 <<< (v5 &&& 31))) (v5 + 1))))
def g_X4_free (sf : (Nat → Int32)) (x1 : Int32) (x2 : Int32) (x3 : Int32) : Int32 := (if (g_X4_isOut x1) = 0 then (-1) else (if (g_X4_isSpan x2 x3) = 0 then (-2) else (g_X4_free_L26 sf x1 x2 x3 (((6 : Int32).toInt - ((0 : Int32)).toInt).toNat + 1) 0 0)))
set_option maxHeartbeats 4000000 in
set_option maxRecDepth 100000 in
theorem c_X4_free (l : Launch) (D : va_G) (cA cZ : ClassId) (aM : Nat) (aS : Nat) (aI : Nat) (aK : Nat) (szz : Nat) (sf : (Nat → Int32)) (mf : (Nat → Int32)) (kf : (Nat → Int32)) (m0 : Int32) (m1 : Int32) (m2 : Int32) (m3 : Int32) (m4 : Int32) (x1 : Int32) (x2 : Int32) (x3 : Int32) (hm : (sf 10) ≤ 48) : MetI l yX4_free wsX4_free 4 91 D (tyA cA cZ) [.ref aM, .int x1, .int x2, .int x3] (MDw cA cZ aM aS aI aK sf mf kf m0 m1 m2 m3 m4) szz (g_X4_free sf x1 x2 x3) (MDw cA cZ aM aS aI aK sf mf kf m0 m1 m2 m3 m4) := by
  refine Met.ofW (cc := cX4_free) (maxL := 6) (ret := (some .int)) (by decide) rfl ?_
  intro p e s m args below meth c s₁ B hml hv
  obtain ⟨rfl, hsz, hP, hK, hD0, hN⟩ := hv
  have hx := B.exec
  have hb := B.bytes
  have hr := B.returns
  have hts := atoms_spec (ws := wsX4_free) B.pre
  have hown : s.vm.findClass RX4 = some m.cls := findClass_of_methodNamed B.named
  have hlocks := B.notSynchronized
  have iX4 : ∀ w ∈ wsX40, w ∈ wsX4_free := fun _ h => List.mem_cons_of_mem _ (List.mem_append_right _ h)
  subst hsz
  have hD := hD0.self (sz := s.heap.size)
  generalize hAe : va_A (MDw cA cZ aM aS aI aK sf mf kf m0 m1 m2 m3 m4) s.heap.size = A at hD ⊢
  have hA : ∀ q : Nat, s.heap.size ≤ q → A q := fun q h => by rw [← hAe]; exact Or.inr h
  have hS : va_S A s.heap s.heap [] := va_S.rf
  have hP : va_P D vwCl (MDw cA cZ aM aS aI aK sf mf kf m0 m1 m2 m3 m4) s.heap := hP
  obtain ⟨G, hG⟩ : ∃ G, G = (g_X4_free sf x1 x2 x3) := ⟨_, rfl⟩
  rw [← hG]
  have hl := lv_entry ([.ref aM, .int x1, .int x2, .int x3]) (n := 6) (Nat.le_of_ble_eq_true rfl)
  rw [lg_entry_eq]
  generalize (lg_sl ([.ref aM, .int x1, .int x2, .int x3]) ++ List.replicate (6 - (lg_sl ([.ref aM, .int x1, .int x2, .int x3])).length) Slot.unset).toArray = ls at hl ⊢
  have hl : lv_has ls 6 [(0, .ref aM), (1, .int x1), (2, .int x2), (3, .int x3)] := hl
  refine lv_iload_n hx hb dX4_free_0 rfl (lv_at hl 1 rfl) ?_
  refine kI (wr := MDw cA cZ aM aS aI aK sf mf kf m0 m1 m2 m3 m4) (W1 := ([] : va_W)) (wsN := MDw cA cZ aM aS aI aK sf mf kf m0 m1 m2 m3 m4) (rS (As := [.int x1]) (rest := []) (W0 := ([] : va_W)) ⟨hx, hb, hml, hown, hts⟩ (c_X4_isOut l D cA cZ s.heap.size x1) (cwS 1 hts gX4_free_X4_isOut rfl rfl rfl (by decide +kernel) ⟨Nat.le_of_ble_eq_true rfl, Nat.le_of_ble_eq_true rfl⟩) hP hD hK hN ([] : List Nat) rfl rfl rfl hl.1 rfl (Nat.le_of_ble_eq_true rfl) dX4_free_1 ⟨Nat.zero_le _, Nat.zero_le _⟩) hP hD hS hA [] [0, 1, 2, 3] [0, 1, 2, 3] rfl rfl rfl (by decide) rfl rfl (fun H locs hP hD hS => ?_)
  refine lv_if_ne (tgt := 9) hx hb dX4_free_4 (by decide) (fun c_1 => ?_) (fun c_1 => ?_)
  · refine lv_iload_n hx hb dX4_free_9 rfl (lv_at hl 2 rfl) ?_
    refine lv_iload_n hx hb dX4_free_10 rfl (lv_at hl 3 rfl) ?_
    refine kI (wr := MDw cA cZ aM aS aI aK sf mf kf m0 m1 m2 m3 m4) (W1 := ([] : va_W)) (wsN := MDw cA cZ aM aS aI aK sf mf kf m0 m1 m2 m3 m4) (rS (As := [.int x2, .int x3]) (rest := []) (W0 := ([] : va_W)) ⟨hx, hb, hml, hown, hts⟩ (c_X4_isSpan l D cA cZ H.size x2 x3) (cwS 2 hts gX4_free_X4_isSpan rfl rfl rfl (by decide +kernel) ⟨Nat.le_of_ble_eq_true rfl, Nat.le_of_ble_eq_true rfl⟩) hP hD hK hN ([] : List Nat) rfl rfl rfl hl.1 rfl (Nat.le_of_ble_eq_true rfl) dX4_free_11 ⟨Nat.zero_le _, Nat.zero_le _⟩) hP hD hS hA [] [0, 1, 2, 3] [0, 1, 2, 3] rfl rfl rfl (by decide) rfl rfl (fun H locs hP hD hS => ?_)
    refine lv_if_ne (tgt := 20) hx hb dX4_free_14 (by decide) (fun c_2 => ?_) (fun c_2 => ?_)
    · refine lv_iconst (v := 0) hx hb dX4_free_20 (by decide) ?_
      refine lv_istore (lv' := [(4, .int 0), (0, .ref aM), (1, .int x1), (2, .int x2), (3, .int x3)]) hx hb dX4_free_21 hl (by decide) rfl (fun ls hl => ?_)
      refine lv_iconst (v := 0) hx hb dX4_free_23 (by decide) ?_
      refine lv_istore (lv' := [(5, .int 0), (4, .int 0), (0, .ref aM), (1, .int x1), (2, .int x2), (3, .int x3)]) hx hb dX4_free_24 hl (by decide) rfl (fun ls hl => ?_)
      rw [g_X4_free, if_neg c_1, if_neg c_2] at hG
      refine (?_ : ∀ (n : Nat) (v4 : Int32) (v5 : Int32) (H : Heap) (locs : List Loc) (ls : Array Slot), ((6 : Int32).toInt - (v5).toInt).toNat < n → G = g_X4_free_L26 sf x1 x2 x3 n v4 v5 → va_P D vwCl (MDw cA cZ aM aS aI aK sf mf kf m0 m1 m2 m3 m4) H → va_D A (MDw cA cZ aM aS aI aK sf mf kf m0 m1 m2 m3 m4) → va_S A s.heap H locs → lv_has ls 6 [(0, .ref aM), (1, .int x1), (2, .int x2), (3, .int x3), (4, .int v4), (5, .int v5)] → W p l e _ s m _ below meth c H locs _ _ _ (F0 m 26 ls [])) (((6 : Int32).toInt - ((0 : Int32)).toInt).toNat + 1) 0 0 _ _ _ (Nat.lt_succ_self _) hG hP hD hS (lv_sub hl [2, 3, 4, 5, 1, 0] rfl)
      clear hG hP hD hS hl
      intro n
      induction n with
      | zero => intros; omega
      | succ n26 ih26 =>
        intro v4 v5 H locs ls hm26 hG hP hD hS hl
        refine lv_iload hx hb dX4_free_26 (lv_at hl 5 rfl) ?_
        refine lv_bipush (v := 6) hx hb dX4_free_28 (by decide) ?_
        refine lv_icmp_ge (tgt := 64) hx hb dX4_free_30 (by decide) (fun c_3 => ?_) (fun c_3 => ?_)
        · refine lv_iload hx hb dX4_free_64 (lv_at hl 4 rfl) ?_
          rw [g_X4_free_L26, if_pos c_3] at hG
          rw [hG]
          exact W.iret (v := v4) hx hb hr (fun t ht hW => ⟨⟨_, (), rfl, rfl, by rw [ht]; exact hP, va_K.moved hW.alike hK, hD⟩, hS.F ht⟩) hS.2.2 dX4_free_66
        · refine lv_iload hx hb dX4_free_33 (lv_at hl 4 rfl) ?_
          refine lv_aload_n hx hb dX4_free_35 rfl (lv_at hl 0 rfl) ?_
          refine lv_iload_n hx hb dX4_free_36 rfl (lv_at hl 1 rfl) ?_
          refine lv_iload hx hb dX4_free_37 (lv_at hl 5 rfl) ?_
          refine lv_iload_n hx hb dX4_free_39 rfl (lv_at hl 2 rfl) ?_
          refine lv_iload_n hx hb dX4_free_40 rfl (lv_at hl 3 rfl) ?_
          refine kI (wr := ([] : va_W)) (W1 := MDw cA cZ aM aS aI aK sf mf kf m0 m1 m2 m3 m4) (wsN := MDw cA cZ aM aS aI aK sf mf kf m0 m1 m2 m3 m4) (rV (As := [.int x1, .int v5, .int x2, .int x3]) (rest := [.int v4]) (W0 := MDw cA cZ aM aS aI aK sf mf kf m0 m1 m2 m3 m4) ⟨hx, hb, hml, hown, hts⟩ (c_X4_isClear l D cA cZ aM aS aI aK H.size sf mf kf m0 m1 m2 m3 m4 x1 v5 x2 x3 (show (sf 10) ≤ 48 from by exact hm)) (cwV 4 hts gX4_free_X4_isClear rfl rfl rfl (by decide +kernel) ⟨Nat.le_of_ble_eq_true rfl, Nat.le_of_ble_eq_true rfl⟩) hP hD hK hN ([0, 1, 2, 3] : List Nat) rfl rfl 4 0 rfl rfl rfl hl.1 rfl (Nat.le_of_ble_eq_true rfl) dX4_free_41 ⟨Nat.zero_le _, Nat.zero_le _⟩) hP hD hS hA [0, 1, 2, 3] [] [0, 1, 2, 3] rfl rfl rfl (by decide) rfl rfl (fun H locs hP hD hS => ?_)
          refine lv_if_eq (tgt := 54) hx hb dX4_free_44 (by decide) (fun c_4 => ?_) (fun c_4 => ?_)
          · refine lv_iconst (v := 0) hx hb dX4_free_54 (by decide) ?_
            refine lv_ior hx hb dX4_free_55 ?_
            refine lv_istore (lv' := [(4, .int (v4 ||| 0)), (0, .ref aM), (1, .int x1), (2, .int x2), (3, .int x3), (5, .int v5)]) hx hb dX4_free_56 hl (by decide) rfl (fun ls hl => ?_)
            refine lv_iinc (v := (v5 + 1)) (lv' := [(5, .int (v5 + 1)), (4, .int (v4 ||| 0)), (0, .ref aM), (1, .int x1), (2, .int x2), (3, .int x3)]) hx hb dX4_free_58 hl (k := 5) rfl rfl (by decide) rfl (fun ls hl => ?_)
            refine lv_goto (tgt := 26) hx hb dX4_free_61 (by decide) ?_
            rw [g_X4_free_L26, if_neg c_3, if_pos c_4] at hG
            exact ih26 (v4 ||| 0) (v5 + 1) _ _ _ (by exact ms_up c_3 hm26) hG hP hD hS (lv_sub hl [2, 3, 4, 5, 1, 0] rfl)
          · refine lv_iconst (v := 1) hx hb dX4_free_47 (by decide) ?_
            refine lv_iload hx hb dX4_free_48 (lv_at hl 5 rfl) ?_
            refine lv_ishl hx hb dX4_free_50 ?_
            refine lv_goto (tgt := 55) hx hb dX4_free_51 (by decide) ?_
            refine lv_ior hx hb dX4_free_55 ?_
            refine lv_istore (lv' := [(4, .int (v4 ||| (1 <<< (v5 &&& 31)))), (0, .ref aM), (1, .int x1), (2, .int x2), (3, .int x3), (5, .int v5)]) hx hb dX4_free_56 hl (by decide) rfl (fun ls hl => ?_)
            refine lv_iinc (v := (v5 + 1)) (lv' := [(5, .int (v5 + 1)), (4, .int (v4 ||| (1 <<< (v5 &&& 31)))), (0, .ref aM), (1, .int x1), (2, .int x2), (3, .int x3)]) hx hb dX4_free_58 hl (k := 5) rfl rfl (by decide) rfl (fun ls hl => ?_)
            refine lv_goto (tgt := 26) hx hb dX4_free_61 (by decide) ?_
            rw [g_X4_free_L26, if_neg c_3, if_neg c_4] at hG
            exact ih26 (v4 ||| (1 <<< (v5 &&& 31))) (v5 + 1) _ _ _ (by exact ms_up c_3 hm26) hG hP hD hS (lv_sub hl [2, 3, 4, 5, 1, 0] rfl)
    · refine lv_bipush (v := (-2)) hx hb dX4_free_17 (by decide) ?_
      rw [g_X4_free, if_neg c_1, if_pos c_2] at hG
      rw [hG]
      exact W.iret (v := (-2)) hx hb hr (fun t ht hW => ⟨⟨_, (), rfl, rfl, by rw [ht]; exact hP, va_K.moved hW.alike hK, hD⟩, hS.F ht⟩) hS.2.2 dX4_free_19
  · refine lv_iconst (v := (-1)) hx hb dX4_free_7 (by decide) ?_
    rw [g_X4_free, if_pos c_1] at hG
    rw [hG]
    exact W.iret (v := (-1)) hx hb hr (fun t ht hW => ⟨⟨_, (), rfl, rfl, by rw [ht]; exact hP, va_K.moved hW.alike hK, hD⟩, hS.F ht⟩) hS.2.2 dX4_free_8

def g_X4_next_L35 (sf : (Nat → Int32)) (x1 : Int32) (x2 : Int32) (x3 : Int32) (x4 : Int32) : Nat → Int32 → Int32 → (Int32)
  | 0, _, _ => 0
  | n + 1, v5, v6 => (if (sf 10) ≤ v6 then v5 else (if 0 ≤ v6 then (if (g_X4_isOn sf v6 x1 x2) = 0 then (if x3 < x3 then (g_X4_next_L35 sf x1 x2 x3 x4 n v5 (v6 + 1)) else (if v5 < 0 then (if (g_X4_isClear sf x1 x2 x3 x4) = 0 then (g_X4_next_L35 sf x1 x2 x3 x4 n v5 (v6 + 1)) else (g_X4_next_L35 sf x1 x2 x3 x4 n x3 (v6 + 1))) else (if v5 ≤ x3 then (g_X4_next_L35 sf x1 x2 x3 x4 n v5 (v6 + 1)) else (if (g_X4_isClear sf x1 x2 x3 x4) = 0 then (g_X4_next_L35 sf x1 x2 x3 x4 n v5 (v6 + 1)) else (g_X4_next_L35 sf x1 x2 x3 x4 n x3 (v6 + 1)))))) else (if ((g_X4_of sf v6 8) + (g_X4_of sf v6 9)) < x3 then (g_X4_next_L35 sf x1 x2 x3 x4 n v5 (v6 + 1)) else (if v5 < 0 then (if (g_X4_isClear sf x1 x2 ((g_X4_of sf v6 8) + (g_X4_of sf v6 9)) x4) = 0 then (g_X4_next_L35 sf x1 x2 x3 x4 n v5 (v6 + 1)) else (g_X4_next_L35 sf x1 x2 x3 x4 n ((g_X4_of sf v6 8) + (g_X4_of sf v6 9)) (v6 + 1))) else (if v5 ≤ ((g_X4_of sf v6 8) + (g_X4_of sf v6 9)) then (g_X4_next_L35 sf x1 x2 x3 x4 n v5 (v6 + 1)) else (if (g_X4_isClear sf x1 x2 ((g_X4_of sf v6 8) + (g_X4_of sf v6 9)) x4) = 0 then (g_X4_next_L35 sf x1 x2 x3 x4 n v5 (v6 + 1)) else (g_X4_next_L35 sf x1 x2 x3 x4 n ((g_X4_of sf v6 8) + (g_X4_of sf v6 9)) (v6 + 1))))))) else (if x3 < x3 then (g_X4_next_L35 sf x1 x2 x3 x4 n v5 (v6 + 1)) else (if v5 < 0 then (if (g_X4_isClear sf x1 x2 x3 x4) = 0 then (g_X4_next_L35 sf x1 x2 x3 x4 n v5 (v6 + 1)) else (g_X4_next_L35 sf x1 x2 x3 x4 n x3 (v6 + 1))) else (if v5 ≤ x3 then (g_X4_next_L35 sf x1 x2 x3 x4 n v5 (v6 + 1)) else (if (g_X4_isClear sf x1 x2 x3 x4) = 0 then (g_X4_next_L35 sf x1 x2 x3 x4 n v5 (v6 + 1)) else (g_X4_next_L35 sf x1 x2 x3 x4 n x3 (v6 + 1))))))))
def g_X4_next (sf : (Nat → Int32)) (x1 : Int32) (x2 : Int32) (x3 : Int32) (x4 : Int32) : Int32 := (if (g_X4_isOut x1) = 0 then (-1) else (if (g_X4_isColour x2) = 0 then (-1) else (if (g_X4_isSpan x3 x4) = 0 then (-2) else (g_X4_next_L35 sf x1 x2 x3 x4 ((((sf 10)).toInt - ((-1 : Int32)).toInt).toNat + 1) (-6) (-1)))))
set_option maxHeartbeats 4000000 in
set_option maxRecDepth 100000 in
theorem c_X4_next (l : Launch) (D : va_G) (cA cZ : ClassId) (aM : Nat) (aS : Nat) (aI : Nat) (aK : Nat) (szz : Nat) (sf : (Nat → Int32)) (mf : (Nat → Int32)) (kf : (Nat → Int32)) (m0 : Int32) (m1 : Int32) (m2 : Int32) (m3 : Int32) (m4 : Int32) (x1 : Int32) (x2 : Int32) (x3 : Int32) (x4 : Int32) (hm : (sf 10) ≤ 48) : MetI l yX4_next wsX4_next 4 91 D (tyA cA cZ) [.ref aM, .int x1, .int x2, .int x3, .int x4] (MDw cA cZ aM aS aI aK sf mf kf m0 m1 m2 m3 m4) szz (g_X4_next sf x1 x2 x3 x4) (MDw cA cZ aM aS aI aK sf mf kf m0 m1 m2 m3 m4) := by
  refine Met.ofW (cc := cX4_next) (maxL := 8) (ret := (some .int)) (by decide) rfl ?_
  intro p e s m args below meth c s₁ B hml hv
  obtain ⟨rfl, hsz, hP, hK, hD0, hN⟩ := hv
  have hx := B.exec
  have hb := B.bytes
  have hr := B.returns
  have hts := atoms_spec (ws := wsX4_next) B.pre
  have hown : s.vm.findClass RX4 = some m.cls := findClass_of_methodNamed B.named
  have hlocks := B.notSynchronized
  have iX4 : ∀ w ∈ wsX40, w ∈ wsX4_next := fun _ h => List.mem_cons_of_mem _ (List.mem_append_right _ h)
  subst hsz
  have hD := hD0.self (sz := s.heap.size)
  generalize hAe : va_A (MDw cA cZ aM aS aI aK sf mf kf m0 m1 m2 m3 m4) s.heap.size = A at hD ⊢
  have hA : ∀ q : Nat, s.heap.size ≤ q → A q := fun q h => by rw [← hAe]; exact Or.inr h
  have hS : va_S A s.heap s.heap [] := va_S.rf
  have hP : va_P D vwCl (MDw cA cZ aM aS aI aK sf mf kf m0 m1 m2 m3 m4) s.heap := hP
  obtain ⟨G, hG⟩ : ∃ G, G = (g_X4_next sf x1 x2 x3 x4) := ⟨_, rfl⟩
  rw [← hG]
  have hl := lv_entry ([.ref aM, .int x1, .int x2, .int x3, .int x4]) (n := 8) (Nat.le_of_ble_eq_true rfl)
  rw [lg_entry_eq]
  generalize (lg_sl ([.ref aM, .int x1, .int x2, .int x3, .int x4]) ++ List.replicate (8 - (lg_sl ([.ref aM, .int x1, .int x2, .int x3, .int x4])).length) Slot.unset).toArray = ls at hl ⊢
  have hl : lv_has ls 8 [(0, .ref aM), (1, .int x1), (2, .int x2), (3, .int x3), (4, .int x4)] := hl
  refine lv_iload_n hx hb dX4_next_0 rfl (lv_at hl 1 rfl) ?_
  refine kI (wr := MDw cA cZ aM aS aI aK sf mf kf m0 m1 m2 m3 m4) (W1 := ([] : va_W)) (wsN := MDw cA cZ aM aS aI aK sf mf kf m0 m1 m2 m3 m4) (rS (As := [.int x1]) (rest := []) (W0 := ([] : va_W)) ⟨hx, hb, hml, hown, hts⟩ (c_X4_isOut l D cA cZ s.heap.size x1) (cwS 1 hts gX4_next_X4_isOut rfl rfl rfl (by decide +kernel) ⟨Nat.le_of_ble_eq_true rfl, Nat.le_of_ble_eq_true rfl⟩) hP hD hK hN ([] : List Nat) rfl rfl rfl hl.1 rfl (Nat.le_of_ble_eq_true rfl) dX4_next_1 ⟨Nat.zero_le _, Nat.zero_le _⟩) hP hD hS hA [] [0, 1, 2, 3] [0, 1, 2, 3] rfl rfl rfl (by decide) rfl rfl (fun H locs hP hD hS => ?_)
  refine lv_if_eq (tgt := 14) hx hb dX4_next_4 (by decide) (fun c_1 => ?_) (fun c_1 => ?_)
  · refine lv_iconst (v := (-1)) hx hb dX4_next_14 (by decide) ?_
    rw [g_X4_next, if_pos c_1] at hG
    rw [hG]
    exact W.iret (v := (-1)) hx hb hr (fun t ht hW => ⟨⟨_, (), rfl, rfl, by rw [ht]; exact hP, va_K.moved hW.alike hK, hD⟩, hS.F ht⟩) hS.2.2 dX4_next_15
  · refine lv_iload_n hx hb dX4_next_7 rfl (lv_at hl 2 rfl) ?_
    refine kI (wr := MDw cA cZ aM aS aI aK sf mf kf m0 m1 m2 m3 m4) (W1 := ([] : va_W)) (wsN := MDw cA cZ aM aS aI aK sf mf kf m0 m1 m2 m3 m4) (rS (As := [.int x2]) (rest := []) (W0 := ([] : va_W)) ⟨hx, hb, hml, hown, hts⟩ (c_X4_isColour l D cA cZ H.size x2) (cwS 1 hts gX4_next_X4_isColour rfl rfl rfl (by decide +kernel) ⟨Nat.le_of_ble_eq_true rfl, Nat.le_of_ble_eq_true rfl⟩) hP hD hK hN ([] : List Nat) rfl rfl rfl hl.1 rfl (Nat.le_of_ble_eq_true rfl) dX4_next_8 ⟨Nat.zero_le _, Nat.zero_le _⟩) hP hD hS hA [] [0, 1, 2, 3] [0, 1, 2, 3] rfl rfl rfl (by decide) rfl rfl (fun H locs hP hD hS => ?_)
    refine lv_if_ne (tgt := 16) hx hb dX4_next_11 (by decide) (fun c_2 => ?_) (fun c_2 => ?_)
    · refine lv_iload_n hx hb dX4_next_16 rfl (lv_at hl 3 rfl) ?_
      refine lv_iload hx hb dX4_next_17 (lv_at hl 4 rfl) ?_
      refine kI (wr := MDw cA cZ aM aS aI aK sf mf kf m0 m1 m2 m3 m4) (W1 := ([] : va_W)) (wsN := MDw cA cZ aM aS aI aK sf mf kf m0 m1 m2 m3 m4) (rS (As := [.int x3, .int x4]) (rest := []) (W0 := ([] : va_W)) ⟨hx, hb, hml, hown, hts⟩ (c_X4_isSpan l D cA cZ H.size x3 x4) (cwS 2 hts gX4_next_X4_isSpan rfl rfl rfl (by decide +kernel) ⟨Nat.le_of_ble_eq_true rfl, Nat.le_of_ble_eq_true rfl⟩) hP hD hK hN ([] : List Nat) rfl rfl rfl hl.1 rfl (Nat.le_of_ble_eq_true rfl) dX4_next_19 ⟨Nat.zero_le _, Nat.zero_le _⟩) hP hD hS hA [] [0, 1, 2, 3] [0, 1, 2, 3] rfl rfl rfl (by decide) rfl rfl (fun H locs hP hD hS => ?_)
      refine lv_if_ne (tgt := 28) hx hb dX4_next_22 (by decide) (fun c_3 => ?_) (fun c_3 => ?_)
      · refine lv_bipush (v := (-6)) hx hb dX4_next_28 (by decide) ?_
        refine lv_istore (lv' := [(5, .int (-6)), (0, .ref aM), (1, .int x1), (2, .int x2), (3, .int x3), (4, .int x4)]) hx hb dX4_next_30 hl (by decide) rfl (fun ls hl => ?_)
        refine lv_iconst (v := (-1)) hx hb dX4_next_32 (by decide) ?_
        refine lv_istore (lv' := [(6, .int (-1)), (5, .int (-6)), (0, .ref aM), (1, .int x1), (2, .int x2), (3, .int x3), (4, .int x4)]) hx hb dX4_next_33 hl (by decide) rfl (fun ls hl => ?_)
        rw [g_X4_next, if_neg c_1, if_neg c_2, if_neg c_3] at hG
        refine (?_ : ∀ (n : Nat) (v5 : Int32) (v6 : Int32) (H : Heap) (locs : List Loc) (ls : Array Slot), (-1 ≤ (v6).toInt) → (((sf 10)).toInt - (v6).toInt).toNat < n → G = g_X4_next_L35 sf x1 x2 x3 x4 n v5 v6 → va_P D vwCl (MDw cA cZ aM aS aI aK sf mf kf m0 m1 m2 m3 m4) H → va_D A (MDw cA cZ aM aS aI aK sf mf kf m0 m1 m2 m3 m4) → va_S A s.heap H locs → lv_has ls 8 [(0, .ref aM), (1, .int x1), (2, .int x2), (3, .int x3), (4, .int x4), (5, .int v5), (6, .int v6)] → W p l e _ s m _ below meth c H locs _ _ _ (F0 m 35 ls [])) ((((sf 10)).toInt - ((-1 : Int32)).toInt).toNat + 1) (-6) (-1) _ _ _ (by decide) (Nat.lt_succ_self _) hG hP hD hS (lv_sub hl [2, 3, 4, 5, 6, 1, 0] rfl)
        clear hG hP hD hS hl
        intro n
        induction n with
        | zero => intros; omega
        | succ n35 ih35 =>
          intro v5 v6 H locs ls h1 hm35 hG hP hD hS hl
          refine lv_iload hx hb dX4_next_35 (lv_at hl 6 rfl) ?_
          refine lv_aload_n hx hb dX4_next_37 rfl (lv_at hl 0 rfl) ?_
          refine va_get (D := D) (ci := 4) (v := .ref aS) (C := RX4) (T := TX4) (N := 8) hx hb hts iX4 hown hK hP 0 rfl rfl 0 (by decide) (hts (.fieldLink RX4 7 "LightBurstsModel" "state" "[I") (List.mem_of_getElem? (i := 1) rfl)) (fun _ h9 => h9) rfl dX4_next_38 ?_
          refine lv_bipush (v := 10) hx hb dX4_next_41 (by decide) ?_
          refine va_iald hx hb hK hP 1 0 rfl rfl (by unfold vp_in; decide) dX4_next_43 ?_
          refine lv_eqi (sf 10) rfl ?_
          refine lv_icmp_ge (tgt := 131) hx hb dX4_next_44 (by decide) (fun c_4 => ?_) (fun c_4 => ?_)
          · refine lv_iload hx hb dX4_next_131 (lv_at hl 5 rfl) ?_
            rw [g_X4_next_L35, if_pos c_4] at hG
            rw [hG]
            exact W.iret (v := v5) hx hb hr (fun t ht hW => ⟨⟨_, (), rfl, rfl, by rw [ht]; exact hP, va_K.moved hW.alike hK, hD⟩, hS.F ht⟩) hS.2.2 dX4_next_133
          · refine lv_iload hx hb dX4_next_47 (lv_at hl 6 rfl) ?_
            refine lv_if_ge (tgt := 56) hx hb dX4_next_49 (by decide) (fun c_5 => ?_) (fun c_5 => ?_)
            · refine lv_aload_n hx hb dX4_next_56 rfl (lv_at hl 0 rfl) ?_
              refine lv_iload hx hb dX4_next_57 (lv_at hl 6 rfl) ?_
              refine lv_iload_n hx hb dX4_next_59 rfl (lv_at hl 1 rfl) ?_
              refine lv_iload_n hx hb dX4_next_60 rfl (lv_at hl 2 rfl) ?_
              refine kI (wr := ([] : va_W)) (W1 := MDw cA cZ aM aS aI aK sf mf kf m0 m1 m2 m3 m4) (wsN := MDw cA cZ aM aS aI aK sf mf kf m0 m1 m2 m3 m4) (rV (As := [.int v6, .int x1, .int x2]) (rest := []) (W0 := MDw cA cZ aM aS aI aK sf mf kf m0 m1 m2 m3 m4) ⟨hx, hb, hml, hown, hts⟩ (c_X4_isOn l D cA cZ aM aS aI aK H.size sf mf kf m0 m1 m2 m3 m4 v6 x1 x2 (show bok v6 from by exact bok_of c_5 c_4 hm)) (cwV 3 hts gX4_next_X4_isOn rfl rfl rfl (by decide +kernel) ⟨Nat.le_of_ble_eq_true rfl, Nat.le_of_ble_eq_true rfl⟩) hP hD hK hN ([0, 1, 2, 3] : List Nat) rfl rfl 4 0 rfl rfl rfl hl.1 rfl (Nat.le_of_ble_eq_true rfl) dX4_next_61 ⟨Nat.zero_le _, Nat.zero_le _⟩) hP hD hS hA [0, 1, 2, 3] [] [0, 1, 2, 3] rfl rfl rfl (by decide) rfl rfl (fun H locs hP hD hS => ?_)
              refine lv_if_eq (tgt := 87) hx hb dX4_next_64 (by decide) (fun c_6 => ?_) (fun c_6 => ?_)
              · refine lv_iload_n hx hb dX4_next_87 rfl (lv_at hl 3 rfl) ?_
                refine lv_istore (lv' := [(7, .int x3), (0, .ref aM), (1, .int x1), (2, .int x2), (3, .int x3), (4, .int x4), (5, .int v5), (6, .int v6)]) hx hb dX4_next_88 hl (by decide) rfl (fun ls hl => ?_)
                refine lv_iload hx hb dX4_next_90 (lv_at hl 0 rfl) ?_
                refine lv_iload_n hx hb dX4_next_92 rfl (lv_at hl 4 rfl) ?_
                refine lv_icmp_lt (tgt := 125) hx hb dX4_next_93 (by decide) (fun c_7 => ?_) (fun c_7 => ?_)
                · refine lv_iinc (v := (v6 + 1)) (lv' := [(6, .int (v6 + 1)), (7, .int x3), (0, .ref aM), (1, .int x1), (2, .int x2), (3, .int x3), (4, .int x4), (5, .int v5)]) hx hb dX4_next_125 hl (k := 7) rfl rfl (by decide) rfl (fun ls hl => ?_)
                  refine lv_goto (tgt := 35) hx hb dX4_next_128 (by decide) ?_
                  rw [g_X4_next_L35, if_neg c_4, if_pos c_5, if_pos c_6, if_pos c_7] at hG
                  exact ih35 v5 (v6 + 1) _ _ _ (by exact up_m1 h1 c_4) (by exact ms_up c_4 hm35) hG hP hD hS (lv_sub hl [2, 3, 4, 5, 6, 7, 0] rfl)
                · refine lv_iload hx hb dX4_next_96 (lv_at hl 6 rfl) ?_
                  refine lv_if_lt (tgt := 108) hx hb dX4_next_98 (by decide) (fun c_8 => ?_) (fun c_8 => ?_)
                  · refine lv_aload_n hx hb dX4_next_108 rfl (lv_at hl 1 rfl) ?_
                    refine lv_iload_n hx hb dX4_next_109 rfl (lv_at hl 2 rfl) ?_
                    refine lv_iload_n hx hb dX4_next_110 rfl (lv_at hl 3 rfl) ?_
                    refine lv_iload hx hb dX4_next_111 (lv_at hl 0 rfl) ?_
                    refine lv_iload hx hb dX4_next_113 (lv_at hl 5 rfl) ?_
                    refine kI (wr := ([] : va_W)) (W1 := MDw cA cZ aM aS aI aK sf mf kf m0 m1 m2 m3 m4) (wsN := MDw cA cZ aM aS aI aK sf mf kf m0 m1 m2 m3 m4) (rV (As := [.int x1, .int x2, .int x3, .int x4]) (rest := []) (W0 := MDw cA cZ aM aS aI aK sf mf kf m0 m1 m2 m3 m4) ⟨hx, hb, hml, hown, hts⟩ (c_X4_isClear l D cA cZ aM aS aI aK H.size sf mf kf m0 m1 m2 m3 m4 x1 x2 x3 x4 (show (sf 10) ≤ 48 from by exact hm)) (cwV 4 hts gX4_next_X4_isClear rfl rfl rfl (by decide +kernel) ⟨Nat.le_of_ble_eq_true rfl, Nat.le_of_ble_eq_true rfl⟩) hP hD hK hN ([0, 1, 2, 3] : List Nat) rfl rfl 4 0 rfl rfl rfl hl.1 rfl (Nat.le_of_ble_eq_true rfl) dX4_next_115 ⟨Nat.zero_le _, Nat.zero_le _⟩) hP hD hS hA [0, 1, 2, 3] [] [0, 1, 2, 3] rfl rfl rfl (by decide) rfl rfl (fun H locs hP hD hS => ?_)
                    refine lv_if_eq (tgt := 125) hx hb dX4_next_118 (by decide) (fun c_9 => ?_) (fun c_9 => ?_)
                    · refine lv_iinc (v := (v6 + 1)) (lv' := [(6, .int (v6 + 1)), (7, .int x3), (0, .ref aM), (1, .int x1), (2, .int x2), (3, .int x3), (4, .int x4), (5, .int v5)]) hx hb dX4_next_125 hl (k := 7) rfl rfl (by decide) rfl (fun ls hl => ?_)
                      refine lv_goto (tgt := 35) hx hb dX4_next_128 (by decide) ?_
                      rw [g_X4_next_L35, if_neg c_4, if_pos c_5, if_pos c_6, if_neg c_7, if_pos c_8, if_pos c_9] at hG
                      exact ih35 v5 (v6 + 1) _ _ _ (by exact up_m1 h1 c_4) (by exact ms_up c_4 hm35) hG hP hD hS (lv_sub hl [2, 3, 4, 5, 6, 7, 0] rfl)
                    · refine lv_iload hx hb dX4_next_121 (lv_at hl 0 rfl) ?_
                      refine lv_istore (lv' := [(5, .int x3), (7, .int x3), (0, .ref aM), (1, .int x1), (2, .int x2), (3, .int x3), (4, .int x4), (6, .int v6)]) hx hb dX4_next_123 hl (by decide) rfl (fun ls hl => ?_)
                      refine lv_iinc (v := (v6 + 1)) (lv' := [(6, .int (v6 + 1)), (5, .int x3), (7, .int x3), (0, .ref aM), (1, .int x1), (2, .int x2), (3, .int x3), (4, .int x4)]) hx hb dX4_next_125 hl (k := 7) rfl rfl (by decide) rfl (fun ls hl => ?_)
                      refine lv_goto (tgt := 35) hx hb dX4_next_128 (by decide) ?_
                      rw [g_X4_next_L35, if_neg c_4, if_pos c_5, if_pos c_6, if_neg c_7, if_pos c_8, if_neg c_9] at hG
                      exact ih35 x3 (v6 + 1) _ _ _ (by exact up_m1 h1 c_4) (by exact ms_up c_4 hm35) hG hP hD hS (lv_sub hl [3, 4, 5, 6, 7, 1, 0] rfl)
                  · refine lv_iload hx hb dX4_next_101 (lv_at hl 0 rfl) ?_
                    refine lv_iload hx hb dX4_next_103 (lv_at hl 6 rfl) ?_
                    refine lv_icmp_ge (tgt := 125) hx hb dX4_next_105 (by decide) (fun c_10 => ?_) (fun c_10 => ?_)
                    · refine lv_iinc (v := (v6 + 1)) (lv' := [(6, .int (v6 + 1)), (7, .int x3), (0, .ref aM), (1, .int x1), (2, .int x2), (3, .int x3), (4, .int x4), (5, .int v5)]) hx hb dX4_next_125 hl (k := 7) rfl rfl (by decide) rfl (fun ls hl => ?_)
                      refine lv_goto (tgt := 35) hx hb dX4_next_128 (by decide) ?_
                      rw [g_X4_next_L35, if_neg c_4, if_pos c_5, if_pos c_6, if_neg c_7, if_neg c_8, if_pos c_10] at hG
                      exact ih35 v5 (v6 + 1) _ _ _ (by exact up_m1 h1 c_4) (by exact ms_up c_4 hm35) hG hP hD hS (lv_sub hl [2, 3, 4, 5, 6, 7, 0] rfl)
                    · refine lv_aload_n hx hb dX4_next_108 rfl (lv_at hl 1 rfl) ?_
                      refine lv_iload_n hx hb dX4_next_109 rfl (lv_at hl 2 rfl) ?_
                      refine lv_iload_n hx hb dX4_next_110 rfl (lv_at hl 3 rfl) ?_
                      refine lv_iload hx hb dX4_next_111 (lv_at hl 0 rfl) ?_
                      refine lv_iload hx hb dX4_next_113 (lv_at hl 5 rfl) ?_
                      refine kI (wr := ([] : va_W)) (W1 := MDw cA cZ aM aS aI aK sf mf kf m0 m1 m2 m3 m4) (wsN := MDw cA cZ aM aS aI aK sf mf kf m0 m1 m2 m3 m4) (rV (As := [.int x1, .int x2, .int x3, .int x4]) (rest := []) (W0 := MDw cA cZ aM aS aI aK sf mf kf m0 m1 m2 m3 m4) ⟨hx, hb, hml, hown, hts⟩ (c_X4_isClear l D cA cZ aM aS aI aK H.size sf mf kf m0 m1 m2 m3 m4 x1 x2 x3 x4 (show (sf 10) ≤ 48 from by exact hm)) (cwV 4 hts gX4_next_X4_isClear rfl rfl rfl (by decide +kernel) ⟨Nat.le_of_ble_eq_true rfl, Nat.le_of_ble_eq_true rfl⟩) hP hD hK hN ([0, 1, 2, 3] : List Nat) rfl rfl 4 0 rfl rfl rfl hl.1 rfl (Nat.le_of_ble_eq_true rfl) dX4_next_115 ⟨Nat.zero_le _, Nat.zero_le _⟩) hP hD hS hA [0, 1, 2, 3] [] [0, 1, 2, 3] rfl rfl rfl (by decide) rfl rfl (fun H locs hP hD hS => ?_)
                      refine lv_if_eq (tgt := 125) hx hb dX4_next_118 (by decide) (fun c_11 => ?_) (fun c_11 => ?_)
                      · refine lv_iinc (v := (v6 + 1)) (lv' := [(6, .int (v6 + 1)), (7, .int x3), (0, .ref aM), (1, .int x1), (2, .int x2), (3, .int x3), (4, .int x4), (5, .int v5)]) hx hb dX4_next_125 hl (k := 7) rfl rfl (by decide) rfl (fun ls hl => ?_)
                        refine lv_goto (tgt := 35) hx hb dX4_next_128 (by decide) ?_
                        rw [g_X4_next_L35, if_neg c_4, if_pos c_5, if_pos c_6, if_neg c_7, if_neg c_8, if_neg c_10, if_pos c_11] at hG
                        exact ih35 v5 (v6 + 1) _ _ _ (by exact up_m1 h1 c_4) (by exact ms_up c_4 hm35) hG hP hD hS (lv_sub hl [2, 3, 4, 5, 6, 7, 0] rfl)
                      · refine lv_iload hx hb dX4_next_121 (lv_at hl 0 rfl) ?_
                        refine lv_istore (lv' := [(5, .int x3), (7, .int x3), (0, .ref aM), (1, .int x1), (2, .int x2), (3, .int x3), (4, .int x4), (6, .int v6)]) hx hb dX4_next_123 hl (by decide) rfl (fun ls hl => ?_)
                        refine lv_iinc (v := (v6 + 1)) (lv' := [(6, .int (v6 + 1)), (5, .int x3), (7, .int x3), (0, .ref aM), (1, .int x1), (2, .int x2), (3, .int x3), (4, .int x4)]) hx hb dX4_next_125 hl (k := 7) rfl rfl (by decide) rfl (fun ls hl => ?_)
                        refine lv_goto (tgt := 35) hx hb dX4_next_128 (by decide) ?_
                        rw [g_X4_next_L35, if_neg c_4, if_pos c_5, if_pos c_6, if_neg c_7, if_neg c_8, if_neg c_10, if_neg c_11] at hG
                        exact ih35 x3 (v6 + 1) _ _ _ (by exact up_m1 h1 c_4) (by exact ms_up c_4 hm35) hG hP hD hS (lv_sub hl [3, 4, 5, 6, 7, 1, 0] rfl)
              · refine lv_aload_n hx hb dX4_next_67 rfl (lv_at hl 0 rfl) ?_
                refine lv_iload hx hb dX4_next_68 (lv_at hl 6 rfl) ?_
                refine lv_bipush (v := 8) hx hb dX4_next_70 (by decide) ?_
                refine kI (wr := ([] : va_W)) (W1 := MDw cA cZ aM aS aI aK sf mf kf m0 m1 m2 m3 m4) (wsN := MDw cA cZ aM aS aI aK sf mf kf m0 m1 m2 m3 m4) (rV (As := [.int v6, .int 8]) (rest := []) (W0 := MDw cA cZ aM aS aI aK sf mf kf m0 m1 m2 m3 m4) ⟨hx, hb, hml, hown, hts⟩ (c_X4_of l D cA cZ aM aS aI aK H.size sf mf kf m0 m1 m2 m3 m4 v6 8 (show bok v6 from by exact bok_of c_5 c_4 hm) (show wok 8 from by exact ⟨by decide, by decide⟩)) (cwV 2 hts gX4_next_X4_of rfl rfl rfl (by decide +kernel) ⟨Nat.le_of_ble_eq_true rfl, Nat.le_of_ble_eq_true rfl⟩) hP hD hK hN ([0, 1, 2, 3] : List Nat) rfl rfl 4 0 rfl rfl rfl hl.1 rfl (Nat.le_of_ble_eq_true rfl) dX4_next_72 ⟨Nat.zero_le _, Nat.zero_le _⟩) hP hD hS hA [0, 1, 2, 3] [] [0, 1, 2, 3] rfl rfl rfl (by decide) rfl rfl (fun H locs hP hD hS => ?_)
                refine lv_aload_n hx hb dX4_next_75 rfl (lv_at hl 0 rfl) ?_
                refine lv_iload hx hb dX4_next_76 (lv_at hl 6 rfl) ?_
                refine lv_bipush (v := 9) hx hb dX4_next_78 (by decide) ?_
                refine kI (wr := ([] : va_W)) (W1 := MDw cA cZ aM aS aI aK sf mf kf m0 m1 m2 m3 m4) (wsN := MDw cA cZ aM aS aI aK sf mf kf m0 m1 m2 m3 m4) (rV (As := [.int v6, .int 9]) (rest := [.int (g_X4_of sf v6 8)]) (W0 := MDw cA cZ aM aS aI aK sf mf kf m0 m1 m2 m3 m4) ⟨hx, hb, hml, hown, hts⟩ (c_X4_of l D cA cZ aM aS aI aK H.size sf mf kf m0 m1 m2 m3 m4 v6 9 (show bok v6 from by exact bok_of c_5 c_4 hm) (show wok 9 from by exact ⟨by decide, by decide⟩)) (cwV 2 hts gX4_next_X4_of rfl rfl rfl (by decide +kernel) ⟨Nat.le_of_ble_eq_true rfl, Nat.le_of_ble_eq_true rfl⟩) hP hD hK hN ([0, 1, 2, 3] : List Nat) rfl rfl 4 0 rfl rfl rfl hl.1 rfl (Nat.le_of_ble_eq_true rfl) dX4_next_80 ⟨Nat.zero_le _, Nat.zero_le _⟩) hP hD hS hA [0, 1, 2, 3] [] [0, 1, 2, 3] rfl rfl rfl (by decide) rfl rfl (fun H locs hP hD hS => ?_)
                refine lv_iadd hx hb dX4_next_83 ?_
                refine lv_goto (tgt := 88) hx hb dX4_next_84 (by decide) ?_
                refine lv_istore (lv' := [(7, .int ((g_X4_of sf v6 8) + (g_X4_of sf v6 9))), (0, .ref aM), (1, .int x1), (2, .int x2), (3, .int x3), (4, .int x4), (5, .int v5), (6, .int v6)]) hx hb dX4_next_88 hl (by decide) rfl (fun ls hl => ?_)
                refine lv_iload hx hb dX4_next_90 (lv_at hl 0 rfl) ?_
                refine lv_iload_n hx hb dX4_next_92 rfl (lv_at hl 4 rfl) ?_
                refine lv_icmp_lt (tgt := 125) hx hb dX4_next_93 (by decide) (fun c_12 => ?_) (fun c_12 => ?_)
                · refine lv_iinc (v := (v6 + 1)) (lv' := [(6, .int (v6 + 1)), (7, .int ((g_X4_of sf v6 8) + (g_X4_of sf v6 9))), (0, .ref aM), (1, .int x1), (2, .int x2), (3, .int x3), (4, .int x4), (5, .int v5)]) hx hb dX4_next_125 hl (k := 7) rfl rfl (by decide) rfl (fun ls hl => ?_)
                  refine lv_goto (tgt := 35) hx hb dX4_next_128 (by decide) ?_
                  rw [g_X4_next_L35, if_neg c_4, if_pos c_5, if_neg c_6, if_pos c_12] at hG
                  exact ih35 v5 (v6 + 1) _ _ _ (by exact up_m1 h1 c_4) (by exact ms_up c_4 hm35) hG hP hD hS (lv_sub hl [2, 3, 4, 5, 6, 7, 0] rfl)
                · refine lv_iload hx hb dX4_next_96 (lv_at hl 6 rfl) ?_
                  refine lv_if_lt (tgt := 108) hx hb dX4_next_98 (by decide) (fun c_13 => ?_) (fun c_13 => ?_)
                  · refine lv_aload_n hx hb dX4_next_108 rfl (lv_at hl 1 rfl) ?_
                    refine lv_iload_n hx hb dX4_next_109 rfl (lv_at hl 2 rfl) ?_
                    refine lv_iload_n hx hb dX4_next_110 rfl (lv_at hl 3 rfl) ?_
                    refine lv_iload hx hb dX4_next_111 (lv_at hl 0 rfl) ?_
                    refine lv_iload hx hb dX4_next_113 (lv_at hl 5 rfl) ?_
                    refine kI (wr := ([] : va_W)) (W1 := MDw cA cZ aM aS aI aK sf mf kf m0 m1 m2 m3 m4) (wsN := MDw cA cZ aM aS aI aK sf mf kf m0 m1 m2 m3 m4) (rV (As := [.int x1, .int x2, .int ((g_X4_of sf v6 8) + (g_X4_of sf v6 9)), .int x4]) (rest := []) (W0 := MDw cA cZ aM aS aI aK sf mf kf m0 m1 m2 m3 m4) ⟨hx, hb, hml, hown, hts⟩ (c_X4_isClear l D cA cZ aM aS aI aK H.size sf mf kf m0 m1 m2 m3 m4 x1 x2 ((g_X4_of sf v6 8) + (g_X4_of sf v6 9)) x4 (show (sf 10) ≤ 48 from by exact hm)) (cwV 4 hts gX4_next_X4_isClear rfl rfl rfl (by decide +kernel) ⟨Nat.le_of_ble_eq_true rfl, Nat.le_of_ble_eq_true rfl⟩) hP hD hK hN ([0, 1, 2, 3] : List Nat) rfl rfl 4 0 rfl rfl rfl hl.1 rfl (Nat.le_of_ble_eq_true rfl) dX4_next_115 ⟨Nat.zero_le _, Nat.zero_le _⟩) hP hD hS hA [0, 1, 2, 3] [] [0, 1, 2, 3] rfl rfl rfl (by decide) rfl rfl (fun H locs hP hD hS => ?_)
                    refine lv_if_eq (tgt := 125) hx hb dX4_next_118 (by decide) (fun c_14 => ?_) (fun c_14 => ?_)
                    · refine lv_iinc (v := (v6 + 1)) (lv' := [(6, .int (v6 + 1)), (7, .int ((g_X4_of sf v6 8) + (g_X4_of sf v6 9))), (0, .ref aM), (1, .int x1), (2, .int x2), (3, .int x3), (4, .int x4), (5, .int v5)]) hx hb dX4_next_125 hl (k := 7) rfl rfl (by decide) rfl (fun ls hl => ?_)
                      refine lv_goto (tgt := 35) hx hb dX4_next_128 (by decide) ?_
                      rw [g_X4_next_L35, if_neg c_4, if_pos c_5, if_neg c_6, if_neg c_12, if_pos c_13, if_pos c_14] at hG
                      exact ih35 v5 (v6 + 1) _ _ _ (by exact up_m1 h1 c_4) (by exact ms_up c_4 hm35) hG hP hD hS (lv_sub hl [2, 3, 4, 5, 6, 7, 0] rfl)
                    · refine lv_iload hx hb dX4_next_121 (lv_at hl 0 rfl) ?_
                      refine lv_istore (lv' := [(5, .int ((g_X4_of sf v6 8) + (g_X4_of sf v6 9))), (7, .int ((g_X4_of sf v6 8) + (g_X4_of sf v6 9))), (0, .ref aM), (1, .int x1), (2, .int x2), (3, .int x3), (4, .int x4), (6, .int v6)]) hx hb dX4_next_123 hl (by decide) rfl (fun ls hl => ?_)
                      refine lv_iinc (v := (v6 + 1)) (lv' := [(6, .int (v6 + 1)), (5, .int ((g_X4_of sf v6 8) + (g_X4_of sf v6 9))), (7, .int ((g_X4_of sf v6 8) + (g_X4_of sf v6 9))), (0, .ref aM), (1, .int x1), (2, .int x2), (3, .int x3), (4, .int x4)]) hx hb dX4_next_125 hl (k := 7) rfl rfl (by decide) rfl (fun ls hl => ?_)
                      refine lv_goto (tgt := 35) hx hb dX4_next_128 (by decide) ?_
                      rw [g_X4_next_L35, if_neg c_4, if_pos c_5, if_neg c_6, if_neg c_12, if_pos c_13, if_neg c_14] at hG
                      exact ih35 ((g_X4_of sf v6 8) + (g_X4_of sf v6 9)) (v6 + 1) _ _ _ (by exact up_m1 h1 c_4) (by exact ms_up c_4 hm35) hG hP hD hS (lv_sub hl [3, 4, 5, 6, 7, 1, 0] rfl)
                  · refine lv_iload hx hb dX4_next_101 (lv_at hl 0 rfl) ?_
                    refine lv_iload hx hb dX4_next_103 (lv_at hl 6 rfl) ?_
                    refine lv_icmp_ge (tgt := 125) hx hb dX4_next_105 (by decide) (fun c_15 => ?_) (fun c_15 => ?_)
                    · refine lv_iinc (v := (v6 + 1)) (lv' := [(6, .int (v6 + 1)), (7, .int ((g_X4_of sf v6 8) + (g_X4_of sf v6 9))), (0, .ref aM), (1, .int x1), (2, .int x2), (3, .int x3), (4, .int x4), (5, .int v5)]) hx hb dX4_next_125 hl (k := 7) rfl rfl (by decide) rfl (fun ls hl => ?_)
                      refine lv_goto (tgt := 35) hx hb dX4_next_128 (by decide) ?_
                      rw [g_X4_next_L35, if_neg c_4, if_pos c_5, if_neg c_6, if_neg c_12, if_neg c_13, if_pos c_15] at hG
                      exact ih35 v5 (v6 + 1) _ _ _ (by exact up_m1 h1 c_4) (by exact ms_up c_4 hm35) hG hP hD hS (lv_sub hl [2, 3, 4, 5, 6, 7, 0] rfl)
                    · refine lv_aload_n hx hb dX4_next_108 rfl (lv_at hl 1 rfl) ?_
                      refine lv_iload_n hx hb dX4_next_109 rfl (lv_at hl 2 rfl) ?_
                      refine lv_iload_n hx hb dX4_next_110 rfl (lv_at hl 3 rfl) ?_
                      refine lv_iload hx hb dX4_next_111 (lv_at hl 0 rfl) ?_
                      refine lv_iload hx hb dX4_next_113 (lv_at hl 5 rfl) ?_
                      refine kI (wr := ([] : va_W)) (W1 := MDw cA cZ aM aS aI aK sf mf kf m0 m1 m2 m3 m4) (wsN := MDw cA cZ aM aS aI aK sf mf kf m0 m1 m2 m3 m4) (rV (As := [.int x1, .int x2, .int ((g_X4_of sf v6 8) + (g_X4_of sf v6 9)), .int x4]) (rest := []) (W0 := MDw cA cZ aM aS aI aK sf mf kf m0 m1 m2 m3 m4) ⟨hx, hb, hml, hown, hts⟩ (c_X4_isClear l D cA cZ aM aS aI aK H.size sf mf kf m0 m1 m2 m3 m4 x1 x2 ((g_X4_of sf v6 8) + (g_X4_of sf v6 9)) x4 (show (sf 10) ≤ 48 from by exact hm)) (cwV 4 hts gX4_next_X4_isClear rfl rfl rfl (by decide +kernel) ⟨Nat.le_of_ble_eq_true rfl, Nat.le_of_ble_eq_true rfl⟩) hP hD hK hN ([0, 1, 2, 3] : List Nat) rfl rfl 4 0 rfl rfl rfl hl.1 rfl (Nat.le_of_ble_eq_true rfl) dX4_next_115 ⟨Nat.zero_le _, Nat.zero_le _⟩) hP hD hS hA [0, 1, 2, 3] [] [0, 1, 2, 3] rfl rfl rfl (by decide) rfl rfl (fun H locs hP hD hS => ?_)
                      refine lv_if_eq (tgt := 125) hx hb dX4_next_118 (by decide) (fun c_16 => ?_) (fun c_16 => ?_)
                      · refine lv_iinc (v := (v6 + 1)) (lv' := [(6, .int (v6 + 1)), (7, .int ((g_X4_of sf v6 8) + (g_X4_of sf v6 9))), (0, .ref aM), (1, .int x1), (2, .int x2), (3, .int x3), (4, .int x4), (5, .int v5)]) hx hb dX4_next_125 hl (k := 7) rfl rfl (by decide) rfl (fun ls hl => ?_)
                        refine lv_goto (tgt := 35) hx hb dX4_next_128 (by decide) ?_
                        rw [g_X4_next_L35, if_neg c_4, if_pos c_5, if_neg c_6, if_neg c_12, if_neg c_13, if_neg c_15, if_pos c_16] at hG
                        exact ih35 v5 (v6 + 1) _ _ _ (by exact up_m1 h1 c_4) (by exact ms_up c_4 hm35) hG hP hD hS (lv_sub hl [2, 3, 4, 5, 6, 7, 0] rfl)
                      · refine lv_iload hx hb dX4_next_121 (lv_at hl 0 rfl) ?_
                        refine lv_istore (lv' := [(5, .int ((g_X4_of sf v6 8) + (g_X4_of sf v6 9))), (7, .int ((g_X4_of sf v6 8) + (g_X4_of sf v6 9))), (0, .ref aM), (1, .int x1), (2, .int x2), (3, .int x3), (4, .int x4), (6, .int v6)]) hx hb dX4_next_123 hl (by decide) rfl (fun ls hl => ?_)
                        refine lv_iinc (v := (v6 + 1)) (lv' := [(6, .int (v6 + 1)), (5, .int ((g_X4_of sf v6 8) + (g_X4_of sf v6 9))), (7, .int ((g_X4_of sf v6 8) + (g_X4_of sf v6 9))), (0, .ref aM), (1, .int x1), (2, .int x2), (3, .int x3), (4, .int x4)]) hx hb dX4_next_125 hl (k := 7) rfl rfl (by decide) rfl (fun ls hl => ?_)
                        refine lv_goto (tgt := 35) hx hb dX4_next_128 (by decide) ?_
                        rw [g_X4_next_L35, if_neg c_4, if_pos c_5, if_neg c_6, if_neg c_12, if_neg c_13, if_neg c_15, if_neg c_16] at hG
                        exact ih35 ((g_X4_of sf v6 8) + (g_X4_of sf v6 9)) (v6 + 1) _ _ _ (by exact up_m1 h1 c_4) (by exact ms_up c_4 hm35) hG hP hD hS (lv_sub hl [3, 4, 5, 6, 7, 1, 0] rfl)
            · refine lv_iload_n hx hb dX4_next_52 rfl (lv_at hl 3 rfl) ?_
              refine lv_goto (tgt := 88) hx hb dX4_next_53 (by decide) ?_
              refine lv_istore (lv' := [(7, .int x3), (0, .ref aM), (1, .int x1), (2, .int x2), (3, .int x3), (4, .int x4), (5, .int v5), (6, .int v6)]) hx hb dX4_next_88 hl (by decide) rfl (fun ls hl => ?_)
              refine lv_iload hx hb dX4_next_90 (lv_at hl 0 rfl) ?_
              refine lv_iload_n hx hb dX4_next_92 rfl (lv_at hl 4 rfl) ?_
              refine lv_icmp_lt (tgt := 125) hx hb dX4_next_93 (by decide) (fun c_17 => ?_) (fun c_17 => ?_)
              · refine lv_iinc (v := (v6 + 1)) (lv' := [(6, .int (v6 + 1)), (7, .int x3), (0, .ref aM), (1, .int x1), (2, .int x2), (3, .int x3), (4, .int x4), (5, .int v5)]) hx hb dX4_next_125 hl (k := 7) rfl rfl (by decide) rfl (fun ls hl => ?_)
                refine lv_goto (tgt := 35) hx hb dX4_next_128 (by decide) ?_
                rw [g_X4_next_L35, if_neg c_4, if_neg c_5, if_pos c_17] at hG
                exact ih35 v5 (v6 + 1) _ _ _ (by exact up_m1 h1 c_4) (by exact ms_up c_4 hm35) hG hP hD hS (lv_sub hl [2, 3, 4, 5, 6, 7, 0] rfl)
              · refine lv_iload hx hb dX4_next_96 (lv_at hl 6 rfl) ?_
                refine lv_if_lt (tgt := 108) hx hb dX4_next_98 (by decide) (fun c_18 => ?_) (fun c_18 => ?_)
                · refine lv_aload_n hx hb dX4_next_108 rfl (lv_at hl 1 rfl) ?_
                  refine lv_iload_n hx hb dX4_next_109 rfl (lv_at hl 2 rfl) ?_
                  refine lv_iload_n hx hb dX4_next_110 rfl (lv_at hl 3 rfl) ?_
                  refine lv_iload hx hb dX4_next_111 (lv_at hl 0 rfl) ?_
                  refine lv_iload hx hb dX4_next_113 (lv_at hl 5 rfl) ?_
                  refine kI (wr := ([] : va_W)) (W1 := MDw cA cZ aM aS aI aK sf mf kf m0 m1 m2 m3 m4) (wsN := MDw cA cZ aM aS aI aK sf mf kf m0 m1 m2 m3 m4) (rV (As := [.int x1, .int x2, .int x3, .int x4]) (rest := []) (W0 := MDw cA cZ aM aS aI aK sf mf kf m0 m1 m2 m3 m4) ⟨hx, hb, hml, hown, hts⟩ (c_X4_isClear l D cA cZ aM aS aI aK H.size sf mf kf m0 m1 m2 m3 m4 x1 x2 x3 x4 (show (sf 10) ≤ 48 from by exact hm)) (cwV 4 hts gX4_next_X4_isClear rfl rfl rfl (by decide +kernel) ⟨Nat.le_of_ble_eq_true rfl, Nat.le_of_ble_eq_true rfl⟩) hP hD hK hN ([0, 1, 2, 3] : List Nat) rfl rfl 4 0 rfl rfl rfl hl.1 rfl (Nat.le_of_ble_eq_true rfl) dX4_next_115 ⟨Nat.zero_le _, Nat.zero_le _⟩) hP hD hS hA [0, 1, 2, 3] [] [0, 1, 2, 3] rfl rfl rfl (by decide) rfl rfl (fun H locs hP hD hS => ?_)
                  refine lv_if_eq (tgt := 125) hx hb dX4_next_118 (by decide) (fun c_19 => ?_) (fun c_19 => ?_)
                  · refine lv_iinc (v := (v6 + 1)) (lv' := [(6, .int (v6 + 1)), (7, .int x3), (0, .ref aM), (1, .int x1), (2, .int x2), (3, .int x3), (4, .int x4), (5, .int v5)]) hx hb dX4_next_125 hl (k := 7) rfl rfl (by decide) rfl (fun ls hl => ?_)
                    refine lv_goto (tgt := 35) hx hb dX4_next_128 (by decide) ?_
                    rw [g_X4_next_L35, if_neg c_4, if_neg c_5, if_neg c_17, if_pos c_18, if_pos c_19] at hG
                    exact ih35 v5 (v6 + 1) _ _ _ (by exact up_m1 h1 c_4) (by exact ms_up c_4 hm35) hG hP hD hS (lv_sub hl [2, 3, 4, 5, 6, 7, 0] rfl)
                  · refine lv_iload hx hb dX4_next_121 (lv_at hl 0 rfl) ?_
                    refine lv_istore (lv' := [(5, .int x3), (7, .int x3), (0, .ref aM), (1, .int x1), (2, .int x2), (3, .int x3), (4, .int x4), (6, .int v6)]) hx hb dX4_next_123 hl (by decide) rfl (fun ls hl => ?_)
                    refine lv_iinc (v := (v6 + 1)) (lv' := [(6, .int (v6 + 1)), (5, .int x3), (7, .int x3), (0, .ref aM), (1, .int x1), (2, .int x2), (3, .int x3), (4, .int x4)]) hx hb dX4_next_125 hl (k := 7) rfl rfl (by decide) rfl (fun ls hl => ?_)
                    refine lv_goto (tgt := 35) hx hb dX4_next_128 (by decide) ?_
                    rw [g_X4_next_L35, if_neg c_4, if_neg c_5, if_neg c_17, if_pos c_18, if_neg c_19] at hG
                    exact ih35 x3 (v6 + 1) _ _ _ (by exact up_m1 h1 c_4) (by exact ms_up c_4 hm35) hG hP hD hS (lv_sub hl [3, 4, 5, 6, 7, 1, 0] rfl)
                · refine lv_iload hx hb dX4_next_101 (lv_at hl 0 rfl) ?_
                  refine lv_iload hx hb dX4_next_103 (lv_at hl 6 rfl) ?_
                  refine lv_icmp_ge (tgt := 125) hx hb dX4_next_105 (by decide) (fun c_20 => ?_) (fun c_20 => ?_)
                  · refine lv_iinc (v := (v6 + 1)) (lv' := [(6, .int (v6 + 1)), (7, .int x3), (0, .ref aM), (1, .int x1), (2, .int x2), (3, .int x3), (4, .int x4), (5, .int v5)]) hx hb dX4_next_125 hl (k := 7) rfl rfl (by decide) rfl (fun ls hl => ?_)
                    refine lv_goto (tgt := 35) hx hb dX4_next_128 (by decide) ?_
                    rw [g_X4_next_L35, if_neg c_4, if_neg c_5, if_neg c_17, if_neg c_18, if_pos c_20] at hG
                    exact ih35 v5 (v6 + 1) _ _ _ (by exact up_m1 h1 c_4) (by exact ms_up c_4 hm35) hG hP hD hS (lv_sub hl [2, 3, 4, 5, 6, 7, 0] rfl)
                  · refine lv_aload_n hx hb dX4_next_108 rfl (lv_at hl 1 rfl) ?_
                    refine lv_iload_n hx hb dX4_next_109 rfl (lv_at hl 2 rfl) ?_
                    refine lv_iload_n hx hb dX4_next_110 rfl (lv_at hl 3 rfl) ?_
                    refine lv_iload hx hb dX4_next_111 (lv_at hl 0 rfl) ?_
                    refine lv_iload hx hb dX4_next_113 (lv_at hl 5 rfl) ?_
                    refine kI (wr := ([] : va_W)) (W1 := MDw cA cZ aM aS aI aK sf mf kf m0 m1 m2 m3 m4) (wsN := MDw cA cZ aM aS aI aK sf mf kf m0 m1 m2 m3 m4) (rV (As := [.int x1, .int x2, .int x3, .int x4]) (rest := []) (W0 := MDw cA cZ aM aS aI aK sf mf kf m0 m1 m2 m3 m4) ⟨hx, hb, hml, hown, hts⟩ (c_X4_isClear l D cA cZ aM aS aI aK H.size sf mf kf m0 m1 m2 m3 m4 x1 x2 x3 x4 (show (sf 10) ≤ 48 from by exact hm)) (cwV 4 hts gX4_next_X4_isClear rfl rfl rfl (by decide +kernel) ⟨Nat.le_of_ble_eq_true rfl, Nat.le_of_ble_eq_true rfl⟩) hP hD hK hN ([0, 1, 2, 3] : List Nat) rfl rfl 4 0 rfl rfl rfl hl.1 rfl (Nat.le_of_ble_eq_true rfl) dX4_next_115 ⟨Nat.zero_le _, Nat.zero_le _⟩) hP hD hS hA [0, 1, 2, 3] [] [0, 1, 2, 3] rfl rfl rfl (by decide) rfl rfl (fun H locs hP hD hS => ?_)
                    refine lv_if_eq (tgt := 125) hx hb dX4_next_118 (by decide) (fun c_21 => ?_) (fun c_21 => ?_)
                    · refine lv_iinc (v := (v6 + 1)) (lv' := [(6, .int (v6 + 1)), (7, .int x3), (0, .ref aM), (1, .int x1), (2, .int x2), (3, .int x3), (4, .int x4), (5, .int v5)]) hx hb dX4_next_125 hl (k := 7) rfl rfl (by decide) rfl (fun ls hl => ?_)
                      refine lv_goto (tgt := 35) hx hb dX4_next_128 (by decide) ?_
                      rw [g_X4_next_L35, if_neg c_4, if_neg c_5, if_neg c_17, if_neg c_18, if_neg c_20, if_pos c_21] at hG
                      exact ih35 v5 (v6 + 1) _ _ _ (by exact up_m1 h1 c_4) (by exact ms_up c_4 hm35) hG hP hD hS (lv_sub hl [2, 3, 4, 5, 6, 7, 0] rfl)
                    · refine lv_iload hx hb dX4_next_121 (lv_at hl 0 rfl) ?_
                      refine lv_istore (lv' := [(5, .int x3), (7, .int x3), (0, .ref aM), (1, .int x1), (2, .int x2), (3, .int x3), (4, .int x4), (6, .int v6)]) hx hb dX4_next_123 hl (by decide) rfl (fun ls hl => ?_)
                      refine lv_iinc (v := (v6 + 1)) (lv' := [(6, .int (v6 + 1)), (5, .int x3), (7, .int x3), (0, .ref aM), (1, .int x1), (2, .int x2), (3, .int x3), (4, .int x4)]) hx hb dX4_next_125 hl (k := 7) rfl rfl (by decide) rfl (fun ls hl => ?_)
                      refine lv_goto (tgt := 35) hx hb dX4_next_128 (by decide) ?_
                      rw [g_X4_next_L35, if_neg c_4, if_neg c_5, if_neg c_17, if_neg c_18, if_neg c_20, if_neg c_21] at hG
                      exact ih35 x3 (v6 + 1) _ _ _ (by exact up_m1 h1 c_4) (by exact ms_up c_4 hm35) hG hP hD hS (lv_sub hl [3, 4, 5, 6, 7, 1, 0] rfl)
      · refine lv_bipush (v := (-2)) hx hb dX4_next_25 (by decide) ?_
        rw [g_X4_next, if_neg c_1, if_neg c_2, if_pos c_3] at hG
        rw [hG]
        exact W.iret (v := (-2)) hx hb hr (fun t ht hW => ⟨⟨_, (), rfl, rfl, by rw [ht]; exact hP, va_K.moved hW.alike hK, hD⟩, hS.F ht⟩) hS.2.2 dX4_next_27
    · refine lv_iconst (v := (-1)) hx hb dX4_next_14 (by decide) ?_
      rw [g_X4_next, if_neg c_1, if_pos c_2] at hG
      rw [hG]
      exact W.iret (v := (-1)) hx hb hr (fun t ht hW => ⟨⟨_, (), rfl, rfl, by rw [ht]; exact hP, va_K.moved hW.alike hK, hD⟩, hS.F ht⟩) hS.2.2 dX4_next_15

def g_X4_hole_L44 (sf : (Nat → Int32)) (x1 : Int32) (x2 : Int32) (x3 : Int32) (x4 : Int32) : Nat → Int32 → Int32 → Int32 → (Int32)
  | 0, _, _, _ => 0
  | n + 1, v5, v6, v7 => (if (sf 10) ≤ v7 then (-6) else (if 0 ≤ (g_X4_bookingAt sf x1 x2 v7) then (if v6 ≤ (sf 9) then (if (g_X4_of sf (g_X4_bookingAt sf x1 x2 v7) 8) ≤ (sf 9) then (g_X4_hole_L44 sf x1 x2 x3 x4 n v5 ((g_X4_of sf (g_X4_bookingAt sf x1 x2 v7) 8) + (g_X4_of sf (g_X4_bookingAt sf x1 x2 v7) 9)) (v7 + 1)) else (if v5 = x3 then (if x4 = 0 then (sf 9) else ((g_X4_of sf (g_X4_bookingAt sf x1 x2 v7) 8) - (sf 9))) else (g_X4_hole_L44 sf x1 x2 x3 x4 n (v5 + 1) ((g_X4_of sf (g_X4_bookingAt sf x1 x2 v7) 8) + (g_X4_of sf (g_X4_bookingAt sf x1 x2 v7) 9)) (v7 + 1)))) else (if (g_X4_of sf (g_X4_bookingAt sf x1 x2 v7) 8) ≤ (sf 9) then (g_X4_hole_L44 sf x1 x2 x3 x4 n v5 ((g_X4_of sf (g_X4_bookingAt sf x1 x2 v7) 8) + (g_X4_of sf (g_X4_bookingAt sf x1 x2 v7) 9)) (v7 + 1)) else (if (g_X4_of sf (g_X4_bookingAt sf x1 x2 v7) 8) ≤ v6 then (g_X4_hole_L44 sf x1 x2 x3 x4 n v5 ((g_X4_of sf (g_X4_bookingAt sf x1 x2 v7) 8) + (g_X4_of sf (g_X4_bookingAt sf x1 x2 v7) 9)) (v7 + 1)) else (if v5 = x3 then (if x4 = 0 then v6 else ((g_X4_of sf (g_X4_bookingAt sf x1 x2 v7) 8) - v6)) else (g_X4_hole_L44 sf x1 x2 x3 x4 n (v5 + 1) ((g_X4_of sf (g_X4_bookingAt sf x1 x2 v7) 8) + (g_X4_of sf (g_X4_bookingAt sf x1 x2 v7) 9)) (v7 + 1)))))) else (-6)))
def g_X4_hole (sf : (Nat → Int32)) (x1 : Int32) (x2 : Int32) (x3 : Int32) (x4 : Int32) : Int32 := (if (g_X4_isOut x1) = 0 then (-1) else (if (g_X4_isColour x2) = 0 then (-1) else (if (g_X4_in x4 0 1) = 0 then (-2) else (g_X4_hole_L44 sf x1 x2 x3 x4 ((((sf 10)).toInt - ((0 : Int32)).toInt).toNat + 1) 0 (sf 9) 0))))
set_option maxHeartbeats 4000000 in
set_option maxRecDepth 100000 in
theorem c_X4_hole (l : Launch) (D : va_G) (cA cZ : ClassId) (aM : Nat) (aS : Nat) (aI : Nat) (aK : Nat) (szz : Nat) (sf : (Nat → Int32)) (mf : (Nat → Int32)) (kf : (Nat → Int32)) (m0 : Int32) (m1 : Int32) (m2 : Int32) (m3 : Int32) (m4 : Int32) (x1 : Int32) (x2 : Int32) (x3 : Int32) (x4 : Int32) (hm : (sf 10) ≤ 48) : MetI l yX4_hole wsX4_hole 4 94 D (tyA cA cZ) [.ref aM, .int x1, .int x2, .int x3, .int x4] (MDw cA cZ aM aS aI aK sf mf kf m0 m1 m2 m3 m4) szz (g_X4_hole sf x1 x2 x3 x4) (MDw cA cZ aM aS aI aK sf mf kf m0 m1 m2 m3 m4) := by
  refine Met.ofW (cc := cX4_hole) (maxL := 10) (ret := (some .int)) (by decide) rfl ?_
  intro p e s m args below meth c s₁ B hml hv
  obtain ⟨rfl, hsz, hP, hK, hD0, hN⟩ := hv
  have hx := B.exec
  have hb := B.bytes
  have hr := B.returns
  have hts := atoms_spec (ws := wsX4_hole) B.pre
  have hown : s.vm.findClass RX4 = some m.cls := findClass_of_methodNamed B.named
  have hlocks := B.notSynchronized
  have iX4 : ∀ w ∈ wsX40, w ∈ wsX4_hole := fun _ h => List.mem_cons_of_mem _ (List.mem_append_right _ h)
  subst hsz
  have hD := hD0.self (sz := s.heap.size)
  generalize hAe : va_A (MDw cA cZ aM aS aI aK sf mf kf m0 m1 m2 m3 m4) s.heap.size = A at hD ⊢
  have hA : ∀ q : Nat, s.heap.size ≤ q → A q := fun q h => by rw [← hAe]; exact Or.inr h
  have hS : va_S A s.heap s.heap [] := va_S.rf
  have hP : va_P D vwCl (MDw cA cZ aM aS aI aK sf mf kf m0 m1 m2 m3 m4) s.heap := hP
  obtain ⟨G, hG⟩ : ∃ G, G = (g_X4_hole sf x1 x2 x3 x4) := ⟨_, rfl⟩
  rw [← hG]
  have hl := lv_entry ([.ref aM, .int x1, .int x2, .int x3, .int x4]) (n := 10) (Nat.le_of_ble_eq_true rfl)
  rw [lg_entry_eq]
  generalize (lg_sl ([.ref aM, .int x1, .int x2, .int x3, .int x4]) ++ List.replicate (10 - (lg_sl ([.ref aM, .int x1, .int x2, .int x3, .int x4])).length) Slot.unset).toArray = ls at hl ⊢
  have hl : lv_has ls 10 [(0, .ref aM), (1, .int x1), (2, .int x2), (3, .int x3), (4, .int x4)] := hl
  refine lv_iload_n hx hb dX4_hole_0 rfl (lv_at hl 1 rfl) ?_
  refine kI (wr := MDw cA cZ aM aS aI aK sf mf kf m0 m1 m2 m3 m4) (W1 := ([] : va_W)) (wsN := MDw cA cZ aM aS aI aK sf mf kf m0 m1 m2 m3 m4) (rS (As := [.int x1]) (rest := []) (W0 := ([] : va_W)) ⟨hx, hb, hml, hown, hts⟩ (c_X4_isOut l D cA cZ s.heap.size x1) (cwS 1 hts gX4_hole_X4_isOut rfl rfl rfl (by decide +kernel) ⟨Nat.le_of_ble_eq_true rfl, Nat.le_of_ble_eq_true rfl⟩) hP hD hK hN ([] : List Nat) rfl rfl rfl hl.1 rfl (Nat.le_of_ble_eq_true rfl) dX4_hole_1 ⟨Nat.zero_le _, Nat.zero_le _⟩) hP hD hS hA [] [0, 1, 2, 3] [0, 1, 2, 3] rfl rfl rfl (by decide) rfl rfl (fun H locs hP hD hS => ?_)
  refine lv_if_eq (tgt := 14) hx hb dX4_hole_4 (by decide) (fun c_1 => ?_) (fun c_1 => ?_)
  · refine lv_iconst (v := (-1)) hx hb dX4_hole_14 (by decide) ?_
    rw [g_X4_hole, if_pos c_1] at hG
    rw [hG]
    exact W.iret (v := (-1)) hx hb hr (fun t ht hW => ⟨⟨_, (), rfl, rfl, by rw [ht]; exact hP, va_K.moved hW.alike hK, hD⟩, hS.F ht⟩) hS.2.2 dX4_hole_15
  · refine lv_iload_n hx hb dX4_hole_7 rfl (lv_at hl 2 rfl) ?_
    refine kI (wr := MDw cA cZ aM aS aI aK sf mf kf m0 m1 m2 m3 m4) (W1 := ([] : va_W)) (wsN := MDw cA cZ aM aS aI aK sf mf kf m0 m1 m2 m3 m4) (rS (As := [.int x2]) (rest := []) (W0 := ([] : va_W)) ⟨hx, hb, hml, hown, hts⟩ (c_X4_isColour l D cA cZ H.size x2) (cwS 1 hts gX4_hole_X4_isColour rfl rfl rfl (by decide +kernel) ⟨Nat.le_of_ble_eq_true rfl, Nat.le_of_ble_eq_true rfl⟩) hP hD hK hN ([] : List Nat) rfl rfl rfl hl.1 rfl (Nat.le_of_ble_eq_true rfl) dX4_hole_8 ⟨Nat.zero_le _, Nat.zero_le _⟩) hP hD hS hA [] [0, 1, 2, 3] [0, 1, 2, 3] rfl rfl rfl (by decide) rfl rfl (fun H locs hP hD hS => ?_)
    refine lv_if_ne (tgt := 16) hx hb dX4_hole_11 (by decide) (fun c_2 => ?_) (fun c_2 => ?_)
    · refine lv_iload hx hb dX4_hole_16 (lv_at hl 4 rfl) ?_
      refine lv_iconst (v := 0) hx hb dX4_hole_18 (by decide) ?_
      refine lv_iconst (v := 1) hx hb dX4_hole_19 (by decide) ?_
      refine kI (wr := MDw cA cZ aM aS aI aK sf mf kf m0 m1 m2 m3 m4) (W1 := ([] : va_W)) (wsN := MDw cA cZ aM aS aI aK sf mf kf m0 m1 m2 m3 m4) (rS (As := [.int x4, .int 0, .int 1]) (rest := []) (W0 := ([] : va_W)) ⟨hx, hb, hml, hown, hts⟩ (c_X4_in l D cA cZ H.size x4 0 1) (cwS 3 hts gX4_hole_X4_in rfl rfl rfl (by decide +kernel) ⟨Nat.le_of_ble_eq_true rfl, Nat.le_of_ble_eq_true rfl⟩) hP hD hK hN ([] : List Nat) rfl rfl rfl hl.1 rfl (Nat.le_of_ble_eq_true rfl) dX4_hole_20 ⟨Nat.zero_le _, Nat.zero_le _⟩) hP hD hS hA [] [0, 1, 2, 3] [0, 1, 2, 3] rfl rfl rfl (by decide) rfl rfl (fun H locs hP hD hS => ?_)
      refine lv_if_ne (tgt := 29) hx hb dX4_hole_23 (by decide) (fun c_3 => ?_) (fun c_3 => ?_)
      · refine lv_iconst (v := 0) hx hb dX4_hole_29 (by decide) ?_
        refine lv_istore (lv' := [(5, .int 0), (0, .ref aM), (1, .int x1), (2, .int x2), (3, .int x3), (4, .int x4)]) hx hb dX4_hole_30 hl (by decide) rfl (fun ls hl => ?_)
        refine lv_aload_n hx hb dX4_hole_32 rfl (lv_at hl 1 rfl) ?_
        refine va_get (D := D) (ci := 4) (v := .ref aS) (C := RX4) (T := TX4) (N := 8) hx hb hts iX4 hown hK hP 0 rfl rfl 0 (by decide) (hts (.fieldLink RX4 7 "LightBurstsModel" "state" "[I") (List.mem_of_getElem? (i := 1) rfl)) (fun _ h9 => h9) rfl dX4_hole_33 ?_
        refine lv_bipush (v := 9) hx hb dX4_hole_36 (by decide) ?_
        refine va_iald hx hb hK hP 1 0 rfl rfl (by unfold vp_in; decide) dX4_hole_38 ?_
        refine lv_eqi (sf 9) rfl ?_
        refine lv_istore (lv' := [(6, .int (sf 9)), (5, .int 0), (0, .ref aM), (1, .int x1), (2, .int x2), (3, .int x3), (4, .int x4)]) hx hb dX4_hole_39 hl (by decide) rfl (fun ls hl => ?_)
        refine lv_iconst (v := 0) hx hb dX4_hole_41 (by decide) ?_
        refine lv_istore (lv' := [(7, .int 0), (6, .int (sf 9)), (5, .int 0), (0, .ref aM), (1, .int x1), (2, .int x2), (3, .int x3), (4, .int x4)]) hx hb dX4_hole_42 hl (by decide) rfl (fun ls hl => ?_)
        rw [g_X4_hole, if_neg c_1, if_neg c_2, if_neg c_3] at hG
        refine (?_ : ∀ (n : Nat) (v5 : Int32) (v6 : Int32) (v7 : Int32) (H : Heap) (locs : List Loc) (ls : Array Slot), (((sf 10)).toInt - (v7).toInt).toNat < n → G = g_X4_hole_L44 sf x1 x2 x3 x4 n v5 v6 v7 → va_P D vwCl (MDw cA cZ aM aS aI aK sf mf kf m0 m1 m2 m3 m4) H → va_D A (MDw cA cZ aM aS aI aK sf mf kf m0 m1 m2 m3 m4) → va_S A s.heap H locs → lv_has ls 10 [(0, .ref aM), (1, .int x1), (2, .int x2), (3, .int x3), (4, .int x4), (5, .int v5), (6, .int v6), (7, .int v7)] → W p l e _ s m _ below meth c H locs _ _ _ (F0 m 44 ls [])) ((((sf 10)).toInt - ((0 : Int32)).toInt).toNat + 1) 0 (sf 9) 0 _ _ _ (Nat.lt_succ_self _) hG hP hD hS (lv_sub hl [3, 4, 5, 6, 7, 2, 1, 0] rfl)
        clear hG hP hD hS hl
        intro n
        induction n with
        | zero => intros; omega
        | succ n44 ih44 =>
          intro v5 v6 v7 H locs ls hm44 hG hP hD hS hl
          refine lv_iload hx hb dX4_hole_44 (lv_at hl 7 rfl) ?_
          refine lv_aload_n hx hb dX4_hole_46 rfl (lv_at hl 0 rfl) ?_
          refine va_get (D := D) (ci := 4) (v := .ref aS) (C := RX4) (T := TX4) (N := 8) hx hb hts iX4 hown hK hP 0 rfl rfl 0 (by decide) (hts (.fieldLink RX4 7 "LightBurstsModel" "state" "[I") (List.mem_of_getElem? (i := 1) rfl)) (fun _ h9 => h9) rfl dX4_hole_47 ?_
          refine lv_bipush (v := 10) hx hb dX4_hole_50 (by decide) ?_
          refine va_iald hx hb hK hP 1 0 rfl rfl (by unfold vp_in; decide) dX4_hole_52 ?_
          refine lv_eqi (sf 10) rfl ?_
          refine lv_icmp_ge (tgt := 187) hx hb dX4_hole_53 (by decide) (fun c_4 => ?_) (fun c_4 => ?_)
          · refine lv_bipush (v := (-6)) hx hb dX4_hole_187 (by decide) ?_
            rw [g_X4_hole_L44, if_pos c_4] at hG
            rw [hG]
            exact W.iret (v := (-6)) hx hb hr (fun t ht hW => ⟨⟨_, (), rfl, rfl, by rw [ht]; exact hP, va_K.moved hW.alike hK, hD⟩, hS.F ht⟩) hS.2.2 dX4_hole_189
          · refine lv_aload_n hx hb dX4_hole_56 rfl (lv_at hl 0 rfl) ?_
            refine lv_iload_n hx hb dX4_hole_57 rfl (lv_at hl 1 rfl) ?_
            refine lv_iload_n hx hb dX4_hole_58 rfl (lv_at hl 2 rfl) ?_
            refine lv_iload hx hb dX4_hole_59 (lv_at hl 7 rfl) ?_
            refine kI (wr := ([] : va_W)) (W1 := MDw cA cZ aM aS aI aK sf mf kf m0 m1 m2 m3 m4) (wsN := MDw cA cZ aM aS aI aK sf mf kf m0 m1 m2 m3 m4) (rV (As := [.int x1, .int x2, .int v7]) (rest := []) (W0 := MDw cA cZ aM aS aI aK sf mf kf m0 m1 m2 m3 m4) ⟨hx, hb, hml, hown, hts⟩ (c_X4_bookingAt l D cA cZ aM aS aI aK H.size sf mf kf m0 m1 m2 m3 m4 x1 x2 v7 (show (sf 10) ≤ 48 from by exact hm)) (cwV 3 hts gX4_hole_X4_bookingAt rfl rfl rfl (by decide +kernel) ⟨Nat.le_of_ble_eq_true rfl, Nat.le_of_ble_eq_true rfl⟩) hP hD hK hN ([0, 1, 2, 3] : List Nat) rfl rfl 4 0 rfl rfl rfl hl.1 rfl (Nat.le_of_ble_eq_true rfl) dX4_hole_61 ⟨Nat.zero_le _, Nat.zero_le _⟩) hP hD hS hA [0, 1, 2, 3] [] [0, 1, 2, 3] rfl rfl rfl (by decide) rfl rfl (fun H locs hP hD hS => ?_)
            refine lv_istore (lv' := [(8, .int (g_X4_bookingAt sf x1 x2 v7)), (0, .ref aM), (1, .int x1), (2, .int x2), (3, .int x3), (4, .int x4), (5, .int v5), (6, .int v6), (7, .int v7)]) hx hb dX4_hole_64 hl (by decide) rfl (fun ls hl => ?_)
            refine lv_iload hx hb dX4_hole_66 (lv_at hl 0 rfl) ?_
            refine lv_if_ge (tgt := 74) hx hb dX4_hole_68 (by decide) (fun c_5 => ?_) (fun c_5 => ?_)
            · refine lv_iload hx hb dX4_hole_74 (lv_at hl 7 rfl) ?_
              refine lv_aload_n hx hb dX4_hole_76 rfl (lv_at hl 1 rfl) ?_
              refine va_get (D := D) (ci := 4) (v := .ref aS) (C := RX4) (T := TX4) (N := 8) hx hb hts iX4 hown hK hP 0 rfl rfl 0 (by decide) (hts (.fieldLink RX4 7 "LightBurstsModel" "state" "[I") (List.mem_of_getElem? (i := 1) rfl)) (fun _ h9 => h9) rfl dX4_hole_77 ?_
              refine lv_bipush (v := 9) hx hb dX4_hole_80 (by decide) ?_
              refine va_iald hx hb hK hP 1 0 rfl rfl (by unfold vp_in; decide) dX4_hole_82 ?_
              refine lv_eqi (sf 9) rfl ?_
              refine lv_icmp_le (tgt := 91) hx hb dX4_hole_83 (by decide) (fun c_6 => ?_) (fun c_6 => ?_)
              · refine lv_aload_n hx hb dX4_hole_91 rfl (lv_at hl 1 rfl) ?_
                refine va_get (D := D) (ci := 4) (v := .ref aS) (C := RX4) (T := TX4) (N := 8) hx hb hts iX4 hown hK hP 0 rfl rfl 0 (by decide) (hts (.fieldLink RX4 7 "LightBurstsModel" "state" "[I") (List.mem_of_getElem? (i := 1) rfl)) (fun _ h9 => h9) rfl dX4_hole_92 ?_
                refine lv_bipush (v := 9) hx hb dX4_hole_95 (by decide) ?_
                refine va_iald hx hb hK hP 1 0 rfl rfl (by unfold vp_in; decide) dX4_hole_97 ?_
                refine lv_eqi (sf 9) rfl ?_
                refine lv_istore (lv' := [(9, .int (sf 9)), (8, .int (g_X4_bookingAt sf x1 x2 v7)), (0, .ref aM), (1, .int x1), (2, .int x2), (3, .int x3), (4, .int x4), (5, .int v5), (6, .int v6), (7, .int v7)]) hx hb dX4_hole_98 hl (by decide) rfl (fun ls hl => ?_)
                refine lv_aload_n hx hb dX4_hole_100 rfl (lv_at hl 2 rfl) ?_
                refine lv_iload hx hb dX4_hole_101 (lv_at hl 1 rfl) ?_
                refine lv_bipush (v := 8) hx hb dX4_hole_103 (by decide) ?_
                refine kI (wr := ([] : va_W)) (W1 := MDw cA cZ aM aS aI aK sf mf kf m0 m1 m2 m3 m4) (wsN := MDw cA cZ aM aS aI aK sf mf kf m0 m1 m2 m3 m4) (rV (As := [.int (g_X4_bookingAt sf x1 x2 v7), .int 8]) (rest := []) (W0 := MDw cA cZ aM aS aI aK sf mf kf m0 m1 m2 m3 m4) ⟨hx, hb, hml, hown, hts⟩ (c_X4_of l D cA cZ aM aS aI aK H.size sf mf kf m0 m1 m2 m3 m4 (g_X4_bookingAt sf x1 x2 v7) 8 (show bok (g_X4_bookingAt sf x1 x2 v7) from by exact (bookingAt_ok hm).resolve_left (nlt_of_le c_5)) (show wok 8 from by exact ⟨by decide, by decide⟩)) (cwV 2 hts gX4_hole_X4_of rfl rfl rfl (by decide +kernel) ⟨Nat.le_of_ble_eq_true rfl, Nat.le_of_ble_eq_true rfl⟩) hP hD hK hN ([0, 1, 2, 3] : List Nat) rfl rfl 4 0 rfl rfl rfl hl.1 rfl (Nat.le_of_ble_eq_true rfl) dX4_hole_105 ⟨Nat.zero_le _, Nat.zero_le _⟩) hP hD hS hA [0, 1, 2, 3] [] [0, 1, 2, 3] rfl rfl rfl (by decide) rfl rfl (fun H locs hP hD hS => ?_)
                refine lv_aload_n hx hb dX4_hole_108 rfl (lv_at hl 2 rfl) ?_
                refine va_get (D := D) (ci := 4) (v := .ref aS) (C := RX4) (T := TX4) (N := 8) hx hb hts iX4 hown hK hP 0 rfl rfl 0 (by decide) (hts (.fieldLink RX4 7 "LightBurstsModel" "state" "[I") (List.mem_of_getElem? (i := 1) rfl)) (fun _ h9 => h9) rfl dX4_hole_109 ?_
                refine lv_bipush (v := 9) hx hb dX4_hole_112 (by decide) ?_
                refine va_iald hx hb hK hP 1 0 rfl rfl (by unfold vp_in; decide) dX4_hole_114 ?_
                refine lv_eqi (sf 9) rfl ?_
                refine lv_icmp_le (tgt := 162) hx hb dX4_hole_115 (by decide) (fun c_7 => ?_) (fun c_7 => ?_)
                · refine lv_aload_n hx hb dX4_hole_162 rfl (lv_at hl 2 rfl) ?_
                  refine lv_iload hx hb dX4_hole_163 (lv_at hl 1 rfl) ?_
                  refine lv_bipush (v := 8) hx hb dX4_hole_165 (by decide) ?_
                  refine kI (wr := ([] : va_W)) (W1 := MDw cA cZ aM aS aI aK sf mf kf m0 m1 m2 m3 m4) (wsN := MDw cA cZ aM aS aI aK sf mf kf m0 m1 m2 m3 m4) (rV (As := [.int (g_X4_bookingAt sf x1 x2 v7), .int 8]) (rest := []) (W0 := MDw cA cZ aM aS aI aK sf mf kf m0 m1 m2 m3 m4) ⟨hx, hb, hml, hown, hts⟩ (c_X4_of l D cA cZ aM aS aI aK H.size sf mf kf m0 m1 m2 m3 m4 (g_X4_bookingAt sf x1 x2 v7) 8 (show bok (g_X4_bookingAt sf x1 x2 v7) from by exact (bookingAt_ok hm).resolve_left (nlt_of_le c_5)) (show wok 8 from by exact ⟨by decide, by decide⟩)) (cwV 2 hts gX4_hole_X4_of rfl rfl rfl (by decide +kernel) ⟨Nat.le_of_ble_eq_true rfl, Nat.le_of_ble_eq_true rfl⟩) hP hD hK hN ([0, 1, 2, 3] : List Nat) rfl rfl 4 0 rfl rfl rfl hl.1 rfl (Nat.le_of_ble_eq_true rfl) dX4_hole_167 ⟨Nat.zero_le _, Nat.zero_le _⟩) hP hD hS hA [0, 1, 2, 3] [] [0, 1, 2, 3] rfl rfl rfl (by decide) rfl rfl (fun H locs hP hD hS => ?_)
                  refine lv_aload_n hx hb dX4_hole_170 rfl (lv_at hl 2 rfl) ?_
                  refine lv_iload hx hb dX4_hole_171 (lv_at hl 1 rfl) ?_
                  refine lv_bipush (v := 9) hx hb dX4_hole_173 (by decide) ?_
                  refine kI (wr := ([] : va_W)) (W1 := MDw cA cZ aM aS aI aK sf mf kf m0 m1 m2 m3 m4) (wsN := MDw cA cZ aM aS aI aK sf mf kf m0 m1 m2 m3 m4) (rV (As := [.int (g_X4_bookingAt sf x1 x2 v7), .int 9]) (rest := [.int (g_X4_of sf (g_X4_bookingAt sf x1 x2 v7) 8)]) (W0 := MDw cA cZ aM aS aI aK sf mf kf m0 m1 m2 m3 m4) ⟨hx, hb, hml, hown, hts⟩ (c_X4_of l D cA cZ aM aS aI aK H.size sf mf kf m0 m1 m2 m3 m4 (g_X4_bookingAt sf x1 x2 v7) 9 (show bok (g_X4_bookingAt sf x1 x2 v7) from by exact (bookingAt_ok hm).resolve_left (nlt_of_le c_5)) (show wok 9 from by exact ⟨by decide, by decide⟩)) (cwV 2 hts gX4_hole_X4_of rfl rfl rfl (by decide +kernel) ⟨Nat.le_of_ble_eq_true rfl, Nat.le_of_ble_eq_true rfl⟩) hP hD hK hN ([0, 1, 2, 3] : List Nat) rfl rfl 4 0 rfl rfl rfl hl.1 rfl (Nat.le_of_ble_eq_true rfl) dX4_hole_175 ⟨Nat.zero_le _, Nat.zero_le _⟩) hP hD hS hA [0, 1, 2, 3] [] [0, 1, 2, 3] rfl rfl rfl (by decide) rfl rfl (fun H locs hP hD hS => ?_)
                  refine lv_iadd hx hb dX4_hole_178 ?_
                  refine lv_istore (lv' := [(6, .int ((g_X4_of sf (g_X4_bookingAt sf x1 x2 v7) 8) + (g_X4_of sf (g_X4_bookingAt sf x1 x2 v7) 9))), (9, .int (sf 9)), (8, .int (g_X4_bookingAt sf x1 x2 v7)), (0, .ref aM), (1, .int x1), (2, .int x2), (3, .int x3), (4, .int x4), (5, .int v5), (7, .int v7)]) hx hb dX4_hole_179 hl (by decide) rfl (fun ls hl => ?_)
                  refine lv_iinc (v := (v7 + 1)) (lv' := [(7, .int (v7 + 1)), (6, .int ((g_X4_of sf (g_X4_bookingAt sf x1 x2 v7) 8) + (g_X4_of sf (g_X4_bookingAt sf x1 x2 v7) 9))), (9, .int (sf 9)), (8, .int (g_X4_bookingAt sf x1 x2 v7)), (0, .ref aM), (1, .int x1), (2, .int x2), (3, .int x3), (4, .int x4), (5, .int v5)]) hx hb dX4_hole_181 hl (k := 9) rfl rfl (by decide) rfl (fun ls hl => ?_)
                  refine lv_goto (tgt := 44) hx hb dX4_hole_184 (by decide) ?_
                  rw [g_X4_hole_L44, if_neg c_4, if_pos c_5, if_pos c_6, if_pos c_7] at hG
                  exact ih44 v5 ((g_X4_of sf (g_X4_bookingAt sf x1 x2 v7) 8) + (g_X4_of sf (g_X4_bookingAt sf x1 x2 v7) 9)) (v7 + 1) _ _ _ (by exact ms_up c_4 hm44) hG hP hD hS (lv_sub hl [4, 5, 6, 7, 8, 9, 1, 0] rfl)
                · refine lv_iload hx hb dX4_hole_118 (lv_at hl 0 rfl) ?_
                  refine lv_aload_n hx hb dX4_hole_120 rfl (lv_at hl 2 rfl) ?_
                  refine lv_iload hx hb dX4_hole_121 (lv_at hl 1 rfl) ?_
                  refine lv_bipush (v := 8) hx hb dX4_hole_123 (by decide) ?_
                  refine kI (wr := ([] : va_W)) (W1 := MDw cA cZ aM aS aI aK sf mf kf m0 m1 m2 m3 m4) (wsN := MDw cA cZ aM aS aI aK sf mf kf m0 m1 m2 m3 m4) (rV (As := [.int (g_X4_bookingAt sf x1 x2 v7), .int 8]) (rest := [.int (sf 9)]) (W0 := MDw cA cZ aM aS aI aK sf mf kf m0 m1 m2 m3 m4) ⟨hx, hb, hml, hown, hts⟩ (c_X4_of l D cA cZ aM aS aI aK H.size sf mf kf m0 m1 m2 m3 m4 (g_X4_bookingAt sf x1 x2 v7) 8 (show bok (g_X4_bookingAt sf x1 x2 v7) from by exact (bookingAt_ok hm).resolve_left (nlt_of_le c_5)) (show wok 8 from by exact ⟨by decide, by decide⟩)) (cwV 2 hts gX4_hole_X4_of rfl rfl rfl (by decide +kernel) ⟨Nat.le_of_ble_eq_true rfl, Nat.le_of_ble_eq_true rfl⟩) hP hD hK hN ([0, 1, 2, 3] : List Nat) rfl rfl 4 0 rfl rfl rfl hl.1 rfl (Nat.le_of_ble_eq_true rfl) dX4_hole_125 ⟨Nat.zero_le _, Nat.zero_le _⟩) hP hD hS hA [0, 1, 2, 3] [] [0, 1, 2, 3] rfl rfl rfl (by decide) rfl rfl (fun H locs hP hD hS => ?_)
                  refine lv_icmp_ge (tgt := 162) hx hb dX4_hole_128 (by decide) (fun h9 => absurd h9 c_7) (fun _ => ?_)
                  refine lv_iload hx hb dX4_hole_131 (lv_at hl 7 rfl) ?_
                  refine lv_iload_n hx hb dX4_hole_133 rfl (lv_at hl 5 rfl) ?_
                  refine lv_icmp_ne (tgt := 159) hx hb dX4_hole_134 (by decide) (fun c_8 => ?_) (fun c_8 => ?_)
                  · refine lv_iinc (v := (v5 + 1)) (lv' := [(5, .int (v5 + 1)), (9, .int (sf 9)), (8, .int (g_X4_bookingAt sf x1 x2 v7)), (0, .ref aM), (1, .int x1), (2, .int x2), (3, .int x3), (4, .int x4), (6, .int v6), (7, .int v7)]) hx hb dX4_hole_159 hl (k := 7) rfl rfl (by decide) rfl (fun ls hl => ?_)
                    refine lv_aload_n hx hb dX4_hole_162 rfl (lv_at hl 3 rfl) ?_
                    refine lv_iload hx hb dX4_hole_163 (lv_at hl 2 rfl) ?_
                    refine lv_bipush (v := 8) hx hb dX4_hole_165 (by decide) ?_
                    refine kI (wr := ([] : va_W)) (W1 := MDw cA cZ aM aS aI aK sf mf kf m0 m1 m2 m3 m4) (wsN := MDw cA cZ aM aS aI aK sf mf kf m0 m1 m2 m3 m4) (rV (As := [.int (g_X4_bookingAt sf x1 x2 v7), .int 8]) (rest := []) (W0 := MDw cA cZ aM aS aI aK sf mf kf m0 m1 m2 m3 m4) ⟨hx, hb, hml, hown, hts⟩ (c_X4_of l D cA cZ aM aS aI aK H.size sf mf kf m0 m1 m2 m3 m4 (g_X4_bookingAt sf x1 x2 v7) 8 (show bok (g_X4_bookingAt sf x1 x2 v7) from by exact (bookingAt_ok hm).resolve_left (nlt_of_le c_5)) (show wok 8 from by exact ⟨by decide, by decide⟩)) (cwV 2 hts gX4_hole_X4_of rfl rfl rfl (by decide +kernel) ⟨Nat.le_of_ble_eq_true rfl, Nat.le_of_ble_eq_true rfl⟩) hP hD hK hN ([0, 1, 2, 3] : List Nat) rfl rfl 4 0 rfl rfl rfl hl.1 rfl (Nat.le_of_ble_eq_true rfl) dX4_hole_167 ⟨Nat.zero_le _, Nat.zero_le _⟩) hP hD hS hA [0, 1, 2, 3] [] [0, 1, 2, 3] rfl rfl rfl (by decide) rfl rfl (fun H locs hP hD hS => ?_)
                    refine lv_aload_n hx hb dX4_hole_170 rfl (lv_at hl 3 rfl) ?_
                    refine lv_iload hx hb dX4_hole_171 (lv_at hl 2 rfl) ?_
                    refine lv_bipush (v := 9) hx hb dX4_hole_173 (by decide) ?_
                    refine kI (wr := ([] : va_W)) (W1 := MDw cA cZ aM aS aI aK sf mf kf m0 m1 m2 m3 m4) (wsN := MDw cA cZ aM aS aI aK sf mf kf m0 m1 m2 m3 m4) (rV (As := [.int (g_X4_bookingAt sf x1 x2 v7), .int 9]) (rest := [.int (g_X4_of sf (g_X4_bookingAt sf x1 x2 v7) 8)]) (W0 := MDw cA cZ aM aS aI aK sf mf kf m0 m1 m2 m3 m4) ⟨hx, hb, hml, hown, hts⟩ (c_X4_of l D cA cZ aM aS aI aK H.size sf mf kf m0 m1 m2 m3 m4 (g_X4_bookingAt sf x1 x2 v7) 9 (show bok (g_X4_bookingAt sf x1 x2 v7) from by exact (bookingAt_ok hm).resolve_left (nlt_of_le c_5)) (show wok 9 from by exact ⟨by decide, by decide⟩)) (cwV 2 hts gX4_hole_X4_of rfl rfl rfl (by decide +kernel) ⟨Nat.le_of_ble_eq_true rfl, Nat.le_of_ble_eq_true rfl⟩) hP hD hK hN ([0, 1, 2, 3] : List Nat) rfl rfl 4 0 rfl rfl rfl hl.1 rfl (Nat.le_of_ble_eq_true rfl) dX4_hole_175 ⟨Nat.zero_le _, Nat.zero_le _⟩) hP hD hS hA [0, 1, 2, 3] [] [0, 1, 2, 3] rfl rfl rfl (by decide) rfl rfl (fun H locs hP hD hS => ?_)
                    refine lv_iadd hx hb dX4_hole_178 ?_
                    refine lv_istore (lv' := [(6, .int ((g_X4_of sf (g_X4_bookingAt sf x1 x2 v7) 8) + (g_X4_of sf (g_X4_bookingAt sf x1 x2 v7) 9))), (5, .int (v5 + 1)), (9, .int (sf 9)), (8, .int (g_X4_bookingAt sf x1 x2 v7)), (0, .ref aM), (1, .int x1), (2, .int x2), (3, .int x3), (4, .int x4), (7, .int v7)]) hx hb dX4_hole_179 hl (by decide) rfl (fun ls hl => ?_)
                    refine lv_iinc (v := (v7 + 1)) (lv' := [(7, .int (v7 + 1)), (6, .int ((g_X4_of sf (g_X4_bookingAt sf x1 x2 v7) 8) + (g_X4_of sf (g_X4_bookingAt sf x1 x2 v7) 9))), (5, .int (v5 + 1)), (9, .int (sf 9)), (8, .int (g_X4_bookingAt sf x1 x2 v7)), (0, .ref aM), (1, .int x1), (2, .int x2), (3, .int x3), (4, .int x4)]) hx hb dX4_hole_181 hl (k := 9) rfl rfl (by decide) rfl (fun ls hl => ?_)
                    refine lv_goto (tgt := 44) hx hb dX4_hole_184 (by decide) ?_
                    rw [g_X4_hole_L44, if_neg c_4, if_pos c_5, if_pos c_6, if_neg c_7, if_neg c_8] at hG
                    exact ih44 (v5 + 1) ((g_X4_of sf (g_X4_bookingAt sf x1 x2 v7) 8) + (g_X4_of sf (g_X4_bookingAt sf x1 x2 v7) 9)) (v7 + 1) _ _ _ (by exact ms_up c_4 hm44) hG hP hD hS (lv_sub hl [5, 6, 7, 8, 9, 2, 1, 0] rfl)
                  · refine lv_iload hx hb dX4_hole_137 (lv_at hl 6 rfl) ?_
                    refine lv_if_ne (tgt := 147) hx hb dX4_hole_139 (by decide) (fun c_9 => ?_) (fun c_9 => ?_)
                    · refine lv_aload_n hx hb dX4_hole_147 rfl (lv_at hl 2 rfl) ?_
                      refine lv_iload hx hb dX4_hole_148 (lv_at hl 1 rfl) ?_
                      refine lv_bipush (v := 8) hx hb dX4_hole_150 (by decide) ?_
                      refine kI (wr := ([] : va_W)) (W1 := MDw cA cZ aM aS aI aK sf mf kf m0 m1 m2 m3 m4) (wsN := MDw cA cZ aM aS aI aK sf mf kf m0 m1 m2 m3 m4) (rV (As := [.int (g_X4_bookingAt sf x1 x2 v7), .int 8]) (rest := []) (W0 := MDw cA cZ aM aS aI aK sf mf kf m0 m1 m2 m3 m4) ⟨hx, hb, hml, hown, hts⟩ (c_X4_of l D cA cZ aM aS aI aK H.size sf mf kf m0 m1 m2 m3 m4 (g_X4_bookingAt sf x1 x2 v7) 8 (show bok (g_X4_bookingAt sf x1 x2 v7) from by exact (bookingAt_ok hm).resolve_left (nlt_of_le c_5)) (show wok 8 from by exact ⟨by decide, by decide⟩)) (cwV 2 hts gX4_hole_X4_of rfl rfl rfl (by decide +kernel) ⟨Nat.le_of_ble_eq_true rfl, Nat.le_of_ble_eq_true rfl⟩) hP hD hK hN ([0, 1, 2, 3] : List Nat) rfl rfl 4 0 rfl rfl rfl hl.1 rfl (Nat.le_of_ble_eq_true rfl) dX4_hole_152 ⟨Nat.zero_le _, Nat.zero_le _⟩) hP hD hS hA [0, 1, 2, 3] [] [0, 1, 2, 3] rfl rfl rfl (by decide) rfl rfl (fun H locs hP hD hS => ?_)
                      refine lv_iload hx hb dX4_hole_155 (lv_at hl 0 rfl) ?_
                      refine lv_isub hx hb dX4_hole_157 ?_
                      rw [g_X4_hole_L44, if_neg c_4, if_pos c_5, if_pos c_6, if_neg c_7, if_pos c_8, if_neg c_9] at hG
                      rw [hG]
                      exact W.iret (v := ((g_X4_of sf (g_X4_bookingAt sf x1 x2 v7) 8) - (sf 9))) hx hb hr (fun t ht hW => ⟨⟨_, (), rfl, rfl, by rw [ht]; exact hP, va_K.moved hW.alike hK, hD⟩, hS.F ht⟩) hS.2.2 dX4_hole_158
                    · refine lv_iload hx hb dX4_hole_142 (lv_at hl 0 rfl) ?_
                      refine lv_goto (tgt := 158) hx hb dX4_hole_144 (by decide) ?_
                      rw [g_X4_hole_L44, if_neg c_4, if_pos c_5, if_pos c_6, if_neg c_7, if_pos c_8, if_pos c_9] at hG
                      rw [hG]
                      exact W.iret (v := (sf 9)) hx hb hr (fun t ht hW => ⟨⟨_, (), rfl, rfl, by rw [ht]; exact hP, va_K.moved hW.alike hK, hD⟩, hS.F ht⟩) hS.2.2 dX4_hole_158
              · refine lv_iload hx hb dX4_hole_86 (lv_at hl 7 rfl) ?_
                refine lv_goto (tgt := 98) hx hb dX4_hole_88 (by decide) ?_
                refine lv_istore (lv' := [(9, .int v6), (8, .int (g_X4_bookingAt sf x1 x2 v7)), (0, .ref aM), (1, .int x1), (2, .int x2), (3, .int x3), (4, .int x4), (5, .int v5), (6, .int v6), (7, .int v7)]) hx hb dX4_hole_98 hl (by decide) rfl (fun ls hl => ?_)
                refine lv_aload_n hx hb dX4_hole_100 rfl (lv_at hl 2 rfl) ?_
                refine lv_iload hx hb dX4_hole_101 (lv_at hl 1 rfl) ?_
                refine lv_bipush (v := 8) hx hb dX4_hole_103 (by decide) ?_
                refine kI (wr := ([] : va_W)) (W1 := MDw cA cZ aM aS aI aK sf mf kf m0 m1 m2 m3 m4) (wsN := MDw cA cZ aM aS aI aK sf mf kf m0 m1 m2 m3 m4) (rV (As := [.int (g_X4_bookingAt sf x1 x2 v7), .int 8]) (rest := []) (W0 := MDw cA cZ aM aS aI aK sf mf kf m0 m1 m2 m3 m4) ⟨hx, hb, hml, hown, hts⟩ (c_X4_of l D cA cZ aM aS aI aK H.size sf mf kf m0 m1 m2 m3 m4 (g_X4_bookingAt sf x1 x2 v7) 8 (show bok (g_X4_bookingAt sf x1 x2 v7) from by exact (bookingAt_ok hm).resolve_left (nlt_of_le c_5)) (show wok 8 from by exact ⟨by decide, by decide⟩)) (cwV 2 hts gX4_hole_X4_of rfl rfl rfl (by decide +kernel) ⟨Nat.le_of_ble_eq_true rfl, Nat.le_of_ble_eq_true rfl⟩) hP hD hK hN ([0, 1, 2, 3] : List Nat) rfl rfl 4 0 rfl rfl rfl hl.1 rfl (Nat.le_of_ble_eq_true rfl) dX4_hole_105 ⟨Nat.zero_le _, Nat.zero_le _⟩) hP hD hS hA [0, 1, 2, 3] [] [0, 1, 2, 3] rfl rfl rfl (by decide) rfl rfl (fun H locs hP hD hS => ?_)
                refine lv_aload_n hx hb dX4_hole_108 rfl (lv_at hl 2 rfl) ?_
                refine va_get (D := D) (ci := 4) (v := .ref aS) (C := RX4) (T := TX4) (N := 8) hx hb hts iX4 hown hK hP 0 rfl rfl 0 (by decide) (hts (.fieldLink RX4 7 "LightBurstsModel" "state" "[I") (List.mem_of_getElem? (i := 1) rfl)) (fun _ h9 => h9) rfl dX4_hole_109 ?_
                refine lv_bipush (v := 9) hx hb dX4_hole_112 (by decide) ?_
                refine va_iald hx hb hK hP 1 0 rfl rfl (by unfold vp_in; decide) dX4_hole_114 ?_
                refine lv_eqi (sf 9) rfl ?_
                refine lv_icmp_le (tgt := 162) hx hb dX4_hole_115 (by decide) (fun c_10 => ?_) (fun c_10 => ?_)
                · refine lv_aload_n hx hb dX4_hole_162 rfl (lv_at hl 2 rfl) ?_
                  refine lv_iload hx hb dX4_hole_163 (lv_at hl 1 rfl) ?_
                  refine lv_bipush (v := 8) hx hb dX4_hole_165 (by decide) ?_
                  refine kI (wr := ([] : va_W)) (W1 := MDw cA cZ aM aS aI aK sf mf kf m0 m1 m2 m3 m4) (wsN := MDw cA cZ aM aS aI aK sf mf kf m0 m1 m2 m3 m4) (rV (As := [.int (g_X4_bookingAt sf x1 x2 v7), .int 8]) (rest := []) (W0 := MDw cA cZ aM aS aI aK sf mf kf m0 m1 m2 m3 m4) ⟨hx, hb, hml, hown, hts⟩ (c_X4_of l D cA cZ aM aS aI aK H.size sf mf kf m0 m1 m2 m3 m4 (g_X4_bookingAt sf x1 x2 v7) 8 (show bok (g_X4_bookingAt sf x1 x2 v7) from by exact (bookingAt_ok hm).resolve_left (nlt_of_le c_5)) (show wok 8 from by exact ⟨by decide, by decide⟩)) (cwV 2 hts gX4_hole_X4_of rfl rfl rfl (by decide +kernel) ⟨Nat.le_of_ble_eq_true rfl, Nat.le_of_ble_eq_true rfl⟩) hP hD hK hN ([0, 1, 2, 3] : List Nat) rfl rfl 4 0 rfl rfl rfl hl.1 rfl (Nat.le_of_ble_eq_true rfl) dX4_hole_167 ⟨Nat.zero_le _, Nat.zero_le _⟩) hP hD hS hA [0, 1, 2, 3] [] [0, 1, 2, 3] rfl rfl rfl (by decide) rfl rfl (fun H locs hP hD hS => ?_)
                  refine lv_aload_n hx hb dX4_hole_170 rfl (lv_at hl 2 rfl) ?_
                  refine lv_iload hx hb dX4_hole_171 (lv_at hl 1 rfl) ?_
                  refine lv_bipush (v := 9) hx hb dX4_hole_173 (by decide) ?_
                  refine kI (wr := ([] : va_W)) (W1 := MDw cA cZ aM aS aI aK sf mf kf m0 m1 m2 m3 m4) (wsN := MDw cA cZ aM aS aI aK sf mf kf m0 m1 m2 m3 m4) (rV (As := [.int (g_X4_bookingAt sf x1 x2 v7), .int 9]) (rest := [.int (g_X4_of sf (g_X4_bookingAt sf x1 x2 v7) 8)]) (W0 := MDw cA cZ aM aS aI aK sf mf kf m0 m1 m2 m3 m4) ⟨hx, hb, hml, hown, hts⟩ (c_X4_of l D cA cZ aM aS aI aK H.size sf mf kf m0 m1 m2 m3 m4 (g_X4_bookingAt sf x1 x2 v7) 9 (show bok (g_X4_bookingAt sf x1 x2 v7) from by exact (bookingAt_ok hm).resolve_left (nlt_of_le c_5)) (show wok 9 from by exact ⟨by decide, by decide⟩)) (cwV 2 hts gX4_hole_X4_of rfl rfl rfl (by decide +kernel) ⟨Nat.le_of_ble_eq_true rfl, Nat.le_of_ble_eq_true rfl⟩) hP hD hK hN ([0, 1, 2, 3] : List Nat) rfl rfl 4 0 rfl rfl rfl hl.1 rfl (Nat.le_of_ble_eq_true rfl) dX4_hole_175 ⟨Nat.zero_le _, Nat.zero_le _⟩) hP hD hS hA [0, 1, 2, 3] [] [0, 1, 2, 3] rfl rfl rfl (by decide) rfl rfl (fun H locs hP hD hS => ?_)
                  refine lv_iadd hx hb dX4_hole_178 ?_
                  refine lv_istore (lv' := [(6, .int ((g_X4_of sf (g_X4_bookingAt sf x1 x2 v7) 8) + (g_X4_of sf (g_X4_bookingAt sf x1 x2 v7) 9))), (9, .int v6), (8, .int (g_X4_bookingAt sf x1 x2 v7)), (0, .ref aM), (1, .int x1), (2, .int x2), (3, .int x3), (4, .int x4), (5, .int v5), (7, .int v7)]) hx hb dX4_hole_179 hl (by decide) rfl (fun ls hl => ?_)
                  refine lv_iinc (v := (v7 + 1)) (lv' := [(7, .int (v7 + 1)), (6, .int ((g_X4_of sf (g_X4_bookingAt sf x1 x2 v7) 8) + (g_X4_of sf (g_X4_bookingAt sf x1 x2 v7) 9))), (9, .int v6), (8, .int (g_X4_bookingAt sf x1 x2 v7)), (0, .ref aM), (1, .int x1), (2, .int x2), (3, .int x3), (4, .int x4), (5, .int v5)]) hx hb dX4_hole_181 hl (k := 9) rfl rfl (by decide) rfl (fun ls hl => ?_)
                  refine lv_goto (tgt := 44) hx hb dX4_hole_184 (by decide) ?_
                  rw [g_X4_hole_L44, if_neg c_4, if_pos c_5, if_neg c_6, if_pos c_10] at hG
                  exact ih44 v5 ((g_X4_of sf (g_X4_bookingAt sf x1 x2 v7) 8) + (g_X4_of sf (g_X4_bookingAt sf x1 x2 v7) 9)) (v7 + 1) _ _ _ (by exact ms_up c_4 hm44) hG hP hD hS (lv_sub hl [4, 5, 6, 7, 8, 9, 1, 0] rfl)
                · refine lv_iload hx hb dX4_hole_118 (lv_at hl 0 rfl) ?_
                  refine lv_aload_n hx hb dX4_hole_120 rfl (lv_at hl 2 rfl) ?_
                  refine lv_iload hx hb dX4_hole_121 (lv_at hl 1 rfl) ?_
                  refine lv_bipush (v := 8) hx hb dX4_hole_123 (by decide) ?_
                  refine kI (wr := ([] : va_W)) (W1 := MDw cA cZ aM aS aI aK sf mf kf m0 m1 m2 m3 m4) (wsN := MDw cA cZ aM aS aI aK sf mf kf m0 m1 m2 m3 m4) (rV (As := [.int (g_X4_bookingAt sf x1 x2 v7), .int 8]) (rest := [.int v6]) (W0 := MDw cA cZ aM aS aI aK sf mf kf m0 m1 m2 m3 m4) ⟨hx, hb, hml, hown, hts⟩ (c_X4_of l D cA cZ aM aS aI aK H.size sf mf kf m0 m1 m2 m3 m4 (g_X4_bookingAt sf x1 x2 v7) 8 (show bok (g_X4_bookingAt sf x1 x2 v7) from by exact (bookingAt_ok hm).resolve_left (nlt_of_le c_5)) (show wok 8 from by exact ⟨by decide, by decide⟩)) (cwV 2 hts gX4_hole_X4_of rfl rfl rfl (by decide +kernel) ⟨Nat.le_of_ble_eq_true rfl, Nat.le_of_ble_eq_true rfl⟩) hP hD hK hN ([0, 1, 2, 3] : List Nat) rfl rfl 4 0 rfl rfl rfl hl.1 rfl (Nat.le_of_ble_eq_true rfl) dX4_hole_125 ⟨Nat.zero_le _, Nat.zero_le _⟩) hP hD hS hA [0, 1, 2, 3] [] [0, 1, 2, 3] rfl rfl rfl (by decide) rfl rfl (fun H locs hP hD hS => ?_)
                  refine lv_icmp_ge (tgt := 162) hx hb dX4_hole_128 (by decide) (fun c_11 => ?_) (fun c_11 => ?_)
                  · refine lv_aload_n hx hb dX4_hole_162 rfl (lv_at hl 2 rfl) ?_
                    refine lv_iload hx hb dX4_hole_163 (lv_at hl 1 rfl) ?_
                    refine lv_bipush (v := 8) hx hb dX4_hole_165 (by decide) ?_
                    refine kI (wr := ([] : va_W)) (W1 := MDw cA cZ aM aS aI aK sf mf kf m0 m1 m2 m3 m4) (wsN := MDw cA cZ aM aS aI aK sf mf kf m0 m1 m2 m3 m4) (rV (As := [.int (g_X4_bookingAt sf x1 x2 v7), .int 8]) (rest := []) (W0 := MDw cA cZ aM aS aI aK sf mf kf m0 m1 m2 m3 m4) ⟨hx, hb, hml, hown, hts⟩ (c_X4_of l D cA cZ aM aS aI aK H.size sf mf kf m0 m1 m2 m3 m4 (g_X4_bookingAt sf x1 x2 v7) 8 (show bok (g_X4_bookingAt sf x1 x2 v7) from by exact (bookingAt_ok hm).resolve_left (nlt_of_le c_5)) (show wok 8 from by exact ⟨by decide, by decide⟩)) (cwV 2 hts gX4_hole_X4_of rfl rfl rfl (by decide +kernel) ⟨Nat.le_of_ble_eq_true rfl, Nat.le_of_ble_eq_true rfl⟩) hP hD hK hN ([0, 1, 2, 3] : List Nat) rfl rfl 4 0 rfl rfl rfl hl.1 rfl (Nat.le_of_ble_eq_true rfl) dX4_hole_167 ⟨Nat.zero_le _, Nat.zero_le _⟩) hP hD hS hA [0, 1, 2, 3] [] [0, 1, 2, 3] rfl rfl rfl (by decide) rfl rfl (fun H locs hP hD hS => ?_)
                    refine lv_aload_n hx hb dX4_hole_170 rfl (lv_at hl 2 rfl) ?_
                    refine lv_iload hx hb dX4_hole_171 (lv_at hl 1 rfl) ?_
                    refine lv_bipush (v := 9) hx hb dX4_hole_173 (by decide) ?_
                    refine kI (wr := ([] : va_W)) (W1 := MDw cA cZ aM aS aI aK sf mf kf m0 m1 m2 m3 m4) (wsN := MDw cA cZ aM aS aI aK sf mf kf m0 m1 m2 m3 m4) (rV (As := [.int (g_X4_bookingAt sf x1 x2 v7), .int 9]) (rest := [.int (g_X4_of sf (g_X4_bookingAt sf x1 x2 v7) 8)]) (W0 := MDw cA cZ aM aS aI aK sf mf kf m0 m1 m2 m3 m4) ⟨hx, hb, hml, hown, hts⟩ (c_X4_of l D cA cZ aM aS aI aK H.size sf mf kf m0 m1 m2 m3 m4 (g_X4_bookingAt sf x1 x2 v7) 9 (show bok (g_X4_bookingAt sf x1 x2 v7) from by exact (bookingAt_ok hm).resolve_left (nlt_of_le c_5)) (show wok 9 from by exact ⟨by decide, by decide⟩)) (cwV 2 hts gX4_hole_X4_of rfl rfl rfl (by decide +kernel) ⟨Nat.le_of_ble_eq_true rfl, Nat.le_of_ble_eq_true rfl⟩) hP hD hK hN ([0, 1, 2, 3] : List Nat) rfl rfl 4 0 rfl rfl rfl hl.1 rfl (Nat.le_of_ble_eq_true rfl) dX4_hole_175 ⟨Nat.zero_le _, Nat.zero_le _⟩) hP hD hS hA [0, 1, 2, 3] [] [0, 1, 2, 3] rfl rfl rfl (by decide) rfl rfl (fun H locs hP hD hS => ?_)
                    refine lv_iadd hx hb dX4_hole_178 ?_
                    refine lv_istore (lv' := [(6, .int ((g_X4_of sf (g_X4_bookingAt sf x1 x2 v7) 8) + (g_X4_of sf (g_X4_bookingAt sf x1 x2 v7) 9))), (9, .int v6), (8, .int (g_X4_bookingAt sf x1 x2 v7)), (0, .ref aM), (1, .int x1), (2, .int x2), (3, .int x3), (4, .int x4), (5, .int v5), (7, .int v7)]) hx hb dX4_hole_179 hl (by decide) rfl (fun ls hl => ?_)
                    refine lv_iinc (v := (v7 + 1)) (lv' := [(7, .int (v7 + 1)), (6, .int ((g_X4_of sf (g_X4_bookingAt sf x1 x2 v7) 8) + (g_X4_of sf (g_X4_bookingAt sf x1 x2 v7) 9))), (9, .int v6), (8, .int (g_X4_bookingAt sf x1 x2 v7)), (0, .ref aM), (1, .int x1), (2, .int x2), (3, .int x3), (4, .int x4), (5, .int v5)]) hx hb dX4_hole_181 hl (k := 9) rfl rfl (by decide) rfl (fun ls hl => ?_)
                    refine lv_goto (tgt := 44) hx hb dX4_hole_184 (by decide) ?_
                    rw [g_X4_hole_L44, if_neg c_4, if_pos c_5, if_neg c_6, if_neg c_10, if_pos c_11] at hG
                    exact ih44 v5 ((g_X4_of sf (g_X4_bookingAt sf x1 x2 v7) 8) + (g_X4_of sf (g_X4_bookingAt sf x1 x2 v7) 9)) (v7 + 1) _ _ _ (by exact ms_up c_4 hm44) hG hP hD hS (lv_sub hl [4, 5, 6, 7, 8, 9, 1, 0] rfl)
                  · refine lv_iload hx hb dX4_hole_131 (lv_at hl 7 rfl) ?_
                    refine lv_iload_n hx hb dX4_hole_133 rfl (lv_at hl 5 rfl) ?_
                    refine lv_icmp_ne (tgt := 159) hx hb dX4_hole_134 (by decide) (fun c_12 => ?_) (fun c_12 => ?_)
                    · refine lv_iinc (v := (v5 + 1)) (lv' := [(5, .int (v5 + 1)), (9, .int v6), (8, .int (g_X4_bookingAt sf x1 x2 v7)), (0, .ref aM), (1, .int x1), (2, .int x2), (3, .int x3), (4, .int x4), (6, .int v6), (7, .int v7)]) hx hb dX4_hole_159 hl (k := 7) rfl rfl (by decide) rfl (fun ls hl => ?_)
                      refine lv_aload_n hx hb dX4_hole_162 rfl (lv_at hl 3 rfl) ?_
                      refine lv_iload hx hb dX4_hole_163 (lv_at hl 2 rfl) ?_
                      refine lv_bipush (v := 8) hx hb dX4_hole_165 (by decide) ?_
                      refine kI (wr := ([] : va_W)) (W1 := MDw cA cZ aM aS aI aK sf mf kf m0 m1 m2 m3 m4) (wsN := MDw cA cZ aM aS aI aK sf mf kf m0 m1 m2 m3 m4) (rV (As := [.int (g_X4_bookingAt sf x1 x2 v7), .int 8]) (rest := []) (W0 := MDw cA cZ aM aS aI aK sf mf kf m0 m1 m2 m3 m4) ⟨hx, hb, hml, hown, hts⟩ (c_X4_of l D cA cZ aM aS aI aK H.size sf mf kf m0 m1 m2 m3 m4 (g_X4_bookingAt sf x1 x2 v7) 8 (show bok (g_X4_bookingAt sf x1 x2 v7) from by exact (bookingAt_ok hm).resolve_left (nlt_of_le c_5)) (show wok 8 from by exact ⟨by decide, by decide⟩)) (cwV 2 hts gX4_hole_X4_of rfl rfl rfl (by decide +kernel) ⟨Nat.le_of_ble_eq_true rfl, Nat.le_of_ble_eq_true rfl⟩) hP hD hK hN ([0, 1, 2, 3] : List Nat) rfl rfl 4 0 rfl rfl rfl hl.1 rfl (Nat.le_of_ble_eq_true rfl) dX4_hole_167 ⟨Nat.zero_le _, Nat.zero_le _⟩) hP hD hS hA [0, 1, 2, 3] [] [0, 1, 2, 3] rfl rfl rfl (by decide) rfl rfl (fun H locs hP hD hS => ?_)
                      refine lv_aload_n hx hb dX4_hole_170 rfl (lv_at hl 3 rfl) ?_
                      refine lv_iload hx hb dX4_hole_171 (lv_at hl 2 rfl) ?_
                      refine lv_bipush (v := 9) hx hb dX4_hole_173 (by decide) ?_
                      refine kI (wr := ([] : va_W)) (W1 := MDw cA cZ aM aS aI aK sf mf kf m0 m1 m2 m3 m4) (wsN := MDw cA cZ aM aS aI aK sf mf kf m0 m1 m2 m3 m4) (rV (As := [.int (g_X4_bookingAt sf x1 x2 v7), .int 9]) (rest := [.int (g_X4_of sf (g_X4_bookingAt sf x1 x2 v7) 8)]) (W0 := MDw cA cZ aM aS aI aK sf mf kf m0 m1 m2 m3 m4) ⟨hx, hb, hml, hown, hts⟩ (c_X4_of l D cA cZ aM aS aI aK H.size sf mf kf m0 m1 m2 m3 m4 (g_X4_bookingAt sf x1 x2 v7) 9 (show bok (g_X4_bookingAt sf x1 x2 v7) from by exact (bookingAt_ok hm).resolve_left (nlt_of_le c_5)) (show wok 9 from by exact ⟨by decide, by decide⟩)) (cwV 2 hts gX4_hole_X4_of rfl rfl rfl (by decide +kernel) ⟨Nat.le_of_ble_eq_true rfl, Nat.le_of_ble_eq_true rfl⟩) hP hD hK hN ([0, 1, 2, 3] : List Nat) rfl rfl 4 0 rfl rfl rfl hl.1 rfl (Nat.le_of_ble_eq_true rfl) dX4_hole_175 ⟨Nat.zero_le _, Nat.zero_le _⟩) hP hD hS hA [0, 1, 2, 3] [] [0, 1, 2, 3] rfl rfl rfl (by decide) rfl rfl (fun H locs hP hD hS => ?_)
                      refine lv_iadd hx hb dX4_hole_178 ?_
                      refine lv_istore (lv' := [(6, .int ((g_X4_of sf (g_X4_bookingAt sf x1 x2 v7) 8) + (g_X4_of sf (g_X4_bookingAt sf x1 x2 v7) 9))), (5, .int (v5 + 1)), (9, .int v6), (8, .int (g_X4_bookingAt sf x1 x2 v7)), (0, .ref aM), (1, .int x1), (2, .int x2), (3, .int x3), (4, .int x4), (7, .int v7)]) hx hb dX4_hole_179 hl (by decide) rfl (fun ls hl => ?_)
                      refine lv_iinc (v := (v7 + 1)) (lv' := [(7, .int (v7 + 1)), (6, .int ((g_X4_of sf (g_X4_bookingAt sf x1 x2 v7) 8) + (g_X4_of sf (g_X4_bookingAt sf x1 x2 v7) 9))), (5, .int (v5 + 1)), (9, .int v6), (8, .int (g_X4_bookingAt sf x1 x2 v7)), (0, .ref aM), (1, .int x1), (2, .int x2), (3, .int x3), (4, .int x4)]) hx hb dX4_hole_181 hl (k := 9) rfl rfl (by decide) rfl (fun ls hl => ?_)
                      refine lv_goto (tgt := 44) hx hb dX4_hole_184 (by decide) ?_
                      rw [g_X4_hole_L44, if_neg c_4, if_pos c_5, if_neg c_6, if_neg c_10, if_neg c_11, if_neg c_12] at hG
                      exact ih44 (v5 + 1) ((g_X4_of sf (g_X4_bookingAt sf x1 x2 v7) 8) + (g_X4_of sf (g_X4_bookingAt sf x1 x2 v7) 9)) (v7 + 1) _ _ _ (by exact ms_up c_4 hm44) hG hP hD hS (lv_sub hl [5, 6, 7, 8, 9, 2, 1, 0] rfl)
                    · refine lv_iload hx hb dX4_hole_137 (lv_at hl 6 rfl) ?_
                      refine lv_if_ne (tgt := 147) hx hb dX4_hole_139 (by decide) (fun c_13 => ?_) (fun c_13 => ?_)
                      · refine lv_aload_n hx hb dX4_hole_147 rfl (lv_at hl 2 rfl) ?_
                        refine lv_iload hx hb dX4_hole_148 (lv_at hl 1 rfl) ?_
                        refine lv_bipush (v := 8) hx hb dX4_hole_150 (by decide) ?_
                        refine kI (wr := ([] : va_W)) (W1 := MDw cA cZ aM aS aI aK sf mf kf m0 m1 m2 m3 m4) (wsN := MDw cA cZ aM aS aI aK sf mf kf m0 m1 m2 m3 m4) (rV (As := [.int (g_X4_bookingAt sf x1 x2 v7), .int 8]) (rest := []) (W0 := MDw cA cZ aM aS aI aK sf mf kf m0 m1 m2 m3 m4) ⟨hx, hb, hml, hown, hts⟩ (c_X4_of l D cA cZ aM aS aI aK H.size sf mf kf m0 m1 m2 m3 m4 (g_X4_bookingAt sf x1 x2 v7) 8 (show bok (g_X4_bookingAt sf x1 x2 v7) from by exact (bookingAt_ok hm).resolve_left (nlt_of_le c_5)) (show wok 8 from by exact ⟨by decide, by decide⟩)) (cwV 2 hts gX4_hole_X4_of rfl rfl rfl (by decide +kernel) ⟨Nat.le_of_ble_eq_true rfl, Nat.le_of_ble_eq_true rfl⟩) hP hD hK hN ([0, 1, 2, 3] : List Nat) rfl rfl 4 0 rfl rfl rfl hl.1 rfl (Nat.le_of_ble_eq_true rfl) dX4_hole_152 ⟨Nat.zero_le _, Nat.zero_le _⟩) hP hD hS hA [0, 1, 2, 3] [] [0, 1, 2, 3] rfl rfl rfl (by decide) rfl rfl (fun H locs hP hD hS => ?_)
                        refine lv_iload hx hb dX4_hole_155 (lv_at hl 0 rfl) ?_
                        refine lv_isub hx hb dX4_hole_157 ?_
                        rw [g_X4_hole_L44, if_neg c_4, if_pos c_5, if_neg c_6, if_neg c_10, if_neg c_11, if_pos c_12, if_neg c_13] at hG
                        rw [hG]
                        exact W.iret (v := ((g_X4_of sf (g_X4_bookingAt sf x1 x2 v7) 8) - v6)) hx hb hr (fun t ht hW => ⟨⟨_, (), rfl, rfl, by rw [ht]; exact hP, va_K.moved hW.alike hK, hD⟩, hS.F ht⟩) hS.2.2 dX4_hole_158
                      · refine lv_iload hx hb dX4_hole_142 (lv_at hl 0 rfl) ?_
                        refine lv_goto (tgt := 158) hx hb dX4_hole_144 (by decide) ?_
                        rw [g_X4_hole_L44, if_neg c_4, if_pos c_5, if_neg c_6, if_neg c_10, if_neg c_11, if_pos c_12, if_pos c_13] at hG
                        rw [hG]
                        exact W.iret (v := v6) hx hb hr (fun t ht hW => ⟨⟨_, (), rfl, rfl, by rw [ht]; exact hP, va_K.moved hW.alike hK, hD⟩, hS.F ht⟩) hS.2.2 dX4_hole_158
            · refine lv_bipush (v := (-6)) hx hb dX4_hole_71 (by decide) ?_
              rw [g_X4_hole_L44, if_neg c_4, if_neg c_5] at hG
              rw [hG]
              exact W.iret (v := (-6)) hx hb hr (fun t ht hW => ⟨⟨_, (), rfl, rfl, by rw [ht]; exact hP, va_K.moved hW.alike hK, hD⟩, hS.F ht⟩) hS.2.2 dX4_hole_73
      · refine lv_bipush (v := (-2)) hx hb dX4_hole_26 (by decide) ?_
        rw [g_X4_hole, if_neg c_1, if_neg c_2, if_pos c_3] at hG
        rw [hG]
        exact W.iret (v := (-2)) hx hb hr (fun t ht hW => ⟨⟨_, (), rfl, rfl, by rw [ht]; exact hP, va_K.moved hW.alike hK, hD⟩, hS.F ht⟩) hS.2.2 dX4_hole_28
    · refine lv_iconst (v := (-1)) hx hb dX4_hole_14 (by decide) ?_
      rw [g_X4_hole, if_neg c_1, if_pos c_2] at hG
      rw [hG]
      exact W.iret (v := (-1)) hx hb hr (fun t ht hW => ⟨⟨_, (), rfl, rfl, by rw [ht]; exact hP, va_K.moved hW.alike hK, hD⟩, hS.F ht⟩) hS.2.2 dX4_hole_15

def g_X4_common_L7 : Nat → Int32 → Int32 → Int32 → (Int32)
  | 0, _, _, _ => 0
  | n + 1, v2, v3, v4 => (if 100 ≤ v4 then v2 else (if v3 = 0 then v2 else (g_X4_common_L7 n v3 (v2 - v2 / v3 * v3) (v4 + 1))))
def g_X4_common (x0 : Int32) (x1 : Int32) : Int32 := (g_X4_common_L7 (((100 : Int32).toInt - ((0 : Int32)).toInt).toNat + 1) x0 x1 0)
set_option maxHeartbeats 4000000 in
set_option maxRecDepth 100000 in
theorem c_X4_common (l : Launch) (D : va_G) (cA cZ : ClassId) (szz : Nat) (x0 : Int32) (x1 : Int32) : MetI l yX4_common wsX4_common 0 0 D (tyA cA cZ) [.int x0, .int x1] (([] : va_W)) szz (g_X4_common x0 x1) (([] : va_W)) := by
  refine Met.ofW (cc := cX4_common) (maxL := 6) (ret := (some .int)) (by decide) rfl ?_
  intro p e s m args below meth c s₁ B hml hv
  obtain ⟨rfl, hsz, hP, hK, hD0, hN⟩ := hv
  have hx := B.exec
  have hb := B.bytes
  have hr := B.returns
  have hts := atoms_spec (ws := wsX4_common) B.pre
  have hown : s.vm.findClass RX4 = some m.cls := findClass_of_methodNamed B.named
  have hlocks := B.notSynchronized
  subst hsz
  have hD := hD0.self (sz := s.heap.size)
  generalize hAe : va_A (([] : va_W)) s.heap.size = A at hD ⊢
  have hA : ∀ q : Nat, s.heap.size ≤ q → A q := fun q h => by rw [← hAe]; exact Or.inr h
  have hS : va_S A s.heap s.heap [] := va_S.rf
  have hP : va_P D vwCl (([] : va_W)) s.heap := hP
  obtain ⟨G, hG⟩ : ∃ G, G = (g_X4_common x0 x1) := ⟨_, rfl⟩
  rw [← hG]
  have hl := lv_entry ([.int x0, .int x1]) (n := 6) (Nat.le_of_ble_eq_true rfl)
  rw [lg_entry_eq]
  generalize (lg_sl ([.int x0, .int x1]) ++ List.replicate (6 - (lg_sl ([.int x0, .int x1])).length) Slot.unset).toArray = ls at hl ⊢
  have hl : lv_has ls 6 [(0, .int x0), (1, .int x1)] := hl
  refine lv_iload_n hx hb dX4_common_0 rfl (lv_at hl 0 rfl) ?_
  refine lv_istore_n (lv' := [(2, .int x0), (0, .int x0), (1, .int x1)]) hx hb dX4_common_1 rfl hl (by decide) rfl (fun ls hl => ?_)
  refine lv_iload_n hx hb dX4_common_2 rfl (lv_at hl 2 rfl) ?_
  refine lv_istore_n (lv' := [(3, .int x1), (2, .int x0), (0, .int x0), (1, .int x1)]) hx hb dX4_common_3 rfl hl (by decide) rfl (fun ls hl => ?_)
  refine lv_iconst (v := 0) hx hb dX4_common_4 (by decide) ?_
  refine lv_istore (lv' := [(4, .int 0), (3, .int x1), (2, .int x0), (0, .int x0), (1, .int x1)]) hx hb dX4_common_5 hl (by decide) rfl (fun ls hl => ?_)
  rw [g_X4_common] at hG
  refine (?_ : ∀ (n : Nat) (v2 : Int32) (v3 : Int32) (v4 : Int32) (H : Heap) (locs : List Loc) (ls : Array Slot), ((100 : Int32).toInt - (v4).toInt).toNat < n → G = g_X4_common_L7 n v2 v3 v4 → va_P D vwCl (([] : va_W)) H → va_D A (([] : va_W)) → va_S A s.heap H locs → lv_has ls 6 [(0, .int x0), (1, .int x1), (2, .int v2), (3, .int v3), (4, .int v4)] → W p l e _ s m _ below meth c H locs _ _ _ (F0 m 7 ls [])) (((100 : Int32).toInt - ((0 : Int32)).toInt).toNat + 1) x0 x1 0 _ _ _ (Nat.lt_succ_self _) hG hP hD hS (lv_sub hl [3, 4, 2, 1, 0] rfl)
  clear hG hP hD hS hl
  intro n
  induction n with
  | zero => intros; omega
  | succ n7 ih7 =>
    intro v2 v3 v4 H locs ls hm7 hG hP hD hS hl
    refine lv_iload hx hb dX4_common_7 (lv_at hl 4 rfl) ?_
    refine lv_bipush (v := 100) hx hb dX4_common_9 (by decide) ?_
    refine lv_icmp_ge (tgt := 34) hx hb dX4_common_11 (by decide) (fun c_1 => ?_) (fun c_1 => ?_)
    · refine lv_iload_n hx hb dX4_common_34 rfl (lv_at hl 2 rfl) ?_
      rw [g_X4_common_L7, if_pos c_1] at hG
      rw [hG]
      exact W.iret (v := v2) hx hb hr (fun t ht hW => ⟨⟨_, (), rfl, rfl, by rw [ht]; exact hP, va_K.moved hW.alike hK, hD⟩, hS.F ht⟩) hS.2.2 dX4_common_35
    · refine lv_iload_n hx hb dX4_common_14 rfl (lv_at hl 3 rfl) ?_
      refine lv_if_eq (tgt := 34) hx hb dX4_common_15 (by decide) (fun c_2 => ?_) (fun c_2 => ?_)
      · refine lv_iload_n hx hb dX4_common_34 rfl (lv_at hl 2 rfl) ?_
        rw [g_X4_common_L7, if_neg c_1, if_pos c_2] at hG
        rw [hG]
        exact W.iret (v := v2) hx hb hr (fun t ht hW => ⟨⟨_, (), rfl, rfl, by rw [ht]; exact hP, va_K.moved hW.alike hK, hD⟩, hS.F ht⟩) hS.2.2 dX4_common_35
      · refine lv_iload_n hx hb dX4_common_18 rfl (lv_at hl 2 rfl) ?_
        refine lv_iload_n hx hb dX4_common_19 rfl (lv_at hl 3 rfl) ?_
        refine lv_irem hx hb dX4_common_20 (by first | assumption | exact div_ne (by assumption)) ?_
        refine lv_istore (lv' := [(5, .int (v2 - v2 / v3 * v3)), (0, .int x0), (1, .int x1), (2, .int v2), (3, .int v3), (4, .int v4)]) hx hb dX4_common_21 hl (by decide) rfl (fun ls hl => ?_)
        refine lv_iload_n hx hb dX4_common_23 rfl (lv_at hl 4 rfl) ?_
        refine lv_istore_n (lv' := [(2, .int v3), (5, .int (v2 - v2 / v3 * v3)), (0, .int x0), (1, .int x1), (3, .int v3), (4, .int v4)]) hx hb dX4_common_24 rfl hl (by decide) rfl (fun ls hl => ?_)
        refine lv_iload hx hb dX4_common_25 (lv_at hl 1 rfl) ?_
        refine lv_istore_n (lv' := [(3, .int (v2 - v2 / v3 * v3)), (2, .int v3), (5, .int (v2 - v2 / v3 * v3)), (0, .int x0), (1, .int x1), (4, .int v4)]) hx hb dX4_common_27 rfl hl (by decide) rfl (fun ls hl => ?_)
        refine lv_iinc (v := (v4 + 1)) (lv' := [(4, .int (v4 + 1)), (3, .int (v2 - v2 / v3 * v3)), (2, .int v3), (5, .int (v2 - v2 / v3 * v3)), (0, .int x0), (1, .int x1)]) hx hb dX4_common_28 hl (k := 5) rfl rfl (by decide) rfl (fun ls hl => ?_)
        refine lv_goto (tgt := 7) hx hb dX4_common_31 (by decide) ?_
        rw [g_X4_common_L7, if_neg c_1, if_neg c_2] at hG
        exact ih7 v3 (v2 - v2 / v3 * v3) (v4 + 1) _ _ _ (by exact ms_up c_1 hm7) hG hP hD hS (lv_sub hl [4, 5, 2, 1, 0] rfl)

theorem common_L_ne : ∀ (n : Nat) (x y k : Int32), ((100 : Int32).toInt - k.toInt).toNat < n → ¬ x = 0 → ¬ g_X4_common_L7 n x y k = 0 := by
  intro n
  induction n with
  | zero => intros; omega
  | succ n ih =>
    intro x y k hn hx
    rw [g_X4_common_L7]
    split
    · exact hx
    · rename_i c
      split
      · exact hx
      · rename_i c2
        exact ih _ _ _ (ms_up c hn) c2
theorem common_ne {a b : Int32} (h : ¬ b = 0) : ¬ g_X4_common a b = 0 := by
  unfold g_X4_common
  rw [g_X4_common_L7, if_neg (by decide), if_neg h]
  exact common_L_ne _ _ _ _ (by decide) h

def g_X4_tally_L37 (sf : (Nat → Int32)) (x1 : Int32) (x2 : Int32) : Nat → Int32 → Int32 → Int32 → Int32 → Int32 → (Int32)
  | 0, _, _, _, _, _ => 0
  | n + 1, v3, v4, v5, v6, v7 => (if (sf 10) ≤ v7 then (if 4 ≤ x2 then (if v4 = 0 then (-6) else (if x2 = 4 then ((v4 - v5) / (g_X4_common (v4 - v5) v4)) else (v4 / (g_X4_common (v4 - v5) v4)))) else (if x2 = 0 then v3 else (if x2 = 1 then v4 else (if x2 = 2 then v5 else v6)))) else (if (g_X4_of sf v7 2) = x1 then (if (g_X4_of sf v7 6) = 4 then (g_X4_tally_L37 sf x1 x2 n v3 v4 v5 v6 (v7 + 1)) else (if (g_X4_of sf v7 6) = 3 then (g_X4_tally_L37 sf x1 x2 n (v3 + 1) (v4 + (g_X4_of sf v7 4)) (v5 + (g_X4_of sf v7 9)) (v6 + 1) (v7 + 1)) else (g_X4_tally_L37 sf x1 x2 n (v3 + 1) (v4 + (g_X4_of sf v7 4)) (v5 + (g_X4_of sf v7 9)) (v6 + 0) (v7 + 1)))) else (g_X4_tally_L37 sf x1 x2 n v3 v4 v5 v6 (v7 + 1))))
def g_X4_tally (sf : (Nat → Int32)) (x1 : Int32) (x2 : Int32) : Int32 := (if (g_X4_in x1 0 2) = 0 then (-1) else (if (g_X4_in x2 0 5) = 0 then (-2) else (g_X4_tally_L37 sf x1 x2 ((((sf 10)).toInt - ((0 : Int32)).toInt).toNat + 1) 0 0 0 0 0)))
set_option maxHeartbeats 4000000 in
set_option maxRecDepth 100000 in
theorem c_X4_tally (l : Launch) (D : va_G) (cA cZ : ClassId) (aM : Nat) (aS : Nat) (aI : Nat) (aK : Nat) (szz : Nat) (sf : (Nat → Int32)) (mf : (Nat → Int32)) (kf : (Nat → Int32)) (m0 : Int32) (m1 : Int32) (m2 : Int32) (m3 : Int32) (m4 : Int32) (x1 : Int32) (x2 : Int32) (hm : (sf 10) ≤ 48) : MetI l yX4_tally wsX4_tally 2 43 D (tyA cA cZ) [.ref aM, .int x1, .int x2] (MDw cA cZ aM aS aI aK sf mf kf m0 m1 m2 m3 m4) szz (g_X4_tally sf x1 x2) (MDw cA cZ aM aS aI aK sf mf kf m0 m1 m2 m3 m4) := by
  refine Met.ofW (cc := cX4_tally) (maxL := 8) (ret := (some .int)) (by decide) rfl ?_
  intro p e s m args below meth c s₁ B hml hv
  obtain ⟨rfl, hsz, hP, hK, hD0, hN⟩ := hv
  have hx := B.exec
  have hb := B.bytes
  have hr := B.returns
  have hts := atoms_spec (ws := wsX4_tally) B.pre
  have hown : s.vm.findClass RX4 = some m.cls := findClass_of_methodNamed B.named
  have hlocks := B.notSynchronized
  have iX4 : ∀ w ∈ wsX40, w ∈ wsX4_tally := fun _ h => List.mem_cons_of_mem _ (List.mem_append_right _ h)
  subst hsz
  have hD := hD0.self (sz := s.heap.size)
  generalize hAe : va_A (MDw cA cZ aM aS aI aK sf mf kf m0 m1 m2 m3 m4) s.heap.size = A at hD ⊢
  have hA : ∀ q : Nat, s.heap.size ≤ q → A q := fun q h => by rw [← hAe]; exact Or.inr h
  have hS : va_S A s.heap s.heap [] := va_S.rf
  have hP : va_P D vwCl (MDw cA cZ aM aS aI aK sf mf kf m0 m1 m2 m3 m4) s.heap := hP
  obtain ⟨G, hG⟩ : ∃ G, G = (g_X4_tally sf x1 x2) := ⟨_, rfl⟩
  rw [← hG]
  have hl := lv_entry ([.ref aM, .int x1, .int x2]) (n := 8) (Nat.le_of_ble_eq_true rfl)
  rw [lg_entry_eq]
  generalize (lg_sl ([.ref aM, .int x1, .int x2]) ++ List.replicate (8 - (lg_sl ([.ref aM, .int x1, .int x2])).length) Slot.unset).toArray = ls at hl ⊢
  have hl : lv_has ls 8 [(0, .ref aM), (1, .int x1), (2, .int x2)] := hl
  refine lv_iload_n hx hb dX4_tally_0 rfl (lv_at hl 1 rfl) ?_
  refine lv_iconst (v := 0) hx hb dX4_tally_1 (by decide) ?_
  refine lv_iconst (v := 2) hx hb dX4_tally_2 (by decide) ?_
  refine kI (wr := MDw cA cZ aM aS aI aK sf mf kf m0 m1 m2 m3 m4) (W1 := ([] : va_W)) (wsN := MDw cA cZ aM aS aI aK sf mf kf m0 m1 m2 m3 m4) (rS (As := [.int x1, .int 0, .int 2]) (rest := []) (W0 := ([] : va_W)) ⟨hx, hb, hml, hown, hts⟩ (c_X4_in l D cA cZ s.heap.size x1 0 2) (cwS 3 hts gX4_tally_X4_in rfl rfl rfl (by decide +kernel) ⟨Nat.le_of_ble_eq_true rfl, Nat.le_of_ble_eq_true rfl⟩) hP hD hK hN ([] : List Nat) rfl rfl rfl hl.1 rfl (Nat.le_of_ble_eq_true rfl) dX4_tally_3 ⟨Nat.zero_le _, Nat.zero_le _⟩) hP hD hS hA [] [0, 1, 2, 3] [0, 1, 2, 3] rfl rfl rfl (by decide) rfl rfl (fun H locs hP hD hS => ?_)
  refine lv_if_ne (tgt := 11) hx hb dX4_tally_6 (by decide) (fun c_1 => ?_) (fun c_1 => ?_)
  · refine lv_iload_n hx hb dX4_tally_11 rfl (lv_at hl 2 rfl) ?_
    refine lv_iconst (v := 0) hx hb dX4_tally_12 (by decide) ?_
    refine lv_iconst (v := 5) hx hb dX4_tally_13 (by decide) ?_
    refine kI (wr := MDw cA cZ aM aS aI aK sf mf kf m0 m1 m2 m3 m4) (W1 := ([] : va_W)) (wsN := MDw cA cZ aM aS aI aK sf mf kf m0 m1 m2 m3 m4) (rS (As := [.int x2, .int 0, .int 5]) (rest := []) (W0 := ([] : va_W)) ⟨hx, hb, hml, hown, hts⟩ (c_X4_in l D cA cZ H.size x2 0 5) (cwS 3 hts gX4_tally_X4_in rfl rfl rfl (by decide +kernel) ⟨Nat.le_of_ble_eq_true rfl, Nat.le_of_ble_eq_true rfl⟩) hP hD hK hN ([] : List Nat) rfl rfl rfl hl.1 rfl (Nat.le_of_ble_eq_true rfl) dX4_tally_14 ⟨Nat.zero_le _, Nat.zero_le _⟩) hP hD hS hA [] [0, 1, 2, 3] [0, 1, 2, 3] rfl rfl rfl (by decide) rfl rfl (fun H locs hP hD hS => ?_)
    refine lv_if_ne (tgt := 23) hx hb dX4_tally_17 (by decide) (fun c_2 => ?_) (fun c_2 => ?_)
    · refine lv_iconst (v := 0) hx hb dX4_tally_23 (by decide) ?_
      refine lv_istore_n (lv' := [(3, .int 0), (0, .ref aM), (1, .int x1), (2, .int x2)]) hx hb dX4_tally_24 rfl hl (by decide) rfl (fun ls hl => ?_)
      refine lv_iconst (v := 0) hx hb dX4_tally_25 (by decide) ?_
      refine lv_istore (lv' := [(4, .int 0), (3, .int 0), (0, .ref aM), (1, .int x1), (2, .int x2)]) hx hb dX4_tally_26 hl (by decide) rfl (fun ls hl => ?_)
      refine lv_iconst (v := 0) hx hb dX4_tally_28 (by decide) ?_
      refine lv_istore (lv' := [(5, .int 0), (4, .int 0), (3, .int 0), (0, .ref aM), (1, .int x1), (2, .int x2)]) hx hb dX4_tally_29 hl (by decide) rfl (fun ls hl => ?_)
      refine lv_iconst (v := 0) hx hb dX4_tally_31 (by decide) ?_
      refine lv_istore (lv' := [(6, .int 0), (5, .int 0), (4, .int 0), (3, .int 0), (0, .ref aM), (1, .int x1), (2, .int x2)]) hx hb dX4_tally_32 hl (by decide) rfl (fun ls hl => ?_)
      refine lv_iconst (v := 0) hx hb dX4_tally_34 (by decide) ?_
      refine lv_istore (lv' := [(7, .int 0), (6, .int 0), (5, .int 0), (4, .int 0), (3, .int 0), (0, .ref aM), (1, .int x1), (2, .int x2)]) hx hb dX4_tally_35 hl (by decide) rfl (fun ls hl => ?_)
      rw [g_X4_tally, if_neg c_1, if_neg c_2] at hG
      refine (?_ : ∀ (n : Nat) (v3 : Int32) (v4 : Int32) (v5 : Int32) (v6 : Int32) (v7 : Int32) (H : Heap) (locs : List Loc) (ls : Array Slot), (0 ≤ v7) → (((sf 10)).toInt - (v7).toInt).toNat < n → G = g_X4_tally_L37 sf x1 x2 n v3 v4 v5 v6 v7 → va_P D vwCl (MDw cA cZ aM aS aI aK sf mf kf m0 m1 m2 m3 m4) H → va_D A (MDw cA cZ aM aS aI aK sf mf kf m0 m1 m2 m3 m4) → va_S A s.heap H locs → lv_has ls 8 [(0, .ref aM), (1, .int x1), (2, .int x2), (3, .int v3), (4, .int v4), (5, .int v5), (6, .int v6), (7, .int v7)] → W p l e _ s m _ below meth c H locs _ _ _ (F0 m 37 ls [])) ((((sf 10)).toInt - ((0 : Int32)).toInt).toNat + 1) 0 0 0 0 0 _ _ _ (by decide) (Nat.lt_succ_self _) hG hP hD hS (lv_sub hl [5, 6, 7, 4, 3, 2, 1, 0] rfl)
      clear hG hP hD hS hl
      intro n
      induction n with
      | zero => intros; omega
      | succ n37 ih37 =>
        intro v3 v4 v5 v6 v7 H locs ls h0 hm37 hG hP hD hS hl
        refine lv_iload hx hb dX4_tally_37 (lv_at hl 7 rfl) ?_
        refine lv_aload_n hx hb dX4_tally_39 rfl (lv_at hl 0 rfl) ?_
        refine va_get (D := D) (ci := 4) (v := .ref aS) (C := RX4) (T := TX4) (N := 8) hx hb hts iX4 hown hK hP 0 rfl rfl 0 (by decide) (hts (.fieldLink RX4 7 "LightBurstsModel" "state" "[I") (List.mem_of_getElem? (i := 1) rfl)) (fun _ h9 => h9) rfl dX4_tally_40 ?_
        refine lv_bipush (v := 10) hx hb dX4_tally_43 (by decide) ?_
        refine va_iald hx hb hK hP 1 0 rfl rfl (by unfold vp_in; decide) dX4_tally_45 ?_
        refine lv_eqi (sf 10) rfl ?_
        refine lv_icmp_ge (tgt := 128) hx hb dX4_tally_46 (by decide) (fun c_3 => ?_) (fun c_3 => ?_)
        · refine lv_iload_n hx hb dX4_tally_128 rfl (lv_at hl 2 rfl) ?_
          refine lv_iconst (v := 4) hx hb dX4_tally_129 (by decide) ?_
          refine lv_icmp_ge (tgt := 164) hx hb dX4_tally_130 (by decide) (fun c_4 => ?_) (fun c_4 => ?_)
          · refine lv_iload hx hb dX4_tally_164 (lv_at hl 4 rfl) ?_
            refine lv_iload hx hb dX4_tally_166 (lv_at hl 5 rfl) ?_
            refine lv_isub hx hb dX4_tally_168 ?_
            refine lv_iload hx hb dX4_tally_169 (lv_at hl 4 rfl) ?_
            refine kI (wr := MDw cA cZ aM aS aI aK sf mf kf m0 m1 m2 m3 m4) (W1 := ([] : va_W)) (wsN := MDw cA cZ aM aS aI aK sf mf kf m0 m1 m2 m3 m4) (rS (As := [.int (v4 - v5), .int v4]) (rest := []) (W0 := ([] : va_W)) ⟨hx, hb, hml, hown, hts⟩ (c_X4_common l D cA cZ H.size (v4 - v5) v4) (cwS 2 hts gX4_tally_X4_common rfl rfl rfl (by decide +kernel) ⟨Nat.le_of_ble_eq_true rfl, Nat.le_of_ble_eq_true rfl⟩) hP hD hK hN ([] : List Nat) rfl rfl rfl hl.1 rfl (Nat.le_of_ble_eq_true rfl) dX4_tally_171 ⟨Nat.zero_le _, Nat.zero_le _⟩) hP hD hS hA [] [0, 1, 2, 3] [0, 1, 2, 3] rfl rfl rfl (by decide) rfl rfl (fun H locs hP hD hS => ?_)
            refine lv_istore (lv' := [(7, .int (g_X4_common (v4 - v5) v4)), (0, .ref aM), (1, .int x1), (2, .int x2), (3, .int v3), (4, .int v4), (5, .int v5), (6, .int v6)]) hx hb dX4_tally_174 hl (by decide) rfl (fun ls hl => ?_)
            refine lv_iload hx hb dX4_tally_176 (lv_at hl 5 rfl) ?_
            refine lv_if_ne (tgt := 186) hx hb dX4_tally_178 (by decide) (fun c_5 => ?_) (fun c_5 => ?_)
            · refine lv_iload_n hx hb dX4_tally_186 rfl (lv_at hl 3 rfl) ?_
              refine lv_iconst (v := 4) hx hb dX4_tally_187 (by decide) ?_
              refine lv_icmp_ne (tgt := 202) hx hb dX4_tally_188 (by decide) (fun c_6 => ?_) (fun c_6 => ?_)
              · refine lv_iload hx hb dX4_tally_202 (lv_at hl 5 rfl) ?_
                refine lv_iload hx hb dX4_tally_204 (lv_at hl 0 rfl) ?_
                refine lv_idiv hx hb dX4_tally_206 (common_ne c_5) ?_
                rw [g_X4_tally_L37, if_pos c_3, if_pos c_4, if_neg c_5, if_neg c_6] at hG
                rw [hG]
                exact W.iret (v := (v4 / (g_X4_common (v4 - v5) v4))) hx hb hr (fun t ht hW => ⟨⟨_, (), rfl, rfl, by rw [ht]; exact hP, va_K.moved hW.alike hK, hD⟩, hS.F ht⟩) hS.2.2 dX4_tally_207
              · refine lv_iload hx hb dX4_tally_191 (lv_at hl 5 rfl) ?_
                refine lv_iload hx hb dX4_tally_193 (lv_at hl 6 rfl) ?_
                refine lv_isub hx hb dX4_tally_195 ?_
                refine lv_iload hx hb dX4_tally_196 (lv_at hl 0 rfl) ?_
                refine lv_idiv hx hb dX4_tally_198 (common_ne c_5) ?_
                refine lv_goto (tgt := 207) hx hb dX4_tally_199 (by decide) ?_
                rw [g_X4_tally_L37, if_pos c_3, if_pos c_4, if_neg c_5, if_pos c_6] at hG
                rw [hG]
                exact W.iret (v := ((v4 - v5) / (g_X4_common (v4 - v5) v4))) hx hb hr (fun t ht hW => ⟨⟨_, (), rfl, rfl, by rw [ht]; exact hP, va_K.moved hW.alike hK, hD⟩, hS.F ht⟩) hS.2.2 dX4_tally_207
            · refine lv_bipush (v := (-6)) hx hb dX4_tally_181 (by decide) ?_
              refine lv_goto (tgt := 207) hx hb dX4_tally_183 (by decide) ?_
              rw [g_X4_tally_L37, if_pos c_3, if_pos c_4, if_pos c_5] at hG
              rw [hG]
              exact W.iret (v := (-6)) hx hb hr (fun t ht hW => ⟨⟨_, (), rfl, rfl, by rw [ht]; exact hP, va_K.moved hW.alike hK, hD⟩, hS.F ht⟩) hS.2.2 dX4_tally_207
          · refine lv_iload_n hx hb dX4_tally_133 rfl (lv_at hl 2 rfl) ?_
            refine lv_if_ne (tgt := 141) hx hb dX4_tally_134 (by decide) (fun c_7 => ?_) (fun c_7 => ?_)
            · refine lv_iload_n hx hb dX4_tally_141 rfl (lv_at hl 2 rfl) ?_
              refine lv_iconst (v := 1) hx hb dX4_tally_142 (by decide) ?_
              refine lv_icmp_ne (tgt := 151) hx hb dX4_tally_143 (by decide) (fun c_8 => ?_) (fun c_8 => ?_)
              · refine lv_iload_n hx hb dX4_tally_151 rfl (lv_at hl 2 rfl) ?_
                refine lv_iconst (v := 2) hx hb dX4_tally_152 (by decide) ?_
                refine lv_icmp_ne (tgt := 161) hx hb dX4_tally_153 (by decide) (fun c_9 => ?_) (fun c_9 => ?_)
                · refine lv_iload hx hb dX4_tally_161 (lv_at hl 6 rfl) ?_
                  rw [g_X4_tally_L37, if_pos c_3, if_neg c_4, if_neg c_7, if_neg c_8, if_neg c_9] at hG
                  rw [hG]
                  exact W.iret (v := v6) hx hb hr (fun t ht hW => ⟨⟨_, (), rfl, rfl, by rw [ht]; exact hP, va_K.moved hW.alike hK, hD⟩, hS.F ht⟩) hS.2.2 dX4_tally_163
                · refine lv_iload hx hb dX4_tally_156 (lv_at hl 5 rfl) ?_
                  refine lv_goto (tgt := 163) hx hb dX4_tally_158 (by decide) ?_
                  rw [g_X4_tally_L37, if_pos c_3, if_neg c_4, if_neg c_7, if_neg c_8, if_pos c_9] at hG
                  rw [hG]
                  exact W.iret (v := v5) hx hb hr (fun t ht hW => ⟨⟨_, (), rfl, rfl, by rw [ht]; exact hP, va_K.moved hW.alike hK, hD⟩, hS.F ht⟩) hS.2.2 dX4_tally_163
              · refine lv_iload hx hb dX4_tally_146 (lv_at hl 4 rfl) ?_
                refine lv_goto (tgt := 163) hx hb dX4_tally_148 (by decide) ?_
                rw [g_X4_tally_L37, if_pos c_3, if_neg c_4, if_neg c_7, if_pos c_8] at hG
                rw [hG]
                exact W.iret (v := v4) hx hb hr (fun t ht hW => ⟨⟨_, (), rfl, rfl, by rw [ht]; exact hP, va_K.moved hW.alike hK, hD⟩, hS.F ht⟩) hS.2.2 dX4_tally_163
            · refine lv_iload_n hx hb dX4_tally_137 rfl (lv_at hl 3 rfl) ?_
              refine lv_goto (tgt := 163) hx hb dX4_tally_138 (by decide) ?_
              rw [g_X4_tally_L37, if_pos c_3, if_neg c_4, if_pos c_7] at hG
              rw [hG]
              exact W.iret (v := v3) hx hb hr (fun t ht hW => ⟨⟨_, (), rfl, rfl, by rw [ht]; exact hP, va_K.moved hW.alike hK, hD⟩, hS.F ht⟩) hS.2.2 dX4_tally_163
        · refine lv_aload_n hx hb dX4_tally_49 rfl (lv_at hl 0 rfl) ?_
          refine lv_iload hx hb dX4_tally_50 (lv_at hl 7 rfl) ?_
          refine lv_iconst (v := 2) hx hb dX4_tally_52 (by decide) ?_
          refine kI (wr := ([] : va_W)) (W1 := MDw cA cZ aM aS aI aK sf mf kf m0 m1 m2 m3 m4) (wsN := MDw cA cZ aM aS aI aK sf mf kf m0 m1 m2 m3 m4) (rV (As := [.int v7, .int 2]) (rest := []) (W0 := MDw cA cZ aM aS aI aK sf mf kf m0 m1 m2 m3 m4) ⟨hx, hb, hml, hown, hts⟩ (c_X4_of l D cA cZ aM aS aI aK H.size sf mf kf m0 m1 m2 m3 m4 v7 2 (show bok v7 from by exact bok_of h0 c_3 hm) (show wok 2 from by exact ⟨by decide, by decide⟩)) (cwV 2 hts gX4_tally_X4_of rfl rfl rfl (by decide +kernel) ⟨Nat.le_of_ble_eq_true rfl, Nat.le_of_ble_eq_true rfl⟩) hP hD hK hN ([0, 1, 2, 3] : List Nat) rfl rfl 4 0 rfl rfl rfl hl.1 rfl (Nat.le_of_ble_eq_true rfl) dX4_tally_53 ⟨Nat.zero_le _, Nat.zero_le _⟩) hP hD hS hA [0, 1, 2, 3] [] [0, 1, 2, 3] rfl rfl rfl (by decide) rfl rfl (fun H locs hP hD hS => ?_)
          refine lv_iload_n hx hb dX4_tally_56 rfl (lv_at hl 1 rfl) ?_
          refine lv_icmp_ne (tgt := 122) hx hb dX4_tally_57 (by decide) (fun c_10 => ?_) (fun c_10 => ?_)
          · refine lv_iinc (v := (v7 + 1)) (lv' := [(7, .int (v7 + 1)), (0, .ref aM), (1, .int x1), (2, .int x2), (3, .int v3), (4, .int v4), (5, .int v5), (6, .int v6)]) hx hb dX4_tally_122 hl (k := 7) rfl rfl (by decide) rfl (fun ls hl => ?_)
            refine lv_goto (tgt := 37) hx hb dX4_tally_125 (by decide) ?_
            rw [g_X4_tally_L37, if_neg c_3, if_neg c_10] at hG
            exact ih37 v3 v4 v5 v6 (v7 + 1) _ _ _ (by exact up_ge h0 c_3) (by exact ms_up c_3 hm37) hG hP hD hS (lv_sub hl [1, 2, 3, 4, 5, 6, 7, 0] rfl)
          · refine lv_aload_n hx hb dX4_tally_60 rfl (lv_at hl 0 rfl) ?_
            refine lv_iload hx hb dX4_tally_61 (lv_at hl 7 rfl) ?_
            refine lv_bipush (v := 6) hx hb dX4_tally_63 (by decide) ?_
            refine kI (wr := ([] : va_W)) (W1 := MDw cA cZ aM aS aI aK sf mf kf m0 m1 m2 m3 m4) (wsN := MDw cA cZ aM aS aI aK sf mf kf m0 m1 m2 m3 m4) (rV (As := [.int v7, .int 6]) (rest := []) (W0 := MDw cA cZ aM aS aI aK sf mf kf m0 m1 m2 m3 m4) ⟨hx, hb, hml, hown, hts⟩ (c_X4_of l D cA cZ aM aS aI aK H.size sf mf kf m0 m1 m2 m3 m4 v7 6 (show bok v7 from by exact bok_of h0 c_3 hm) (show wok 6 from by exact ⟨by decide, by decide⟩)) (cwV 2 hts gX4_tally_X4_of rfl rfl rfl (by decide +kernel) ⟨Nat.le_of_ble_eq_true rfl, Nat.le_of_ble_eq_true rfl⟩) hP hD hK hN ([0, 1, 2, 3] : List Nat) rfl rfl 4 0 rfl rfl rfl hl.1 rfl (Nat.le_of_ble_eq_true rfl) dX4_tally_65 ⟨Nat.zero_le _, Nat.zero_le _⟩) hP hD hS hA [0, 1, 2, 3] [] [0, 1, 2, 3] rfl rfl rfl (by decide) rfl rfl (fun H locs hP hD hS => ?_)
            refine lv_iconst (v := 4) hx hb dX4_tally_68 (by decide) ?_
            refine lv_icmp_eq (tgt := 122) hx hb dX4_tally_69 (by decide) (fun c_11 => ?_) (fun c_11 => ?_)
            · refine lv_iinc (v := (v7 + 1)) (lv' := [(7, .int (v7 + 1)), (0, .ref aM), (1, .int x1), (2, .int x2), (3, .int v3), (4, .int v4), (5, .int v5), (6, .int v6)]) hx hb dX4_tally_122 hl (k := 7) rfl rfl (by decide) rfl (fun ls hl => ?_)
              refine lv_goto (tgt := 37) hx hb dX4_tally_125 (by decide) ?_
              rw [g_X4_tally_L37, if_neg c_3, if_pos c_10, if_pos c_11] at hG
              exact ih37 v3 v4 v5 v6 (v7 + 1) _ _ _ (by exact up_ge h0 c_3) (by exact ms_up c_3 hm37) hG hP hD hS (lv_sub hl [1, 2, 3, 4, 5, 6, 7, 0] rfl)
            · refine lv_iinc (v := (v3 + 1)) (lv' := [(3, .int (v3 + 1)), (0, .ref aM), (1, .int x1), (2, .int x2), (4, .int v4), (5, .int v5), (6, .int v6), (7, .int v7)]) hx hb dX4_tally_72 hl (k := 3) rfl rfl (by decide) rfl (fun ls hl => ?_)
              refine lv_iload hx hb dX4_tally_75 (lv_at hl 4 rfl) ?_
              refine lv_aload_n hx hb dX4_tally_77 rfl (lv_at hl 1 rfl) ?_
              refine lv_iload hx hb dX4_tally_78 (lv_at hl 7 rfl) ?_
              refine lv_iconst (v := 4) hx hb dX4_tally_80 (by decide) ?_
              refine kI (wr := ([] : va_W)) (W1 := MDw cA cZ aM aS aI aK sf mf kf m0 m1 m2 m3 m4) (wsN := MDw cA cZ aM aS aI aK sf mf kf m0 m1 m2 m3 m4) (rV (As := [.int v7, .int 4]) (rest := [.int v4]) (W0 := MDw cA cZ aM aS aI aK sf mf kf m0 m1 m2 m3 m4) ⟨hx, hb, hml, hown, hts⟩ (c_X4_of l D cA cZ aM aS aI aK H.size sf mf kf m0 m1 m2 m3 m4 v7 4 (show bok v7 from by exact bok_of h0 c_3 hm) (show wok 4 from by exact ⟨by decide, by decide⟩)) (cwV 2 hts gX4_tally_X4_of rfl rfl rfl (by decide +kernel) ⟨Nat.le_of_ble_eq_true rfl, Nat.le_of_ble_eq_true rfl⟩) hP hD hK hN ([0, 1, 2, 3] : List Nat) rfl rfl 4 0 rfl rfl rfl hl.1 rfl (Nat.le_of_ble_eq_true rfl) dX4_tally_81 ⟨Nat.zero_le _, Nat.zero_le _⟩) hP hD hS hA [0, 1, 2, 3] [] [0, 1, 2, 3] rfl rfl rfl (by decide) rfl rfl (fun H locs hP hD hS => ?_)
              refine lv_iadd hx hb dX4_tally_84 ?_
              refine lv_istore (lv' := [(4, .int (v4 + (g_X4_of sf v7 4))), (3, .int (v3 + 1)), (0, .ref aM), (1, .int x1), (2, .int x2), (5, .int v5), (6, .int v6), (7, .int v7)]) hx hb dX4_tally_85 hl (by decide) rfl (fun ls hl => ?_)
              refine lv_iload hx hb dX4_tally_87 (lv_at hl 5 rfl) ?_
              refine lv_aload_n hx hb dX4_tally_89 rfl (lv_at hl 2 rfl) ?_
              refine lv_iload hx hb dX4_tally_90 (lv_at hl 7 rfl) ?_
              refine lv_bipush (v := 9) hx hb dX4_tally_92 (by decide) ?_
              refine kI (wr := ([] : va_W)) (W1 := MDw cA cZ aM aS aI aK sf mf kf m0 m1 m2 m3 m4) (wsN := MDw cA cZ aM aS aI aK sf mf kf m0 m1 m2 m3 m4) (rV (As := [.int v7, .int 9]) (rest := [.int v5]) (W0 := MDw cA cZ aM aS aI aK sf mf kf m0 m1 m2 m3 m4) ⟨hx, hb, hml, hown, hts⟩ (c_X4_of l D cA cZ aM aS aI aK H.size sf mf kf m0 m1 m2 m3 m4 v7 9 (show bok v7 from by exact bok_of h0 c_3 hm) (show wok 9 from by exact ⟨by decide, by decide⟩)) (cwV 2 hts gX4_tally_X4_of rfl rfl rfl (by decide +kernel) ⟨Nat.le_of_ble_eq_true rfl, Nat.le_of_ble_eq_true rfl⟩) hP hD hK hN ([0, 1, 2, 3] : List Nat) rfl rfl 4 0 rfl rfl rfl hl.1 rfl (Nat.le_of_ble_eq_true rfl) dX4_tally_94 ⟨Nat.zero_le _, Nat.zero_le _⟩) hP hD hS hA [0, 1, 2, 3] [] [0, 1, 2, 3] rfl rfl rfl (by decide) rfl rfl (fun H locs hP hD hS => ?_)
              refine lv_iadd hx hb dX4_tally_97 ?_
              refine lv_istore (lv' := [(5, .int (v5 + (g_X4_of sf v7 9))), (4, .int (v4 + (g_X4_of sf v7 4))), (3, .int (v3 + 1)), (0, .ref aM), (1, .int x1), (2, .int x2), (6, .int v6), (7, .int v7)]) hx hb dX4_tally_98 hl (by decide) rfl (fun ls hl => ?_)
              refine lv_iload hx hb dX4_tally_100 (lv_at hl 6 rfl) ?_
              refine lv_aload_n hx hb dX4_tally_102 rfl (lv_at hl 3 rfl) ?_
              refine lv_iload hx hb dX4_tally_103 (lv_at hl 7 rfl) ?_
              refine lv_bipush (v := 6) hx hb dX4_tally_105 (by decide) ?_
              refine kI (wr := ([] : va_W)) (W1 := MDw cA cZ aM aS aI aK sf mf kf m0 m1 m2 m3 m4) (wsN := MDw cA cZ aM aS aI aK sf mf kf m0 m1 m2 m3 m4) (rV (As := [.int v7, .int 6]) (rest := [.int v6]) (W0 := MDw cA cZ aM aS aI aK sf mf kf m0 m1 m2 m3 m4) ⟨hx, hb, hml, hown, hts⟩ (c_X4_of l D cA cZ aM aS aI aK H.size sf mf kf m0 m1 m2 m3 m4 v7 6 (show bok v7 from by exact bok_of h0 c_3 hm) (show wok 6 from by exact ⟨by decide, by decide⟩)) (cwV 2 hts gX4_tally_X4_of rfl rfl rfl (by decide +kernel) ⟨Nat.le_of_ble_eq_true rfl, Nat.le_of_ble_eq_true rfl⟩) hP hD hK hN ([0, 1, 2, 3] : List Nat) rfl rfl 4 0 rfl rfl rfl hl.1 rfl (Nat.le_of_ble_eq_true rfl) dX4_tally_107 ⟨Nat.zero_le _, Nat.zero_le _⟩) hP hD hS hA [0, 1, 2, 3] [] [0, 1, 2, 3] rfl rfl rfl (by decide) rfl rfl (fun H locs hP hD hS => ?_)
              refine lv_iconst (v := 3) hx hb dX4_tally_110 (by decide) ?_
              refine lv_icmp_ne (tgt := 118) hx hb dX4_tally_111 (by decide) (fun c_12 => ?_) (fun c_12 => ?_)
              · refine lv_iconst (v := 0) hx hb dX4_tally_118 (by decide) ?_
                refine lv_iadd hx hb dX4_tally_119 ?_
                refine lv_istore (lv' := [(6, .int (v6 + 0)), (5, .int (v5 + (g_X4_of sf v7 9))), (4, .int (v4 + (g_X4_of sf v7 4))), (3, .int (v3 + 1)), (0, .ref aM), (1, .int x1), (2, .int x2), (7, .int v7)]) hx hb dX4_tally_120 hl (by decide) rfl (fun ls hl => ?_)
                refine lv_iinc (v := (v7 + 1)) (lv' := [(7, .int (v7 + 1)), (6, .int (v6 + 0)), (5, .int (v5 + (g_X4_of sf v7 9))), (4, .int (v4 + (g_X4_of sf v7 4))), (3, .int (v3 + 1)), (0, .ref aM), (1, .int x1), (2, .int x2)]) hx hb dX4_tally_122 hl (k := 7) rfl rfl (by decide) rfl (fun ls hl => ?_)
                refine lv_goto (tgt := 37) hx hb dX4_tally_125 (by decide) ?_
                rw [g_X4_tally_L37, if_neg c_3, if_pos c_10, if_neg c_11, if_neg c_12] at hG
                exact ih37 (v3 + 1) (v4 + (g_X4_of sf v7 4)) (v5 + (g_X4_of sf v7 9)) (v6 + 0) (v7 + 1) _ _ _ (by exact up_ge h0 c_3) (by exact ms_up c_3 hm37) hG hP hD hS (lv_sub hl [5, 6, 7, 4, 3, 2, 1, 0] rfl)
              · refine lv_iconst (v := 1) hx hb dX4_tally_114 (by decide) ?_
                refine lv_goto (tgt := 119) hx hb dX4_tally_115 (by decide) ?_
                refine lv_iadd hx hb dX4_tally_119 ?_
                refine lv_istore (lv' := [(6, .int (v6 + 1)), (5, .int (v5 + (g_X4_of sf v7 9))), (4, .int (v4 + (g_X4_of sf v7 4))), (3, .int (v3 + 1)), (0, .ref aM), (1, .int x1), (2, .int x2), (7, .int v7)]) hx hb dX4_tally_120 hl (by decide) rfl (fun ls hl => ?_)
                refine lv_iinc (v := (v7 + 1)) (lv' := [(7, .int (v7 + 1)), (6, .int (v6 + 1)), (5, .int (v5 + (g_X4_of sf v7 9))), (4, .int (v4 + (g_X4_of sf v7 4))), (3, .int (v3 + 1)), (0, .ref aM), (1, .int x1), (2, .int x2)]) hx hb dX4_tally_122 hl (k := 7) rfl rfl (by decide) rfl (fun ls hl => ?_)
                refine lv_goto (tgt := 37) hx hb dX4_tally_125 (by decide) ?_
                rw [g_X4_tally_L37, if_neg c_3, if_pos c_10, if_neg c_11, if_pos c_12] at hG
                exact ih37 (v3 + 1) (v4 + (g_X4_of sf v7 4)) (v5 + (g_X4_of sf v7 9)) (v6 + 1) (v7 + 1) _ _ _ (by exact up_ge h0 c_3) (by exact ms_up c_3 hm37) hG hP hD hS (lv_sub hl [5, 6, 7, 4, 3, 2, 1, 0] rfl)
    · refine lv_bipush (v := (-2)) hx hb dX4_tally_20 (by decide) ?_
      rw [g_X4_tally, if_neg c_1, if_pos c_2] at hG
      rw [hG]
      exact W.iret (v := (-2)) hx hb hr (fun t ht hW => ⟨⟨_, (), rfl, rfl, by rw [ht]; exact hP, va_K.moved hW.alike hK, hD⟩, hS.F ht⟩) hS.2.2 dX4_tally_22
  · refine lv_iconst (v := (-1)) hx hb dX4_tally_9 (by decide) ?_
    rw [g_X4_tally, if_pos c_1] at hG
    rw [hG]
    exact W.iret (v := (-1)) hx hb hr (fun t ht hW => ⟨⟨_, (), rfl, rfl, by rw [ht]; exact hP, va_K.moved hW.alike hK, hD⟩, hS.F ht⟩) hS.2.2 dX4_tally_10

def g_X4_ofFate_L4 (sf : (Nat → Int32)) (x1 : Int32) : Nat → Int32 → Int32 → (Int32)
  | 0, _, _ => 0
  | n + 1, v2, v3 => (if (sf 10) ≤ v3 then v2 else (if (g_X4_of sf v3 6) = x1 then (g_X4_ofFate_L4 sf x1 n (v2 + 1) (v3 + 1)) else (g_X4_ofFate_L4 sf x1 n (v2 + 0) (v3 + 1))))
def g_X4_ofFate (sf : (Nat → Int32)) (x1 : Int32) : Int32 := (g_X4_ofFate_L4 sf x1 ((((sf 10)).toInt - ((0 : Int32)).toInt).toNat + 1) 0 0)
set_option maxHeartbeats 4000000 in
set_option maxRecDepth 100000 in
theorem c_X4_ofFate (l : Launch) (D : va_G) (cA cZ : ClassId) (aM : Nat) (aS : Nat) (aI : Nat) (aK : Nat) (szz : Nat) (sf : (Nat → Int32)) (mf : (Nat → Int32)) (kf : (Nat → Int32)) (m0 : Int32) (m1 : Int32) (m2 : Int32) (m3 : Int32) (m4 : Int32) (x1 : Int32) (hm : (sf 10) ≤ 48) : MetI l yX4_ofFate wsX4_ofFate 2 43 D (tyA cA cZ) [.ref aM, .int x1] (MDw cA cZ aM aS aI aK sf mf kf m0 m1 m2 m3 m4) szz (g_X4_ofFate sf x1) (MDw cA cZ aM aS aI aK sf mf kf m0 m1 m2 m3 m4) := by
  refine Met.ofW (cc := cX4_ofFate) (maxL := 4) (ret := (some .int)) (by decide) rfl ?_
  intro p e s m args below meth c s₁ B hml hv
  obtain ⟨rfl, hsz, hP, hK, hD0, hN⟩ := hv
  have hx := B.exec
  have hb := B.bytes
  have hr := B.returns
  have hts := atoms_spec (ws := wsX4_ofFate) B.pre
  have hown : s.vm.findClass RX4 = some m.cls := findClass_of_methodNamed B.named
  have hlocks := B.notSynchronized
  have iX4 : ∀ w ∈ wsX40, w ∈ wsX4_ofFate := fun _ h => List.mem_cons_of_mem _ (List.mem_append_right _ h)
  subst hsz
  have hD := hD0.self (sz := s.heap.size)
  generalize hAe : va_A (MDw cA cZ aM aS aI aK sf mf kf m0 m1 m2 m3 m4) s.heap.size = A at hD ⊢
  have hA : ∀ q : Nat, s.heap.size ≤ q → A q := fun q h => by rw [← hAe]; exact Or.inr h
  have hS : va_S A s.heap s.heap [] := va_S.rf
  have hP : va_P D vwCl (MDw cA cZ aM aS aI aK sf mf kf m0 m1 m2 m3 m4) s.heap := hP
  obtain ⟨G, hG⟩ : ∃ G, G = (g_X4_ofFate sf x1) := ⟨_, rfl⟩
  rw [← hG]
  have hl := lv_entry ([.ref aM, .int x1]) (n := 4) (Nat.le_of_ble_eq_true rfl)
  rw [lg_entry_eq]
  generalize (lg_sl ([.ref aM, .int x1]) ++ List.replicate (4 - (lg_sl ([.ref aM, .int x1])).length) Slot.unset).toArray = ls at hl ⊢
  have hl : lv_has ls 4 [(0, .ref aM), (1, .int x1)] := hl
  refine lv_iconst (v := 0) hx hb dX4_ofFate_0 (by decide) ?_
  refine lv_istore_n (lv' := [(2, .int 0), (0, .ref aM), (1, .int x1)]) hx hb dX4_ofFate_1 rfl hl (by decide) rfl (fun ls hl => ?_)
  refine lv_iconst (v := 0) hx hb dX4_ofFate_2 (by decide) ?_
  refine lv_istore_n (lv' := [(3, .int 0), (2, .int 0), (0, .ref aM), (1, .int x1)]) hx hb dX4_ofFate_3 rfl hl (by decide) rfl (fun ls hl => ?_)
  rw [g_X4_ofFate] at hG
  refine (?_ : ∀ (n : Nat) (v2 : Int32) (v3 : Int32) (H : Heap) (locs : List Loc) (ls : Array Slot), (0 ≤ v3) → (((sf 10)).toInt - (v3).toInt).toNat < n → G = g_X4_ofFate_L4 sf x1 n v2 v3 → va_P D vwCl (MDw cA cZ aM aS aI aK sf mf kf m0 m1 m2 m3 m4) H → va_D A (MDw cA cZ aM aS aI aK sf mf kf m0 m1 m2 m3 m4) → va_S A s.heap H locs → lv_has ls 4 [(0, .ref aM), (1, .int x1), (2, .int v2), (3, .int v3)] → W p l e _ s m _ below meth c H locs _ _ _ (F0 m 4 ls [])) ((((sf 10)).toInt - ((0 : Int32)).toInt).toNat + 1) 0 0 _ _ _ (by decide) (Nat.lt_succ_self _) hG hP hD hS (lv_sub hl [2, 3, 1, 0] rfl)
  clear hG hP hD hS hl
  intro n
  induction n with
  | zero => intros; omega
  | succ n4 ih4 =>
    intro v2 v3 H locs ls h0 hm4 hG hP hD hS hl
    refine lv_iload_n hx hb dX4_ofFate_4 rfl (lv_at hl 3 rfl) ?_
    refine lv_aload_n hx hb dX4_ofFate_5 rfl (lv_at hl 0 rfl) ?_
    refine va_get (D := D) (ci := 4) (v := .ref aS) (C := RX4) (T := TX4) (N := 8) hx hb hts iX4 hown hK hP 0 rfl rfl 0 (by decide) (hts (.fieldLink RX4 7 "LightBurstsModel" "state" "[I") (List.mem_of_getElem? (i := 1) rfl)) (fun _ h9 => h9) rfl dX4_ofFate_6 ?_
    refine lv_bipush (v := 10) hx hb dX4_ofFate_9 (by decide) ?_
    refine va_iald hx hb hK hP 1 0 rfl rfl (by unfold vp_in; decide) dX4_ofFate_11 ?_
    refine lv_eqi (sf 10) rfl ?_
    refine lv_icmp_ge (tgt := 40) hx hb dX4_ofFate_12 (by decide) (fun c_1 => ?_) (fun c_1 => ?_)
    · refine lv_iload_n hx hb dX4_ofFate_40 rfl (lv_at hl 2 rfl) ?_
      rw [g_X4_ofFate_L4, if_pos c_1] at hG
      rw [hG]
      exact W.iret (v := v2) hx hb hr (fun t ht hW => ⟨⟨_, (), rfl, rfl, by rw [ht]; exact hP, va_K.moved hW.alike hK, hD⟩, hS.F ht⟩) hS.2.2 dX4_ofFate_41
    · refine lv_iload_n hx hb dX4_ofFate_15 rfl (lv_at hl 2 rfl) ?_
      refine lv_aload_n hx hb dX4_ofFate_16 rfl (lv_at hl 0 rfl) ?_
      refine lv_iload_n hx hb dX4_ofFate_17 rfl (lv_at hl 3 rfl) ?_
      refine lv_bipush (v := 6) hx hb dX4_ofFate_18 (by decide) ?_
      refine kI (wr := ([] : va_W)) (W1 := MDw cA cZ aM aS aI aK sf mf kf m0 m1 m2 m3 m4) (wsN := MDw cA cZ aM aS aI aK sf mf kf m0 m1 m2 m3 m4) (rV (As := [.int v3, .int 6]) (rest := [.int v2]) (W0 := MDw cA cZ aM aS aI aK sf mf kf m0 m1 m2 m3 m4) ⟨hx, hb, hml, hown, hts⟩ (c_X4_of l D cA cZ aM aS aI aK H.size sf mf kf m0 m1 m2 m3 m4 v3 6 (show bok v3 from by exact bok_of h0 c_1 hm) (show wok 6 from by exact ⟨by decide, by decide⟩)) (cwV 2 hts gX4_ofFate_X4_of rfl rfl rfl (by decide +kernel) ⟨Nat.le_of_ble_eq_true rfl, Nat.le_of_ble_eq_true rfl⟩) hP hD hK hN ([0, 1, 2, 3] : List Nat) rfl rfl 4 0 rfl rfl rfl hl.1 rfl (Nat.le_of_ble_eq_true rfl) dX4_ofFate_20 ⟨Nat.zero_le _, Nat.zero_le _⟩) hP hD hS hA [0, 1, 2, 3] [] [0, 1, 2, 3] rfl rfl rfl (by decide) rfl rfl (fun H locs hP hD hS => ?_)
      refine lv_iload_n hx hb dX4_ofFate_23 rfl (lv_at hl 1 rfl) ?_
      refine lv_icmp_ne (tgt := 31) hx hb dX4_ofFate_24 (by decide) (fun c_2 => ?_) (fun c_2 => ?_)
      · refine lv_iconst (v := 0) hx hb dX4_ofFate_31 (by decide) ?_
        refine lv_iadd hx hb dX4_ofFate_32 ?_
        refine lv_istore_n (lv' := [(2, .int (v2 + 0)), (0, .ref aM), (1, .int x1), (3, .int v3)]) hx hb dX4_ofFate_33 rfl hl (by decide) rfl (fun ls hl => ?_)
        refine lv_iinc (v := (v3 + 1)) (lv' := [(3, .int (v3 + 1)), (2, .int (v2 + 0)), (0, .ref aM), (1, .int x1)]) hx hb dX4_ofFate_34 hl (k := 3) rfl rfl (by decide) rfl (fun ls hl => ?_)
        refine lv_goto (tgt := 4) hx hb dX4_ofFate_37 (by decide) ?_
        rw [g_X4_ofFate_L4, if_neg c_1, if_neg c_2] at hG
        exact ih4 (v2 + 0) (v3 + 1) _ _ _ (by exact up_ge h0 c_1) (by exact ms_up c_1 hm4) hG hP hD hS (lv_sub hl [2, 3, 1, 0] rfl)
      · refine lv_iconst (v := 1) hx hb dX4_ofFate_27 (by decide) ?_
        refine lv_goto (tgt := 32) hx hb dX4_ofFate_28 (by decide) ?_
        refine lv_iadd hx hb dX4_ofFate_32 ?_
        refine lv_istore_n (lv' := [(2, .int (v2 + 1)), (0, .ref aM), (1, .int x1), (3, .int v3)]) hx hb dX4_ofFate_33 rfl hl (by decide) rfl (fun ls hl => ?_)
        refine lv_iinc (v := (v3 + 1)) (lv' := [(3, .int (v3 + 1)), (2, .int (v2 + 1)), (0, .ref aM), (1, .int x1)]) hx hb dX4_ofFate_34 hl (k := 3) rfl rfl (by decide) rfl (fun ls hl => ?_)
        refine lv_goto (tgt := 4) hx hb dX4_ofFate_37 (by decide) ?_
        rw [g_X4_ofFate_L4, if_neg c_1, if_pos c_2] at hG
        exact ih4 (v2 + 1) (v3 + 1) _ _ _ (by exact up_ge h0 c_1) (by exact ms_up c_1 hm4) hG hP hD hS (lv_sub hl [2, 3, 1, 0] rfl)

def g_X4_count (sf : (Nat → Int32)) (kf : (Nat → Int32)) (x1 : Int32) : Int32 := (if (g_X4_in x1 2 6) = 0 then (if (g_X4_in x1 10 15) = 0 then (if (g_X4_in x1 20 22) = 0 then (if x1 = 0 then (sf 9) else (if x1 = 1 then (sf 10) else (if x1 = 2 then (-2) else (if x1 = 3 then (-2) else (if x1 = 4 then (-2) else (if x1 = 5 then (-2) else (if x1 = 6 then (-2) else (if x1 = 7 then (((g_X4_ofFate sf 0) + (g_X4_ofFate sf 1)) + (g_X4_ofFate sf 2)) else (if x1 = 8 then (g_X4_ofFate sf 1) else (if x1 = 9 then (if (kf 0) = 0 then (if (kf 1) = 0 then (0 + 0) else (0 + 2)) else (if (kf 1) = 0 then (1 + 0) else (1 + 2))) else (-2))))))))))) else (sf ((6 + x1) - 20).toNatClampNeg)) else (sf (x1 - 10).toNatClampNeg)) else (g_X4_ofFate sf (x1 - 2)))
set_option maxHeartbeats 4000000 in
set_option maxRecDepth 100000 in
theorem c_X4_count (l : Launch) (D : va_G) (cA cZ : ClassId) (aM : Nat) (aS : Nat) (aI : Nat) (aK : Nat) (szz : Nat) (sf : (Nat → Int32)) (mf : (Nat → Int32)) (kf : (Nat → Int32)) (m0 : Int32) (m1 : Int32) (m2 : Int32) (m3 : Int32) (m4 : Int32) (x1 : Int32) (hm : (sf 10) ≤ 48) : MetI l yX4_count wsX4_count 3 66 D (tyA cA cZ) [.ref aM, .int x1] (MDw cA cZ aM aS aI aK sf mf kf m0 m1 m2 m3 m4) szz (g_X4_count sf kf x1) (MDw cA cZ aM aS aI aK sf mf kf m0 m1 m2 m3 m4) := by
  refine Met.ofW (cc := cX4_count) (maxL := 2) (ret := (some .int)) (by decide) rfl ?_
  intro p e s m args below meth c s₁ B hml hv
  obtain ⟨rfl, hsz, hP, hK, hD0, hN⟩ := hv
  have hx := B.exec
  have hb := B.bytes
  have hr := B.returns
  have hts := atoms_spec (ws := wsX4_count) B.pre
  have hown : s.vm.findClass RX4 = some m.cls := findClass_of_methodNamed B.named
  have hlocks := B.notSynchronized
  have iX4 : ∀ w ∈ wsX40, w ∈ wsX4_count := fun _ h => List.mem_cons_of_mem _ (List.mem_append_right _ h)
  subst hsz
  have hD := hD0.self (sz := s.heap.size)
  generalize hAe : va_A (MDw cA cZ aM aS aI aK sf mf kf m0 m1 m2 m3 m4) s.heap.size = A at hD ⊢
  have hA : ∀ q : Nat, s.heap.size ≤ q → A q := fun q h => by rw [← hAe]; exact Or.inr h
  have hS : va_S A s.heap s.heap [] := va_S.rf
  have hP : va_P D vwCl (MDw cA cZ aM aS aI aK sf mf kf m0 m1 m2 m3 m4) s.heap := hP
  obtain ⟨G, hG⟩ : ∃ G, G = (g_X4_count sf kf x1) := ⟨_, rfl⟩
  rw [← hG]
  have hl := lv_entry ([.ref aM, .int x1]) (n := 2) (Nat.le_of_ble_eq_true rfl)
  rw [lg_entry_eq]
  generalize (lg_sl ([.ref aM, .int x1]) ++ List.replicate (2 - (lg_sl ([.ref aM, .int x1])).length) Slot.unset).toArray = ls at hl ⊢
  have hl : lv_has ls 2 [(0, .ref aM), (1, .int x1)] := hl
  refine lv_iload_n hx hb dX4_count_0 rfl (lv_at hl 1 rfl) ?_
  refine lv_iconst (v := 2) hx hb dX4_count_1 (by decide) ?_
  refine lv_bipush (v := 6) hx hb dX4_count_2 (by decide) ?_
  refine kI (wr := MDw cA cZ aM aS aI aK sf mf kf m0 m1 m2 m3 m4) (W1 := ([] : va_W)) (wsN := MDw cA cZ aM aS aI aK sf mf kf m0 m1 m2 m3 m4) (rS (As := [.int x1, .int 2, .int 6]) (rest := []) (W0 := ([] : va_W)) ⟨hx, hb, hml, hown, hts⟩ (c_X4_in l D cA cZ s.heap.size x1 2 6) (cwS 3 hts gX4_count_X4_in rfl rfl rfl (by decide +kernel) ⟨Nat.le_of_ble_eq_true rfl, Nat.le_of_ble_eq_true rfl⟩) hP hD hK hN ([] : List Nat) rfl rfl rfl hl.1 rfl (Nat.le_of_ble_eq_true rfl) dX4_count_4 ⟨Nat.zero_le _, Nat.zero_le _⟩) hP hD hS hA [] [0, 1, 2, 3] [0, 1, 2, 3] rfl rfl rfl (by decide) rfl rfl (fun H locs hP hD hS => ?_)
  refine lv_if_eq (tgt := 18) hx hb dX4_count_7 (by decide) (fun c_1 => ?_) (fun c_1 => ?_)
  · refine lv_iload_n hx hb dX4_count_18 rfl (lv_at hl 1 rfl) ?_
    refine lv_bipush (v := 10) hx hb dX4_count_19 (by decide) ?_
    refine lv_bipush (v := 15) hx hb dX4_count_21 (by decide) ?_
    refine kI (wr := MDw cA cZ aM aS aI aK sf mf kf m0 m1 m2 m3 m4) (W1 := ([] : va_W)) (wsN := MDw cA cZ aM aS aI aK sf mf kf m0 m1 m2 m3 m4) (rS (As := [.int x1, .int 10, .int 15]) (rest := []) (W0 := ([] : va_W)) ⟨hx, hb, hml, hown, hts⟩ (c_X4_in l D cA cZ H.size x1 10 15) (cwS 3 hts gX4_count_X4_in rfl rfl rfl (by decide +kernel) ⟨Nat.le_of_ble_eq_true rfl, Nat.le_of_ble_eq_true rfl⟩) hP hD hK hN ([] : List Nat) rfl rfl rfl hl.1 rfl (Nat.le_of_ble_eq_true rfl) dX4_count_23 ⟨Nat.zero_le _, Nat.zero_le _⟩) hP hD hS hA [] [0, 1, 2, 3] [0, 1, 2, 3] rfl rfl rfl (by decide) rfl rfl (fun H locs hP hD hS => ?_)
    refine lv_if_eq (tgt := 39) hx hb dX4_count_26 (by decide) (fun c_2 => ?_) (fun c_2 => ?_)
    · refine lv_iload_n hx hb dX4_count_39 rfl (lv_at hl 1 rfl) ?_
      refine lv_bipush (v := 20) hx hb dX4_count_40 (by decide) ?_
      refine lv_bipush (v := 22) hx hb dX4_count_42 (by decide) ?_
      refine kI (wr := MDw cA cZ aM aS aI aK sf mf kf m0 m1 m2 m3 m4) (W1 := ([] : va_W)) (wsN := MDw cA cZ aM aS aI aK sf mf kf m0 m1 m2 m3 m4) (rS (As := [.int x1, .int 20, .int 22]) (rest := []) (W0 := ([] : va_W)) ⟨hx, hb, hml, hown, hts⟩ (c_X4_in l D cA cZ H.size x1 20 22) (cwS 3 hts gX4_count_X4_in rfl rfl rfl (by decide +kernel) ⟨Nat.le_of_ble_eq_true rfl, Nat.le_of_ble_eq_true rfl⟩) hP hD hK hN ([] : List Nat) rfl rfl rfl hl.1 rfl (Nat.le_of_ble_eq_true rfl) dX4_count_44 ⟨Nat.zero_le _, Nat.zero_le _⟩) hP hD hS hA [] [0, 1, 2, 3] [0, 1, 2, 3] rfl rfl rfl (by decide) rfl rfl (fun H locs hP hD hS => ?_)
      refine lv_if_eq (tgt := 63) hx hb dX4_count_47 (by decide) (fun c_3 => ?_) (fun c_3 => ?_)
      · refine lv_iload_n hx hb dX4_count_63 rfl (lv_at hl 1 rfl) ?_
        rcases Decidable.em (x1 = 0) with c_4 | c_4
        · refine lv_tableIn (off := 56) (tgt := 120) hx hb dX4_count_64 (by rw [c_4]; decide) (by rw [c_4]; decide) (by rw [c_4]; rfl) (by decide) ?_
          refine lv_aload_n hx hb dX4_count_120 rfl (lv_at hl 0 rfl) ?_
          refine va_get (D := D) (ci := 4) (v := .ref aS) (C := RX4) (T := TX4) (N := 8) hx hb hts iX4 hown hK hP 0 rfl rfl 0 (by decide) (hts (.fieldLink RX4 7 "LightBurstsModel" "state" "[I") (List.mem_of_getElem? (i := 1) rfl)) (fun _ h9 => h9) rfl dX4_count_121 ?_
          refine lv_bipush (v := 9) hx hb dX4_count_124 (by decide) ?_
          refine va_iald hx hb hK hP 1 0 rfl rfl (by unfold vp_in; decide) dX4_count_126 ?_
          refine lv_eqi (sf 9) rfl ?_
          rw [g_X4_count, if_pos c_1, if_pos c_2, if_pos c_3, if_pos c_4] at hG
          rw [hG]
          exact W.iret (v := (sf 9)) hx hb hr (fun t ht hW => ⟨⟨_, (), rfl, rfl, by rw [ht]; exact hP, va_K.moved hW.alike hK, hD⟩, hS.F ht⟩) hS.2.2 dX4_count_127
        · rcases Decidable.em (x1 = 1) with c_5 | c_5
          · refine lv_tableIn (off := 64) (tgt := 128) hx hb dX4_count_64 (by rw [c_5]; decide) (by rw [c_5]; decide) (by rw [c_5]; rfl) (by decide) ?_
            refine lv_aload_n hx hb dX4_count_128 rfl (lv_at hl 0 rfl) ?_
            refine va_get (D := D) (ci := 4) (v := .ref aS) (C := RX4) (T := TX4) (N := 8) hx hb hts iX4 hown hK hP 0 rfl rfl 0 (by decide) (hts (.fieldLink RX4 7 "LightBurstsModel" "state" "[I") (List.mem_of_getElem? (i := 1) rfl)) (fun _ h9 => h9) rfl dX4_count_129 ?_
            refine lv_bipush (v := 10) hx hb dX4_count_132 (by decide) ?_
            refine va_iald hx hb hK hP 1 0 rfl rfl (by unfold vp_in; decide) dX4_count_134 ?_
            refine lv_eqi (sf 10) rfl ?_
            rw [g_X4_count, if_pos c_1, if_pos c_2, if_pos c_3, if_neg c_4, if_pos c_5] at hG
            rw [hG]
            exact W.iret (v := (sf 10)) hx hb hr (fun t ht hW => ⟨⟨_, (), rfl, rfl, by rw [ht]; exact hP, va_K.moved hW.alike hK, hD⟩, hS.F ht⟩) hS.2.2 dX4_count_135
          · rcases Decidable.em (x1 = 2) with c_6 | c_6
            · refine lv_tableIn (off := 126) (tgt := 190) hx hb dX4_count_64 (by rw [c_6]; decide) (by rw [c_6]; decide) (by rw [c_6]; rfl) (by decide) ?_
              refine lv_bipush (v := (-2)) hx hb dX4_count_190 (by decide) ?_
              rw [g_X4_count, if_pos c_1, if_pos c_2, if_pos c_3, if_neg c_4, if_neg c_5, if_pos c_6] at hG
              rw [hG]
              exact W.iret (v := (-2)) hx hb hr (fun t ht hW => ⟨⟨_, (), rfl, rfl, by rw [ht]; exact hP, va_K.moved hW.alike hK, hD⟩, hS.F ht⟩) hS.2.2 dX4_count_192
            · rcases Decidable.em (x1 = 3) with c_7 | c_7
              · refine lv_tableIn (off := 126) (tgt := 190) hx hb dX4_count_64 (by rw [c_7]; decide) (by rw [c_7]; decide) (by rw [c_7]; rfl) (by decide) ?_
                refine lv_bipush (v := (-2)) hx hb dX4_count_190 (by decide) ?_
                rw [g_X4_count, if_pos c_1, if_pos c_2, if_pos c_3, if_neg c_4, if_neg c_5, if_neg c_6, if_pos c_7] at hG
                rw [hG]
                exact W.iret (v := (-2)) hx hb hr (fun t ht hW => ⟨⟨_, (), rfl, rfl, by rw [ht]; exact hP, va_K.moved hW.alike hK, hD⟩, hS.F ht⟩) hS.2.2 dX4_count_192
              · rcases Decidable.em (x1 = 4) with c_8 | c_8
                · refine lv_tableIn (off := 126) (tgt := 190) hx hb dX4_count_64 (by rw [c_8]; decide) (by rw [c_8]; decide) (by rw [c_8]; rfl) (by decide) ?_
                  refine lv_bipush (v := (-2)) hx hb dX4_count_190 (by decide) ?_
                  rw [g_X4_count, if_pos c_1, if_pos c_2, if_pos c_3, if_neg c_4, if_neg c_5, if_neg c_6, if_neg c_7, if_pos c_8] at hG
                  rw [hG]
                  exact W.iret (v := (-2)) hx hb hr (fun t ht hW => ⟨⟨_, (), rfl, rfl, by rw [ht]; exact hP, va_K.moved hW.alike hK, hD⟩, hS.F ht⟩) hS.2.2 dX4_count_192
                · rcases Decidable.em (x1 = 5) with c_9 | c_9
                  · refine lv_tableIn (off := 126) (tgt := 190) hx hb dX4_count_64 (by rw [c_9]; decide) (by rw [c_9]; decide) (by rw [c_9]; rfl) (by decide) ?_
                    refine lv_bipush (v := (-2)) hx hb dX4_count_190 (by decide) ?_
                    rw [g_X4_count, if_pos c_1, if_pos c_2, if_pos c_3, if_neg c_4, if_neg c_5, if_neg c_6, if_neg c_7, if_neg c_8, if_pos c_9] at hG
                    rw [hG]
                    exact W.iret (v := (-2)) hx hb hr (fun t ht hW => ⟨⟨_, (), rfl, rfl, by rw [ht]; exact hP, va_K.moved hW.alike hK, hD⟩, hS.F ht⟩) hS.2.2 dX4_count_192
                  · rcases Decidable.em (x1 = 6) with c_10 | c_10
                    · refine lv_tableIn (off := 126) (tgt := 190) hx hb dX4_count_64 (by rw [c_10]; decide) (by rw [c_10]; decide) (by rw [c_10]; rfl) (by decide) ?_
                      refine lv_bipush (v := (-2)) hx hb dX4_count_190 (by decide) ?_
                      rw [g_X4_count, if_pos c_1, if_pos c_2, if_pos c_3, if_neg c_4, if_neg c_5, if_neg c_6, if_neg c_7, if_neg c_8, if_neg c_9, if_pos c_10] at hG
                      rw [hG]
                      exact W.iret (v := (-2)) hx hb hr (fun t ht hW => ⟨⟨_, (), rfl, rfl, by rw [ht]; exact hP, va_K.moved hW.alike hK, hD⟩, hS.F ht⟩) hS.2.2 dX4_count_192
                    · rcases Decidable.em (x1 = 7) with c_11 | c_11
                      · refine lv_tableIn (off := 72) (tgt := 136) hx hb dX4_count_64 (by rw [c_11]; decide) (by rw [c_11]; decide) (by rw [c_11]; rfl) (by decide) ?_
                        refine lv_aload_n hx hb dX4_count_136 rfl (lv_at hl 0 rfl) ?_
                        refine lv_iconst (v := 0) hx hb dX4_count_137 (by decide) ?_
                        refine kI (wr := ([] : va_W)) (W1 := MDw cA cZ aM aS aI aK sf mf kf m0 m1 m2 m3 m4) (wsN := MDw cA cZ aM aS aI aK sf mf kf m0 m1 m2 m3 m4) (rV (As := [.int 0]) (rest := []) (W0 := MDw cA cZ aM aS aI aK sf mf kf m0 m1 m2 m3 m4) ⟨hx, hb, hml, hown, hts⟩ (c_X4_ofFate l D cA cZ aM aS aI aK H.size sf mf kf m0 m1 m2 m3 m4 0 (show (sf 10) ≤ 48 from by exact hm)) (cwV 1 hts gX4_count_X4_ofFate rfl rfl rfl (by decide +kernel) ⟨Nat.le_of_ble_eq_true rfl, Nat.le_of_ble_eq_true rfl⟩) hP hD hK hN ([0, 1, 2, 3] : List Nat) rfl rfl 4 0 rfl rfl rfl hl.1 rfl (Nat.le_of_ble_eq_true rfl) dX4_count_138 ⟨Nat.zero_le _, Nat.zero_le _⟩) hP hD hS hA [0, 1, 2, 3] [] [0, 1, 2, 3] rfl rfl rfl (by decide) rfl rfl (fun H locs hP hD hS => ?_)
                        refine lv_aload_n hx hb dX4_count_141 rfl (lv_at hl 0 rfl) ?_
                        refine lv_iconst (v := 1) hx hb dX4_count_142 (by decide) ?_
                        refine kI (wr := ([] : va_W)) (W1 := MDw cA cZ aM aS aI aK sf mf kf m0 m1 m2 m3 m4) (wsN := MDw cA cZ aM aS aI aK sf mf kf m0 m1 m2 m3 m4) (rV (As := [.int 1]) (rest := [.int (g_X4_ofFate sf 0)]) (W0 := MDw cA cZ aM aS aI aK sf mf kf m0 m1 m2 m3 m4) ⟨hx, hb, hml, hown, hts⟩ (c_X4_ofFate l D cA cZ aM aS aI aK H.size sf mf kf m0 m1 m2 m3 m4 1 (show (sf 10) ≤ 48 from by exact hm)) (cwV 1 hts gX4_count_X4_ofFate rfl rfl rfl (by decide +kernel) ⟨Nat.le_of_ble_eq_true rfl, Nat.le_of_ble_eq_true rfl⟩) hP hD hK hN ([0, 1, 2, 3] : List Nat) rfl rfl 4 0 rfl rfl rfl hl.1 rfl (Nat.le_of_ble_eq_true rfl) dX4_count_143 ⟨Nat.zero_le _, Nat.zero_le _⟩) hP hD hS hA [0, 1, 2, 3] [] [0, 1, 2, 3] rfl rfl rfl (by decide) rfl rfl (fun H locs hP hD hS => ?_)
                        refine lv_iadd hx hb dX4_count_146 ?_
                        refine lv_aload_n hx hb dX4_count_147 rfl (lv_at hl 0 rfl) ?_
                        refine lv_iconst (v := 2) hx hb dX4_count_148 (by decide) ?_
                        refine kI (wr := ([] : va_W)) (W1 := MDw cA cZ aM aS aI aK sf mf kf m0 m1 m2 m3 m4) (wsN := MDw cA cZ aM aS aI aK sf mf kf m0 m1 m2 m3 m4) (rV (As := [.int 2]) (rest := [.int ((g_X4_ofFate sf 0) + (g_X4_ofFate sf 1))]) (W0 := MDw cA cZ aM aS aI aK sf mf kf m0 m1 m2 m3 m4) ⟨hx, hb, hml, hown, hts⟩ (c_X4_ofFate l D cA cZ aM aS aI aK H.size sf mf kf m0 m1 m2 m3 m4 2 (show (sf 10) ≤ 48 from by exact hm)) (cwV 1 hts gX4_count_X4_ofFate rfl rfl rfl (by decide +kernel) ⟨Nat.le_of_ble_eq_true rfl, Nat.le_of_ble_eq_true rfl⟩) hP hD hK hN ([0, 1, 2, 3] : List Nat) rfl rfl 4 0 rfl rfl rfl hl.1 rfl (Nat.le_of_ble_eq_true rfl) dX4_count_149 ⟨Nat.zero_le _, Nat.zero_le _⟩) hP hD hS hA [0, 1, 2, 3] [] [0, 1, 2, 3] rfl rfl rfl (by decide) rfl rfl (fun H locs hP hD hS => ?_)
                        refine lv_iadd hx hb dX4_count_152 ?_
                        rw [g_X4_count, if_pos c_1, if_pos c_2, if_pos c_3, if_neg c_4, if_neg c_5, if_neg c_6, if_neg c_7, if_neg c_8, if_neg c_9, if_neg c_10, if_pos c_11] at hG
                        rw [hG]
                        exact W.iret (v := (((g_X4_ofFate sf 0) + (g_X4_ofFate sf 1)) + (g_X4_ofFate sf 2))) hx hb hr (fun t ht hW => ⟨⟨_, (), rfl, rfl, by rw [ht]; exact hP, va_K.moved hW.alike hK, hD⟩, hS.F ht⟩) hS.2.2 dX4_count_153
                      · rcases Decidable.em (x1 = 8) with c_12 | c_12
                        · refine lv_tableIn (off := 90) (tgt := 154) hx hb dX4_count_64 (by rw [c_12]; decide) (by rw [c_12]; decide) (by rw [c_12]; rfl) (by decide) ?_
                          refine lv_aload_n hx hb dX4_count_154 rfl (lv_at hl 0 rfl) ?_
                          refine lv_iconst (v := 1) hx hb dX4_count_155 (by decide) ?_
                          refine kI (wr := ([] : va_W)) (W1 := MDw cA cZ aM aS aI aK sf mf kf m0 m1 m2 m3 m4) (wsN := MDw cA cZ aM aS aI aK sf mf kf m0 m1 m2 m3 m4) (rV (As := [.int 1]) (rest := []) (W0 := MDw cA cZ aM aS aI aK sf mf kf m0 m1 m2 m3 m4) ⟨hx, hb, hml, hown, hts⟩ (c_X4_ofFate l D cA cZ aM aS aI aK H.size sf mf kf m0 m1 m2 m3 m4 1 (show (sf 10) ≤ 48 from by exact hm)) (cwV 1 hts gX4_count_X4_ofFate rfl rfl rfl (by decide +kernel) ⟨Nat.le_of_ble_eq_true rfl, Nat.le_of_ble_eq_true rfl⟩) hP hD hK hN ([0, 1, 2, 3] : List Nat) rfl rfl 4 0 rfl rfl rfl hl.1 rfl (Nat.le_of_ble_eq_true rfl) dX4_count_156 ⟨Nat.zero_le _, Nat.zero_le _⟩) hP hD hS hA [0, 1, 2, 3] [] [0, 1, 2, 3] rfl rfl rfl (by decide) rfl rfl (fun H locs hP hD hS => ?_)
                          rw [g_X4_count, if_pos c_1, if_pos c_2, if_pos c_3, if_neg c_4, if_neg c_5, if_neg c_6, if_neg c_7, if_neg c_8, if_neg c_9, if_neg c_10, if_neg c_11, if_pos c_12] at hG
                          rw [hG]
                          exact W.iret (v := (g_X4_ofFate sf 1)) hx hb hr (fun t ht hW => ⟨⟨_, (), rfl, rfl, by rw [ht]; exact hP, va_K.moved hW.alike hK, hD⟩, hS.F ht⟩) hS.2.2 dX4_count_159
                        · rcases Decidable.em (x1 = 9) with c_13 | c_13
                          · refine lv_tableIn (off := 96) (tgt := 160) hx hb dX4_count_64 (by rw [c_13]; decide) (by rw [c_13]; decide) (by rw [c_13]; rfl) (by decide) ?_
                            refine lv_aload_n hx hb dX4_count_160 rfl (lv_at hl 0 rfl) ?_
                            refine va_get (D := D) (ci := 4) (v := .ref aK) (C := RX4) (T := TX4) (N := 8) hx hb hts iX4 hown hK hP 0 rfl rfl 2 (by decide) (hts (.fieldLink RX4 16 "LightBurstsModel" "isKept" "[Z") (List.mem_of_getElem? (i := 2) rfl)) (fun _ h9 => h9) rfl dX4_count_161 ?_
                            refine lv_iconst (v := 0) hx hb dX4_count_164 (by decide) ?_
                            refine va_zald hx hb hK hP 3 1 rfl rfl (by unfold vp_in; decide) dX4_count_165 ?_
                            refine lv_eqi (kf 0) rfl ?_
                            refine lv_if_eq (tgt := 173) hx hb dX4_count_166 (by decide) (fun c_14 => ?_) (fun c_14 => ?_)
                            · refine lv_iconst (v := 0) hx hb dX4_count_173 (by decide) ?_
                              refine lv_aload_n hx hb dX4_count_174 rfl (lv_at hl 0 rfl) ?_
                              refine va_get (D := D) (ci := 4) (v := .ref aK) (C := RX4) (T := TX4) (N := 8) hx hb hts iX4 hown hK hP 0 rfl rfl 2 (by decide) (hts (.fieldLink RX4 16 "LightBurstsModel" "isKept" "[Z") (List.mem_of_getElem? (i := 2) rfl)) (fun _ h9 => h9) rfl dX4_count_175 ?_
                              refine lv_iconst (v := 1) hx hb dX4_count_178 (by decide) ?_
                              refine va_zald hx hb hK hP 3 1 rfl rfl (by unfold vp_in; decide) dX4_count_179 ?_
                              refine lv_eqi (kf 1) rfl ?_
                              refine lv_if_eq (tgt := 187) hx hb dX4_count_180 (by decide) (fun c_15 => ?_) (fun c_15 => ?_)
                              · refine lv_iconst (v := 0) hx hb dX4_count_187 (by decide) ?_
                                refine lv_iadd hx hb dX4_count_188 ?_
                                rw [g_X4_count, if_pos c_1, if_pos c_2, if_pos c_3, if_neg c_4, if_neg c_5, if_neg c_6, if_neg c_7, if_neg c_8, if_neg c_9, if_neg c_10, if_neg c_11, if_neg c_12, if_pos c_13, if_pos c_14, if_pos c_15] at hG
                                rw [hG]
                                exact W.iret (v := (0 + 0)) hx hb hr (fun t ht hW => ⟨⟨_, (), rfl, rfl, by rw [ht]; exact hP, va_K.moved hW.alike hK, hD⟩, hS.F ht⟩) hS.2.2 dX4_count_189
                              · refine lv_iconst (v := 2) hx hb dX4_count_183 (by decide) ?_
                                refine lv_goto (tgt := 188) hx hb dX4_count_184 (by decide) ?_
                                refine lv_iadd hx hb dX4_count_188 ?_
                                rw [g_X4_count, if_pos c_1, if_pos c_2, if_pos c_3, if_neg c_4, if_neg c_5, if_neg c_6, if_neg c_7, if_neg c_8, if_neg c_9, if_neg c_10, if_neg c_11, if_neg c_12, if_pos c_13, if_pos c_14, if_neg c_15] at hG
                                rw [hG]
                                exact W.iret (v := (0 + 2)) hx hb hr (fun t ht hW => ⟨⟨_, (), rfl, rfl, by rw [ht]; exact hP, va_K.moved hW.alike hK, hD⟩, hS.F ht⟩) hS.2.2 dX4_count_189
                            · refine lv_iconst (v := 1) hx hb dX4_count_169 (by decide) ?_
                              refine lv_goto (tgt := 174) hx hb dX4_count_170 (by decide) ?_
                              refine lv_aload_n hx hb dX4_count_174 rfl (lv_at hl 0 rfl) ?_
                              refine va_get (D := D) (ci := 4) (v := .ref aK) (C := RX4) (T := TX4) (N := 8) hx hb hts iX4 hown hK hP 0 rfl rfl 2 (by decide) (hts (.fieldLink RX4 16 "LightBurstsModel" "isKept" "[Z") (List.mem_of_getElem? (i := 2) rfl)) (fun _ h9 => h9) rfl dX4_count_175 ?_
                              refine lv_iconst (v := 1) hx hb dX4_count_178 (by decide) ?_
                              refine va_zald hx hb hK hP 3 1 rfl rfl (by unfold vp_in; decide) dX4_count_179 ?_
                              refine lv_eqi (kf 1) rfl ?_
                              refine lv_if_eq (tgt := 187) hx hb dX4_count_180 (by decide) (fun c_16 => ?_) (fun c_16 => ?_)
                              · refine lv_iconst (v := 0) hx hb dX4_count_187 (by decide) ?_
                                refine lv_iadd hx hb dX4_count_188 ?_
                                rw [g_X4_count, if_pos c_1, if_pos c_2, if_pos c_3, if_neg c_4, if_neg c_5, if_neg c_6, if_neg c_7, if_neg c_8, if_neg c_9, if_neg c_10, if_neg c_11, if_neg c_12, if_pos c_13, if_neg c_14, if_pos c_16] at hG
                                rw [hG]
                                exact W.iret (v := (1 + 0)) hx hb hr (fun t ht hW => ⟨⟨_, (), rfl, rfl, by rw [ht]; exact hP, va_K.moved hW.alike hK, hD⟩, hS.F ht⟩) hS.2.2 dX4_count_189
                              · refine lv_iconst (v := 2) hx hb dX4_count_183 (by decide) ?_
                                refine lv_goto (tgt := 188) hx hb dX4_count_184 (by decide) ?_
                                refine lv_iadd hx hb dX4_count_188 ?_
                                rw [g_X4_count, if_pos c_1, if_pos c_2, if_pos c_3, if_neg c_4, if_neg c_5, if_neg c_6, if_neg c_7, if_neg c_8, if_neg c_9, if_neg c_10, if_neg c_11, if_neg c_12, if_pos c_13, if_neg c_14, if_neg c_16] at hG
                                rw [hG]
                                exact W.iret (v := (1 + 2)) hx hb hr (fun t ht hW => ⟨⟨_, (), rfl, rfl, by rw [ht]; exact hP, va_K.moved hW.alike hK, hD⟩, hS.F ht⟩) hS.2.2 dX4_count_189
                          · refine lv_tableOut (tgt := 190) hx hb dX4_count_64 (sw_out10 c_4 c_5 c_6 c_7 c_8 c_9 c_10 c_11 c_12 c_13) (by decide) ?_
                            refine lv_bipush (v := (-2)) hx hb dX4_count_190 (by decide) ?_
                            rw [g_X4_count, if_pos c_1, if_pos c_2, if_pos c_3, if_neg c_4, if_neg c_5, if_neg c_6, if_neg c_7, if_neg c_8, if_neg c_9, if_neg c_10, if_neg c_11, if_neg c_12, if_neg c_13] at hG
                            rw [hG]
                            exact W.iret (v := (-2)) hx hb hr (fun t ht hW => ⟨⟨_, (), rfl, rfl, by rw [ht]; exact hP, va_K.moved hW.alike hK, hD⟩, hS.F ht⟩) hS.2.2 dX4_count_192
      · refine lv_aload_n hx hb dX4_count_50 rfl (lv_at hl 0 rfl) ?_
        refine va_get (D := D) (ci := 4) (v := .ref aS) (C := RX4) (T := TX4) (N := 8) hx hb hts iX4 hown hK hP 0 rfl rfl 0 (by decide) (hts (.fieldLink RX4 7 "LightBurstsModel" "state" "[I") (List.mem_of_getElem? (i := 1) rfl)) (fun _ h9 => h9) rfl dX4_count_51 ?_
        refine lv_bipush (v := 6) hx hb dX4_count_54 (by decide) ?_
        refine lv_iload_n hx hb dX4_count_56 rfl (lv_at hl 1 rfl) ?_
        refine lv_iadd hx hb dX4_count_57 ?_
        refine lv_bipush (v := 20) hx hb dX4_count_58 (by decide) ?_
        refine lv_isub hx hb dX4_count_60 ?_
        refine va_iald hx hb hK hP 1 0 rfl rfl (cnt20 c_3) dX4_count_61 ?_
        rw [g_X4_count, if_pos c_1, if_pos c_2, if_neg c_3] at hG
        rw [hG]
        exact W.iret (v := (sf ((6 + x1) - 20).toNatClampNeg)) hx hb hr (fun t ht hW => ⟨⟨_, (), rfl, rfl, by rw [ht]; exact hP, va_K.moved hW.alike hK, hD⟩, hS.F ht⟩) hS.2.2 dX4_count_62
    · refine lv_aload_n hx hb dX4_count_29 rfl (lv_at hl 0 rfl) ?_
      refine va_get (D := D) (ci := 4) (v := .ref aS) (C := RX4) (T := TX4) (N := 8) hx hb hts iX4 hown hK hP 0 rfl rfl 0 (by decide) (hts (.fieldLink RX4 7 "LightBurstsModel" "state" "[I") (List.mem_of_getElem? (i := 1) rfl)) (fun _ h9 => h9) rfl dX4_count_30 ?_
      refine lv_iload_n hx hb dX4_count_33 rfl (lv_at hl 1 rfl) ?_
      refine lv_bipush (v := 10) hx hb dX4_count_34 (by decide) ?_
      refine lv_isub hx hb dX4_count_36 ?_
      refine va_iald hx hb hK hP 1 0 rfl rfl (cnt10 c_2) dX4_count_37 ?_
      rw [g_X4_count, if_pos c_1, if_neg c_2] at hG
      rw [hG]
      exact W.iret (v := (sf (x1 - 10).toNatClampNeg)) hx hb hr (fun t ht hW => ⟨⟨_, (), rfl, rfl, by rw [ht]; exact hP, va_K.moved hW.alike hK, hD⟩, hS.F ht⟩) hS.2.2 dX4_count_38
  · refine lv_aload_n hx hb dX4_count_10 rfl (lv_at hl 0 rfl) ?_
    refine lv_iload_n hx hb dX4_count_11 rfl (lv_at hl 1 rfl) ?_
    refine lv_iconst (v := 2) hx hb dX4_count_12 (by decide) ?_
    refine lv_isub hx hb dX4_count_13 ?_
    refine kI (wr := ([] : va_W)) (W1 := MDw cA cZ aM aS aI aK sf mf kf m0 m1 m2 m3 m4) (wsN := MDw cA cZ aM aS aI aK sf mf kf m0 m1 m2 m3 m4) (rV (As := [.int (x1 - 2)]) (rest := []) (W0 := MDw cA cZ aM aS aI aK sf mf kf m0 m1 m2 m3 m4) ⟨hx, hb, hml, hown, hts⟩ (c_X4_ofFate l D cA cZ aM aS aI aK H.size sf mf kf m0 m1 m2 m3 m4 (x1 - 2) (show (sf 10) ≤ 48 from by exact hm)) (cwV 1 hts gX4_count_X4_ofFate rfl rfl rfl (by decide +kernel) ⟨Nat.le_of_ble_eq_true rfl, Nat.le_of_ble_eq_true rfl⟩) hP hD hK hN ([0, 1, 2, 3] : List Nat) rfl rfl 4 0 rfl rfl rfl hl.1 rfl (Nat.le_of_ble_eq_true rfl) dX4_count_14 ⟨Nat.zero_le _, Nat.zero_le _⟩) hP hD hS hA [0, 1, 2, 3] [] [0, 1, 2, 3] rfl rfl rfl (by decide) rfl rfl (fun H locs hP hD hS => ?_)
    rw [g_X4_count, if_neg c_1] at hG
    rw [hG]
    exact W.iret (v := (g_X4_ofFate sf (x1 - 2))) hx hb hr (fun t ht hW => ⟨⟨_, (), rfl, rfl, by rw [ht]; exact hP, va_K.moved hW.alike hK, hD⟩, hS.F ht⟩) hS.2.2 dX4_count_17

def g_X4_image_L14 (sf : (Nat → Int32)) (kf : (Nat → Int32)) (x1 : Int32) : Nat → Int32 → (Nat → Int32) → (Int32 × (Nat → Int32) × (Nat → Int32))
  | 0, _, _ => (0, (fun _ => 0), (fun _ => 0))
  | n + 1, v2, w_mf => (if 539 ≤ v2 then (1, w_mf, (upd kf x1.toNatClampNeg (vp_nar .boolean 1))) else (g_X4_image_L14 sf kf x1 n (v2 + 1) (upd w_mf ((539 * x1) + v2).toNatClampNeg (sf v2.toNatClampNeg))))
def g_X4_image (sf : (Nat → Int32)) (mf : (Nat → Int32)) (kf : (Nat → Int32)) (x1 : Int32) : Int32 × (Nat → Int32) × (Nat → Int32) := (if (g_X4_in x1 0 1) = 0 then ((-2), mf, kf) else (g_X4_image_L14 sf kf x1 (((539 : Int32).toInt - ((0 : Int32)).toInt).toNat + 1) 0 mf))
set_option maxHeartbeats 4000000 in
set_option maxRecDepth 100000 in
theorem c_X4_image (l : Launch) (D : va_G) (cA cZ : ClassId) (aM : Nat) (aS : Nat) (aI : Nat) (aK : Nat) (szz : Nat) (sf : (Nat → Int32)) (mf : (Nat → Int32)) (kf : (Nat → Int32)) (m0 : Int32) (m1 : Int32) (m2 : Int32) (m3 : Int32) (m4 : Int32) (x1 : Int32) : MetI l yX4_image wsX4_image 1 22 D (tyA cA cZ) [.ref aM, .int x1] (MDw cA cZ aM aS aI aK sf mf kf m0 m1 m2 m3 m4) szz (g_X4_image sf mf kf x1).1 (MDw cA cZ aM aS aI aK sf ((g_X4_image sf mf kf x1).2.1) ((g_X4_image sf mf kf x1).2.2) m0 m1 m2 m3 m4) := by
  refine Met.ofW (cc := cX4_image) (maxL := 3) (ret := (some .int)) (by decide) rfl ?_
  intro p e s m args below meth c s₁ B hml hv
  obtain ⟨rfl, hsz, hP, hK, hD0, hN⟩ := hv
  have hx := B.exec
  have hb := B.bytes
  have hr := B.returns
  have hts := atoms_spec (ws := wsX4_image) B.pre
  have hown : s.vm.findClass RX4 = some m.cls := findClass_of_methodNamed B.named
  have hlocks := B.notSynchronized
  have iX4 : ∀ w ∈ wsX40, w ∈ wsX4_image := fun _ h => List.mem_cons_of_mem _ (List.mem_append_right _ h)
  subst hsz
  have hD := hD0.self (sz := s.heap.size)
  generalize hAe : va_A (MDw cA cZ aM aS aI aK sf mf kf m0 m1 m2 m3 m4) s.heap.size = A at hD ⊢
  have hA : ∀ q : Nat, s.heap.size ≤ q → A q := fun q h => by rw [← hAe]; exact Or.inr h
  have hS : va_S A s.heap s.heap [] := va_S.rf
  have hP : va_P D vwCl (MDw cA cZ aM aS aI aK sf mf kf m0 m1 m2 m3 m4) s.heap := hP
  obtain ⟨G, hG⟩ : ∃ G, G = (g_X4_image sf mf kf x1) := ⟨_, rfl⟩
  rw [← hG]
  have hl := lv_entry ([.ref aM, .int x1]) (n := 3) (Nat.le_of_ble_eq_true rfl)
  rw [lg_entry_eq]
  generalize (lg_sl ([.ref aM, .int x1]) ++ List.replicate (3 - (lg_sl ([.ref aM, .int x1])).length) Slot.unset).toArray = ls at hl ⊢
  have hl : lv_has ls 3 [(0, .ref aM), (1, .int x1)] := hl
  refine lv_iload_n hx hb dX4_image_0 rfl (lv_at hl 1 rfl) ?_
  refine lv_iconst (v := 0) hx hb dX4_image_1 (by decide) ?_
  refine lv_iconst (v := 1) hx hb dX4_image_2 (by decide) ?_
  refine kI (wr := MDw cA cZ aM aS aI aK sf mf kf m0 m1 m2 m3 m4) (W1 := ([] : va_W)) (wsN := MDw cA cZ aM aS aI aK sf mf kf m0 m1 m2 m3 m4) (rS (As := [.int x1, .int 0, .int 1]) (rest := []) (W0 := ([] : va_W)) ⟨hx, hb, hml, hown, hts⟩ (c_X4_in l D cA cZ s.heap.size x1 0 1) (cwS 3 hts gX4_image_X4_in rfl rfl rfl (by decide +kernel) ⟨Nat.le_of_ble_eq_true rfl, Nat.le_of_ble_eq_true rfl⟩) hP hD hK hN ([] : List Nat) rfl rfl rfl hl.1 rfl (Nat.le_of_ble_eq_true rfl) dX4_image_3 ⟨Nat.zero_le _, Nat.zero_le _⟩) hP hD hS hA [] [0, 1, 2, 3] [0, 1, 2, 3] rfl rfl rfl (by decide) rfl rfl (fun H locs hP hD hS => ?_)
  refine lv_if_ne (tgt := 12) hx hb dX4_image_6 (by decide) (fun c_1 => ?_) (fun c_1 => ?_)
  · refine lv_iconst (v := 0) hx hb dX4_image_12 (by decide) ?_
    refine lv_istore_n (lv' := [(2, .int 0), (0, .ref aM), (1, .int x1)]) hx hb dX4_image_13 rfl hl (by decide) rfl (fun ls hl => ?_)
    rw [g_X4_image, if_neg c_1] at hG
    refine (?_ : ∀ (n : Nat) (v2 : Int32) (w_mf : (Nat → Int32)) (H : Heap) (locs : List Loc) (ls : Array Slot), (0 ≤ v2) → ((539 : Int32).toInt - (v2).toInt).toNat < n → G = g_X4_image_L14 sf kf x1 n v2 w_mf → va_P D vwCl (MDw cA cZ aM aS aI aK sf w_mf kf m0 m1 m2 m3 m4) H → va_D A (MDw cA cZ aM aS aI aK sf w_mf kf m0 m1 m2 m3 m4) → va_S A s.heap H locs → lv_has ls 3 [(0, .ref aM), (1, .int x1), (2, .int v2)] → W p l e _ s m _ below meth c H locs _ _ _ (F0 m 14 ls [])) (((539 : Int32).toInt - ((0 : Int32)).toInt).toNat + 1) 0 mf _ _ _ (by decide) (Nat.lt_succ_self _) hG hP hD hS (lv_sub hl [1, 2, 0] rfl)
    clear hG hP hD hS hl
    intro n
    induction n with
    | zero => intros; omega
    | succ n14 ih14 =>
      intro v2 w_mf H locs ls h0 hm14 hG hP hD hS hl
      refine lv_iload_n hx hb dX4_image_14 rfl (lv_at hl 2 rfl) ?_
      refine lv_sipush (v := 539) hx hb dX4_image_15 (by decide) ?_
      refine lv_icmp_ge (tgt := 45) hx hb dX4_image_18 (by decide) (fun c_2 => ?_) (fun c_2 => ?_)
      · refine lv_aload_n hx hb dX4_image_45 rfl (lv_at hl 0 rfl) ?_
        refine va_get (D := D) (ci := 4) (v := .ref aK) (C := RX4) (T := TX4) (N := 8) hx hb hts iX4 hown hK hP 0 rfl rfl 2 (by decide) (hts (.fieldLink RX4 16 "LightBurstsModel" "isKept" "[Z") (List.mem_of_getElem? (i := 3) rfl)) (fun _ h9 => h9) rfl dX4_image_46 ?_
        refine lv_iload_n hx hb dX4_image_49 rfl (lv_at hl 1 rfl) ?_
        refine lv_iconst (v := 1) hx hb dX4_image_50 (by decide) ?_
        refine va_zast hx hb hK hP hD hS 3 1 rfl rfl (in_vin c_1 (by decide) (by decide)) dX4_image_51 (fun H locs hP hD hS => ?_)
        have hP : va_P D vwCl (MDw cA cZ aM aS aI aK sf w_mf (upd kf x1.toNatClampNeg (vp_nar .boolean 1)) m0 m1 m2 m3 m4) H := hP
        have hD : va_D A (MDw cA cZ aM aS aI aK sf w_mf (upd kf x1.toNatClampNeg (vp_nar .boolean 1)) m0 m1 m2 m3 m4) := hD
        refine lv_iconst (v := 1) hx hb dX4_image_52 (by decide) ?_
        rw [g_X4_image_L14, if_pos c_2] at hG
        rw [hG]
        exact W.iret (v := 1) hx hb hr (fun t ht hW => ⟨⟨_, (), rfl, rfl, by rw [ht]; exact hP, va_K.moved hW.alike hK, hD⟩, hS.F ht⟩) hS.2.2 dX4_image_53
      · refine lv_aload_n hx hb dX4_image_21 rfl (lv_at hl 0 rfl) ?_
        refine va_get (D := D) (ci := 4) (v := .ref aI) (C := RX4) (T := TX4) (N := 8) hx hb hts iX4 hown hK hP 0 rfl rfl 1 (by decide) (hts (.fieldLink RX4 13 "LightBurstsModel" "images" "[I") (List.mem_of_getElem? (i := 1) rfl)) (fun _ h9 => h9) rfl dX4_image_22 ?_
        refine lv_sipush (v := 539) hx hb dX4_image_25 (by decide) ?_
        refine lv_iload_n hx hb dX4_image_28 rfl (lv_at hl 1 rfl) ?_
        refine lv_imul hx hb dX4_image_29 ?_
        refine lv_iload_n hx hb dX4_image_30 rfl (lv_at hl 2 rfl) ?_
        refine lv_iadd hx hb dX4_image_31 ?_
        refine lv_aload_n hx hb dX4_image_32 rfl (lv_at hl 0 rfl) ?_
        refine va_get (D := D) (ci := 4) (v := .ref aS) (C := RX4) (T := TX4) (N := 8) hx hb hts iX4 hown hK hP 0 rfl rfl 0 (by decide) (hts (.fieldLink RX4 7 "LightBurstsModel" "state" "[I") (List.mem_of_getElem? (i := 2) rfl)) (fun _ h9 => h9) rfl dX4_image_33 ?_
        refine lv_iload_n hx hb dX4_image_36 rfl (lv_at hl 2 rfl) ?_
        refine va_iald hx hb hK hP 1 0 rfl rfl (vin_u h0 c_2 (by decide)) dX4_image_37 ?_
        refine va_iast hx hb hK hP hD hS 2 0 rfl rfl (img_in c_1 h0 c_2) dX4_image_38 (fun H locs hP hD hS => ?_)
        have hP : va_P D vwCl (MDw cA cZ aM aS aI aK sf (upd w_mf ((539 * x1) + v2).toNatClampNeg (sf v2.toNatClampNeg)) kf m0 m1 m2 m3 m4) H := hP
        have hD : va_D A (MDw cA cZ aM aS aI aK sf (upd w_mf ((539 * x1) + v2).toNatClampNeg (sf v2.toNatClampNeg)) kf m0 m1 m2 m3 m4) := hD
        refine lv_iinc (v := (v2 + 1)) (lv' := [(2, .int (v2 + 1)), (0, .ref aM), (1, .int x1)]) hx hb dX4_image_39 hl (k := 2) rfl rfl (by decide) rfl (fun ls hl => ?_)
        refine lv_goto (tgt := 14) hx hb dX4_image_42 (by decide) ?_
        rw [g_X4_image_L14, if_neg c_2] at hG
        exact ih14 (v2 + 1) (upd w_mf ((539 * x1) + v2).toNatClampNeg (sf v2.toNatClampNeg)) _ _ _ (by exact up_ge h0 c_2) (by exact ms_up c_2 hm14) hG hP hD hS (lv_sub hl [1, 2, 0] rfl)
  · refine lv_bipush (v := (-2)) hx hb dX4_image_9 (by decide) ?_
    rw [g_X4_image, if_pos c_1] at hG
    rw [hG]
    exact W.iret (v := (-2)) hx hb hr (fun t ht hW => ⟨⟨_, (), rfl, rfl, by rw [ht]; exact hP, va_K.moved hW.alike hK, hD⟩, hS.F ht⟩) hS.2.2 dX4_image_11

def g_X4_restore_L26 (mf : (Nat → Int32)) (x1 : Int32) : Nat → Int32 → (Nat → Int32) → (Int32 × (Nat → Int32))
  | 0, _, _ => (0, (fun _ => 0))
  | n + 1, v2, w_sf => (if 539 ≤ v2 then (1, w_sf) else (g_X4_restore_L26 mf x1 n (v2 + 1) (upd w_sf v2.toNatClampNeg (mf ((539 * x1) + v2).toNatClampNeg))))
def g_X4_restore (sf : (Nat → Int32)) (mf : (Nat → Int32)) (kf : (Nat → Int32)) (x1 : Int32) : Int32 × (Nat → Int32) := (if (g_X4_in x1 0 1) = 0 then ((-2), sf) else (if (kf x1.toNatClampNeg) = 0 then ((-3), sf) else (g_X4_restore_L26 mf x1 (((539 : Int32).toInt - ((0 : Int32)).toInt).toNat + 1) 0 sf)))
set_option maxHeartbeats 4000000 in
set_option maxRecDepth 100000 in
theorem c_X4_restore (l : Launch) (D : va_G) (cA cZ : ClassId) (aM : Nat) (aS : Nat) (aI : Nat) (aK : Nat) (szz : Nat) (sf : (Nat → Int32)) (mf : (Nat → Int32)) (kf : (Nat → Int32)) (m0 : Int32) (m1 : Int32) (m2 : Int32) (m3 : Int32) (m4 : Int32) (x1 : Int32) : MetI l yX4_restore wsX4_restore 1 22 D (tyA cA cZ) [.ref aM, .int x1] (MDw cA cZ aM aS aI aK sf mf kf m0 m1 m2 m3 m4) szz (g_X4_restore sf mf kf x1).1 (MDw cA cZ aM aS aI aK ((g_X4_restore sf mf kf x1).2) mf kf m0 m1 m2 m3 m4) := by
  refine Met.ofW (cc := cX4_restore) (maxL := 3) (ret := (some .int)) (by decide) rfl ?_
  intro p e s m args below meth c s₁ B hml hv
  obtain ⟨rfl, hsz, hP, hK, hD0, hN⟩ := hv
  have hx := B.exec
  have hb := B.bytes
  have hr := B.returns
  have hts := atoms_spec (ws := wsX4_restore) B.pre
  have hown : s.vm.findClass RX4 = some m.cls := findClass_of_methodNamed B.named
  have hlocks := B.notSynchronized
  have iX4 : ∀ w ∈ wsX40, w ∈ wsX4_restore := fun _ h => List.mem_cons_of_mem _ (List.mem_append_right _ h)
  subst hsz
  have hD := hD0.self (sz := s.heap.size)
  generalize hAe : va_A (MDw cA cZ aM aS aI aK sf mf kf m0 m1 m2 m3 m4) s.heap.size = A at hD ⊢
  have hA : ∀ q : Nat, s.heap.size ≤ q → A q := fun q h => by rw [← hAe]; exact Or.inr h
  have hS : va_S A s.heap s.heap [] := va_S.rf
  have hP : va_P D vwCl (MDw cA cZ aM aS aI aK sf mf kf m0 m1 m2 m3 m4) s.heap := hP
  obtain ⟨G, hG⟩ : ∃ G, G = (g_X4_restore sf mf kf x1) := ⟨_, rfl⟩
  rw [← hG]
  have hl := lv_entry ([.ref aM, .int x1]) (n := 3) (Nat.le_of_ble_eq_true rfl)
  rw [lg_entry_eq]
  generalize (lg_sl ([.ref aM, .int x1]) ++ List.replicate (3 - (lg_sl ([.ref aM, .int x1])).length) Slot.unset).toArray = ls at hl ⊢
  have hl : lv_has ls 3 [(0, .ref aM), (1, .int x1)] := hl
  refine lv_iload_n hx hb dX4_restore_0 rfl (lv_at hl 1 rfl) ?_
  refine lv_iconst (v := 0) hx hb dX4_restore_1 (by decide) ?_
  refine lv_iconst (v := 1) hx hb dX4_restore_2 (by decide) ?_
  refine kI (wr := MDw cA cZ aM aS aI aK sf mf kf m0 m1 m2 m3 m4) (W1 := ([] : va_W)) (wsN := MDw cA cZ aM aS aI aK sf mf kf m0 m1 m2 m3 m4) (rS (As := [.int x1, .int 0, .int 1]) (rest := []) (W0 := ([] : va_W)) ⟨hx, hb, hml, hown, hts⟩ (c_X4_in l D cA cZ s.heap.size x1 0 1) (cwS 3 hts gX4_restore_X4_in rfl rfl rfl (by decide +kernel) ⟨Nat.le_of_ble_eq_true rfl, Nat.le_of_ble_eq_true rfl⟩) hP hD hK hN ([] : List Nat) rfl rfl rfl hl.1 rfl (Nat.le_of_ble_eq_true rfl) dX4_restore_3 ⟨Nat.zero_le _, Nat.zero_le _⟩) hP hD hS hA [] [0, 1, 2, 3] [0, 1, 2, 3] rfl rfl rfl (by decide) rfl rfl (fun H locs hP hD hS => ?_)
  refine lv_if_ne (tgt := 12) hx hb dX4_restore_6 (by decide) (fun c_1 => ?_) (fun c_1 => ?_)
  · refine lv_aload_n hx hb dX4_restore_12 rfl (lv_at hl 0 rfl) ?_
    refine va_get (D := D) (ci := 4) (v := .ref aK) (C := RX4) (T := TX4) (N := 8) hx hb hts iX4 hown hK hP 0 rfl rfl 2 (by decide) (hts (.fieldLink RX4 16 "LightBurstsModel" "isKept" "[Z") (List.mem_of_getElem? (i := 1) rfl)) (fun _ h9 => h9) rfl dX4_restore_13 ?_
    refine lv_iload_n hx hb dX4_restore_16 rfl (lv_at hl 1 rfl) ?_
    refine va_zald hx hb hK hP 3 1 rfl rfl (in_vin c_1 (by decide) (by decide)) dX4_restore_17 ?_
    refine lv_if_ne (tgt := 24) hx hb dX4_restore_18 (by decide) (fun c_2 => ?_) (fun c_2 => ?_)
    · refine lv_iconst (v := 0) hx hb dX4_restore_24 (by decide) ?_
      refine lv_istore_n (lv' := [(2, .int 0), (0, .ref aM), (1, .int x1)]) hx hb dX4_restore_25 rfl hl (by decide) rfl (fun ls hl => ?_)
      rw [g_X4_restore, if_neg c_1, if_neg c_2] at hG
      refine (?_ : ∀ (n : Nat) (v2 : Int32) (w_sf : (Nat → Int32)) (H : Heap) (locs : List Loc) (ls : Array Slot), (0 ≤ v2) → ((539 : Int32).toInt - (v2).toInt).toNat < n → G = g_X4_restore_L26 mf x1 n v2 w_sf → va_P D vwCl (MDw cA cZ aM aS aI aK w_sf mf kf m0 m1 m2 m3 m4) H → va_D A (MDw cA cZ aM aS aI aK w_sf mf kf m0 m1 m2 m3 m4) → va_S A s.heap H locs → lv_has ls 3 [(0, .ref aM), (1, .int x1), (2, .int v2)] → W p l e _ s m _ below meth c H locs _ _ _ (F0 m 26 ls [])) (((539 : Int32).toInt - ((0 : Int32)).toInt).toNat + 1) 0 sf _ _ _ (by decide) (Nat.lt_succ_self _) hG hP hD hS (lv_sub hl [1, 2, 0] rfl)
      clear hG hP hD hS hl
      intro n
      induction n with
      | zero => intros; omega
      | succ n26 ih26 =>
        intro v2 w_sf H locs ls h0 hm26 hG hP hD hS hl
        refine lv_iload_n hx hb dX4_restore_26 rfl (lv_at hl 2 rfl) ?_
        refine lv_sipush (v := 539) hx hb dX4_restore_27 (by decide) ?_
        refine lv_icmp_ge (tgt := 57) hx hb dX4_restore_30 (by decide) (fun c_3 => ?_) (fun c_3 => ?_)
        · refine lv_iconst (v := 1) hx hb dX4_restore_57 (by decide) ?_
          rw [g_X4_restore_L26, if_pos c_3] at hG
          rw [hG]
          exact W.iret (v := 1) hx hb hr (fun t ht hW => ⟨⟨_, (), rfl, rfl, by rw [ht]; exact hP, va_K.moved hW.alike hK, hD⟩, hS.F ht⟩) hS.2.2 dX4_restore_58
        · refine lv_aload_n hx hb dX4_restore_33 rfl (lv_at hl 0 rfl) ?_
          refine va_get (D := D) (ci := 4) (v := .ref aS) (C := RX4) (T := TX4) (N := 8) hx hb hts iX4 hown hK hP 0 rfl rfl 0 (by decide) (hts (.fieldLink RX4 7 "LightBurstsModel" "state" "[I") (List.mem_of_getElem? (i := 2) rfl)) (fun _ h9 => h9) rfl dX4_restore_34 ?_
          refine lv_iload_n hx hb dX4_restore_37 rfl (lv_at hl 2 rfl) ?_
          refine lv_aload_n hx hb dX4_restore_38 rfl (lv_at hl 0 rfl) ?_
          refine va_get (D := D) (ci := 4) (v := .ref aI) (C := RX4) (T := TX4) (N := 8) hx hb hts iX4 hown hK hP 0 rfl rfl 1 (by decide) (hts (.fieldLink RX4 13 "LightBurstsModel" "images" "[I") (List.mem_of_getElem? (i := 3) rfl)) (fun _ h9 => h9) rfl dX4_restore_39 ?_
          refine lv_sipush (v := 539) hx hb dX4_restore_42 (by decide) ?_
          refine lv_iload_n hx hb dX4_restore_45 rfl (lv_at hl 1 rfl) ?_
          refine lv_imul hx hb dX4_restore_46 ?_
          refine lv_iload_n hx hb dX4_restore_47 rfl (lv_at hl 2 rfl) ?_
          refine lv_iadd hx hb dX4_restore_48 ?_
          refine va_iald hx hb hK hP 2 0 rfl rfl (img_in c_1 h0 c_3) dX4_restore_49 ?_
          refine va_iast hx hb hK hP hD hS 1 0 rfl rfl (vin_u h0 c_3 (by decide)) dX4_restore_50 (fun H locs hP hD hS => ?_)
          have hP : va_P D vwCl (MDw cA cZ aM aS aI aK (upd w_sf v2.toNatClampNeg (mf ((539 * x1) + v2).toNatClampNeg)) mf kf m0 m1 m2 m3 m4) H := hP
          have hD : va_D A (MDw cA cZ aM aS aI aK (upd w_sf v2.toNatClampNeg (mf ((539 * x1) + v2).toNatClampNeg)) mf kf m0 m1 m2 m3 m4) := hD
          refine lv_iinc (v := (v2 + 1)) (lv' := [(2, .int (v2 + 1)), (0, .ref aM), (1, .int x1)]) hx hb dX4_restore_51 hl (k := 2) rfl rfl (by decide) rfl (fun ls hl => ?_)
          refine lv_goto (tgt := 26) hx hb dX4_restore_54 (by decide) ?_
          rw [g_X4_restore_L26, if_neg c_3] at hG
          exact ih26 (v2 + 1) (upd w_sf v2.toNatClampNeg (mf ((539 * x1) + v2).toNatClampNeg)) _ _ _ (by exact up_ge h0 c_3) (by exact ms_up c_3 hm26) hG hP hD hS (lv_sub hl [1, 2, 0] rfl)
    · refine lv_bipush (v := (-3)) hx hb dX4_restore_21 (by decide) ?_
      rw [g_X4_restore, if_neg c_1, if_pos c_2] at hG
      rw [hG]
      exact W.iret (v := (-3)) hx hb hr (fun t ht hW => ⟨⟨_, (), rfl, rfl, by rw [ht]; exact hP, va_K.moved hW.alike hK, hD⟩, hS.F ht⟩) hS.2.2 dX4_restore_23
  · refine lv_bipush (v := (-2)) hx hb dX4_restore_9 (by decide) ?_
    rw [g_X4_restore, if_pos c_1] at hG
    rw [hG]
    exact W.iret (v := (-2)) hx hb hr (fun t ht hW => ⟨⟨_, (), rfl, rfl, by rw [ht]; exact hP, va_K.moved hW.alike hK, hD⟩, hS.F ht⟩) hS.2.2 dX4_restore_11
