theorem ref_n {x0 x1 x2 x3 x4 : Int32} (h : g_X4_refusal x0 x1 x2 x3 x4 = 0) : 0 ≤ x4.toInt ∧ x4.toInt ≤ 60 := by
  have e1 : (1 : Int32).toInt = 1 := rfl
  have e60 : (60 : Int32).toInt = 60 := rfl
  unfold g_X4_refusal at h
  by_cases h1 : g_X4_in x4 1 60 = 0
  · rw [if_pos h1] at h
    repeat' split at h
    all_goals exact absurd h (by decide)
  · have h2 := in_iff.mp h1
    omega
theorem bok_t {n : Int32} (h0 : 0 ≤ n.toInt) (h : n ≤ 48) (c : ¬ n = 48) : bok n := by
  have e48 : (48 : Int32).toInt = 48 := rfl
  have h2 : n.toInt ≠ 48 := sw_c (k := 48) rfl c
  rw [Int32.le_iff_toInt_le] at h
  exact ⟨h0, by omega⟩
theorem isBurst_ok {sf : Nat → Int32} {b : Int32} (hm : sf 10 ≤ 48) (hm0 : 0 ≤ (sf 10).toInt) (h : ¬ g_X4_isBurst sf b = 0) : bok b := by
  have e48 : (48 : Int32).toInt = 48 := rfl
  have e1 : (1 : Int32).toInt = 1 := rfl
  have e0 : (0 : Int32).toInt = 0 := rfl
  have h1 := in_iff.mp h
  rw [Int32.le_iff_toInt_le] at hm
  rw [i32_sub (by omega) (by omega)] at h1
  exact ⟨by omega, by omega⟩

def g_X4_tell_C47 (u47 : Int32 × Int32 × Int32 × Int32 × Int32) (sf : (Nat → Int32)) (x1 : Int32) (x2 : Int32) (x3 : Int32) (x4 : Int32) (x5 : Int32) : Int32 × (Nat → Int32) × Int32 × Int32 × Int32 × Int32 × Int32 := ((sf 10), (upd (upd (upd (upd (upd (upd (upd (upd (upd (upd (upd (upd sf (g_X4_at (sf 10) 0).toNatClampNeg x1) (g_X4_at (sf 10) 1).toNatClampNeg x2) (g_X4_at (sf 10) 2).toNatClampNeg x3) (g_X4_at (sf 10) 3).toNatClampNeg x4) (g_X4_at (sf 10) 4).toNatClampNeg x5) (g_X4_at (sf 10) 5).toNatClampNeg (g_X4_comes (upd (upd (upd (upd (upd sf (g_X4_at (sf 10) 0).toNatClampNeg x1) (g_X4_at (sf 10) 1).toNatClampNeg x2) (g_X4_at (sf 10) 2).toNatClampNeg x3) (g_X4_at (sf 10) 3).toNatClampNeg x4) (g_X4_at (sf 10) 4).toNatClampNeg x5) x3 x4)) (g_X4_at (sf 10) 6).toNatClampNeg u47.1) (g_X4_at (sf 10) 7).toNatClampNeg u47.2.1) (g_X4_at (sf 10) 8).toNatClampNeg u47.2.2.1) (g_X4_at (sf 10) 9).toNatClampNeg u47.2.2.2.1) (g_X4_at (sf 10) 10).toNatClampNeg u47.2.2.2.2) 10 (((upd (upd (upd (upd (upd (upd (upd (upd (upd (upd (upd sf (g_X4_at (sf 10) 0).toNatClampNeg x1) (g_X4_at (sf 10) 1).toNatClampNeg x2) (g_X4_at (sf 10) 2).toNatClampNeg x3) (g_X4_at (sf 10) 3).toNatClampNeg x4) (g_X4_at (sf 10) 4).toNatClampNeg x5) (g_X4_at (sf 10) 5).toNatClampNeg (g_X4_comes (upd (upd (upd (upd (upd sf (g_X4_at (sf 10) 0).toNatClampNeg x1) (g_X4_at (sf 10) 1).toNatClampNeg x2) (g_X4_at (sf 10) 2).toNatClampNeg x3) (g_X4_at (sf 10) 3).toNatClampNeg x4) (g_X4_at (sf 10) 4).toNatClampNeg x5) x3 x4)) (g_X4_at (sf 10) 6).toNatClampNeg u47.1) (g_X4_at (sf 10) 7).toNatClampNeg u47.2.1) (g_X4_at (sf 10) 8).toNatClampNeg u47.2.2.1) (g_X4_at (sf 10) 9).toNatClampNeg u47.2.2.2.1) (g_X4_at (sf 10) 10).toNatClampNeg u47.2.2.2.2) 10) + 1)), u47.1, u47.2.1, u47.2.2.1, u47.2.2.2.1, u47.2.2.2.2)
def g_X4_tell (sf : (Nat → Int32)) (m0 : Int32) (m1 : Int32) (m2 : Int32) (m3 : Int32) (m4 : Int32) (x1 : Int32) (x2 : Int32) (x3 : Int32) (x4 : Int32) (x5 : Int32) : Int32 × (Nat → Int32) × Int32 × Int32 × Int32 × Int32 × Int32 := (if (g_X4_refusal x1 x2 x3 x4 x5) = 0 then (if (sf 10) = 48 then ((-4), sf, m0, m1, m2, m3, m4) else (g_X4_tell_C47 (g_X4_place sf x1 x2 (g_X4_comes sf x3 x4) x5) sf x1 x2 x3 x4 x5)) else ((g_X4_refusal x1 x2 x3 x4 x5), sf, m0, m1, m2, m3, m4))
set_option maxHeartbeats 4000000 in
set_option maxRecDepth 100000 in
theorem c_X4_tell (l : Launch) (D : va_G) (cA cZ : ClassId) (aM : Nat) (aS : Nat) (aI : Nat) (aK : Nat) (szz : Nat) (sf : (Nat → Int32)) (mf : (Nat → Int32)) (kf : (Nat → Int32)) (m0 : Int32) (m1 : Int32) (m2 : Int32) (m3 : Int32) (m4 : Int32) (x1 : Int32) (x2 : Int32) (x3 : Int32) (x4 : Int32) (x5 : Int32) (hm : (sf 10) ≤ 48) (hm0 : 0 ≤ (sf 10).toInt) : MetI l yX4_tell wsX4_tell 8 197 D (tyA cA cZ) [.ref aM, .int x1, .int x2, .int x3, .int x4, .int x5] (MDw cA cZ aM aS aI aK sf mf kf m0 m1 m2 m3 m4) szz (g_X4_tell sf m0 m1 m2 m3 m4 x1 x2 x3 x4 x5).1 (MDw cA cZ aM aS aI aK ((g_X4_tell sf m0 m1 m2 m3 m4 x1 x2 x3 x4 x5).2.1) mf kf ((g_X4_tell sf m0 m1 m2 m3 m4 x1 x2 x3 x4 x5).2.2.1) ((g_X4_tell sf m0 m1 m2 m3 m4 x1 x2 x3 x4 x5).2.2.2.1) ((g_X4_tell sf m0 m1 m2 m3 m4 x1 x2 x3 x4 x5).2.2.2.2.1) ((g_X4_tell sf m0 m1 m2 m3 m4 x1 x2 x3 x4 x5).2.2.2.2.2.1) ((g_X4_tell sf m0 m1 m2 m3 m4 x1 x2 x3 x4 x5).2.2.2.2.2.2)) := by
  refine Met.ofW (cc := cX4_tell) (maxL := 8) (ret := (some .int)) (by decide) rfl ?_
  intro p e s m args below meth c s₁ B hml hv
  obtain ⟨rfl, hsz, hP, hK, hD0, hN⟩ := hv
  have hx := B.exec
  have hb := B.bytes
  have hr := B.returns
  have hts := atoms_spec (ws := wsX4_tell) B.pre
  have hown : s.vm.findClass RX4 = some m.cls := findClass_of_methodNamed B.named
  have hlocks := B.notSynchronized
  have iX4 : ∀ w ∈ wsX40, w ∈ wsX4_tell := fun _ h => List.mem_cons_of_mem _ (List.mem_append_right _ h)
  subst hsz
  have hD := hD0.self (sz := s.heap.size)
  generalize hAe : va_A (MDw cA cZ aM aS aI aK sf mf kf m0 m1 m2 m3 m4) s.heap.size = A at hD ⊢
  have hA : ∀ q : Nat, s.heap.size ≤ q → A q := fun q h => by rw [← hAe]; exact Or.inr h
  have hS : va_S A s.heap s.heap [] := va_S.rf
  have hP : va_P D vwCl (MDw cA cZ aM aS aI aK sf mf kf m0 m1 m2 m3 m4) s.heap := hP
  obtain ⟨G, hG⟩ : ∃ G, G = (g_X4_tell sf m0 m1 m2 m3 m4 x1 x2 x3 x4 x5) := ⟨_, rfl⟩
  rw [← hG]
  have hl := lv_entry ([.ref aM, .int x1, .int x2, .int x3, .int x4, .int x5]) (n := 8) (Nat.le_of_ble_eq_true rfl)
  rw [lg_entry_eq]
  generalize (lg_sl ([.ref aM, .int x1, .int x2, .int x3, .int x4, .int x5]) ++ List.replicate (8 - (lg_sl ([.ref aM, .int x1, .int x2, .int x3, .int x4, .int x5])).length) Slot.unset).toArray = ls at hl ⊢
  have hl : lv_has ls 8 [(0, .ref aM), (1, .int x1), (2, .int x2), (3, .int x3), (4, .int x4), (5, .int x5)] := hl
  refine lv_iload_n hx hb dX4_tell_0 rfl (lv_at hl 1 rfl) ?_
  refine lv_iload_n hx hb dX4_tell_1 rfl (lv_at hl 2 rfl) ?_
  refine lv_iload_n hx hb dX4_tell_2 rfl (lv_at hl 3 rfl) ?_
  refine lv_iload hx hb dX4_tell_3 (lv_at hl 4 rfl) ?_
  refine lv_iload hx hb dX4_tell_5 (lv_at hl 5 rfl) ?_
  refine kI (wr := MDw cA cZ aM aS aI aK sf mf kf m0 m1 m2 m3 m4) (W1 := ([] : va_W)) (wsN := MDw cA cZ aM aS aI aK sf mf kf m0 m1 m2 m3 m4) (rS (As := [.int x1, .int x2, .int x3, .int x4, .int x5]) (rest := []) (W0 := ([] : va_W)) ⟨hx, hb, hml, hown, hts⟩ (c_X4_refusal l D cA cZ s.heap.size x1 x2 x3 x4 x5) (cwS 5 hts gX4_tell_X4_refusal rfl rfl rfl (by decide +kernel) ⟨Nat.le_of_ble_eq_true rfl, Nat.le_of_ble_eq_true rfl⟩) hP hD hK hN ([] : List Nat) rfl rfl rfl hl.1 rfl (Nat.le_of_ble_eq_true rfl) dX4_tell_7 ⟨Nat.zero_le _, Nat.zero_le _⟩) hP hD hS hA [] [0, 1, 2, 3] [0, 1, 2, 3] rfl rfl rfl (by decide) rfl rfl (fun H locs hP hD hS => ?_)
  refine lv_istore (lv' := [(6, .int (g_X4_refusal x1 x2 x3 x4 x5)), (0, .ref aM), (1, .int x1), (2, .int x2), (3, .int x3), (4, .int x4), (5, .int x5)]) hx hb dX4_tell_10 hl (by decide) rfl (fun ls hl => ?_)
  refine lv_iload hx hb dX4_tell_12 (lv_at hl 0 rfl) ?_
  refine lv_if_eq (tgt := 20) hx hb dX4_tell_14 (by decide) (fun c_1 => ?_) (fun c_1 => ?_)
  · refine lv_aload_n hx hb dX4_tell_20 rfl (lv_at hl 1 rfl) ?_
    refine va_get (D := D) (ci := 4) (v := .ref aS) (C := RX4) (T := TX4) (N := 8) hx hb hts iX4 hown hK hP 0 rfl rfl 0 (by decide) (hts (.fieldLink RX4 7 "LightBurstsModel" "state" "[I") (List.mem_of_getElem? (i := 1) rfl)) (fun _ h9 => h9) rfl dX4_tell_21 ?_
    refine lv_bipush (v := 10) hx hb dX4_tell_24 (by decide) ?_
    refine va_iald hx hb hK hP 1 0 rfl rfl (by unfold vp_in; decide) dX4_tell_26 ?_
    refine lv_eqi (sf 10) rfl ?_
    refine lv_bipush (v := 48) hx hb dX4_tell_27 (by decide) ?_
    refine lv_icmp_ne (tgt := 35) hx hb dX4_tell_29 (by decide) (fun c_2 => ?_) (fun c_2 => ?_)
    · refine lv_aload_n hx hb dX4_tell_35 rfl (lv_at hl 1 rfl) ?_
      refine lv_iload_n hx hb dX4_tell_36 rfl (lv_at hl 2 rfl) ?_
      refine lv_iload_n hx hb dX4_tell_37 rfl (lv_at hl 3 rfl) ?_
      refine lv_aload_n hx hb dX4_tell_38 rfl (lv_at hl 1 rfl) ?_
      refine lv_iload_n hx hb dX4_tell_39 rfl (lv_at hl 4 rfl) ?_
      refine lv_iload hx hb dX4_tell_40 (lv_at hl 5 rfl) ?_
      refine kI (wr := ([] : va_W)) (W1 := MDw cA cZ aM aS aI aK sf mf kf m0 m1 m2 m3 m4) (wsN := MDw cA cZ aM aS aI aK sf mf kf m0 m1 m2 m3 m4) (rV (As := [.int x3, .int x4]) (rest := [.int x2, .int x1, .ref aM]) (W0 := MDw cA cZ aM aS aI aK sf mf kf m0 m1 m2 m3 m4) ⟨hx, hb, hml, hown, hts⟩ (c_X4_comes l D cA cZ aM aS aI aK H.size sf mf kf m0 m1 m2 m3 m4 x3 x4) (cwV 2 hts gX4_tell_X4_comes rfl rfl rfl (by decide +kernel) ⟨Nat.le_of_ble_eq_true rfl, Nat.le_of_ble_eq_true rfl⟩) hP hD hK hN ([0, 1, 2, 3] : List Nat) rfl rfl 4 0 rfl rfl rfl hl.1 rfl (Nat.le_of_ble_eq_true rfl) dX4_tell_42 ⟨Nat.zero_le _, Nat.zero_le _⟩) hP hD hS hA [0, 1, 2, 3] [] [0, 1, 2, 3] rfl rfl rfl (by decide) rfl rfl (fun H locs hP hD hS => ?_)
      refine lv_iload hx hb dX4_tell_45 (lv_at hl 6 rfl) ?_
      refine kV (wr := ([] : va_W)) (W1 := MDw cA cZ aM aS aI aK sf mf kf ((g_X4_place sf x1 x2 (g_X4_comes sf x3 x4) x5).1) ((g_X4_place sf x1 x2 (g_X4_comes sf x3 x4) x5).2.1) ((g_X4_place sf x1 x2 (g_X4_comes sf x3 x4) x5).2.2.1) ((g_X4_place sf x1 x2 (g_X4_comes sf x3 x4) x5).2.2.2.1) ((g_X4_place sf x1 x2 (g_X4_comes sf x3 x4) x5).2.2.2.2)) (wsN := MDw cA cZ aM aS aI aK sf mf kf ((g_X4_place sf x1 x2 (g_X4_comes sf x3 x4) x5).1) ((g_X4_place sf x1 x2 (g_X4_comes sf x3 x4) x5).2.1) ((g_X4_place sf x1 x2 (g_X4_comes sf x3 x4) x5).2.2.1) ((g_X4_place sf x1 x2 (g_X4_comes sf x3 x4) x5).2.2.2.1) ((g_X4_place sf x1 x2 (g_X4_comes sf x3 x4) x5).2.2.2.2)) (rV (As := [.int x1, .int x2, .int (g_X4_comes sf x3 x4), .int x5]) (rest := []) (W0 := MDw cA cZ aM aS aI aK sf mf kf m0 m1 m2 m3 m4) ⟨hx, hb, hml, hown, hts⟩ (c_X4_place l D cA cZ aM aS aI aK H.size sf mf kf m0 m1 m2 m3 m4 x1 x2 (g_X4_comes sf x3 x4) x5 (show (sf 10) ≤ 48 from by exact hm) (show 0 ≤ (x5).toInt ∧ (x5).toInt ≤ 60 from by exact ref_n c_1)) (cwV 4 hts gX4_tell_X4_place rfl rfl rfl (by decide +kernel) ⟨Nat.le_of_ble_eq_true rfl, Nat.le_of_ble_eq_true rfl⟩) hP hD hK hN ([0, 1, 2, 3] : List Nat) rfl rfl 4 0 rfl rfl rfl hl.1 rfl (Nat.le_of_ble_eq_true rfl) dX4_tell_47 ⟨Nat.zero_le _, Nat.zero_le _⟩) hP hD hS hA [0, 1, 2, 3] [] [0, 1, 2, 3] rfl rfl rfl (by decide) rfl rfl (fun H locs hP hD hS => ?_)
      rw [g_X4_tell, if_pos c_1, if_neg c_2] at hG
      generalize (g_X4_place sf x1 x2 (g_X4_comes sf x3 x4) x5) = u47 at hG hP hD ⊢
      refine lv_aload_n hx hb dX4_tell_50 rfl (lv_at hl 1 rfl) ?_
      refine va_get (D := D) (ci := 4) (v := .ref aS) (C := RX4) (T := TX4) (N := 8) hx hb hts iX4 hown hK hP 0 rfl rfl 0 (by decide) (hts (.fieldLink RX4 7 "LightBurstsModel" "state" "[I") (List.mem_of_getElem? (i := 1) rfl)) (fun _ h9 => h9) rfl dX4_tell_51 ?_
      refine lv_bipush (v := 10) hx hb dX4_tell_54 (by decide) ?_
      refine va_iald hx hb hK hP 1 0 rfl rfl (by unfold vp_in; decide) dX4_tell_56 ?_
      refine lv_eqi (sf 10) rfl ?_
      refine lv_istore (lv' := [(7, .int (sf 10)), (6, .int (g_X4_refusal x1 x2 x3 x4 x5)), (0, .ref aM), (1, .int x1), (2, .int x2), (3, .int x3), (4, .int x4), (5, .int x5)]) hx hb dX4_tell_57 hl (by decide) rfl (fun ls hl => ?_)
      refine lv_aload_n hx hb dX4_tell_59 rfl (lv_at hl 2 rfl) ?_
      refine va_get (D := D) (ci := 4) (v := .ref aS) (C := RX4) (T := TX4) (N := 8) hx hb hts iX4 hown hK hP 0 rfl rfl 0 (by decide) (hts (.fieldLink RX4 7 "LightBurstsModel" "state" "[I") (List.mem_of_getElem? (i := 1) rfl)) (fun _ h9 => h9) rfl dX4_tell_60 ?_
      refine lv_iload hx hb dX4_tell_63 (lv_at hl 0 rfl) ?_
      refine lv_iconst (v := 0) hx hb dX4_tell_65 (by decide) ?_
      refine kI (wr := MDw cA cZ aM aS aI aK sf mf kf u47.1 u47.2.1 u47.2.2.1 u47.2.2.2.1 u47.2.2.2.2) (W1 := ([] : va_W)) (wsN := MDw cA cZ aM aS aI aK sf mf kf u47.1 u47.2.1 u47.2.2.1 u47.2.2.2.1 u47.2.2.2.2) (rS (As := [.int (sf 10), .int 0]) (rest := [.ref aS]) (W0 := ([] : va_W)) ⟨hx, hb, hml, hown, hts⟩ (c_X4_at l D cA cZ H.size (sf 10) 0) (cwS 2 hts gX4_tell_X4_at rfl rfl rfl (by decide +kernel) ⟨Nat.le_of_ble_eq_true rfl, Nat.le_of_ble_eq_true rfl⟩) hP hD hK hN ([] : List Nat) rfl rfl rfl hl.1 rfl (Nat.le_of_ble_eq_true rfl) dX4_tell_66 ⟨Nat.zero_le _, Nat.zero_le _⟩) hP hD hS hA [] [0, 1, 2, 3] [0, 1, 2, 3] rfl rfl rfl (by decide) rfl rfl (fun H locs hP hD hS => ?_)
      refine lv_iload_n hx hb dX4_tell_69 rfl (lv_at hl 3 rfl) ?_
      refine va_iast hx hb hK hP hD hS 1 0 rfl rfl (at_in (bok_t hm0 hm c_2) ⟨by decide, by decide⟩) dX4_tell_70 (fun H locs hP hD hS => ?_)
      have hP : va_P D vwCl (MDw cA cZ aM aS aI aK (upd sf (g_X4_at (sf 10) 0).toNatClampNeg x1) mf kf u47.1 u47.2.1 u47.2.2.1 u47.2.2.2.1 u47.2.2.2.2) H := hP
      have hD : va_D A (MDw cA cZ aM aS aI aK (upd sf (g_X4_at (sf 10) 0).toNatClampNeg x1) mf kf u47.1 u47.2.1 u47.2.2.1 u47.2.2.2.1 u47.2.2.2.2) := hD
      refine lv_aload_n hx hb dX4_tell_71 rfl (lv_at hl 2 rfl) ?_
      refine va_get (D := D) (ci := 4) (v := .ref aS) (C := RX4) (T := TX4) (N := 8) hx hb hts iX4 hown hK hP 0 rfl rfl 0 (by decide) (hts (.fieldLink RX4 7 "LightBurstsModel" "state" "[I") (List.mem_of_getElem? (i := 1) rfl)) (fun _ h9 => h9) rfl dX4_tell_72 ?_
      refine lv_iload hx hb dX4_tell_75 (lv_at hl 0 rfl) ?_
      refine lv_iconst (v := 1) hx hb dX4_tell_77 (by decide) ?_
      refine kI (wr := MDw cA cZ aM aS aI aK (upd sf (g_X4_at (sf 10) 0).toNatClampNeg x1) mf kf u47.1 u47.2.1 u47.2.2.1 u47.2.2.2.1 u47.2.2.2.2) (W1 := ([] : va_W)) (wsN := MDw cA cZ aM aS aI aK (upd sf (g_X4_at (sf 10) 0).toNatClampNeg x1) mf kf u47.1 u47.2.1 u47.2.2.1 u47.2.2.2.1 u47.2.2.2.2) (rS (As := [.int (sf 10), .int 1]) (rest := [.ref aS]) (W0 := ([] : va_W)) ⟨hx, hb, hml, hown, hts⟩ (c_X4_at l D cA cZ H.size (sf 10) 1) (cwS 2 hts gX4_tell_X4_at rfl rfl rfl (by decide +kernel) ⟨Nat.le_of_ble_eq_true rfl, Nat.le_of_ble_eq_true rfl⟩) hP hD hK hN ([] : List Nat) rfl rfl rfl hl.1 rfl (Nat.le_of_ble_eq_true rfl) dX4_tell_78 ⟨Nat.zero_le _, Nat.zero_le _⟩) hP hD hS hA [] [0, 1, 2, 3] [0, 1, 2, 3] rfl rfl rfl (by decide) rfl rfl (fun H locs hP hD hS => ?_)
      refine lv_iload_n hx hb dX4_tell_81 rfl (lv_at hl 4 rfl) ?_
      refine va_iast hx hb hK hP hD hS 1 0 rfl rfl (at_in (bok_t hm0 hm c_2) ⟨by decide, by decide⟩) dX4_tell_82 (fun H locs hP hD hS => ?_)
      have hP : va_P D vwCl (MDw cA cZ aM aS aI aK (upd (upd sf (g_X4_at (sf 10) 0).toNatClampNeg x1) (g_X4_at (sf 10) 1).toNatClampNeg x2) mf kf u47.1 u47.2.1 u47.2.2.1 u47.2.2.2.1 u47.2.2.2.2) H := hP
      have hD : va_D A (MDw cA cZ aM aS aI aK (upd (upd sf (g_X4_at (sf 10) 0).toNatClampNeg x1) (g_X4_at (sf 10) 1).toNatClampNeg x2) mf kf u47.1 u47.2.1 u47.2.2.1 u47.2.2.2.1 u47.2.2.2.2) := hD
      refine lv_aload_n hx hb dX4_tell_83 rfl (lv_at hl 2 rfl) ?_
      refine va_get (D := D) (ci := 4) (v := .ref aS) (C := RX4) (T := TX4) (N := 8) hx hb hts iX4 hown hK hP 0 rfl rfl 0 (by decide) (hts (.fieldLink RX4 7 "LightBurstsModel" "state" "[I") (List.mem_of_getElem? (i := 1) rfl)) (fun _ h9 => h9) rfl dX4_tell_84 ?_
      refine lv_iload hx hb dX4_tell_87 (lv_at hl 0 rfl) ?_
      refine lv_iconst (v := 2) hx hb dX4_tell_89 (by decide) ?_
      refine kI (wr := MDw cA cZ aM aS aI aK (upd (upd sf (g_X4_at (sf 10) 0).toNatClampNeg x1) (g_X4_at (sf 10) 1).toNatClampNeg x2) mf kf u47.1 u47.2.1 u47.2.2.1 u47.2.2.2.1 u47.2.2.2.2) (W1 := ([] : va_W)) (wsN := MDw cA cZ aM aS aI aK (upd (upd sf (g_X4_at (sf 10) 0).toNatClampNeg x1) (g_X4_at (sf 10) 1).toNatClampNeg x2) mf kf u47.1 u47.2.1 u47.2.2.1 u47.2.2.2.1 u47.2.2.2.2) (rS (As := [.int (sf 10), .int 2]) (rest := [.ref aS]) (W0 := ([] : va_W)) ⟨hx, hb, hml, hown, hts⟩ (c_X4_at l D cA cZ H.size (sf 10) 2) (cwS 2 hts gX4_tell_X4_at rfl rfl rfl (by decide +kernel) ⟨Nat.le_of_ble_eq_true rfl, Nat.le_of_ble_eq_true rfl⟩) hP hD hK hN ([] : List Nat) rfl rfl rfl hl.1 rfl (Nat.le_of_ble_eq_true rfl) dX4_tell_90 ⟨Nat.zero_le _, Nat.zero_le _⟩) hP hD hS hA [] [0, 1, 2, 3] [0, 1, 2, 3] rfl rfl rfl (by decide) rfl rfl (fun H locs hP hD hS => ?_)
      refine lv_iload_n hx hb dX4_tell_93 rfl (lv_at hl 5 rfl) ?_
      refine va_iast hx hb hK hP hD hS 1 0 rfl rfl (at_in (bok_t hm0 hm c_2) ⟨by decide, by decide⟩) dX4_tell_94 (fun H locs hP hD hS => ?_)
      have hP : va_P D vwCl (MDw cA cZ aM aS aI aK (upd (upd (upd sf (g_X4_at (sf 10) 0).toNatClampNeg x1) (g_X4_at (sf 10) 1).toNatClampNeg x2) (g_X4_at (sf 10) 2).toNatClampNeg x3) mf kf u47.1 u47.2.1 u47.2.2.1 u47.2.2.2.1 u47.2.2.2.2) H := hP
      have hD : va_D A (MDw cA cZ aM aS aI aK (upd (upd (upd sf (g_X4_at (sf 10) 0).toNatClampNeg x1) (g_X4_at (sf 10) 1).toNatClampNeg x2) (g_X4_at (sf 10) 2).toNatClampNeg x3) mf kf u47.1 u47.2.1 u47.2.2.1 u47.2.2.2.1 u47.2.2.2.2) := hD
      refine lv_aload_n hx hb dX4_tell_95 rfl (lv_at hl 2 rfl) ?_
      refine va_get (D := D) (ci := 4) (v := .ref aS) (C := RX4) (T := TX4) (N := 8) hx hb hts iX4 hown hK hP 0 rfl rfl 0 (by decide) (hts (.fieldLink RX4 7 "LightBurstsModel" "state" "[I") (List.mem_of_getElem? (i := 1) rfl)) (fun _ h9 => h9) rfl dX4_tell_96 ?_
      refine lv_iload hx hb dX4_tell_99 (lv_at hl 0 rfl) ?_
      refine lv_iconst (v := 3) hx hb dX4_tell_101 (by decide) ?_
      refine kI (wr := MDw cA cZ aM aS aI aK (upd (upd (upd sf (g_X4_at (sf 10) 0).toNatClampNeg x1) (g_X4_at (sf 10) 1).toNatClampNeg x2) (g_X4_at (sf 10) 2).toNatClampNeg x3) mf kf u47.1 u47.2.1 u47.2.2.1 u47.2.2.2.1 u47.2.2.2.2) (W1 := ([] : va_W)) (wsN := MDw cA cZ aM aS aI aK (upd (upd (upd sf (g_X4_at (sf 10) 0).toNatClampNeg x1) (g_X4_at (sf 10) 1).toNatClampNeg x2) (g_X4_at (sf 10) 2).toNatClampNeg x3) mf kf u47.1 u47.2.1 u47.2.2.1 u47.2.2.2.1 u47.2.2.2.2) (rS (As := [.int (sf 10), .int 3]) (rest := [.ref aS]) (W0 := ([] : va_W)) ⟨hx, hb, hml, hown, hts⟩ (c_X4_at l D cA cZ H.size (sf 10) 3) (cwS 2 hts gX4_tell_X4_at rfl rfl rfl (by decide +kernel) ⟨Nat.le_of_ble_eq_true rfl, Nat.le_of_ble_eq_true rfl⟩) hP hD hK hN ([] : List Nat) rfl rfl rfl hl.1 rfl (Nat.le_of_ble_eq_true rfl) dX4_tell_102 ⟨Nat.zero_le _, Nat.zero_le _⟩) hP hD hS hA [] [0, 1, 2, 3] [0, 1, 2, 3] rfl rfl rfl (by decide) rfl rfl (fun H locs hP hD hS => ?_)
      refine lv_iload hx hb dX4_tell_105 (lv_at hl 6 rfl) ?_
      refine va_iast hx hb hK hP hD hS 1 0 rfl rfl (at_in (bok_t hm0 hm c_2) ⟨by decide, by decide⟩) dX4_tell_107 (fun H locs hP hD hS => ?_)
      have hP : va_P D vwCl (MDw cA cZ aM aS aI aK (upd (upd (upd (upd sf (g_X4_at (sf 10) 0).toNatClampNeg x1) (g_X4_at (sf 10) 1).toNatClampNeg x2) (g_X4_at (sf 10) 2).toNatClampNeg x3) (g_X4_at (sf 10) 3).toNatClampNeg x4) mf kf u47.1 u47.2.1 u47.2.2.1 u47.2.2.2.1 u47.2.2.2.2) H := hP
      have hD : va_D A (MDw cA cZ aM aS aI aK (upd (upd (upd (upd sf (g_X4_at (sf 10) 0).toNatClampNeg x1) (g_X4_at (sf 10) 1).toNatClampNeg x2) (g_X4_at (sf 10) 2).toNatClampNeg x3) (g_X4_at (sf 10) 3).toNatClampNeg x4) mf kf u47.1 u47.2.1 u47.2.2.1 u47.2.2.2.1 u47.2.2.2.2) := hD
      refine lv_aload_n hx hb dX4_tell_108 rfl (lv_at hl 2 rfl) ?_
      refine va_get (D := D) (ci := 4) (v := .ref aS) (C := RX4) (T := TX4) (N := 8) hx hb hts iX4 hown hK hP 0 rfl rfl 0 (by decide) (hts (.fieldLink RX4 7 "LightBurstsModel" "state" "[I") (List.mem_of_getElem? (i := 1) rfl)) (fun _ h9 => h9) rfl dX4_tell_109 ?_
      refine lv_iload hx hb dX4_tell_112 (lv_at hl 0 rfl) ?_
      refine lv_iconst (v := 4) hx hb dX4_tell_114 (by decide) ?_
      refine kI (wr := MDw cA cZ aM aS aI aK (upd (upd (upd (upd sf (g_X4_at (sf 10) 0).toNatClampNeg x1) (g_X4_at (sf 10) 1).toNatClampNeg x2) (g_X4_at (sf 10) 2).toNatClampNeg x3) (g_X4_at (sf 10) 3).toNatClampNeg x4) mf kf u47.1 u47.2.1 u47.2.2.1 u47.2.2.2.1 u47.2.2.2.2) (W1 := ([] : va_W)) (wsN := MDw cA cZ aM aS aI aK (upd (upd (upd (upd sf (g_X4_at (sf 10) 0).toNatClampNeg x1) (g_X4_at (sf 10) 1).toNatClampNeg x2) (g_X4_at (sf 10) 2).toNatClampNeg x3) (g_X4_at (sf 10) 3).toNatClampNeg x4) mf kf u47.1 u47.2.1 u47.2.2.1 u47.2.2.2.1 u47.2.2.2.2) (rS (As := [.int (sf 10), .int 4]) (rest := [.ref aS]) (W0 := ([] : va_W)) ⟨hx, hb, hml, hown, hts⟩ (c_X4_at l D cA cZ H.size (sf 10) 4) (cwS 2 hts gX4_tell_X4_at rfl rfl rfl (by decide +kernel) ⟨Nat.le_of_ble_eq_true rfl, Nat.le_of_ble_eq_true rfl⟩) hP hD hK hN ([] : List Nat) rfl rfl rfl hl.1 rfl (Nat.le_of_ble_eq_true rfl) dX4_tell_115 ⟨Nat.zero_le _, Nat.zero_le _⟩) hP hD hS hA [] [0, 1, 2, 3] [0, 1, 2, 3] rfl rfl rfl (by decide) rfl rfl (fun H locs hP hD hS => ?_)
      refine lv_iload hx hb dX4_tell_118 (lv_at hl 7 rfl) ?_
      refine va_iast hx hb hK hP hD hS 1 0 rfl rfl (at_in (bok_t hm0 hm c_2) ⟨by decide, by decide⟩) dX4_tell_120 (fun H locs hP hD hS => ?_)
      have hP : va_P D vwCl (MDw cA cZ aM aS aI aK (upd (upd (upd (upd (upd sf (g_X4_at (sf 10) 0).toNatClampNeg x1) (g_X4_at (sf 10) 1).toNatClampNeg x2) (g_X4_at (sf 10) 2).toNatClampNeg x3) (g_X4_at (sf 10) 3).toNatClampNeg x4) (g_X4_at (sf 10) 4).toNatClampNeg x5) mf kf u47.1 u47.2.1 u47.2.2.1 u47.2.2.2.1 u47.2.2.2.2) H := hP
      have hD : va_D A (MDw cA cZ aM aS aI aK (upd (upd (upd (upd (upd sf (g_X4_at (sf 10) 0).toNatClampNeg x1) (g_X4_at (sf 10) 1).toNatClampNeg x2) (g_X4_at (sf 10) 2).toNatClampNeg x3) (g_X4_at (sf 10) 3).toNatClampNeg x4) (g_X4_at (sf 10) 4).toNatClampNeg x5) mf kf u47.1 u47.2.1 u47.2.2.1 u47.2.2.2.1 u47.2.2.2.2) := hD
      refine lv_aload_n hx hb dX4_tell_121 rfl (lv_at hl 2 rfl) ?_
      refine va_get (D := D) (ci := 4) (v := .ref aS) (C := RX4) (T := TX4) (N := 8) hx hb hts iX4 hown hK hP 0 rfl rfl 0 (by decide) (hts (.fieldLink RX4 7 "LightBurstsModel" "state" "[I") (List.mem_of_getElem? (i := 1) rfl)) (fun _ h9 => h9) rfl dX4_tell_122 ?_
      refine lv_iload hx hb dX4_tell_125 (lv_at hl 0 rfl) ?_
      refine lv_iconst (v := 5) hx hb dX4_tell_127 (by decide) ?_
      refine kI (wr := MDw cA cZ aM aS aI aK (upd (upd (upd (upd (upd sf (g_X4_at (sf 10) 0).toNatClampNeg x1) (g_X4_at (sf 10) 1).toNatClampNeg x2) (g_X4_at (sf 10) 2).toNatClampNeg x3) (g_X4_at (sf 10) 3).toNatClampNeg x4) (g_X4_at (sf 10) 4).toNatClampNeg x5) mf kf u47.1 u47.2.1 u47.2.2.1 u47.2.2.2.1 u47.2.2.2.2) (W1 := ([] : va_W)) (wsN := MDw cA cZ aM aS aI aK (upd (upd (upd (upd (upd sf (g_X4_at (sf 10) 0).toNatClampNeg x1) (g_X4_at (sf 10) 1).toNatClampNeg x2) (g_X4_at (sf 10) 2).toNatClampNeg x3) (g_X4_at (sf 10) 3).toNatClampNeg x4) (g_X4_at (sf 10) 4).toNatClampNeg x5) mf kf u47.1 u47.2.1 u47.2.2.1 u47.2.2.2.1 u47.2.2.2.2) (rS (As := [.int (sf 10), .int 5]) (rest := [.ref aS]) (W0 := ([] : va_W)) ⟨hx, hb, hml, hown, hts⟩ (c_X4_at l D cA cZ H.size (sf 10) 5) (cwS 2 hts gX4_tell_X4_at rfl rfl rfl (by decide +kernel) ⟨Nat.le_of_ble_eq_true rfl, Nat.le_of_ble_eq_true rfl⟩) hP hD hK hN ([] : List Nat) rfl rfl rfl hl.1 rfl (Nat.le_of_ble_eq_true rfl) dX4_tell_128 ⟨Nat.zero_le _, Nat.zero_le _⟩) hP hD hS hA [] [0, 1, 2, 3] [0, 1, 2, 3] rfl rfl rfl (by decide) rfl rfl (fun H locs hP hD hS => ?_)
      refine lv_aload_n hx hb dX4_tell_131 rfl (lv_at hl 2 rfl) ?_
      refine lv_iload_n hx hb dX4_tell_132 rfl (lv_at hl 5 rfl) ?_
      refine lv_iload hx hb dX4_tell_133 (lv_at hl 6 rfl) ?_
      refine kI (wr := ([] : va_W)) (W1 := MDw cA cZ aM aS aI aK (upd (upd (upd (upd (upd sf (g_X4_at (sf 10) 0).toNatClampNeg x1) (g_X4_at (sf 10) 1).toNatClampNeg x2) (g_X4_at (sf 10) 2).toNatClampNeg x3) (g_X4_at (sf 10) 3).toNatClampNeg x4) (g_X4_at (sf 10) 4).toNatClampNeg x5) mf kf u47.1 u47.2.1 u47.2.2.1 u47.2.2.2.1 u47.2.2.2.2) (wsN := MDw cA cZ aM aS aI aK (upd (upd (upd (upd (upd sf (g_X4_at (sf 10) 0).toNatClampNeg x1) (g_X4_at (sf 10) 1).toNatClampNeg x2) (g_X4_at (sf 10) 2).toNatClampNeg x3) (g_X4_at (sf 10) 3).toNatClampNeg x4) (g_X4_at (sf 10) 4).toNatClampNeg x5) mf kf u47.1 u47.2.1 u47.2.2.1 u47.2.2.2.1 u47.2.2.2.2) (rV (As := [.int x3, .int x4]) (rest := [.int (g_X4_at (sf 10) 5), .ref aS]) (W0 := MDw cA cZ aM aS aI aK (upd (upd (upd (upd (upd sf (g_X4_at (sf 10) 0).toNatClampNeg x1) (g_X4_at (sf 10) 1).toNatClampNeg x2) (g_X4_at (sf 10) 2).toNatClampNeg x3) (g_X4_at (sf 10) 3).toNatClampNeg x4) (g_X4_at (sf 10) 4).toNatClampNeg x5) mf kf u47.1 u47.2.1 u47.2.2.1 u47.2.2.2.1 u47.2.2.2.2) ⟨hx, hb, hml, hown, hts⟩ (c_X4_comes l D cA cZ aM aS aI aK H.size (upd (upd (upd (upd (upd sf (g_X4_at (sf 10) 0).toNatClampNeg x1) (g_X4_at (sf 10) 1).toNatClampNeg x2) (g_X4_at (sf 10) 2).toNatClampNeg x3) (g_X4_at (sf 10) 3).toNatClampNeg x4) (g_X4_at (sf 10) 4).toNatClampNeg x5) mf kf u47.1 u47.2.1 u47.2.2.1 u47.2.2.2.1 u47.2.2.2.2 x3 x4) (cwV 2 hts gX4_tell_X4_comes rfl rfl rfl (by decide +kernel) ⟨Nat.le_of_ble_eq_true rfl, Nat.le_of_ble_eq_true rfl⟩) hP hD hK hN ([0, 1, 2, 3] : List Nat) rfl rfl 4 0 rfl rfl rfl hl.1 rfl (Nat.le_of_ble_eq_true rfl) dX4_tell_135 ⟨Nat.zero_le _, Nat.zero_le _⟩) hP hD hS hA [0, 1, 2, 3] [] [0, 1, 2, 3] rfl rfl rfl (by decide) rfl rfl (fun H locs hP hD hS => ?_)
      refine va_iast hx hb hK hP hD hS 1 0 rfl rfl (at_in (bok_t hm0 hm c_2) ⟨by decide, by decide⟩) dX4_tell_138 (fun H locs hP hD hS => ?_)
      have hP : va_P D vwCl (MDw cA cZ aM aS aI aK (upd (upd (upd (upd (upd (upd sf (g_X4_at (sf 10) 0).toNatClampNeg x1) (g_X4_at (sf 10) 1).toNatClampNeg x2) (g_X4_at (sf 10) 2).toNatClampNeg x3) (g_X4_at (sf 10) 3).toNatClampNeg x4) (g_X4_at (sf 10) 4).toNatClampNeg x5) (g_X4_at (sf 10) 5).toNatClampNeg (g_X4_comes (upd (upd (upd (upd (upd sf (g_X4_at (sf 10) 0).toNatClampNeg x1) (g_X4_at (sf 10) 1).toNatClampNeg x2) (g_X4_at (sf 10) 2).toNatClampNeg x3) (g_X4_at (sf 10) 3).toNatClampNeg x4) (g_X4_at (sf 10) 4).toNatClampNeg x5) x3 x4)) mf kf u47.1 u47.2.1 u47.2.2.1 u47.2.2.2.1 u47.2.2.2.2) H := hP
      have hD : va_D A (MDw cA cZ aM aS aI aK (upd (upd (upd (upd (upd (upd sf (g_X4_at (sf 10) 0).toNatClampNeg x1) (g_X4_at (sf 10) 1).toNatClampNeg x2) (g_X4_at (sf 10) 2).toNatClampNeg x3) (g_X4_at (sf 10) 3).toNatClampNeg x4) (g_X4_at (sf 10) 4).toNatClampNeg x5) (g_X4_at (sf 10) 5).toNatClampNeg (g_X4_comes (upd (upd (upd (upd (upd sf (g_X4_at (sf 10) 0).toNatClampNeg x1) (g_X4_at (sf 10) 1).toNatClampNeg x2) (g_X4_at (sf 10) 2).toNatClampNeg x3) (g_X4_at (sf 10) 3).toNatClampNeg x4) (g_X4_at (sf 10) 4).toNatClampNeg x5) x3 x4)) mf kf u47.1 u47.2.1 u47.2.2.1 u47.2.2.2.1 u47.2.2.2.2) := hD
      refine lv_aload_n hx hb dX4_tell_139 rfl (lv_at hl 2 rfl) ?_
      refine va_get (D := D) (ci := 4) (v := .ref aS) (C := RX4) (T := TX4) (N := 8) hx hb hts iX4 hown hK hP 0 rfl rfl 0 (by decide) (hts (.fieldLink RX4 7 "LightBurstsModel" "state" "[I") (List.mem_of_getElem? (i := 1) rfl)) (fun _ h9 => h9) rfl dX4_tell_140 ?_
      refine lv_iload hx hb dX4_tell_143 (lv_at hl 0 rfl) ?_
      refine lv_bipush (v := 6) hx hb dX4_tell_145 (by decide) ?_
      refine kI (wr := MDw cA cZ aM aS aI aK (upd (upd (upd (upd (upd (upd sf (g_X4_at (sf 10) 0).toNatClampNeg x1) (g_X4_at (sf 10) 1).toNatClampNeg x2) (g_X4_at (sf 10) 2).toNatClampNeg x3) (g_X4_at (sf 10) 3).toNatClampNeg x4) (g_X4_at (sf 10) 4).toNatClampNeg x5) (g_X4_at (sf 10) 5).toNatClampNeg (g_X4_comes (upd (upd (upd (upd (upd sf (g_X4_at (sf 10) 0).toNatClampNeg x1) (g_X4_at (sf 10) 1).toNatClampNeg x2) (g_X4_at (sf 10) 2).toNatClampNeg x3) (g_X4_at (sf 10) 3).toNatClampNeg x4) (g_X4_at (sf 10) 4).toNatClampNeg x5) x3 x4)) mf kf u47.1 u47.2.1 u47.2.2.1 u47.2.2.2.1 u47.2.2.2.2) (W1 := ([] : va_W)) (wsN := MDw cA cZ aM aS aI aK (upd (upd (upd (upd (upd (upd sf (g_X4_at (sf 10) 0).toNatClampNeg x1) (g_X4_at (sf 10) 1).toNatClampNeg x2) (g_X4_at (sf 10) 2).toNatClampNeg x3) (g_X4_at (sf 10) 3).toNatClampNeg x4) (g_X4_at (sf 10) 4).toNatClampNeg x5) (g_X4_at (sf 10) 5).toNatClampNeg (g_X4_comes (upd (upd (upd (upd (upd sf (g_X4_at (sf 10) 0).toNatClampNeg x1) (g_X4_at (sf 10) 1).toNatClampNeg x2) (g_X4_at (sf 10) 2).toNatClampNeg x3) (g_X4_at (sf 10) 3).toNatClampNeg x4) (g_X4_at (sf 10) 4).toNatClampNeg x5) x3 x4)) mf kf u47.1 u47.2.1 u47.2.2.1 u47.2.2.2.1 u47.2.2.2.2) (rS (As := [.int (sf 10), .int 6]) (rest := [.ref aS]) (W0 := ([] : va_W)) ⟨hx, hb, hml, hown, hts⟩ (c_X4_at l D cA cZ H.size (sf 10) 6) (cwS 2 hts gX4_tell_X4_at rfl rfl rfl (by decide +kernel) ⟨Nat.le_of_ble_eq_true rfl, Nat.le_of_ble_eq_true rfl⟩) hP hD hK hN ([] : List Nat) rfl rfl rfl hl.1 rfl (Nat.le_of_ble_eq_true rfl) dX4_tell_147 ⟨Nat.zero_le _, Nat.zero_le _⟩) hP hD hS hA [] [0, 1, 2, 3] [0, 1, 2, 3] rfl rfl rfl (by decide) rfl rfl (fun H locs hP hD hS => ?_)
      refine lv_aload_n hx hb dX4_tell_150 rfl (lv_at hl 2 rfl) ?_
      refine va_get (D := D) (ci := 4) (v := .int u47.1) (C := RX4) (T := TX4) (N := 8) hx hb hts iX4 hown hK hP 0 rfl rfl 3 (by decide) (hts (.fieldLink RX4 58 "LightBurstsModel" "fate" "I") (List.mem_of_getElem? (i := 2) rfl)) (fun _ h9 => h9) rfl dX4_tell_151 ?_
      refine va_iast hx hb hK hP hD hS 1 0 rfl rfl (at_in (bok_t hm0 hm c_2) ⟨by decide, by decide⟩) dX4_tell_154 (fun H locs hP hD hS => ?_)
      have hP : va_P D vwCl (MDw cA cZ aM aS aI aK (upd (upd (upd (upd (upd (upd (upd sf (g_X4_at (sf 10) 0).toNatClampNeg x1) (g_X4_at (sf 10) 1).toNatClampNeg x2) (g_X4_at (sf 10) 2).toNatClampNeg x3) (g_X4_at (sf 10) 3).toNatClampNeg x4) (g_X4_at (sf 10) 4).toNatClampNeg x5) (g_X4_at (sf 10) 5).toNatClampNeg (g_X4_comes (upd (upd (upd (upd (upd sf (g_X4_at (sf 10) 0).toNatClampNeg x1) (g_X4_at (sf 10) 1).toNatClampNeg x2) (g_X4_at (sf 10) 2).toNatClampNeg x3) (g_X4_at (sf 10) 3).toNatClampNeg x4) (g_X4_at (sf 10) 4).toNatClampNeg x5) x3 x4)) (g_X4_at (sf 10) 6).toNatClampNeg u47.1) mf kf u47.1 u47.2.1 u47.2.2.1 u47.2.2.2.1 u47.2.2.2.2) H := hP
      have hD : va_D A (MDw cA cZ aM aS aI aK (upd (upd (upd (upd (upd (upd (upd sf (g_X4_at (sf 10) 0).toNatClampNeg x1) (g_X4_at (sf 10) 1).toNatClampNeg x2) (g_X4_at (sf 10) 2).toNatClampNeg x3) (g_X4_at (sf 10) 3).toNatClampNeg x4) (g_X4_at (sf 10) 4).toNatClampNeg x5) (g_X4_at (sf 10) 5).toNatClampNeg (g_X4_comes (upd (upd (upd (upd (upd sf (g_X4_at (sf 10) 0).toNatClampNeg x1) (g_X4_at (sf 10) 1).toNatClampNeg x2) (g_X4_at (sf 10) 2).toNatClampNeg x3) (g_X4_at (sf 10) 3).toNatClampNeg x4) (g_X4_at (sf 10) 4).toNatClampNeg x5) x3 x4)) (g_X4_at (sf 10) 6).toNatClampNeg u47.1) mf kf u47.1 u47.2.1 u47.2.2.1 u47.2.2.2.1 u47.2.2.2.2) := hD
      refine lv_aload_n hx hb dX4_tell_155 rfl (lv_at hl 2 rfl) ?_
      refine va_get (D := D) (ci := 4) (v := .ref aS) (C := RX4) (T := TX4) (N := 8) hx hb hts iX4 hown hK hP 0 rfl rfl 0 (by decide) (hts (.fieldLink RX4 7 "LightBurstsModel" "state" "[I") (List.mem_of_getElem? (i := 1) rfl)) (fun _ h9 => h9) rfl dX4_tell_156 ?_
      refine lv_iload hx hb dX4_tell_159 (lv_at hl 0 rfl) ?_
      refine lv_bipush (v := 7) hx hb dX4_tell_161 (by decide) ?_
      refine kI (wr := MDw cA cZ aM aS aI aK (upd (upd (upd (upd (upd (upd (upd sf (g_X4_at (sf 10) 0).toNatClampNeg x1) (g_X4_at (sf 10) 1).toNatClampNeg x2) (g_X4_at (sf 10) 2).toNatClampNeg x3) (g_X4_at (sf 10) 3).toNatClampNeg x4) (g_X4_at (sf 10) 4).toNatClampNeg x5) (g_X4_at (sf 10) 5).toNatClampNeg (g_X4_comes (upd (upd (upd (upd (upd sf (g_X4_at (sf 10) 0).toNatClampNeg x1) (g_X4_at (sf 10) 1).toNatClampNeg x2) (g_X4_at (sf 10) 2).toNatClampNeg x3) (g_X4_at (sf 10) 3).toNatClampNeg x4) (g_X4_at (sf 10) 4).toNatClampNeg x5) x3 x4)) (g_X4_at (sf 10) 6).toNatClampNeg u47.1) mf kf u47.1 u47.2.1 u47.2.2.1 u47.2.2.2.1 u47.2.2.2.2) (W1 := ([] : va_W)) (wsN := MDw cA cZ aM aS aI aK (upd (upd (upd (upd (upd (upd (upd sf (g_X4_at (sf 10) 0).toNatClampNeg x1) (g_X4_at (sf 10) 1).toNatClampNeg x2) (g_X4_at (sf 10) 2).toNatClampNeg x3) (g_X4_at (sf 10) 3).toNatClampNeg x4) (g_X4_at (sf 10) 4).toNatClampNeg x5) (g_X4_at (sf 10) 5).toNatClampNeg (g_X4_comes (upd (upd (upd (upd (upd sf (g_X4_at (sf 10) 0).toNatClampNeg x1) (g_X4_at (sf 10) 1).toNatClampNeg x2) (g_X4_at (sf 10) 2).toNatClampNeg x3) (g_X4_at (sf 10) 3).toNatClampNeg x4) (g_X4_at (sf 10) 4).toNatClampNeg x5) x3 x4)) (g_X4_at (sf 10) 6).toNatClampNeg u47.1) mf kf u47.1 u47.2.1 u47.2.2.1 u47.2.2.2.1 u47.2.2.2.2) (rS (As := [.int (sf 10), .int 7]) (rest := [.ref aS]) (W0 := ([] : va_W)) ⟨hx, hb, hml, hown, hts⟩ (c_X4_at l D cA cZ H.size (sf 10) 7) (cwS 2 hts gX4_tell_X4_at rfl rfl rfl (by decide +kernel) ⟨Nat.le_of_ble_eq_true rfl, Nat.le_of_ble_eq_true rfl⟩) hP hD hK hN ([] : List Nat) rfl rfl rfl hl.1 rfl (Nat.le_of_ble_eq_true rfl) dX4_tell_163 ⟨Nat.zero_le _, Nat.zero_le _⟩) hP hD hS hA [] [0, 1, 2, 3] [0, 1, 2, 3] rfl rfl rfl (by decide) rfl rfl (fun H locs hP hD hS => ?_)
      refine lv_aload_n hx hb dX4_tell_166 rfl (lv_at hl 2 rfl) ?_
      refine va_get (D := D) (ci := 4) (v := .int u47.2.1) (C := RX4) (T := TX4) (N := 8) hx hb hts iX4 hown hK hP 0 rfl rfl 4 (by decide) (hts (.fieldLink RX4 62 "LightBurstsModel" "on" "I") (List.mem_of_getElem? (i := 3) rfl)) (fun _ h9 => h9) rfl dX4_tell_167 ?_
      refine va_iast hx hb hK hP hD hS 1 0 rfl rfl (at_in (bok_t hm0 hm c_2) ⟨by decide, by decide⟩) dX4_tell_170 (fun H locs hP hD hS => ?_)
      have hP : va_P D vwCl (MDw cA cZ aM aS aI aK (upd (upd (upd (upd (upd (upd (upd (upd sf (g_X4_at (sf 10) 0).toNatClampNeg x1) (g_X4_at (sf 10) 1).toNatClampNeg x2) (g_X4_at (sf 10) 2).toNatClampNeg x3) (g_X4_at (sf 10) 3).toNatClampNeg x4) (g_X4_at (sf 10) 4).toNatClampNeg x5) (g_X4_at (sf 10) 5).toNatClampNeg (g_X4_comes (upd (upd (upd (upd (upd sf (g_X4_at (sf 10) 0).toNatClampNeg x1) (g_X4_at (sf 10) 1).toNatClampNeg x2) (g_X4_at (sf 10) 2).toNatClampNeg x3) (g_X4_at (sf 10) 3).toNatClampNeg x4) (g_X4_at (sf 10) 4).toNatClampNeg x5) x3 x4)) (g_X4_at (sf 10) 6).toNatClampNeg u47.1) (g_X4_at (sf 10) 7).toNatClampNeg u47.2.1) mf kf u47.1 u47.2.1 u47.2.2.1 u47.2.2.2.1 u47.2.2.2.2) H := hP
      have hD : va_D A (MDw cA cZ aM aS aI aK (upd (upd (upd (upd (upd (upd (upd (upd sf (g_X4_at (sf 10) 0).toNatClampNeg x1) (g_X4_at (sf 10) 1).toNatClampNeg x2) (g_X4_at (sf 10) 2).toNatClampNeg x3) (g_X4_at (sf 10) 3).toNatClampNeg x4) (g_X4_at (sf 10) 4).toNatClampNeg x5) (g_X4_at (sf 10) 5).toNatClampNeg (g_X4_comes (upd (upd (upd (upd (upd sf (g_X4_at (sf 10) 0).toNatClampNeg x1) (g_X4_at (sf 10) 1).toNatClampNeg x2) (g_X4_at (sf 10) 2).toNatClampNeg x3) (g_X4_at (sf 10) 3).toNatClampNeg x4) (g_X4_at (sf 10) 4).toNatClampNeg x5) x3 x4)) (g_X4_at (sf 10) 6).toNatClampNeg u47.1) (g_X4_at (sf 10) 7).toNatClampNeg u47.2.1) mf kf u47.1 u47.2.1 u47.2.2.1 u47.2.2.2.1 u47.2.2.2.2) := hD
      refine lv_aload_n hx hb dX4_tell_171 rfl (lv_at hl 2 rfl) ?_
      refine va_get (D := D) (ci := 4) (v := .ref aS) (C := RX4) (T := TX4) (N := 8) hx hb hts iX4 hown hK hP 0 rfl rfl 0 (by decide) (hts (.fieldLink RX4 7 "LightBurstsModel" "state" "[I") (List.mem_of_getElem? (i := 1) rfl)) (fun _ h9 => h9) rfl dX4_tell_172 ?_
      refine lv_iload hx hb dX4_tell_175 (lv_at hl 0 rfl) ?_
      refine lv_bipush (v := 8) hx hb dX4_tell_177 (by decide) ?_
      refine kI (wr := MDw cA cZ aM aS aI aK (upd (upd (upd (upd (upd (upd (upd (upd sf (g_X4_at (sf 10) 0).toNatClampNeg x1) (g_X4_at (sf 10) 1).toNatClampNeg x2) (g_X4_at (sf 10) 2).toNatClampNeg x3) (g_X4_at (sf 10) 3).toNatClampNeg x4) (g_X4_at (sf 10) 4).toNatClampNeg x5) (g_X4_at (sf 10) 5).toNatClampNeg (g_X4_comes (upd (upd (upd (upd (upd sf (g_X4_at (sf 10) 0).toNatClampNeg x1) (g_X4_at (sf 10) 1).toNatClampNeg x2) (g_X4_at (sf 10) 2).toNatClampNeg x3) (g_X4_at (sf 10) 3).toNatClampNeg x4) (g_X4_at (sf 10) 4).toNatClampNeg x5) x3 x4)) (g_X4_at (sf 10) 6).toNatClampNeg u47.1) (g_X4_at (sf 10) 7).toNatClampNeg u47.2.1) mf kf u47.1 u47.2.1 u47.2.2.1 u47.2.2.2.1 u47.2.2.2.2) (W1 := ([] : va_W)) (wsN := MDw cA cZ aM aS aI aK (upd (upd (upd (upd (upd (upd (upd (upd sf (g_X4_at (sf 10) 0).toNatClampNeg x1) (g_X4_at (sf 10) 1).toNatClampNeg x2) (g_X4_at (sf 10) 2).toNatClampNeg x3) (g_X4_at (sf 10) 3).toNatClampNeg x4) (g_X4_at (sf 10) 4).toNatClampNeg x5) (g_X4_at (sf 10) 5).toNatClampNeg (g_X4_comes (upd (upd (upd (upd (upd sf (g_X4_at (sf 10) 0).toNatClampNeg x1) (g_X4_at (sf 10) 1).toNatClampNeg x2) (g_X4_at (sf 10) 2).toNatClampNeg x3) (g_X4_at (sf 10) 3).toNatClampNeg x4) (g_X4_at (sf 10) 4).toNatClampNeg x5) x3 x4)) (g_X4_at (sf 10) 6).toNatClampNeg u47.1) (g_X4_at (sf 10) 7).toNatClampNeg u47.2.1) mf kf u47.1 u47.2.1 u47.2.2.1 u47.2.2.2.1 u47.2.2.2.2) (rS (As := [.int (sf 10), .int 8]) (rest := [.ref aS]) (W0 := ([] : va_W)) ⟨hx, hb, hml, hown, hts⟩ (c_X4_at l D cA cZ H.size (sf 10) 8) (cwS 2 hts gX4_tell_X4_at rfl rfl rfl (by decide +kernel) ⟨Nat.le_of_ble_eq_true rfl, Nat.le_of_ble_eq_true rfl⟩) hP hD hK hN ([] : List Nat) rfl rfl rfl hl.1 rfl (Nat.le_of_ble_eq_true rfl) dX4_tell_179 ⟨Nat.zero_le _, Nat.zero_le _⟩) hP hD hS hA [] [0, 1, 2, 3] [0, 1, 2, 3] rfl rfl rfl (by decide) rfl rfl (fun H locs hP hD hS => ?_)
      refine lv_aload_n hx hb dX4_tell_182 rfl (lv_at hl 2 rfl) ?_
      refine va_get (D := D) (ci := 4) (v := .int u47.2.2.1) (C := RX4) (T := TX4) (N := 8) hx hb hts iX4 hown hK hP 0 rfl rfl 5 (by decide) (hts (.fieldLink RX4 65 "LightBurstsModel" "from" "I") (List.mem_of_getElem? (i := 4) rfl)) (fun _ h9 => h9) rfl dX4_tell_183 ?_
      refine va_iast hx hb hK hP hD hS 1 0 rfl rfl (at_in (bok_t hm0 hm c_2) ⟨by decide, by decide⟩) dX4_tell_186 (fun H locs hP hD hS => ?_)
      have hP : va_P D vwCl (MDw cA cZ aM aS aI aK (upd (upd (upd (upd (upd (upd (upd (upd (upd sf (g_X4_at (sf 10) 0).toNatClampNeg x1) (g_X4_at (sf 10) 1).toNatClampNeg x2) (g_X4_at (sf 10) 2).toNatClampNeg x3) (g_X4_at (sf 10) 3).toNatClampNeg x4) (g_X4_at (sf 10) 4).toNatClampNeg x5) (g_X4_at (sf 10) 5).toNatClampNeg (g_X4_comes (upd (upd (upd (upd (upd sf (g_X4_at (sf 10) 0).toNatClampNeg x1) (g_X4_at (sf 10) 1).toNatClampNeg x2) (g_X4_at (sf 10) 2).toNatClampNeg x3) (g_X4_at (sf 10) 3).toNatClampNeg x4) (g_X4_at (sf 10) 4).toNatClampNeg x5) x3 x4)) (g_X4_at (sf 10) 6).toNatClampNeg u47.1) (g_X4_at (sf 10) 7).toNatClampNeg u47.2.1) (g_X4_at (sf 10) 8).toNatClampNeg u47.2.2.1) mf kf u47.1 u47.2.1 u47.2.2.1 u47.2.2.2.1 u47.2.2.2.2) H := hP
      have hD : va_D A (MDw cA cZ aM aS aI aK (upd (upd (upd (upd (upd (upd (upd (upd (upd sf (g_X4_at (sf 10) 0).toNatClampNeg x1) (g_X4_at (sf 10) 1).toNatClampNeg x2) (g_X4_at (sf 10) 2).toNatClampNeg x3) (g_X4_at (sf 10) 3).toNatClampNeg x4) (g_X4_at (sf 10) 4).toNatClampNeg x5) (g_X4_at (sf 10) 5).toNatClampNeg (g_X4_comes (upd (upd (upd (upd (upd sf (g_X4_at (sf 10) 0).toNatClampNeg x1) (g_X4_at (sf 10) 1).toNatClampNeg x2) (g_X4_at (sf 10) 2).toNatClampNeg x3) (g_X4_at (sf 10) 3).toNatClampNeg x4) (g_X4_at (sf 10) 4).toNatClampNeg x5) x3 x4)) (g_X4_at (sf 10) 6).toNatClampNeg u47.1) (g_X4_at (sf 10) 7).toNatClampNeg u47.2.1) (g_X4_at (sf 10) 8).toNatClampNeg u47.2.2.1) mf kf u47.1 u47.2.1 u47.2.2.1 u47.2.2.2.1 u47.2.2.2.2) := hD
      refine lv_aload_n hx hb dX4_tell_187 rfl (lv_at hl 2 rfl) ?_
      refine va_get (D := D) (ci := 4) (v := .ref aS) (C := RX4) (T := TX4) (N := 8) hx hb hts iX4 hown hK hP 0 rfl rfl 0 (by decide) (hts (.fieldLink RX4 7 "LightBurstsModel" "state" "[I") (List.mem_of_getElem? (i := 1) rfl)) (fun _ h9 => h9) rfl dX4_tell_188 ?_
      refine lv_iload hx hb dX4_tell_191 (lv_at hl 0 rfl) ?_
      refine lv_bipush (v := 9) hx hb dX4_tell_193 (by decide) ?_
      refine kI (wr := MDw cA cZ aM aS aI aK (upd (upd (upd (upd (upd (upd (upd (upd (upd sf (g_X4_at (sf 10) 0).toNatClampNeg x1) (g_X4_at (sf 10) 1).toNatClampNeg x2) (g_X4_at (sf 10) 2).toNatClampNeg x3) (g_X4_at (sf 10) 3).toNatClampNeg x4) (g_X4_at (sf 10) 4).toNatClampNeg x5) (g_X4_at (sf 10) 5).toNatClampNeg (g_X4_comes (upd (upd (upd (upd (upd sf (g_X4_at (sf 10) 0).toNatClampNeg x1) (g_X4_at (sf 10) 1).toNatClampNeg x2) (g_X4_at (sf 10) 2).toNatClampNeg x3) (g_X4_at (sf 10) 3).toNatClampNeg x4) (g_X4_at (sf 10) 4).toNatClampNeg x5) x3 x4)) (g_X4_at (sf 10) 6).toNatClampNeg u47.1) (g_X4_at (sf 10) 7).toNatClampNeg u47.2.1) (g_X4_at (sf 10) 8).toNatClampNeg u47.2.2.1) mf kf u47.1 u47.2.1 u47.2.2.1 u47.2.2.2.1 u47.2.2.2.2) (W1 := ([] : va_W)) (wsN := MDw cA cZ aM aS aI aK (upd (upd (upd (upd (upd (upd (upd (upd (upd sf (g_X4_at (sf 10) 0).toNatClampNeg x1) (g_X4_at (sf 10) 1).toNatClampNeg x2) (g_X4_at (sf 10) 2).toNatClampNeg x3) (g_X4_at (sf 10) 3).toNatClampNeg x4) (g_X4_at (sf 10) 4).toNatClampNeg x5) (g_X4_at (sf 10) 5).toNatClampNeg (g_X4_comes (upd (upd (upd (upd (upd sf (g_X4_at (sf 10) 0).toNatClampNeg x1) (g_X4_at (sf 10) 1).toNatClampNeg x2) (g_X4_at (sf 10) 2).toNatClampNeg x3) (g_X4_at (sf 10) 3).toNatClampNeg x4) (g_X4_at (sf 10) 4).toNatClampNeg x5) x3 x4)) (g_X4_at (sf 10) 6).toNatClampNeg u47.1) (g_X4_at (sf 10) 7).toNatClampNeg u47.2.1) (g_X4_at (sf 10) 8).toNatClampNeg u47.2.2.1) mf kf u47.1 u47.2.1 u47.2.2.1 u47.2.2.2.1 u47.2.2.2.2) (rS (As := [.int (sf 10), .int 9]) (rest := [.ref aS]) (W0 := ([] : va_W)) ⟨hx, hb, hml, hown, hts⟩ (c_X4_at l D cA cZ H.size (sf 10) 9) (cwS 2 hts gX4_tell_X4_at rfl rfl rfl (by decide +kernel) ⟨Nat.le_of_ble_eq_true rfl, Nat.le_of_ble_eq_true rfl⟩) hP hD hK hN ([] : List Nat) rfl rfl rfl hl.1 rfl (Nat.le_of_ble_eq_true rfl) dX4_tell_195 ⟨Nat.zero_le _, Nat.zero_le _⟩) hP hD hS hA [] [0, 1, 2, 3] [0, 1, 2, 3] rfl rfl rfl (by decide) rfl rfl (fun H locs hP hD hS => ?_)
      refine lv_aload_n hx hb dX4_tell_198 rfl (lv_at hl 2 rfl) ?_
      refine va_get (D := D) (ci := 4) (v := .int u47.2.2.2.1) (C := RX4) (T := TX4) (N := 8) hx hb hts iX4 hown hK hP 0 rfl rfl 6 (by decide) (hts (.fieldLink RX4 68 "LightBurstsModel" "size" "I") (List.mem_of_getElem? (i := 5) rfl)) (fun _ h9 => h9) rfl dX4_tell_199 ?_
      refine va_iast hx hb hK hP hD hS 1 0 rfl rfl (at_in (bok_t hm0 hm c_2) ⟨by decide, by decide⟩) dX4_tell_202 (fun H locs hP hD hS => ?_)
      have hP : va_P D vwCl (MDw cA cZ aM aS aI aK (upd (upd (upd (upd (upd (upd (upd (upd (upd (upd sf (g_X4_at (sf 10) 0).toNatClampNeg x1) (g_X4_at (sf 10) 1).toNatClampNeg x2) (g_X4_at (sf 10) 2).toNatClampNeg x3) (g_X4_at (sf 10) 3).toNatClampNeg x4) (g_X4_at (sf 10) 4).toNatClampNeg x5) (g_X4_at (sf 10) 5).toNatClampNeg (g_X4_comes (upd (upd (upd (upd (upd sf (g_X4_at (sf 10) 0).toNatClampNeg x1) (g_X4_at (sf 10) 1).toNatClampNeg x2) (g_X4_at (sf 10) 2).toNatClampNeg x3) (g_X4_at (sf 10) 3).toNatClampNeg x4) (g_X4_at (sf 10) 4).toNatClampNeg x5) x3 x4)) (g_X4_at (sf 10) 6).toNatClampNeg u47.1) (g_X4_at (sf 10) 7).toNatClampNeg u47.2.1) (g_X4_at (sf 10) 8).toNatClampNeg u47.2.2.1) (g_X4_at (sf 10) 9).toNatClampNeg u47.2.2.2.1) mf kf u47.1 u47.2.1 u47.2.2.1 u47.2.2.2.1 u47.2.2.2.2) H := hP
      have hD : va_D A (MDw cA cZ aM aS aI aK (upd (upd (upd (upd (upd (upd (upd (upd (upd (upd sf (g_X4_at (sf 10) 0).toNatClampNeg x1) (g_X4_at (sf 10) 1).toNatClampNeg x2) (g_X4_at (sf 10) 2).toNatClampNeg x3) (g_X4_at (sf 10) 3).toNatClampNeg x4) (g_X4_at (sf 10) 4).toNatClampNeg x5) (g_X4_at (sf 10) 5).toNatClampNeg (g_X4_comes (upd (upd (upd (upd (upd sf (g_X4_at (sf 10) 0).toNatClampNeg x1) (g_X4_at (sf 10) 1).toNatClampNeg x2) (g_X4_at (sf 10) 2).toNatClampNeg x3) (g_X4_at (sf 10) 3).toNatClampNeg x4) (g_X4_at (sf 10) 4).toNatClampNeg x5) x3 x4)) (g_X4_at (sf 10) 6).toNatClampNeg u47.1) (g_X4_at (sf 10) 7).toNatClampNeg u47.2.1) (g_X4_at (sf 10) 8).toNatClampNeg u47.2.2.1) (g_X4_at (sf 10) 9).toNatClampNeg u47.2.2.2.1) mf kf u47.1 u47.2.1 u47.2.2.1 u47.2.2.2.1 u47.2.2.2.2) := hD
      refine lv_aload_n hx hb dX4_tell_203 rfl (lv_at hl 2 rfl) ?_
      refine va_get (D := D) (ci := 4) (v := .ref aS) (C := RX4) (T := TX4) (N := 8) hx hb hts iX4 hown hK hP 0 rfl rfl 0 (by decide) (hts (.fieldLink RX4 7 "LightBurstsModel" "state" "[I") (List.mem_of_getElem? (i := 1) rfl)) (fun _ h9 => h9) rfl dX4_tell_204 ?_
      refine lv_iload hx hb dX4_tell_207 (lv_at hl 0 rfl) ?_
      refine lv_bipush (v := 10) hx hb dX4_tell_209 (by decide) ?_
      refine kI (wr := MDw cA cZ aM aS aI aK (upd (upd (upd (upd (upd (upd (upd (upd (upd (upd sf (g_X4_at (sf 10) 0).toNatClampNeg x1) (g_X4_at (sf 10) 1).toNatClampNeg x2) (g_X4_at (sf 10) 2).toNatClampNeg x3) (g_X4_at (sf 10) 3).toNatClampNeg x4) (g_X4_at (sf 10) 4).toNatClampNeg x5) (g_X4_at (sf 10) 5).toNatClampNeg (g_X4_comes (upd (upd (upd (upd (upd sf (g_X4_at (sf 10) 0).toNatClampNeg x1) (g_X4_at (sf 10) 1).toNatClampNeg x2) (g_X4_at (sf 10) 2).toNatClampNeg x3) (g_X4_at (sf 10) 3).toNatClampNeg x4) (g_X4_at (sf 10) 4).toNatClampNeg x5) x3 x4)) (g_X4_at (sf 10) 6).toNatClampNeg u47.1) (g_X4_at (sf 10) 7).toNatClampNeg u47.2.1) (g_X4_at (sf 10) 8).toNatClampNeg u47.2.2.1) (g_X4_at (sf 10) 9).toNatClampNeg u47.2.2.2.1) mf kf u47.1 u47.2.1 u47.2.2.1 u47.2.2.2.1 u47.2.2.2.2) (W1 := ([] : va_W)) (wsN := MDw cA cZ aM aS aI aK (upd (upd (upd (upd (upd (upd (upd (upd (upd (upd sf (g_X4_at (sf 10) 0).toNatClampNeg x1) (g_X4_at (sf 10) 1).toNatClampNeg x2) (g_X4_at (sf 10) 2).toNatClampNeg x3) (g_X4_at (sf 10) 3).toNatClampNeg x4) (g_X4_at (sf 10) 4).toNatClampNeg x5) (g_X4_at (sf 10) 5).toNatClampNeg (g_X4_comes (upd (upd (upd (upd (upd sf (g_X4_at (sf 10) 0).toNatClampNeg x1) (g_X4_at (sf 10) 1).toNatClampNeg x2) (g_X4_at (sf 10) 2).toNatClampNeg x3) (g_X4_at (sf 10) 3).toNatClampNeg x4) (g_X4_at (sf 10) 4).toNatClampNeg x5) x3 x4)) (g_X4_at (sf 10) 6).toNatClampNeg u47.1) (g_X4_at (sf 10) 7).toNatClampNeg u47.2.1) (g_X4_at (sf 10) 8).toNatClampNeg u47.2.2.1) (g_X4_at (sf 10) 9).toNatClampNeg u47.2.2.2.1) mf kf u47.1 u47.2.1 u47.2.2.1 u47.2.2.2.1 u47.2.2.2.2) (rS (As := [.int (sf 10), .int 10]) (rest := [.ref aS]) (W0 := ([] : va_W)) ⟨hx, hb, hml, hown, hts⟩ (c_X4_at l D cA cZ H.size (sf 10) 10) (cwS 2 hts gX4_tell_X4_at rfl rfl rfl (by decide +kernel) ⟨Nat.le_of_ble_eq_true rfl, Nat.le_of_ble_eq_true rfl⟩) hP hD hK hN ([] : List Nat) rfl rfl rfl hl.1 rfl (Nat.le_of_ble_eq_true rfl) dX4_tell_211 ⟨Nat.zero_le _, Nat.zero_le _⟩) hP hD hS hA [] [0, 1, 2, 3] [0, 1, 2, 3] rfl rfl rfl (by decide) rfl rfl (fun H locs hP hD hS => ?_)
      refine lv_aload_n hx hb dX4_tell_214 rfl (lv_at hl 2 rfl) ?_
      refine va_get (D := D) (ci := 4) (v := .int u47.2.2.2.2) (C := RX4) (T := TX4) (N := 8) hx hb hts iX4 hown hK hP 0 rfl rfl 7 (by decide) (hts (.fieldLink RX4 71 "LightBurstsModel" "by" "I") (List.mem_of_getElem? (i := 6) rfl)) (fun _ h9 => h9) rfl dX4_tell_215 ?_
      refine va_iast hx hb hK hP hD hS 1 0 rfl rfl (at_in (bok_t hm0 hm c_2) ⟨by decide, by decide⟩) dX4_tell_218 (fun H locs hP hD hS => ?_)
      have hP : va_P D vwCl (MDw cA cZ aM aS aI aK (upd (upd (upd (upd (upd (upd (upd (upd (upd (upd (upd sf (g_X4_at (sf 10) 0).toNatClampNeg x1) (g_X4_at (sf 10) 1).toNatClampNeg x2) (g_X4_at (sf 10) 2).toNatClampNeg x3) (g_X4_at (sf 10) 3).toNatClampNeg x4) (g_X4_at (sf 10) 4).toNatClampNeg x5) (g_X4_at (sf 10) 5).toNatClampNeg (g_X4_comes (upd (upd (upd (upd (upd sf (g_X4_at (sf 10) 0).toNatClampNeg x1) (g_X4_at (sf 10) 1).toNatClampNeg x2) (g_X4_at (sf 10) 2).toNatClampNeg x3) (g_X4_at (sf 10) 3).toNatClampNeg x4) (g_X4_at (sf 10) 4).toNatClampNeg x5) x3 x4)) (g_X4_at (sf 10) 6).toNatClampNeg u47.1) (g_X4_at (sf 10) 7).toNatClampNeg u47.2.1) (g_X4_at (sf 10) 8).toNatClampNeg u47.2.2.1) (g_X4_at (sf 10) 9).toNatClampNeg u47.2.2.2.1) (g_X4_at (sf 10) 10).toNatClampNeg u47.2.2.2.2) mf kf u47.1 u47.2.1 u47.2.2.1 u47.2.2.2.1 u47.2.2.2.2) H := hP
      have hD : va_D A (MDw cA cZ aM aS aI aK (upd (upd (upd (upd (upd (upd (upd (upd (upd (upd (upd sf (g_X4_at (sf 10) 0).toNatClampNeg x1) (g_X4_at (sf 10) 1).toNatClampNeg x2) (g_X4_at (sf 10) 2).toNatClampNeg x3) (g_X4_at (sf 10) 3).toNatClampNeg x4) (g_X4_at (sf 10) 4).toNatClampNeg x5) (g_X4_at (sf 10) 5).toNatClampNeg (g_X4_comes (upd (upd (upd (upd (upd sf (g_X4_at (sf 10) 0).toNatClampNeg x1) (g_X4_at (sf 10) 1).toNatClampNeg x2) (g_X4_at (sf 10) 2).toNatClampNeg x3) (g_X4_at (sf 10) 3).toNatClampNeg x4) (g_X4_at (sf 10) 4).toNatClampNeg x5) x3 x4)) (g_X4_at (sf 10) 6).toNatClampNeg u47.1) (g_X4_at (sf 10) 7).toNatClampNeg u47.2.1) (g_X4_at (sf 10) 8).toNatClampNeg u47.2.2.1) (g_X4_at (sf 10) 9).toNatClampNeg u47.2.2.2.1) (g_X4_at (sf 10) 10).toNatClampNeg u47.2.2.2.2) mf kf u47.1 u47.2.1 u47.2.2.1 u47.2.2.2.1 u47.2.2.2.2) := hD
      refine lv_aload_n hx hb dX4_tell_219 rfl (lv_at hl 2 rfl) ?_
      refine va_get (D := D) (ci := 4) (v := .ref aS) (C := RX4) (T := TX4) (N := 8) hx hb hts iX4 hown hK hP 0 rfl rfl 0 (by decide) (hts (.fieldLink RX4 7 "LightBurstsModel" "state" "[I") (List.mem_of_getElem? (i := 1) rfl)) (fun _ h9 => h9) rfl dX4_tell_220 ?_
      refine lv_bipush (v := 10) hx hb dX4_tell_223 (by decide) ?_
      refine lv_dup2_11 hx hb dX4_tell_225 rfl rfl ?_
      refine va_iald hx hb hK hP 1 0 rfl rfl (by unfold vp_in; decide) dX4_tell_226 ?_
      refine lv_eqi ((upd (upd (upd (upd (upd (upd (upd (upd (upd (upd (upd sf (g_X4_at (sf 10) 0).toNatClampNeg x1) (g_X4_at (sf 10) 1).toNatClampNeg x2) (g_X4_at (sf 10) 2).toNatClampNeg x3) (g_X4_at (sf 10) 3).toNatClampNeg x4) (g_X4_at (sf 10) 4).toNatClampNeg x5) (g_X4_at (sf 10) 5).toNatClampNeg (g_X4_comes (upd (upd (upd (upd (upd sf (g_X4_at (sf 10) 0).toNatClampNeg x1) (g_X4_at (sf 10) 1).toNatClampNeg x2) (g_X4_at (sf 10) 2).toNatClampNeg x3) (g_X4_at (sf 10) 3).toNatClampNeg x4) (g_X4_at (sf 10) 4).toNatClampNeg x5) x3 x4)) (g_X4_at (sf 10) 6).toNatClampNeg u47.1) (g_X4_at (sf 10) 7).toNatClampNeg u47.2.1) (g_X4_at (sf 10) 8).toNatClampNeg u47.2.2.1) (g_X4_at (sf 10) 9).toNatClampNeg u47.2.2.2.1) (g_X4_at (sf 10) 10).toNatClampNeg u47.2.2.2.2) 10) rfl ?_
      refine lv_iconst (v := 1) hx hb dX4_tell_227 (by decide) ?_
      refine lv_iadd hx hb dX4_tell_228 ?_
      refine va_iast hx hb hK hP hD hS 1 0 rfl rfl (by unfold vp_in; decide) dX4_tell_229 (fun H locs hP hD hS => ?_)
      have hP : va_P D vwCl (MDw cA cZ aM aS aI aK (upd (upd (upd (upd (upd (upd (upd (upd (upd (upd (upd (upd sf (g_X4_at (sf 10) 0).toNatClampNeg x1) (g_X4_at (sf 10) 1).toNatClampNeg x2) (g_X4_at (sf 10) 2).toNatClampNeg x3) (g_X4_at (sf 10) 3).toNatClampNeg x4) (g_X4_at (sf 10) 4).toNatClampNeg x5) (g_X4_at (sf 10) 5).toNatClampNeg (g_X4_comes (upd (upd (upd (upd (upd sf (g_X4_at (sf 10) 0).toNatClampNeg x1) (g_X4_at (sf 10) 1).toNatClampNeg x2) (g_X4_at (sf 10) 2).toNatClampNeg x3) (g_X4_at (sf 10) 3).toNatClampNeg x4) (g_X4_at (sf 10) 4).toNatClampNeg x5) x3 x4)) (g_X4_at (sf 10) 6).toNatClampNeg u47.1) (g_X4_at (sf 10) 7).toNatClampNeg u47.2.1) (g_X4_at (sf 10) 8).toNatClampNeg u47.2.2.1) (g_X4_at (sf 10) 9).toNatClampNeg u47.2.2.2.1) (g_X4_at (sf 10) 10).toNatClampNeg u47.2.2.2.2) 10 (((upd (upd (upd (upd (upd (upd (upd (upd (upd (upd (upd sf (g_X4_at (sf 10) 0).toNatClampNeg x1) (g_X4_at (sf 10) 1).toNatClampNeg x2) (g_X4_at (sf 10) 2).toNatClampNeg x3) (g_X4_at (sf 10) 3).toNatClampNeg x4) (g_X4_at (sf 10) 4).toNatClampNeg x5) (g_X4_at (sf 10) 5).toNatClampNeg (g_X4_comes (upd (upd (upd (upd (upd sf (g_X4_at (sf 10) 0).toNatClampNeg x1) (g_X4_at (sf 10) 1).toNatClampNeg x2) (g_X4_at (sf 10) 2).toNatClampNeg x3) (g_X4_at (sf 10) 3).toNatClampNeg x4) (g_X4_at (sf 10) 4).toNatClampNeg x5) x3 x4)) (g_X4_at (sf 10) 6).toNatClampNeg u47.1) (g_X4_at (sf 10) 7).toNatClampNeg u47.2.1) (g_X4_at (sf 10) 8).toNatClampNeg u47.2.2.1) (g_X4_at (sf 10) 9).toNatClampNeg u47.2.2.2.1) (g_X4_at (sf 10) 10).toNatClampNeg u47.2.2.2.2) 10) + 1)) mf kf u47.1 u47.2.1 u47.2.2.1 u47.2.2.2.1 u47.2.2.2.2) H := hP
      have hD : va_D A (MDw cA cZ aM aS aI aK (upd (upd (upd (upd (upd (upd (upd (upd (upd (upd (upd (upd sf (g_X4_at (sf 10) 0).toNatClampNeg x1) (g_X4_at (sf 10) 1).toNatClampNeg x2) (g_X4_at (sf 10) 2).toNatClampNeg x3) (g_X4_at (sf 10) 3).toNatClampNeg x4) (g_X4_at (sf 10) 4).toNatClampNeg x5) (g_X4_at (sf 10) 5).toNatClampNeg (g_X4_comes (upd (upd (upd (upd (upd sf (g_X4_at (sf 10) 0).toNatClampNeg x1) (g_X4_at (sf 10) 1).toNatClampNeg x2) (g_X4_at (sf 10) 2).toNatClampNeg x3) (g_X4_at (sf 10) 3).toNatClampNeg x4) (g_X4_at (sf 10) 4).toNatClampNeg x5) x3 x4)) (g_X4_at (sf 10) 6).toNatClampNeg u47.1) (g_X4_at (sf 10) 7).toNatClampNeg u47.2.1) (g_X4_at (sf 10) 8).toNatClampNeg u47.2.2.1) (g_X4_at (sf 10) 9).toNatClampNeg u47.2.2.2.1) (g_X4_at (sf 10) 10).toNatClampNeg u47.2.2.2.2) 10 (((upd (upd (upd (upd (upd (upd (upd (upd (upd (upd (upd sf (g_X4_at (sf 10) 0).toNatClampNeg x1) (g_X4_at (sf 10) 1).toNatClampNeg x2) (g_X4_at (sf 10) 2).toNatClampNeg x3) (g_X4_at (sf 10) 3).toNatClampNeg x4) (g_X4_at (sf 10) 4).toNatClampNeg x5) (g_X4_at (sf 10) 5).toNatClampNeg (g_X4_comes (upd (upd (upd (upd (upd sf (g_X4_at (sf 10) 0).toNatClampNeg x1) (g_X4_at (sf 10) 1).toNatClampNeg x2) (g_X4_at (sf 10) 2).toNatClampNeg x3) (g_X4_at (sf 10) 3).toNatClampNeg x4) (g_X4_at (sf 10) 4).toNatClampNeg x5) x3 x4)) (g_X4_at (sf 10) 6).toNatClampNeg u47.1) (g_X4_at (sf 10) 7).toNatClampNeg u47.2.1) (g_X4_at (sf 10) 8).toNatClampNeg u47.2.2.1) (g_X4_at (sf 10) 9).toNatClampNeg u47.2.2.2.1) (g_X4_at (sf 10) 10).toNatClampNeg u47.2.2.2.2) 10) + 1)) mf kf u47.1 u47.2.1 u47.2.2.1 u47.2.2.2.1 u47.2.2.2.2) := hD
      refine lv_iload hx hb dX4_tell_230 (lv_at hl 0 rfl) ?_
      rw [g_X4_tell_C47] at hG
      rw [hG]
      exact W.iret (v := (sf 10)) hx hb hr (fun t ht hW => ⟨⟨_, (), rfl, rfl, by rw [ht]; exact hP, va_K.moved hW.alike hK, hD⟩, hS.F ht⟩) hS.2.2 dX4_tell_232
    · refine lv_bipush (v := (-4)) hx hb dX4_tell_32 (by decide) ?_
      rw [g_X4_tell, if_pos c_1, if_pos c_2] at hG
      rw [hG]
      exact W.iret (v := (-4)) hx hb hr (fun t ht hW => ⟨⟨_, (), rfl, rfl, by rw [ht]; exact hP, va_K.moved hW.alike hK, hD⟩, hS.F ht⟩) hS.2.2 dX4_tell_34
  · refine lv_iload hx hb dX4_tell_17 (lv_at hl 0 rfl) ?_
    rw [g_X4_tell, if_neg c_1] at hG
    rw [hG]
    exact W.iret (v := (g_X4_refusal x1 x2 x3 x4 x5)) hx hb hr (fun t ht hW => ⟨⟨_, (), rfl, rfl, by rw [ht]; exact hP, va_K.moved hW.alike hK, hD⟩, hS.F ht⟩) hS.2.2 dX4_tell_19

def g_X4_would_C32 (u32 : Int32 × Int32 × Int32 × Int32 × Int32) : Int32 × Int32 × Int32 × Int32 × Int32 × Int32 := (u32.1, u32.1, u32.2.1, u32.2.2.1, u32.2.2.2.1, u32.2.2.2.2)
def g_X4_would (sf : (Nat → Int32)) (m0 : Int32) (m1 : Int32) (m2 : Int32) (m3 : Int32) (m4 : Int32) (x1 : Int32) (x2 : Int32) (x3 : Int32) (x4 : Int32) (x5 : Int32) : Int32 × Int32 × Int32 × Int32 × Int32 × Int32 := (if (g_X4_refusal x1 x2 x3 x4 x5) = 0 then (g_X4_would_C32 (g_X4_place sf x1 x2 (g_X4_comes sf x3 x4) x5)) else ((g_X4_refusal x1 x2 x3 x4 x5), m0, m1, m2, m3, m4))
set_option maxHeartbeats 4000000 in
set_option maxRecDepth 100000 in
theorem c_X4_would (l : Launch) (D : va_G) (cA cZ : ClassId) (aM : Nat) (aS : Nat) (aI : Nat) (aK : Nat) (szz : Nat) (sf : (Nat → Int32)) (mf : (Nat → Int32)) (kf : (Nat → Int32)) (m0 : Int32) (m1 : Int32) (m2 : Int32) (m3 : Int32) (m4 : Int32) (x1 : Int32) (x2 : Int32) (x3 : Int32) (x4 : Int32) (x5 : Int32) (hm : (sf 10) ≤ 48) : MetI l yX4_would wsX4_would 8 197 D (tyA cA cZ) [.ref aM, .int x1, .int x2, .int x3, .int x4, .int x5] (MDw cA cZ aM aS aI aK sf mf kf m0 m1 m2 m3 m4) szz (g_X4_would sf m0 m1 m2 m3 m4 x1 x2 x3 x4 x5).1 (MDw cA cZ aM aS aI aK sf mf kf ((g_X4_would sf m0 m1 m2 m3 m4 x1 x2 x3 x4 x5).2.1) ((g_X4_would sf m0 m1 m2 m3 m4 x1 x2 x3 x4 x5).2.2.1) ((g_X4_would sf m0 m1 m2 m3 m4 x1 x2 x3 x4 x5).2.2.2.1) ((g_X4_would sf m0 m1 m2 m3 m4 x1 x2 x3 x4 x5).2.2.2.2.1) ((g_X4_would sf m0 m1 m2 m3 m4 x1 x2 x3 x4 x5).2.2.2.2.2)) := by
  refine Met.ofW (cc := cX4_would) (maxL := 7) (ret := (some .int)) (by decide) rfl ?_
  intro p e s m args below meth c s₁ B hml hv
  obtain ⟨rfl, hsz, hP, hK, hD0, hN⟩ := hv
  have hx := B.exec
  have hb := B.bytes
  have hr := B.returns
  have hts := atoms_spec (ws := wsX4_would) B.pre
  have hown : s.vm.findClass RX4 = some m.cls := findClass_of_methodNamed B.named
  have hlocks := B.notSynchronized
  have iX4 : ∀ w ∈ wsX40, w ∈ wsX4_would := fun _ h => List.mem_cons_of_mem _ (List.mem_append_right _ h)
  subst hsz
  have hD := hD0.self (sz := s.heap.size)
  generalize hAe : va_A (MDw cA cZ aM aS aI aK sf mf kf m0 m1 m2 m3 m4) s.heap.size = A at hD ⊢
  have hA : ∀ q : Nat, s.heap.size ≤ q → A q := fun q h => by rw [← hAe]; exact Or.inr h
  have hS : va_S A s.heap s.heap [] := va_S.rf
  have hP : va_P D vwCl (MDw cA cZ aM aS aI aK sf mf kf m0 m1 m2 m3 m4) s.heap := hP
  obtain ⟨G, hG⟩ : ∃ G, G = (g_X4_would sf m0 m1 m2 m3 m4 x1 x2 x3 x4 x5) := ⟨_, rfl⟩
  rw [← hG]
  have hl := lv_entry ([.ref aM, .int x1, .int x2, .int x3, .int x4, .int x5]) (n := 7) (Nat.le_of_ble_eq_true rfl)
  rw [lg_entry_eq]
  generalize (lg_sl ([.ref aM, .int x1, .int x2, .int x3, .int x4, .int x5]) ++ List.replicate (7 - (lg_sl ([.ref aM, .int x1, .int x2, .int x3, .int x4, .int x5])).length) Slot.unset).toArray = ls at hl ⊢
  have hl : lv_has ls 7 [(0, .ref aM), (1, .int x1), (2, .int x2), (3, .int x3), (4, .int x4), (5, .int x5)] := hl
  refine lv_iload_n hx hb dX4_would_0 rfl (lv_at hl 1 rfl) ?_
  refine lv_iload_n hx hb dX4_would_1 rfl (lv_at hl 2 rfl) ?_
  refine lv_iload_n hx hb dX4_would_2 rfl (lv_at hl 3 rfl) ?_
  refine lv_iload hx hb dX4_would_3 (lv_at hl 4 rfl) ?_
  refine lv_iload hx hb dX4_would_5 (lv_at hl 5 rfl) ?_
  refine kI (wr := MDw cA cZ aM aS aI aK sf mf kf m0 m1 m2 m3 m4) (W1 := ([] : va_W)) (wsN := MDw cA cZ aM aS aI aK sf mf kf m0 m1 m2 m3 m4) (rS (As := [.int x1, .int x2, .int x3, .int x4, .int x5]) (rest := []) (W0 := ([] : va_W)) ⟨hx, hb, hml, hown, hts⟩ (c_X4_refusal l D cA cZ s.heap.size x1 x2 x3 x4 x5) (cwS 5 hts gX4_would_X4_refusal rfl rfl rfl (by decide +kernel) ⟨Nat.le_of_ble_eq_true rfl, Nat.le_of_ble_eq_true rfl⟩) hP hD hK hN ([] : List Nat) rfl rfl rfl hl.1 rfl (Nat.le_of_ble_eq_true rfl) dX4_would_7 ⟨Nat.zero_le _, Nat.zero_le _⟩) hP hD hS hA [] [0, 1, 2, 3] [0, 1, 2, 3] rfl rfl rfl (by decide) rfl rfl (fun H locs hP hD hS => ?_)
  refine lv_istore (lv' := [(6, .int (g_X4_refusal x1 x2 x3 x4 x5)), (0, .ref aM), (1, .int x1), (2, .int x2), (3, .int x3), (4, .int x4), (5, .int x5)]) hx hb dX4_would_10 hl (by decide) rfl (fun ls hl => ?_)
  refine lv_iload hx hb dX4_would_12 (lv_at hl 0 rfl) ?_
  refine lv_if_eq (tgt := 20) hx hb dX4_would_14 (by decide) (fun c_1 => ?_) (fun c_1 => ?_)
  · refine lv_aload_n hx hb dX4_would_20 rfl (lv_at hl 1 rfl) ?_
    refine lv_iload_n hx hb dX4_would_21 rfl (lv_at hl 2 rfl) ?_
    refine lv_iload_n hx hb dX4_would_22 rfl (lv_at hl 3 rfl) ?_
    refine lv_aload_n hx hb dX4_would_23 rfl (lv_at hl 1 rfl) ?_
    refine lv_iload_n hx hb dX4_would_24 rfl (lv_at hl 4 rfl) ?_
    refine lv_iload hx hb dX4_would_25 (lv_at hl 5 rfl) ?_
    refine kI (wr := ([] : va_W)) (W1 := MDw cA cZ aM aS aI aK sf mf kf m0 m1 m2 m3 m4) (wsN := MDw cA cZ aM aS aI aK sf mf kf m0 m1 m2 m3 m4) (rV (As := [.int x3, .int x4]) (rest := [.int x2, .int x1, .ref aM]) (W0 := MDw cA cZ aM aS aI aK sf mf kf m0 m1 m2 m3 m4) ⟨hx, hb, hml, hown, hts⟩ (c_X4_comes l D cA cZ aM aS aI aK H.size sf mf kf m0 m1 m2 m3 m4 x3 x4) (cwV 2 hts gX4_would_X4_comes rfl rfl rfl (by decide +kernel) ⟨Nat.le_of_ble_eq_true rfl, Nat.le_of_ble_eq_true rfl⟩) hP hD hK hN ([0, 1, 2, 3] : List Nat) rfl rfl 4 0 rfl rfl rfl hl.1 rfl (Nat.le_of_ble_eq_true rfl) dX4_would_27 ⟨Nat.zero_le _, Nat.zero_le _⟩) hP hD hS hA [0, 1, 2, 3] [] [0, 1, 2, 3] rfl rfl rfl (by decide) rfl rfl (fun H locs hP hD hS => ?_)
    refine lv_iload hx hb dX4_would_30 (lv_at hl 6 rfl) ?_
    refine kV (wr := ([] : va_W)) (W1 := MDw cA cZ aM aS aI aK sf mf kf ((g_X4_place sf x1 x2 (g_X4_comes sf x3 x4) x5).1) ((g_X4_place sf x1 x2 (g_X4_comes sf x3 x4) x5).2.1) ((g_X4_place sf x1 x2 (g_X4_comes sf x3 x4) x5).2.2.1) ((g_X4_place sf x1 x2 (g_X4_comes sf x3 x4) x5).2.2.2.1) ((g_X4_place sf x1 x2 (g_X4_comes sf x3 x4) x5).2.2.2.2)) (wsN := MDw cA cZ aM aS aI aK sf mf kf ((g_X4_place sf x1 x2 (g_X4_comes sf x3 x4) x5).1) ((g_X4_place sf x1 x2 (g_X4_comes sf x3 x4) x5).2.1) ((g_X4_place sf x1 x2 (g_X4_comes sf x3 x4) x5).2.2.1) ((g_X4_place sf x1 x2 (g_X4_comes sf x3 x4) x5).2.2.2.1) ((g_X4_place sf x1 x2 (g_X4_comes sf x3 x4) x5).2.2.2.2)) (rV (As := [.int x1, .int x2, .int (g_X4_comes sf x3 x4), .int x5]) (rest := []) (W0 := MDw cA cZ aM aS aI aK sf mf kf m0 m1 m2 m3 m4) ⟨hx, hb, hml, hown, hts⟩ (c_X4_place l D cA cZ aM aS aI aK H.size sf mf kf m0 m1 m2 m3 m4 x1 x2 (g_X4_comes sf x3 x4) x5 (show (sf 10) ≤ 48 from by exact hm) (show 0 ≤ (x5).toInt ∧ (x5).toInt ≤ 60 from by exact ref_n c_1)) (cwV 4 hts gX4_would_X4_place rfl rfl rfl (by decide +kernel) ⟨Nat.le_of_ble_eq_true rfl, Nat.le_of_ble_eq_true rfl⟩) hP hD hK hN ([0, 1, 2, 3] : List Nat) rfl rfl 4 0 rfl rfl rfl hl.1 rfl (Nat.le_of_ble_eq_true rfl) dX4_would_32 ⟨Nat.zero_le _, Nat.zero_le _⟩) hP hD hS hA [0, 1, 2, 3] [] [0, 1, 2, 3] rfl rfl rfl (by decide) rfl rfl (fun H locs hP hD hS => ?_)
    rw [g_X4_would, if_pos c_1] at hG
    generalize (g_X4_place sf x1 x2 (g_X4_comes sf x3 x4) x5) = u32 at hG hP hD ⊢
    refine lv_aload_n hx hb dX4_would_35 rfl (lv_at hl 1 rfl) ?_
    refine va_get (D := D) (ci := 4) (v := .int u32.1) (C := RX4) (T := TX4) (N := 8) hx hb hts iX4 hown hK hP 0 rfl rfl 3 (by decide) (hts (.fieldLink RX4 58 "LightBurstsModel" "fate" "I") (List.mem_of_getElem? (i := 1) rfl)) (fun _ h9 => h9) rfl dX4_would_36 ?_
    rw [g_X4_would_C32] at hG
    rw [hG]
    exact W.iret (v := u32.1) hx hb hr (fun t ht hW => ⟨⟨_, (), rfl, rfl, by rw [ht]; exact hP, va_K.moved hW.alike hK, hD⟩, hS.F ht⟩) hS.2.2 dX4_would_39
  · refine lv_iload hx hb dX4_would_17 (lv_at hl 0 rfl) ?_
    rw [g_X4_would, if_neg c_1] at hG
    rw [hG]
    exact W.iret (v := (g_X4_refusal x1 x2 x3 x4 x5)) hx hb hr (fun t ht hW => ⟨⟨_, (), rfl, rfl, by rw [ht]; exact hP, va_K.moved hW.alike hK, hD⟩, hS.F ht⟩) hS.2.2 dX4_would_19

def g_X4_back (sf : (Nat → Int32)) (x1 : Int32) : Int32 × (Nat → Int32) := (if (g_X4_isBurst sf x1) = 0 then ((-1), sf) else (if (sf 9) < (g_X4_of sf x1 5) then (if (g_X4_of sf x1 6) = 4 then ((-5), sf) else ((g_X4_of sf x1 9), (upd (upd (upd (upd (upd sf (g_X4_at x1 6).toNatClampNeg 4) (g_X4_at x1 7).toNatClampNeg (-6)) (g_X4_at x1 8).toNatClampNeg (-6)) (g_X4_at x1 9).toNatClampNeg 0) (g_X4_at x1 10).toNatClampNeg (-6)))) else ((-3), sf)))
set_option maxHeartbeats 4000000 in
set_option maxRecDepth 100000 in
theorem c_X4_back (l : Launch) (D : va_G) (cA cZ : ClassId) (aM : Nat) (aS : Nat) (aI : Nat) (aK : Nat) (szz : Nat) (sf : (Nat → Int32)) (mf : (Nat → Int32)) (kf : (Nat → Int32)) (m0 : Int32) (m1 : Int32) (m2 : Int32) (m3 : Int32) (m4 : Int32) (x1 : Int32) (hm : (sf 10) ≤ 48) (hm0 : 0 ≤ (sf 10).toInt) : MetI l yX4_back wsX4_back 2 43 D (tyA cA cZ) [.ref aM, .int x1] (MDw cA cZ aM aS aI aK sf mf kf m0 m1 m2 m3 m4) szz (g_X4_back sf x1).1 (MDw cA cZ aM aS aI aK ((g_X4_back sf x1).2) mf kf m0 m1 m2 m3 m4) := by
  refine Met.ofW (cc := cX4_back) (maxL := 3) (ret := (some .int)) (by decide) rfl ?_
  intro p e s m args below meth c s₁ B hml hv
  obtain ⟨rfl, hsz, hP, hK, hD0, hN⟩ := hv
  have hx := B.exec
  have hb := B.bytes
  have hr := B.returns
  have hts := atoms_spec (ws := wsX4_back) B.pre
  have hown : s.vm.findClass RX4 = some m.cls := findClass_of_methodNamed B.named
  have hlocks := B.notSynchronized
  have iX4 : ∀ w ∈ wsX40, w ∈ wsX4_back := fun _ h => List.mem_cons_of_mem _ (List.mem_append_right _ h)
  subst hsz
  have hD := hD0.self (sz := s.heap.size)
  generalize hAe : va_A (MDw cA cZ aM aS aI aK sf mf kf m0 m1 m2 m3 m4) s.heap.size = A at hD ⊢
  have hA : ∀ q : Nat, s.heap.size ≤ q → A q := fun q h => by rw [← hAe]; exact Or.inr h
  have hS : va_S A s.heap s.heap [] := va_S.rf
  have hP : va_P D vwCl (MDw cA cZ aM aS aI aK sf mf kf m0 m1 m2 m3 m4) s.heap := hP
  obtain ⟨G, hG⟩ : ∃ G, G = (g_X4_back sf x1) := ⟨_, rfl⟩
  rw [← hG]
  have hl := lv_entry ([.ref aM, .int x1]) (n := 3) (Nat.le_of_ble_eq_true rfl)
  rw [lg_entry_eq]
  generalize (lg_sl ([.ref aM, .int x1]) ++ List.replicate (3 - (lg_sl ([.ref aM, .int x1])).length) Slot.unset).toArray = ls at hl ⊢
  have hl : lv_has ls 3 [(0, .ref aM), (1, .int x1)] := hl
  refine lv_aload_n hx hb dX4_back_0 rfl (lv_at hl 0 rfl) ?_
  refine lv_iload_n hx hb dX4_back_1 rfl (lv_at hl 1 rfl) ?_
  refine kI (wr := ([] : va_W)) (W1 := MDw cA cZ aM aS aI aK sf mf kf m0 m1 m2 m3 m4) (wsN := MDw cA cZ aM aS aI aK sf mf kf m0 m1 m2 m3 m4) (rV (As := [.int x1]) (rest := []) (W0 := MDw cA cZ aM aS aI aK sf mf kf m0 m1 m2 m3 m4) ⟨hx, hb, hml, hown, hts⟩ (c_X4_isBurst l D cA cZ aM aS aI aK s.heap.size sf mf kf m0 m1 m2 m3 m4 x1) (cwV 1 hts gX4_back_X4_isBurst rfl rfl rfl (by decide +kernel) ⟨Nat.le_of_ble_eq_true rfl, Nat.le_of_ble_eq_true rfl⟩) hP hD hK hN ([0, 1, 2, 3] : List Nat) rfl rfl 4 0 rfl rfl rfl hl.1 rfl (Nat.le_of_ble_eq_true rfl) dX4_back_2 ⟨Nat.zero_le _, Nat.zero_le _⟩) hP hD hS hA [0, 1, 2, 3] [] [0, 1, 2, 3] rfl rfl rfl (by decide) rfl rfl (fun H locs hP hD hS => ?_)
  refine lv_if_ne (tgt := 10) hx hb dX4_back_5 (by decide) (fun c_1 => ?_) (fun c_1 => ?_)
  · refine lv_aload_n hx hb dX4_back_10 rfl (lv_at hl 0 rfl) ?_
    refine lv_iload_n hx hb dX4_back_11 rfl (lv_at hl 1 rfl) ?_
    refine lv_iconst (v := 5) hx hb dX4_back_12 (by decide) ?_
    refine kI (wr := ([] : va_W)) (W1 := MDw cA cZ aM aS aI aK sf mf kf m0 m1 m2 m3 m4) (wsN := MDw cA cZ aM aS aI aK sf mf kf m0 m1 m2 m3 m4) (rV (As := [.int x1, .int 5]) (rest := []) (W0 := MDw cA cZ aM aS aI aK sf mf kf m0 m1 m2 m3 m4) ⟨hx, hb, hml, hown, hts⟩ (c_X4_of l D cA cZ aM aS aI aK H.size sf mf kf m0 m1 m2 m3 m4 x1 5 (show bok x1 from by exact isBurst_ok hm hm0 c_1) (show wok 5 from by exact ⟨by decide, by decide⟩)) (cwV 2 hts gX4_back_X4_of rfl rfl rfl (by decide +kernel) ⟨Nat.le_of_ble_eq_true rfl, Nat.le_of_ble_eq_true rfl⟩) hP hD hK hN ([0, 1, 2, 3] : List Nat) rfl rfl 4 0 rfl rfl rfl hl.1 rfl (Nat.le_of_ble_eq_true rfl) dX4_back_13 ⟨Nat.zero_le _, Nat.zero_le _⟩) hP hD hS hA [0, 1, 2, 3] [] [0, 1, 2, 3] rfl rfl rfl (by decide) rfl rfl (fun H locs hP hD hS => ?_)
    refine lv_aload_n hx hb dX4_back_16 rfl (lv_at hl 0 rfl) ?_
    refine va_get (D := D) (ci := 4) (v := .ref aS) (C := RX4) (T := TX4) (N := 8) hx hb hts iX4 hown hK hP 0 rfl rfl 0 (by decide) (hts (.fieldLink RX4 7 "LightBurstsModel" "state" "[I") (List.mem_of_getElem? (i := 1) rfl)) (fun _ h9 => h9) rfl dX4_back_17 ?_
    refine lv_bipush (v := 9) hx hb dX4_back_20 (by decide) ?_
    refine va_iald hx hb hK hP 1 0 rfl rfl (by unfold vp_in; decide) dX4_back_22 ?_
    refine lv_eqi (sf 9) rfl ?_
    refine lv_icmp_gt (tgt := 29) hx hb dX4_back_23 (by decide) (fun c_2 => ?_) (fun c_2 => ?_)
    · refine lv_aload_n hx hb dX4_back_29 rfl (lv_at hl 0 rfl) ?_
      refine lv_iload_n hx hb dX4_back_30 rfl (lv_at hl 1 rfl) ?_
      refine lv_bipush (v := 6) hx hb dX4_back_31 (by decide) ?_
      refine kI (wr := ([] : va_W)) (W1 := MDw cA cZ aM aS aI aK sf mf kf m0 m1 m2 m3 m4) (wsN := MDw cA cZ aM aS aI aK sf mf kf m0 m1 m2 m3 m4) (rV (As := [.int x1, .int 6]) (rest := []) (W0 := MDw cA cZ aM aS aI aK sf mf kf m0 m1 m2 m3 m4) ⟨hx, hb, hml, hown, hts⟩ (c_X4_of l D cA cZ aM aS aI aK H.size sf mf kf m0 m1 m2 m3 m4 x1 6 (show bok x1 from by exact isBurst_ok hm hm0 c_1) (show wok 6 from by exact ⟨by decide, by decide⟩)) (cwV 2 hts gX4_back_X4_of rfl rfl rfl (by decide +kernel) ⟨Nat.le_of_ble_eq_true rfl, Nat.le_of_ble_eq_true rfl⟩) hP hD hK hN ([0, 1, 2, 3] : List Nat) rfl rfl 4 0 rfl rfl rfl hl.1 rfl (Nat.le_of_ble_eq_true rfl) dX4_back_33 ⟨Nat.zero_le _, Nat.zero_le _⟩) hP hD hS hA [0, 1, 2, 3] [] [0, 1, 2, 3] rfl rfl rfl (by decide) rfl rfl (fun H locs hP hD hS => ?_)
      refine lv_iconst (v := 4) hx hb dX4_back_36 (by decide) ?_
      refine lv_icmp_ne (tgt := 43) hx hb dX4_back_37 (by decide) (fun c_3 => ?_) (fun c_3 => ?_)
      · refine lv_aload_n hx hb dX4_back_43 rfl (lv_at hl 0 rfl) ?_
        refine lv_iload_n hx hb dX4_back_44 rfl (lv_at hl 1 rfl) ?_
        refine lv_bipush (v := 9) hx hb dX4_back_45 (by decide) ?_
        refine kI (wr := ([] : va_W)) (W1 := MDw cA cZ aM aS aI aK sf mf kf m0 m1 m2 m3 m4) (wsN := MDw cA cZ aM aS aI aK sf mf kf m0 m1 m2 m3 m4) (rV (As := [.int x1, .int 9]) (rest := []) (W0 := MDw cA cZ aM aS aI aK sf mf kf m0 m1 m2 m3 m4) ⟨hx, hb, hml, hown, hts⟩ (c_X4_of l D cA cZ aM aS aI aK H.size sf mf kf m0 m1 m2 m3 m4 x1 9 (show bok x1 from by exact isBurst_ok hm hm0 c_1) (show wok 9 from by exact ⟨by decide, by decide⟩)) (cwV 2 hts gX4_back_X4_of rfl rfl rfl (by decide +kernel) ⟨Nat.le_of_ble_eq_true rfl, Nat.le_of_ble_eq_true rfl⟩) hP hD hK hN ([0, 1, 2, 3] : List Nat) rfl rfl 4 0 rfl rfl rfl hl.1 rfl (Nat.le_of_ble_eq_true rfl) dX4_back_47 ⟨Nat.zero_le _, Nat.zero_le _⟩) hP hD hS hA [0, 1, 2, 3] [] [0, 1, 2, 3] rfl rfl rfl (by decide) rfl rfl (fun H locs hP hD hS => ?_)
        refine lv_istore_n (lv' := [(2, .int (g_X4_of sf x1 9)), (0, .ref aM), (1, .int x1)]) hx hb dX4_back_50 rfl hl (by decide) rfl (fun ls hl => ?_)
        refine lv_aload_n hx hb dX4_back_51 rfl (lv_at hl 1 rfl) ?_
        refine va_get (D := D) (ci := 4) (v := .ref aS) (C := RX4) (T := TX4) (N := 8) hx hb hts iX4 hown hK hP 0 rfl rfl 0 (by decide) (hts (.fieldLink RX4 7 "LightBurstsModel" "state" "[I") (List.mem_of_getElem? (i := 1) rfl)) (fun _ h9 => h9) rfl dX4_back_52 ?_
        refine lv_iload_n hx hb dX4_back_55 rfl (lv_at hl 2 rfl) ?_
        refine lv_bipush (v := 6) hx hb dX4_back_56 (by decide) ?_
        refine kI (wr := MDw cA cZ aM aS aI aK sf mf kf m0 m1 m2 m3 m4) (W1 := ([] : va_W)) (wsN := MDw cA cZ aM aS aI aK sf mf kf m0 m1 m2 m3 m4) (rS (As := [.int x1, .int 6]) (rest := [.ref aS]) (W0 := ([] : va_W)) ⟨hx, hb, hml, hown, hts⟩ (c_X4_at l D cA cZ H.size x1 6) (cwS 2 hts gX4_back_X4_at rfl rfl rfl (by decide +kernel) ⟨Nat.le_of_ble_eq_true rfl, Nat.le_of_ble_eq_true rfl⟩) hP hD hK hN ([] : List Nat) rfl rfl rfl hl.1 rfl (Nat.le_of_ble_eq_true rfl) dX4_back_58 ⟨Nat.zero_le _, Nat.zero_le _⟩) hP hD hS hA [] [0, 1, 2, 3] [0, 1, 2, 3] rfl rfl rfl (by decide) rfl rfl (fun H locs hP hD hS => ?_)
        refine lv_iconst (v := 4) hx hb dX4_back_61 (by decide) ?_
        refine va_iast hx hb hK hP hD hS 1 0 rfl rfl (at_in (isBurst_ok hm hm0 c_1) ⟨by decide, by decide⟩) dX4_back_62 (fun H locs hP hD hS => ?_)
        have hP : va_P D vwCl (MDw cA cZ aM aS aI aK (upd sf (g_X4_at x1 6).toNatClampNeg 4) mf kf m0 m1 m2 m3 m4) H := hP
        have hD : va_D A (MDw cA cZ aM aS aI aK (upd sf (g_X4_at x1 6).toNatClampNeg 4) mf kf m0 m1 m2 m3 m4) := hD
        refine lv_aload_n hx hb dX4_back_63 rfl (lv_at hl 1 rfl) ?_
        refine va_get (D := D) (ci := 4) (v := .ref aS) (C := RX4) (T := TX4) (N := 8) hx hb hts iX4 hown hK hP 0 rfl rfl 0 (by decide) (hts (.fieldLink RX4 7 "LightBurstsModel" "state" "[I") (List.mem_of_getElem? (i := 1) rfl)) (fun _ h9 => h9) rfl dX4_back_64 ?_
        refine lv_iload_n hx hb dX4_back_67 rfl (lv_at hl 2 rfl) ?_
        refine lv_bipush (v := 7) hx hb dX4_back_68 (by decide) ?_
        refine kI (wr := MDw cA cZ aM aS aI aK (upd sf (g_X4_at x1 6).toNatClampNeg 4) mf kf m0 m1 m2 m3 m4) (W1 := ([] : va_W)) (wsN := MDw cA cZ aM aS aI aK (upd sf (g_X4_at x1 6).toNatClampNeg 4) mf kf m0 m1 m2 m3 m4) (rS (As := [.int x1, .int 7]) (rest := [.ref aS]) (W0 := ([] : va_W)) ⟨hx, hb, hml, hown, hts⟩ (c_X4_at l D cA cZ H.size x1 7) (cwS 2 hts gX4_back_X4_at rfl rfl rfl (by decide +kernel) ⟨Nat.le_of_ble_eq_true rfl, Nat.le_of_ble_eq_true rfl⟩) hP hD hK hN ([] : List Nat) rfl rfl rfl hl.1 rfl (Nat.le_of_ble_eq_true rfl) dX4_back_70 ⟨Nat.zero_le _, Nat.zero_le _⟩) hP hD hS hA [] [0, 1, 2, 3] [0, 1, 2, 3] rfl rfl rfl (by decide) rfl rfl (fun H locs hP hD hS => ?_)
        refine lv_bipush (v := (-6)) hx hb dX4_back_73 (by decide) ?_
        refine va_iast hx hb hK hP hD hS 1 0 rfl rfl (at_in (isBurst_ok hm hm0 c_1) ⟨by decide, by decide⟩) dX4_back_75 (fun H locs hP hD hS => ?_)
        have hP : va_P D vwCl (MDw cA cZ aM aS aI aK (upd (upd sf (g_X4_at x1 6).toNatClampNeg 4) (g_X4_at x1 7).toNatClampNeg (-6)) mf kf m0 m1 m2 m3 m4) H := hP
        have hD : va_D A (MDw cA cZ aM aS aI aK (upd (upd sf (g_X4_at x1 6).toNatClampNeg 4) (g_X4_at x1 7).toNatClampNeg (-6)) mf kf m0 m1 m2 m3 m4) := hD
        refine lv_aload_n hx hb dX4_back_76 rfl (lv_at hl 1 rfl) ?_
        refine va_get (D := D) (ci := 4) (v := .ref aS) (C := RX4) (T := TX4) (N := 8) hx hb hts iX4 hown hK hP 0 rfl rfl 0 (by decide) (hts (.fieldLink RX4 7 "LightBurstsModel" "state" "[I") (List.mem_of_getElem? (i := 1) rfl)) (fun _ h9 => h9) rfl dX4_back_77 ?_
        refine lv_iload_n hx hb dX4_back_80 rfl (lv_at hl 2 rfl) ?_
        refine lv_bipush (v := 8) hx hb dX4_back_81 (by decide) ?_
        refine kI (wr := MDw cA cZ aM aS aI aK (upd (upd sf (g_X4_at x1 6).toNatClampNeg 4) (g_X4_at x1 7).toNatClampNeg (-6)) mf kf m0 m1 m2 m3 m4) (W1 := ([] : va_W)) (wsN := MDw cA cZ aM aS aI aK (upd (upd sf (g_X4_at x1 6).toNatClampNeg 4) (g_X4_at x1 7).toNatClampNeg (-6)) mf kf m0 m1 m2 m3 m4) (rS (As := [.int x1, .int 8]) (rest := [.ref aS]) (W0 := ([] : va_W)) ⟨hx, hb, hml, hown, hts⟩ (c_X4_at l D cA cZ H.size x1 8) (cwS 2 hts gX4_back_X4_at rfl rfl rfl (by decide +kernel) ⟨Nat.le_of_ble_eq_true rfl, Nat.le_of_ble_eq_true rfl⟩) hP hD hK hN ([] : List Nat) rfl rfl rfl hl.1 rfl (Nat.le_of_ble_eq_true rfl) dX4_back_83 ⟨Nat.zero_le _, Nat.zero_le _⟩) hP hD hS hA [] [0, 1, 2, 3] [0, 1, 2, 3] rfl rfl rfl (by decide) rfl rfl (fun H locs hP hD hS => ?_)
        refine lv_bipush (v := (-6)) hx hb dX4_back_86 (by decide) ?_
        refine va_iast hx hb hK hP hD hS 1 0 rfl rfl (at_in (isBurst_ok hm hm0 c_1) ⟨by decide, by decide⟩) dX4_back_88 (fun H locs hP hD hS => ?_)
        have hP : va_P D vwCl (MDw cA cZ aM aS aI aK (upd (upd (upd sf (g_X4_at x1 6).toNatClampNeg 4) (g_X4_at x1 7).toNatClampNeg (-6)) (g_X4_at x1 8).toNatClampNeg (-6)) mf kf m0 m1 m2 m3 m4) H := hP
        have hD : va_D A (MDw cA cZ aM aS aI aK (upd (upd (upd sf (g_X4_at x1 6).toNatClampNeg 4) (g_X4_at x1 7).toNatClampNeg (-6)) (g_X4_at x1 8).toNatClampNeg (-6)) mf kf m0 m1 m2 m3 m4) := hD
        refine lv_aload_n hx hb dX4_back_89 rfl (lv_at hl 1 rfl) ?_
        refine va_get (D := D) (ci := 4) (v := .ref aS) (C := RX4) (T := TX4) (N := 8) hx hb hts iX4 hown hK hP 0 rfl rfl 0 (by decide) (hts (.fieldLink RX4 7 "LightBurstsModel" "state" "[I") (List.mem_of_getElem? (i := 1) rfl)) (fun _ h9 => h9) rfl dX4_back_90 ?_
        refine lv_iload_n hx hb dX4_back_93 rfl (lv_at hl 2 rfl) ?_
        refine lv_bipush (v := 9) hx hb dX4_back_94 (by decide) ?_
        refine kI (wr := MDw cA cZ aM aS aI aK (upd (upd (upd sf (g_X4_at x1 6).toNatClampNeg 4) (g_X4_at x1 7).toNatClampNeg (-6)) (g_X4_at x1 8).toNatClampNeg (-6)) mf kf m0 m1 m2 m3 m4) (W1 := ([] : va_W)) (wsN := MDw cA cZ aM aS aI aK (upd (upd (upd sf (g_X4_at x1 6).toNatClampNeg 4) (g_X4_at x1 7).toNatClampNeg (-6)) (g_X4_at x1 8).toNatClampNeg (-6)) mf kf m0 m1 m2 m3 m4) (rS (As := [.int x1, .int 9]) (rest := [.ref aS]) (W0 := ([] : va_W)) ⟨hx, hb, hml, hown, hts⟩ (c_X4_at l D cA cZ H.size x1 9) (cwS 2 hts gX4_back_X4_at rfl rfl rfl (by decide +kernel) ⟨Nat.le_of_ble_eq_true rfl, Nat.le_of_ble_eq_true rfl⟩) hP hD hK hN ([] : List Nat) rfl rfl rfl hl.1 rfl (Nat.le_of_ble_eq_true rfl) dX4_back_96 ⟨Nat.zero_le _, Nat.zero_le _⟩) hP hD hS hA [] [0, 1, 2, 3] [0, 1, 2, 3] rfl rfl rfl (by decide) rfl rfl (fun H locs hP hD hS => ?_)
        refine lv_iconst (v := 0) hx hb dX4_back_99 (by decide) ?_
        refine va_iast hx hb hK hP hD hS 1 0 rfl rfl (at_in (isBurst_ok hm hm0 c_1) ⟨by decide, by decide⟩) dX4_back_100 (fun H locs hP hD hS => ?_)
        have hP : va_P D vwCl (MDw cA cZ aM aS aI aK (upd (upd (upd (upd sf (g_X4_at x1 6).toNatClampNeg 4) (g_X4_at x1 7).toNatClampNeg (-6)) (g_X4_at x1 8).toNatClampNeg (-6)) (g_X4_at x1 9).toNatClampNeg 0) mf kf m0 m1 m2 m3 m4) H := hP
        have hD : va_D A (MDw cA cZ aM aS aI aK (upd (upd (upd (upd sf (g_X4_at x1 6).toNatClampNeg 4) (g_X4_at x1 7).toNatClampNeg (-6)) (g_X4_at x1 8).toNatClampNeg (-6)) (g_X4_at x1 9).toNatClampNeg 0) mf kf m0 m1 m2 m3 m4) := hD
        refine lv_aload_n hx hb dX4_back_101 rfl (lv_at hl 1 rfl) ?_
        refine va_get (D := D) (ci := 4) (v := .ref aS) (C := RX4) (T := TX4) (N := 8) hx hb hts iX4 hown hK hP 0 rfl rfl 0 (by decide) (hts (.fieldLink RX4 7 "LightBurstsModel" "state" "[I") (List.mem_of_getElem? (i := 1) rfl)) (fun _ h9 => h9) rfl dX4_back_102 ?_
        refine lv_iload_n hx hb dX4_back_105 rfl (lv_at hl 2 rfl) ?_
        refine lv_bipush (v := 10) hx hb dX4_back_106 (by decide) ?_
        refine kI (wr := MDw cA cZ aM aS aI aK (upd (upd (upd (upd sf (g_X4_at x1 6).toNatClampNeg 4) (g_X4_at x1 7).toNatClampNeg (-6)) (g_X4_at x1 8).toNatClampNeg (-6)) (g_X4_at x1 9).toNatClampNeg 0) mf kf m0 m1 m2 m3 m4) (W1 := ([] : va_W)) (wsN := MDw cA cZ aM aS aI aK (upd (upd (upd (upd sf (g_X4_at x1 6).toNatClampNeg 4) (g_X4_at x1 7).toNatClampNeg (-6)) (g_X4_at x1 8).toNatClampNeg (-6)) (g_X4_at x1 9).toNatClampNeg 0) mf kf m0 m1 m2 m3 m4) (rS (As := [.int x1, .int 10]) (rest := [.ref aS]) (W0 := ([] : va_W)) ⟨hx, hb, hml, hown, hts⟩ (c_X4_at l D cA cZ H.size x1 10) (cwS 2 hts gX4_back_X4_at rfl rfl rfl (by decide +kernel) ⟨Nat.le_of_ble_eq_true rfl, Nat.le_of_ble_eq_true rfl⟩) hP hD hK hN ([] : List Nat) rfl rfl rfl hl.1 rfl (Nat.le_of_ble_eq_true rfl) dX4_back_108 ⟨Nat.zero_le _, Nat.zero_le _⟩) hP hD hS hA [] [0, 1, 2, 3] [0, 1, 2, 3] rfl rfl rfl (by decide) rfl rfl (fun H locs hP hD hS => ?_)
        refine lv_bipush (v := (-6)) hx hb dX4_back_111 (by decide) ?_
        refine va_iast hx hb hK hP hD hS 1 0 rfl rfl (at_in (isBurst_ok hm hm0 c_1) ⟨by decide, by decide⟩) dX4_back_113 (fun H locs hP hD hS => ?_)
        have hP : va_P D vwCl (MDw cA cZ aM aS aI aK (upd (upd (upd (upd (upd sf (g_X4_at x1 6).toNatClampNeg 4) (g_X4_at x1 7).toNatClampNeg (-6)) (g_X4_at x1 8).toNatClampNeg (-6)) (g_X4_at x1 9).toNatClampNeg 0) (g_X4_at x1 10).toNatClampNeg (-6)) mf kf m0 m1 m2 m3 m4) H := hP
        have hD : va_D A (MDw cA cZ aM aS aI aK (upd (upd (upd (upd (upd sf (g_X4_at x1 6).toNatClampNeg 4) (g_X4_at x1 7).toNatClampNeg (-6)) (g_X4_at x1 8).toNatClampNeg (-6)) (g_X4_at x1 9).toNatClampNeg 0) (g_X4_at x1 10).toNatClampNeg (-6)) mf kf m0 m1 m2 m3 m4) := hD
        refine lv_iload_n hx hb dX4_back_114 rfl (lv_at hl 0 rfl) ?_
        rw [g_X4_back, if_neg c_1, if_pos c_2, if_neg c_3] at hG
        rw [hG]
        exact W.iret (v := (g_X4_of sf x1 9)) hx hb hr (fun t ht hW => ⟨⟨_, (), rfl, rfl, by rw [ht]; exact hP, va_K.moved hW.alike hK, hD⟩, hS.F ht⟩) hS.2.2 dX4_back_115
      · refine lv_bipush (v := (-5)) hx hb dX4_back_40 (by decide) ?_
        rw [g_X4_back, if_neg c_1, if_pos c_2, if_pos c_3] at hG
        rw [hG]
        exact W.iret (v := (-5)) hx hb hr (fun t ht hW => ⟨⟨_, (), rfl, rfl, by rw [ht]; exact hP, va_K.moved hW.alike hK, hD⟩, hS.F ht⟩) hS.2.2 dX4_back_42
    · refine lv_bipush (v := (-3)) hx hb dX4_back_26 (by decide) ?_
      rw [g_X4_back, if_neg c_1, if_neg c_2] at hG
      rw [hG]
      exact W.iret (v := (-3)) hx hb hr (fun t ht hW => ⟨⟨_, (), rfl, rfl, by rw [ht]; exact hP, va_K.moved hW.alike hK, hD⟩, hS.F ht⟩) hS.2.2 dX4_back_28
  · refine lv_iconst (v := (-1)) hx hb dX4_back_8 (by decide) ?_
    rw [g_X4_back, if_pos c_1] at hG
    rw [hG]
    exact W.iret (v := (-1)) hx hb hr (fun t ht hW => ⟨⟨_, (), rfl, rfl, by rw [ht]; exact hP, va_K.moved hW.alike hK, hD⟩, hS.F ht⟩) hS.2.2 dX4_back_9

def g_X4_burst (sf : (Nat → Int32)) (x1 : Int32) (x2 : Int32) : Int32 := (if (g_X4_isBurst sf x1) = 0 then (-1) else (if (g_X4_in x2 0 10) = 0 then (-2) else (g_X4_of sf x1 x2)))
set_option maxHeartbeats 4000000 in
set_option maxRecDepth 100000 in
theorem c_X4_burst (l : Launch) (D : va_G) (cA cZ : ClassId) (aM : Nat) (aS : Nat) (aI : Nat) (aK : Nat) (szz : Nat) (sf : (Nat → Int32)) (mf : (Nat → Int32)) (kf : (Nat → Int32)) (m0 : Int32) (m1 : Int32) (m2 : Int32) (m3 : Int32) (m4 : Int32) (x1 : Int32) (x2 : Int32) (hm : (sf 10) ≤ 48) (hm0 : 0 ≤ (sf 10).toInt) : MetI l yX4_burst wsX4_burst 2 43 D (tyA cA cZ) [.ref aM, .int x1, .int x2] (MDw cA cZ aM aS aI aK sf mf kf m0 m1 m2 m3 m4) szz (g_X4_burst sf x1 x2) (MDw cA cZ aM aS aI aK sf mf kf m0 m1 m2 m3 m4) := by
  refine Met.ofW (cc := cX4_burst) (maxL := 3) (ret := (some .int)) (by decide) rfl ?_
  intro p e s m args below meth c s₁ B hml hv
  obtain ⟨rfl, hsz, hP, hK, hD0, hN⟩ := hv
  have hx := B.exec
  have hb := B.bytes
  have hr := B.returns
  have hts := atoms_spec (ws := wsX4_burst) B.pre
  have hown : s.vm.findClass RX4 = some m.cls := findClass_of_methodNamed B.named
  have hlocks := B.notSynchronized
  have iX4 : ∀ w ∈ wsX40, w ∈ wsX4_burst := fun _ h => List.mem_cons_of_mem _ (List.mem_append_right _ h)
  subst hsz
  have hD := hD0.self (sz := s.heap.size)
  generalize hAe : va_A (MDw cA cZ aM aS aI aK sf mf kf m0 m1 m2 m3 m4) s.heap.size = A at hD ⊢
  have hA : ∀ q : Nat, s.heap.size ≤ q → A q := fun q h => by rw [← hAe]; exact Or.inr h
  have hS : va_S A s.heap s.heap [] := va_S.rf
  have hP : va_P D vwCl (MDw cA cZ aM aS aI aK sf mf kf m0 m1 m2 m3 m4) s.heap := hP
  obtain ⟨G, hG⟩ : ∃ G, G = (g_X4_burst sf x1 x2) := ⟨_, rfl⟩
  rw [← hG]
  have hl := lv_entry ([.ref aM, .int x1, .int x2]) (n := 3) (Nat.le_of_ble_eq_true rfl)
  rw [lg_entry_eq]
  generalize (lg_sl ([.ref aM, .int x1, .int x2]) ++ List.replicate (3 - (lg_sl ([.ref aM, .int x1, .int x2])).length) Slot.unset).toArray = ls at hl ⊢
  have hl : lv_has ls 3 [(0, .ref aM), (1, .int x1), (2, .int x2)] := hl
  refine lv_aload_n hx hb dX4_burst_0 rfl (lv_at hl 0 rfl) ?_
  refine lv_iload_n hx hb dX4_burst_1 rfl (lv_at hl 1 rfl) ?_
  refine kI (wr := ([] : va_W)) (W1 := MDw cA cZ aM aS aI aK sf mf kf m0 m1 m2 m3 m4) (wsN := MDw cA cZ aM aS aI aK sf mf kf m0 m1 m2 m3 m4) (rV (As := [.int x1]) (rest := []) (W0 := MDw cA cZ aM aS aI aK sf mf kf m0 m1 m2 m3 m4) ⟨hx, hb, hml, hown, hts⟩ (c_X4_isBurst l D cA cZ aM aS aI aK s.heap.size sf mf kf m0 m1 m2 m3 m4 x1) (cwV 1 hts gX4_burst_X4_isBurst rfl rfl rfl (by decide +kernel) ⟨Nat.le_of_ble_eq_true rfl, Nat.le_of_ble_eq_true rfl⟩) hP hD hK hN ([0, 1, 2, 3] : List Nat) rfl rfl 4 0 rfl rfl rfl hl.1 rfl (Nat.le_of_ble_eq_true rfl) dX4_burst_2 ⟨Nat.zero_le _, Nat.zero_le _⟩) hP hD hS hA [0, 1, 2, 3] [] [0, 1, 2, 3] rfl rfl rfl (by decide) rfl rfl (fun H locs hP hD hS => ?_)
  refine lv_if_ne (tgt := 10) hx hb dX4_burst_5 (by decide) (fun c_1 => ?_) (fun c_1 => ?_)
  · refine lv_iload_n hx hb dX4_burst_10 rfl (lv_at hl 2 rfl) ?_
    refine lv_iconst (v := 0) hx hb dX4_burst_11 (by decide) ?_
    refine lv_bipush (v := 10) hx hb dX4_burst_12 (by decide) ?_
    refine kI (wr := MDw cA cZ aM aS aI aK sf mf kf m0 m1 m2 m3 m4) (W1 := ([] : va_W)) (wsN := MDw cA cZ aM aS aI aK sf mf kf m0 m1 m2 m3 m4) (rS (As := [.int x2, .int 0, .int 10]) (rest := []) (W0 := ([] : va_W)) ⟨hx, hb, hml, hown, hts⟩ (c_X4_in l D cA cZ H.size x2 0 10) (cwS 3 hts gX4_burst_X4_in rfl rfl rfl (by decide +kernel) ⟨Nat.le_of_ble_eq_true rfl, Nat.le_of_ble_eq_true rfl⟩) hP hD hK hN ([] : List Nat) rfl rfl rfl hl.1 rfl (Nat.le_of_ble_eq_true rfl) dX4_burst_14 ⟨Nat.zero_le _, Nat.zero_le _⟩) hP hD hS hA [] [0, 1, 2, 3] [0, 1, 2, 3] rfl rfl rfl (by decide) rfl rfl (fun H locs hP hD hS => ?_)
    refine lv_if_eq (tgt := 29) hx hb dX4_burst_17 (by decide) (fun c_2 => ?_) (fun c_2 => ?_)
    · refine lv_bipush (v := (-2)) hx hb dX4_burst_29 (by decide) ?_
      rw [g_X4_burst, if_neg c_1, if_pos c_2] at hG
      rw [hG]
      exact W.iret (v := (-2)) hx hb hr (fun t ht hW => ⟨⟨_, (), rfl, rfl, by rw [ht]; exact hP, va_K.moved hW.alike hK, hD⟩, hS.F ht⟩) hS.2.2 dX4_burst_31
    · refine lv_aload_n hx hb dX4_burst_20 rfl (lv_at hl 0 rfl) ?_
      refine lv_iload_n hx hb dX4_burst_21 rfl (lv_at hl 1 rfl) ?_
      refine lv_iload_n hx hb dX4_burst_22 rfl (lv_at hl 2 rfl) ?_
      refine kI (wr := ([] : va_W)) (W1 := MDw cA cZ aM aS aI aK sf mf kf m0 m1 m2 m3 m4) (wsN := MDw cA cZ aM aS aI aK sf mf kf m0 m1 m2 m3 m4) (rV (As := [.int x1, .int x2]) (rest := []) (W0 := MDw cA cZ aM aS aI aK sf mf kf m0 m1 m2 m3 m4) ⟨hx, hb, hml, hown, hts⟩ (c_X4_of l D cA cZ aM aS aI aK H.size sf mf kf m0 m1 m2 m3 m4 x1 x2 (show bok x1 from by exact isBurst_ok hm hm0 c_1) (show wok x2 from by exact in_iff.mp c_2)) (cwV 2 hts gX4_burst_X4_of rfl rfl rfl (by decide +kernel) ⟨Nat.le_of_ble_eq_true rfl, Nat.le_of_ble_eq_true rfl⟩) hP hD hK hN ([0, 1, 2, 3] : List Nat) rfl rfl 4 0 rfl rfl rfl hl.1 rfl (Nat.le_of_ble_eq_true rfl) dX4_burst_23 ⟨Nat.zero_le _, Nat.zero_le _⟩) hP hD hS hA [0, 1, 2, 3] [] [0, 1, 2, 3] rfl rfl rfl (by decide) rfl rfl (fun H locs hP hD hS => ?_)
      refine lv_goto (tgt := 31) hx hb dX4_burst_26 (by decide) ?_
      rw [g_X4_burst, if_neg c_1, if_neg c_2] at hG
      rw [hG]
      exact W.iret (v := (g_X4_of sf x1 x2)) hx hb hr (fun t ht hW => ⟨⟨_, (), rfl, rfl, by rw [ht]; exact hP, va_K.moved hW.alike hK, hD⟩, hS.F ht⟩) hS.2.2 dX4_burst_31
  · refine lv_iconst (v := (-1)) hx hb dX4_burst_8 (by decide) ?_
    rw [g_X4_burst, if_pos c_1] at hG
    rw [hG]
    exact W.iret (v := (-1)) hx hb hr (fun t ht hW => ⟨⟨_, (), rfl, rfl, by rw [ht]; exact hP, va_K.moved hW.alike hK, hD⟩, hS.F ht⟩) hS.2.2 dX4_burst_9

def g_X4_beginOf (sf : (Nat → Int32)) (x1 : Int32) (x2 : Int32) : Int32 := (if 0 ≤ x1 then (g_X4_of sf x2 8) else (g_X4_of sf x2 5))
set_option maxHeartbeats 4000000 in
set_option maxRecDepth 100000 in
theorem c_X4_beginOf (l : Launch) (D : va_G) (cA cZ : ClassId) (aM : Nat) (aS : Nat) (aI : Nat) (aK : Nat) (szz : Nat) (sf : (Nat → Int32)) (mf : (Nat → Int32)) (kf : (Nat → Int32)) (m0 : Int32) (m1 : Int32) (m2 : Int32) (m3 : Int32) (m4 : Int32) (x1 : Int32) (x2 : Int32) (hbk : bok x2) : MetI l yX4_beginOf wsX4_beginOf 2 43 D (tyA cA cZ) [.ref aM, .int x1, .int x2] (MDw cA cZ aM aS aI aK sf mf kf m0 m1 m2 m3 m4) szz (g_X4_beginOf sf x1 x2) (MDw cA cZ aM aS aI aK sf mf kf m0 m1 m2 m3 m4) := by
  refine Met.ofW (cc := cX4_beginOf) (maxL := 3) (ret := (some .int)) (by decide) rfl ?_
  intro p e s m args below meth c s₁ B hml hv
  obtain ⟨rfl, hsz, hP, hK, hD0, hN⟩ := hv
  have hx := B.exec
  have hb := B.bytes
  have hr := B.returns
  have hts := atoms_spec (ws := wsX4_beginOf) B.pre
  have hown : s.vm.findClass RX4 = some m.cls := findClass_of_methodNamed B.named
  have hlocks := B.notSynchronized
  have iX4 : ∀ w ∈ wsX40, w ∈ wsX4_beginOf := fun _ h => List.mem_cons_of_mem _ (List.mem_append_right _ h)
  subst hsz
  have hD := hD0.self (sz := s.heap.size)
  generalize hAe : va_A (MDw cA cZ aM aS aI aK sf mf kf m0 m1 m2 m3 m4) s.heap.size = A at hD ⊢
  have hA : ∀ q : Nat, s.heap.size ≤ q → A q := fun q h => by rw [← hAe]; exact Or.inr h
  have hS : va_S A s.heap s.heap [] := va_S.rf
  have hP : va_P D vwCl (MDw cA cZ aM aS aI aK sf mf kf m0 m1 m2 m3 m4) s.heap := hP
  obtain ⟨G, hG⟩ : ∃ G, G = (g_X4_beginOf sf x1 x2) := ⟨_, rfl⟩
  rw [← hG]
  have hl := lv_entry ([.ref aM, .int x1, .int x2]) (n := 3) (Nat.le_of_ble_eq_true rfl)
  rw [lg_entry_eq]
  generalize (lg_sl ([.ref aM, .int x1, .int x2]) ++ List.replicate (3 - (lg_sl ([.ref aM, .int x1, .int x2])).length) Slot.unset).toArray = ls at hl ⊢
  have hl : lv_has ls 3 [(0, .ref aM), (1, .int x1), (2, .int x2)] := hl
  refine lv_iload_n hx hb dX4_beginOf_0 rfl (lv_at hl 1 rfl) ?_
  refine lv_if_ge (tgt := 13) hx hb dX4_beginOf_1 (by decide) (fun c_1 => ?_) (fun c_1 => ?_)
  · refine lv_aload_n hx hb dX4_beginOf_13 rfl (lv_at hl 0 rfl) ?_
    refine lv_iload_n hx hb dX4_beginOf_14 rfl (lv_at hl 2 rfl) ?_
    refine lv_bipush (v := 8) hx hb dX4_beginOf_15 (by decide) ?_
    refine kI (wr := ([] : va_W)) (W1 := MDw cA cZ aM aS aI aK sf mf kf m0 m1 m2 m3 m4) (wsN := MDw cA cZ aM aS aI aK sf mf kf m0 m1 m2 m3 m4) (rV (As := [.int x2, .int 8]) (rest := []) (W0 := MDw cA cZ aM aS aI aK sf mf kf m0 m1 m2 m3 m4) ⟨hx, hb, hml, hown, hts⟩ (c_X4_of l D cA cZ aM aS aI aK s.heap.size sf mf kf m0 m1 m2 m3 m4 x2 8 (show bok x2 from by exact hbk) (show wok 8 from by exact ⟨by decide, by decide⟩)) (cwV 2 hts gX4_beginOf_X4_of rfl rfl rfl (by decide +kernel) ⟨Nat.le_of_ble_eq_true rfl, Nat.le_of_ble_eq_true rfl⟩) hP hD hK hN ([0, 1, 2, 3] : List Nat) rfl rfl 4 0 rfl rfl rfl hl.1 rfl (Nat.le_of_ble_eq_true rfl) dX4_beginOf_17 ⟨Nat.zero_le _, Nat.zero_le _⟩) hP hD hS hA [0, 1, 2, 3] [] [0, 1, 2, 3] rfl rfl rfl (by decide) rfl rfl (fun H locs hP hD hS => ?_)
    rw [g_X4_beginOf, if_pos c_1] at hG
    rw [hG]
    exact W.iret (v := (g_X4_of sf x2 8)) hx hb hr (fun t ht hW => ⟨⟨_, (), rfl, rfl, by rw [ht]; exact hP, va_K.moved hW.alike hK, hD⟩, hS.F ht⟩) hS.2.2 dX4_beginOf_20
  · refine lv_aload_n hx hb dX4_beginOf_4 rfl (lv_at hl 0 rfl) ?_
    refine lv_iload_n hx hb dX4_beginOf_5 rfl (lv_at hl 2 rfl) ?_
    refine lv_iconst (v := 5) hx hb dX4_beginOf_6 (by decide) ?_
    refine kI (wr := ([] : va_W)) (W1 := MDw cA cZ aM aS aI aK sf mf kf m0 m1 m2 m3 m4) (wsN := MDw cA cZ aM aS aI aK sf mf kf m0 m1 m2 m3 m4) (rV (As := [.int x2, .int 5]) (rest := []) (W0 := MDw cA cZ aM aS aI aK sf mf kf m0 m1 m2 m3 m4) ⟨hx, hb, hml, hown, hts⟩ (c_X4_of l D cA cZ aM aS aI aK s.heap.size sf mf kf m0 m1 m2 m3 m4 x2 5 (show bok x2 from by exact hbk) (show wok 5 from by exact ⟨by decide, by decide⟩)) (cwV 2 hts gX4_beginOf_X4_of rfl rfl rfl (by decide +kernel) ⟨Nat.le_of_ble_eq_true rfl, Nat.le_of_ble_eq_true rfl⟩) hP hD hK hN ([0, 1, 2, 3] : List Nat) rfl rfl 4 0 rfl rfl rfl hl.1 rfl (Nat.le_of_ble_eq_true rfl) dX4_beginOf_7 ⟨Nat.zero_le _, Nat.zero_le _⟩) hP hD hS hA [0, 1, 2, 3] [] [0, 1, 2, 3] rfl rfl rfl (by decide) rfl rfl (fun H locs hP hD hS => ?_)
    refine lv_goto (tgt := 20) hx hb dX4_beginOf_10 (by decide) ?_
    rw [g_X4_beginOf, if_neg c_1] at hG
    rw [hG]
    exact W.iret (v := (g_X4_of sf x2 5)) hx hb hr (fun t ht hW => ⟨⟨_, (), rfl, rfl, by rw [ht]; exact hP, va_K.moved hW.alike hK, hD⟩, hS.F ht⟩) hS.2.2 dX4_beginOf_20
