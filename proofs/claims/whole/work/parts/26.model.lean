theorem ln_ok {k : Int32} (h0 : 0 ≤ k) (c : ¬ 3 ≤ k) : (0 : Int32).toInt ≤ k.toInt ∧ k.toInt ≤ (2 : Int32).toInt := by
  have e0 : (0 : Int32).toInt = 0 := rfl
  have e2 : (2 : Int32).toInt = 2 := rfl
  have e3 : (3 : Int32).toInt = 3 := rfl
  rw [Int32.le_iff_toInt_le] at h0 c
  omega
def lnk (k : Int32) : Prop := k < 0 ∨ ((0 : Int32).toInt ≤ k.toInt ∧ k.toInt ≤ (2 : Int32).toInt)
theorem lnk_in {k : Int32} (h : lnk k) (c : ¬ k < 0) : vp_in (6 + k) 539 := by
  rcases h with h | h
  · exact absurd h c
  · exact len_in h

def g_X4_lineFor_L7 (sf : (Nat → Int32)) (x1 : Int32) (x2 : Int32) (x3 : Int32) (x4 : Int32) : Nat → Int32 → Int32 → (Int32)
  | 0, _, _ => 0
  | n + 1, v5, v6 => (if 3 ≤ v6 then v5 else (if (sf (6 + v6).toNatClampNeg) ≤ 0 then (g_X4_lineFor_L7 sf x1 x2 x3 x4 n v5 (v6 + 1)) else (if (g_X4_isLineClear sf v6 x3 x4) = 0 then (g_X4_lineFor_L7 sf x1 x2 x3 x4 n v5 (v6 + 1)) else (if (g_X4_colourFor sf x1 x2 (x3 + (sf (6 + v6).toNatClampNeg)) x4) < 0 then (g_X4_lineFor_L7 sf x1 x2 x3 x4 n v5 (v6 + 1)) else (if v5 < 0 then (g_X4_lineFor_L7 sf x1 x2 x3 x4 n v6 (v6 + 1)) else (if (sf (6 + v5).toNatClampNeg) ≤ (sf (6 + v6).toNatClampNeg) then (g_X4_lineFor_L7 sf x1 x2 x3 x4 n v5 (v6 + 1)) else (g_X4_lineFor_L7 sf x1 x2 x3 x4 n v6 (v6 + 1))))))))
def g_X4_lineFor (sf : (Nat → Int32)) (x1 : Int32) (x2 : Int32) (x3 : Int32) (x4 : Int32) : Int32 := (g_X4_lineFor_L7 sf x1 x2 x3 x4 (((3 : Int32).toInt - ((0 : Int32)).toInt).toNat + 1) (-6) 0)
set_option maxHeartbeats 4000000 in
set_option maxRecDepth 100000 in
theorem c_X4_lineFor (l : Launch) (D : va_G) (cA cZ : ClassId) (aM : Nat) (aS : Nat) (aI : Nat) (aK : Nat) (szz : Nat) (sf : (Nat → Int32)) (mf : (Nat → Int32)) (kf : (Nat → Int32)) (m0 : Int32) (m1 : Int32) (m2 : Int32) (m3 : Int32) (m4 : Int32) (x1 : Int32) (x2 : Int32) (x3 : Int32) (x4 : Int32) (hm : (sf 10) ≤ 48) : MetI l yX4_lineFor wsX4_lineFor 6 142 D (tyA cA cZ) [.ref aM, .int x1, .int x2, .int x3, .int x4] (MDw cA cZ aM aS aI aK sf mf kf m0 m1 m2 m3 m4) szz (g_X4_lineFor sf x1 x2 x3 x4) (MDw cA cZ aM aS aI aK sf mf kf m0 m1 m2 m3 m4) := by
  refine Met.ofW (cc := cX4_lineFor) (maxL := 9) (ret := (some .int)) (by decide) rfl ?_
  intro p e s m args below meth c s₁ B hml hv
  obtain ⟨rfl, hsz, hP, hK, hD0, hN⟩ := hv
  have hx := B.exec
  have hb := B.bytes
  have hr := B.returns
  have hts := atoms_spec (ws := wsX4_lineFor) B.pre
  have hown : s.vm.findClass RX4 = some m.cls := findClass_of_methodNamed B.named
  have hlocks := B.notSynchronized
  have iX4 : ∀ w ∈ wsX40, w ∈ wsX4_lineFor := fun _ h => List.mem_cons_of_mem _ (List.mem_append_right _ h)
  subst hsz
  have hD := hD0.self (sz := s.heap.size)
  generalize hAe : va_A (MDw cA cZ aM aS aI aK sf mf kf m0 m1 m2 m3 m4) s.heap.size = A at hD ⊢
  have hA : ∀ q : Nat, s.heap.size ≤ q → A q := fun q h => by rw [← hAe]; exact Or.inr h
  have hS : va_S A s.heap s.heap [] := va_S.rf
  have hP : va_P D vwCl (MDw cA cZ aM aS aI aK sf mf kf m0 m1 m2 m3 m4) s.heap := hP
  obtain ⟨G, hG⟩ : ∃ G, G = (g_X4_lineFor sf x1 x2 x3 x4) := ⟨_, rfl⟩
  rw [← hG]
  have hl := lv_entry ([.ref aM, .int x1, .int x2, .int x3, .int x4]) (n := 9) (Nat.le_of_ble_eq_true rfl)
  rw [lg_entry_eq]
  generalize (lg_sl ([.ref aM, .int x1, .int x2, .int x3, .int x4]) ++ List.replicate (9 - (lg_sl ([.ref aM, .int x1, .int x2, .int x3, .int x4])).length) Slot.unset).toArray = ls at hl ⊢
  have hl : lv_has ls 9 [(0, .ref aM), (1, .int x1), (2, .int x2), (3, .int x3), (4, .int x4)] := hl
  refine lv_bipush (v := (-6)) hx hb dX4_lineFor_0 (by decide) ?_
  refine lv_istore (lv' := [(5, .int (-6)), (0, .ref aM), (1, .int x1), (2, .int x2), (3, .int x3), (4, .int x4)]) hx hb dX4_lineFor_2 hl (by decide) rfl (fun ls hl => ?_)
  refine lv_iconst (v := 0) hx hb dX4_lineFor_4 (by decide) ?_
  refine lv_istore (lv' := [(6, .int 0), (5, .int (-6)), (0, .ref aM), (1, .int x1), (2, .int x2), (3, .int x3), (4, .int x4)]) hx hb dX4_lineFor_5 hl (by decide) rfl (fun ls hl => ?_)
  rw [g_X4_lineFor] at hG
  refine (?_ : ∀ (n : Nat) (v5 : Int32) (v6 : Int32) (H : Heap) (locs : List Loc) (ls : Array Slot), (0 ≤ v6) → (lnk v5) → ((3 : Int32).toInt - (v6).toInt).toNat < n → G = g_X4_lineFor_L7 sf x1 x2 x3 x4 n v5 v6 → va_P D vwCl (MDw cA cZ aM aS aI aK sf mf kf m0 m1 m2 m3 m4) H → va_D A (MDw cA cZ aM aS aI aK sf mf kf m0 m1 m2 m3 m4) → va_S A s.heap H locs → lv_has ls 9 [(0, .ref aM), (1, .int x1), (2, .int x2), (3, .int x3), (4, .int x4), (5, .int v5), (6, .int v6)] → W p l e _ s m _ below meth c H locs _ _ _ (F0 m 7 ls [])) (((3 : Int32).toInt - ((0 : Int32)).toInt).toNat + 1) (-6) 0 _ _ _ (by decide) (by exact Or.inl (by decide)) (Nat.lt_succ_self _) hG hP hD hS (lv_sub hl [2, 3, 4, 5, 6, 1, 0] rfl)
  clear hG hP hD hS hl
  intro n
  induction n with
  | zero => intros; omega
  | succ n7 ih7 =>
    intro v5 v6 H locs ls h0 hk hm7 hG hP hD hS hl
    refine lv_iload hx hb dX4_lineFor_7 (lv_at hl 6 rfl) ?_
    refine lv_iconst (v := 3) hx hb dX4_lineFor_9 (by decide) ?_
    refine lv_icmp_ge (tgt := 104) hx hb dX4_lineFor_10 (by decide) (fun c_1 => ?_) (fun c_1 => ?_)
    · refine lv_iload hx hb dX4_lineFor_104 (lv_at hl 5 rfl) ?_
      rw [g_X4_lineFor_L7, if_pos c_1] at hG
      rw [hG]
      exact W.iret (v := v5) hx hb hr (fun t ht hW => ⟨⟨_, (), rfl, rfl, by rw [ht]; exact hP, va_K.moved hW.alike hK, hD⟩, hS.F ht⟩) hS.2.2 dX4_lineFor_106
    · refine lv_aload_n hx hb dX4_lineFor_13 rfl (lv_at hl 0 rfl) ?_
      refine va_get (D := D) (ci := 4) (v := .ref aS) (C := RX4) (T := TX4) (N := 8) hx hb hts iX4 hown hK hP 0 rfl rfl 0 (by decide) (hts (.fieldLink RX4 7 "LightBurstsModel" "state" "[I") (List.mem_of_getElem? (i := 1) rfl)) (fun _ h9 => h9) rfl dX4_lineFor_14 ?_
      refine lv_bipush (v := 6) hx hb dX4_lineFor_17 (by decide) ?_
      refine lv_iload hx hb dX4_lineFor_19 (lv_at hl 6 rfl) ?_
      refine lv_iadd hx hb dX4_lineFor_21 ?_
      refine va_iald hx hb hK hP 1 0 rfl rfl (len_in (ln_ok h0 c_1)) dX4_lineFor_22 ?_
      refine lv_istore (lv' := [(7, .int (sf (6 + v6).toNatClampNeg)), (0, .ref aM), (1, .int x1), (2, .int x2), (3, .int x3), (4, .int x4), (5, .int v5), (6, .int v6)]) hx hb dX4_lineFor_23 hl (by decide) rfl (fun ls hl => ?_)
      refine lv_iload hx hb dX4_lineFor_25 (lv_at hl 0 rfl) ?_
      refine lv_if_le (tgt := 61) hx hb dX4_lineFor_27 (by decide) (fun c_2 => ?_) (fun c_2 => ?_)
      · refine lv_iconst (v := 0) hx hb dX4_lineFor_61 (by decide) ?_
        refine lv_istore (lv' := [(8, .int 0), (7, .int (sf (6 + v6).toNatClampNeg)), (0, .ref aM), (1, .int x1), (2, .int x2), (3, .int x3), (4, .int x4), (5, .int v5), (6, .int v6)]) hx hb dX4_lineFor_62 hl (by decide) rfl (fun ls hl => ?_)
        refine lv_iload hx hb dX4_lineFor_64 (lv_at hl 0 rfl) ?_
        refine lv_if_eq (tgt := 94) hx hb dX4_lineFor_66 (by decide) (fun _ => ?_) (fun h9 => absurd h9 (by decide))
        refine lv_iload hx hb dX4_lineFor_94 (lv_at hl 7 rfl) ?_
        refine lv_istore (lv' := [(5, .int v5), (8, .int 0), (7, .int (sf (6 + v6).toNatClampNeg)), (0, .ref aM), (1, .int x1), (2, .int x2), (3, .int x3), (4, .int x4), (6, .int v6)]) hx hb dX4_lineFor_96 hl (by decide) rfl (fun ls hl => ?_)
        refine lv_iinc (v := (v6 + 1)) (lv' := [(6, .int (v6 + 1)), (5, .int v5), (8, .int 0), (7, .int (sf (6 + v6).toNatClampNeg)), (0, .ref aM), (1, .int x1), (2, .int x2), (3, .int x3), (4, .int x4)]) hx hb dX4_lineFor_98 hl (k := 8) rfl rfl (by decide) rfl (fun ls hl => ?_)
        refine lv_goto (tgt := 7) hx hb dX4_lineFor_101 (by decide) ?_
        rw [g_X4_lineFor_L7, if_neg c_1, if_pos c_2] at hG
        exact ih7 v5 (v6 + 1) _ _ _ (by exact up_ge h0 c_1) (by exact hk) (by exact ms_up c_1 hm7) hG hP hD hS (lv_sub hl [4, 5, 6, 7, 8, 1, 0] rfl)
      · refine lv_aload_n hx hb dX4_lineFor_30 rfl (lv_at hl 1 rfl) ?_
        refine lv_iload hx hb dX4_lineFor_31 (lv_at hl 7 rfl) ?_
        refine lv_iload_n hx hb dX4_lineFor_33 rfl (lv_at hl 4 rfl) ?_
        refine lv_iload hx hb dX4_lineFor_34 (lv_at hl 5 rfl) ?_
        refine kI (wr := ([] : va_W)) (W1 := MDw cA cZ aM aS aI aK sf mf kf m0 m1 m2 m3 m4) (wsN := MDw cA cZ aM aS aI aK sf mf kf m0 m1 m2 m3 m4) (rV (As := [.int v6, .int x3, .int x4]) (rest := []) (W0 := MDw cA cZ aM aS aI aK sf mf kf m0 m1 m2 m3 m4) ⟨hx, hb, hml, hown, hts⟩ (c_X4_isLineClear l D cA cZ aM aS aI aK H.size sf mf kf m0 m1 m2 m3 m4 v6 x3 x4 (show (sf 10) ≤ 48 from by exact hm)) (cwV 3 hts gX4_lineFor_X4_isLineClear rfl rfl rfl (by decide +kernel) ⟨Nat.le_of_ble_eq_true rfl, Nat.le_of_ble_eq_true rfl⟩) hP hD hK hN ([0, 1, 2, 3] : List Nat) rfl rfl 4 0 rfl rfl rfl hl.1 rfl (Nat.le_of_ble_eq_true rfl) dX4_lineFor_36 ⟨Nat.zero_le _, Nat.zero_le _⟩) hP hD hS hA [0, 1, 2, 3] [] [0, 1, 2, 3] rfl rfl rfl (by decide) rfl rfl (fun H locs hP hD hS => ?_)
        refine lv_if_eq (tgt := 61) hx hb dX4_lineFor_39 (by decide) (fun c_3 => ?_) (fun c_3 => ?_)
        · refine lv_iconst (v := 0) hx hb dX4_lineFor_61 (by decide) ?_
          refine lv_istore (lv' := [(8, .int 0), (7, .int (sf (6 + v6).toNatClampNeg)), (0, .ref aM), (1, .int x1), (2, .int x2), (3, .int x3), (4, .int x4), (5, .int v5), (6, .int v6)]) hx hb dX4_lineFor_62 hl (by decide) rfl (fun ls hl => ?_)
          refine lv_iload hx hb dX4_lineFor_64 (lv_at hl 0 rfl) ?_
          refine lv_if_eq (tgt := 94) hx hb dX4_lineFor_66 (by decide) (fun _ => ?_) (fun h9 => absurd h9 (by decide))
          refine lv_iload hx hb dX4_lineFor_94 (lv_at hl 7 rfl) ?_
          refine lv_istore (lv' := [(5, .int v5), (8, .int 0), (7, .int (sf (6 + v6).toNatClampNeg)), (0, .ref aM), (1, .int x1), (2, .int x2), (3, .int x3), (4, .int x4), (6, .int v6)]) hx hb dX4_lineFor_96 hl (by decide) rfl (fun ls hl => ?_)
          refine lv_iinc (v := (v6 + 1)) (lv' := [(6, .int (v6 + 1)), (5, .int v5), (8, .int 0), (7, .int (sf (6 + v6).toNatClampNeg)), (0, .ref aM), (1, .int x1), (2, .int x2), (3, .int x3), (4, .int x4)]) hx hb dX4_lineFor_98 hl (k := 8) rfl rfl (by decide) rfl (fun ls hl => ?_)
          refine lv_goto (tgt := 7) hx hb dX4_lineFor_101 (by decide) ?_
          rw [g_X4_lineFor_L7, if_neg c_1, if_neg c_2, if_pos c_3] at hG
          exact ih7 v5 (v6 + 1) _ _ _ (by exact up_ge h0 c_1) (by exact hk) (by exact ms_up c_1 hm7) hG hP hD hS (lv_sub hl [4, 5, 6, 7, 8, 1, 0] rfl)
        · refine lv_aload_n hx hb dX4_lineFor_42 rfl (lv_at hl 1 rfl) ?_
          refine lv_iload_n hx hb dX4_lineFor_43 rfl (lv_at hl 2 rfl) ?_
          refine lv_iload_n hx hb dX4_lineFor_44 rfl (lv_at hl 3 rfl) ?_
          refine lv_iload_n hx hb dX4_lineFor_45 rfl (lv_at hl 4 rfl) ?_
          refine lv_iload hx hb dX4_lineFor_46 (lv_at hl 0 rfl) ?_
          refine lv_iadd hx hb dX4_lineFor_48 ?_
          refine lv_iload hx hb dX4_lineFor_49 (lv_at hl 5 rfl) ?_
          refine kI (wr := ([] : va_W)) (W1 := MDw cA cZ aM aS aI aK sf mf kf m0 m1 m2 m3 m4) (wsN := MDw cA cZ aM aS aI aK sf mf kf m0 m1 m2 m3 m4) (rV (As := [.int x1, .int x2, .int (x3 + (sf (6 + v6).toNatClampNeg)), .int x4]) (rest := []) (W0 := MDw cA cZ aM aS aI aK sf mf kf m0 m1 m2 m3 m4) ⟨hx, hb, hml, hown, hts⟩ (c_X4_colourFor l D cA cZ aM aS aI aK H.size sf mf kf m0 m1 m2 m3 m4 x1 x2 (x3 + (sf (6 + v6).toNatClampNeg)) x4 (show (sf 10) ≤ 48 from by exact hm)) (cwV 4 hts gX4_lineFor_X4_colourFor rfl rfl rfl (by decide +kernel) ⟨Nat.le_of_ble_eq_true rfl, Nat.le_of_ble_eq_true rfl⟩) hP hD hK hN ([0, 1, 2, 3] : List Nat) rfl rfl 4 0 rfl rfl rfl hl.1 rfl (Nat.le_of_ble_eq_true rfl) dX4_lineFor_51 ⟨Nat.zero_le _, Nat.zero_le _⟩) hP hD hS hA [0, 1, 2, 3] [] [0, 1, 2, 3] rfl rfl rfl (by decide) rfl rfl (fun H locs hP hD hS => ?_)
          refine lv_if_lt (tgt := 61) hx hb dX4_lineFor_54 (by decide) (fun c_4 => ?_) (fun c_4 => ?_)
          · refine lv_iconst (v := 0) hx hb dX4_lineFor_61 (by decide) ?_
            refine lv_istore (lv' := [(8, .int 0), (7, .int (sf (6 + v6).toNatClampNeg)), (0, .ref aM), (1, .int x1), (2, .int x2), (3, .int x3), (4, .int x4), (5, .int v5), (6, .int v6)]) hx hb dX4_lineFor_62 hl (by decide) rfl (fun ls hl => ?_)
            refine lv_iload hx hb dX4_lineFor_64 (lv_at hl 0 rfl) ?_
            refine lv_if_eq (tgt := 94) hx hb dX4_lineFor_66 (by decide) (fun _ => ?_) (fun h9 => absurd h9 (by decide))
            refine lv_iload hx hb dX4_lineFor_94 (lv_at hl 7 rfl) ?_
            refine lv_istore (lv' := [(5, .int v5), (8, .int 0), (7, .int (sf (6 + v6).toNatClampNeg)), (0, .ref aM), (1, .int x1), (2, .int x2), (3, .int x3), (4, .int x4), (6, .int v6)]) hx hb dX4_lineFor_96 hl (by decide) rfl (fun ls hl => ?_)
            refine lv_iinc (v := (v6 + 1)) (lv' := [(6, .int (v6 + 1)), (5, .int v5), (8, .int 0), (7, .int (sf (6 + v6).toNatClampNeg)), (0, .ref aM), (1, .int x1), (2, .int x2), (3, .int x3), (4, .int x4)]) hx hb dX4_lineFor_98 hl (k := 8) rfl rfl (by decide) rfl (fun ls hl => ?_)
            refine lv_goto (tgt := 7) hx hb dX4_lineFor_101 (by decide) ?_
            rw [g_X4_lineFor_L7, if_neg c_1, if_neg c_2, if_neg c_3, if_pos c_4] at hG
            exact ih7 v5 (v6 + 1) _ _ _ (by exact up_ge h0 c_1) (by exact hk) (by exact ms_up c_1 hm7) hG hP hD hS (lv_sub hl [4, 5, 6, 7, 8, 1, 0] rfl)
          · refine lv_iconst (v := 1) hx hb dX4_lineFor_57 (by decide) ?_
            refine lv_goto (tgt := 62) hx hb dX4_lineFor_58 (by decide) ?_
            refine lv_istore (lv' := [(8, .int 1), (7, .int (sf (6 + v6).toNatClampNeg)), (0, .ref aM), (1, .int x1), (2, .int x2), (3, .int x3), (4, .int x4), (5, .int v5), (6, .int v6)]) hx hb dX4_lineFor_62 hl (by decide) rfl (fun ls hl => ?_)
            refine lv_iload hx hb dX4_lineFor_64 (lv_at hl 0 rfl) ?_
            refine lv_if_eq (tgt := 94) hx hb dX4_lineFor_66 (by decide) (fun h9 => absurd h9 (by decide)) (fun _ => ?_)
            refine lv_iload hx hb dX4_lineFor_69 (lv_at hl 7 rfl) ?_
            refine lv_if_lt (tgt := 89) hx hb dX4_lineFor_71 (by decide) (fun c_5 => ?_) (fun c_5 => ?_)
            · refine lv_iload hx hb dX4_lineFor_89 (lv_at hl 8 rfl) ?_
              refine lv_goto (tgt := 96) hx hb dX4_lineFor_91 (by decide) ?_
              refine lv_istore (lv' := [(5, .int v6), (8, .int 1), (7, .int (sf (6 + v6).toNatClampNeg)), (0, .ref aM), (1, .int x1), (2, .int x2), (3, .int x3), (4, .int x4), (6, .int v6)]) hx hb dX4_lineFor_96 hl (by decide) rfl (fun ls hl => ?_)
              refine lv_iinc (v := (v6 + 1)) (lv' := [(6, .int (v6 + 1)), (5, .int v6), (8, .int 1), (7, .int (sf (6 + v6).toNatClampNeg)), (0, .ref aM), (1, .int x1), (2, .int x2), (3, .int x3), (4, .int x4)]) hx hb dX4_lineFor_98 hl (k := 8) rfl rfl (by decide) rfl (fun ls hl => ?_)
              refine lv_goto (tgt := 7) hx hb dX4_lineFor_101 (by decide) ?_
              rw [g_X4_lineFor_L7, if_neg c_1, if_neg c_2, if_neg c_3, if_neg c_4, if_pos c_5] at hG
              exact ih7 v6 (v6 + 1) _ _ _ (by exact up_ge h0 c_1) (by exact Or.inr (ln_ok h0 c_1)) (by exact ms_up c_1 hm7) hG hP hD hS (lv_sub hl [4, 5, 6, 7, 8, 1, 0] rfl)
            · refine lv_iload hx hb dX4_lineFor_74 (lv_at hl 1 rfl) ?_
              refine lv_aload_n hx hb dX4_lineFor_76 rfl (lv_at hl 2 rfl) ?_
              refine va_get (D := D) (ci := 4) (v := .ref aS) (C := RX4) (T := TX4) (N := 8) hx hb hts iX4 hown hK hP 0 rfl rfl 0 (by decide) (hts (.fieldLink RX4 7 "LightBurstsModel" "state" "[I") (List.mem_of_getElem? (i := 1) rfl)) (fun _ h9 => h9) rfl dX4_lineFor_77 ?_
              refine lv_bipush (v := 6) hx hb dX4_lineFor_80 (by decide) ?_
              refine lv_iload hx hb dX4_lineFor_82 (lv_at hl 7 rfl) ?_
              refine lv_iadd hx hb dX4_lineFor_84 ?_
              refine va_iald hx hb hK hP 1 0 rfl rfl (lnk_in hk c_5) dX4_lineFor_85 ?_
              refine lv_icmp_ge (tgt := 94) hx hb dX4_lineFor_86 (by decide) (fun c_6 => ?_) (fun c_6 => ?_)
              · refine lv_iload hx hb dX4_lineFor_94 (lv_at hl 7 rfl) ?_
                refine lv_istore (lv' := [(5, .int v5), (8, .int 1), (7, .int (sf (6 + v6).toNatClampNeg)), (0, .ref aM), (1, .int x1), (2, .int x2), (3, .int x3), (4, .int x4), (6, .int v6)]) hx hb dX4_lineFor_96 hl (by decide) rfl (fun ls hl => ?_)
                refine lv_iinc (v := (v6 + 1)) (lv' := [(6, .int (v6 + 1)), (5, .int v5), (8, .int 1), (7, .int (sf (6 + v6).toNatClampNeg)), (0, .ref aM), (1, .int x1), (2, .int x2), (3, .int x3), (4, .int x4)]) hx hb dX4_lineFor_98 hl (k := 8) rfl rfl (by decide) rfl (fun ls hl => ?_)
                refine lv_goto (tgt := 7) hx hb dX4_lineFor_101 (by decide) ?_
                rw [g_X4_lineFor_L7, if_neg c_1, if_neg c_2, if_neg c_3, if_neg c_4, if_neg c_5, if_pos c_6] at hG
                exact ih7 v5 (v6 + 1) _ _ _ (by exact up_ge h0 c_1) (by exact hk) (by exact ms_up c_1 hm7) hG hP hD hS (lv_sub hl [4, 5, 6, 7, 8, 1, 0] rfl)
              · refine lv_iload hx hb dX4_lineFor_89 (lv_at hl 8 rfl) ?_
                refine lv_goto (tgt := 96) hx hb dX4_lineFor_91 (by decide) ?_
                refine lv_istore (lv' := [(5, .int v6), (8, .int 1), (7, .int (sf (6 + v6).toNatClampNeg)), (0, .ref aM), (1, .int x1), (2, .int x2), (3, .int x3), (4, .int x4), (6, .int v6)]) hx hb dX4_lineFor_96 hl (by decide) rfl (fun ls hl => ?_)
                refine lv_iinc (v := (v6 + 1)) (lv' := [(6, .int (v6 + 1)), (5, .int v6), (8, .int 1), (7, .int (sf (6 + v6).toNatClampNeg)), (0, .ref aM), (1, .int x1), (2, .int x2), (3, .int x3), (4, .int x4)]) hx hb dX4_lineFor_98 hl (k := 8) rfl rfl (by decide) rfl (fun ls hl => ?_)
                refine lv_goto (tgt := 7) hx hb dX4_lineFor_101 (by decide) ?_
                rw [g_X4_lineFor_L7, if_neg c_1, if_neg c_2, if_neg c_3, if_neg c_4, if_neg c_5, if_neg c_6] at hG
                exact ih7 v6 (v6 + 1) _ _ _ (by exact up_ge h0 c_1) (by exact Or.inr (ln_ok h0 c_1)) (by exact ms_up c_1 hm7) hG hP hD hS (lv_sub hl [4, 5, 6, 7, 8, 1, 0] rfl)

theorem lineFor_L_ok (sf : Nat → Int32) (x1 x2 x3 x4 : Int32) : ∀ (n : Nat) (v5 v6 : Int32), lnk v5 → 0 ≤ v6 → lnk (g_X4_lineFor_L7 sf x1 x2 x3 x4 n v5 v6) := by
  intro n
  induction n with
  | zero => intros; exact (show lnk 0 from Or.inr (by decide))
  | succ n ih =>
    intro v5 v6 h5 h6
    rw [g_X4_lineFor_L7]
    split
    · exact h5
    · rename_i c
      have h7 : 0 ≤ v6 + 1 := up_ge h6 c
      have h8 : lnk v6 := Or.inr (ln_ok h6 c)
      repeat' split
      all_goals first | exact ih _ _ h5 h7 | exact ih _ _ h8 h7
theorem lineFor_ok {sf : Nat → Int32} {x1 x2 x3 x4 : Int32} : lnk (g_X4_lineFor sf x1 x2 x3 x4) := by
  unfold g_X4_lineFor
  exact lineFor_L_ok _ _ _ _ _ _ _ _ (Or.inl (by decide)) (by decide)
theorem pc_o {v : Int32} (h : 0 ≤ v.toInt ∧ v.toInt ≤ 60) (c : ¬ v ≤ 0) : 0 ≤ (v + (-1)).toInt ∧ (v + (-1)).toInt ≤ 60 := by
  have e := ad_p c
  omega
theorem pc_i {x v w : Int32} (hx : 0 ≤ x.toInt ∧ x.toInt ≤ 60) (hv : 0 ≤ v.toInt ∧ v.toInt ≤ 60) (hw : 0 ≤ w.toInt ∧ w.toInt ≤ 61) (c0 : ¬ v ≤ 0) (c : ¬ x < w + v) : w.toInt + v.toInt ≤ x.toInt ∧ (w + 1).toInt = w.toInt + 1 ∧ 0 < v.toInt := by
  have e0 : (0 : Int32).toInt = 0 := rfl
  have e1 : (1 : Int32).toInt = 1 := rfl
  have h1 := lt_of_nle c0
  rw [Int32.lt_iff_toInt_lt, i32_add (by omega) (by omega)] at c
  refine ⟨by omega, ?_, by omega⟩
  rw [i32_add (by omega) (by omega), e1]
theorem pc_is {x v w : Int32} (hx : 0 ≤ x.toInt ∧ x.toInt ≤ 60) (hv : 0 ≤ v.toInt ∧ v.toInt ≤ 60) (hw : 0 ≤ w.toInt ∧ w.toInt ≤ 61) (c0 : ¬ v ≤ 0) (c : ¬ x < w + v) : 0 ≤ (w + 1).toInt ∧ (w + 1).toInt ≤ 61 := by
  have h := pc_i hx hv hw c0 c
  omega
theorem pc_im {x v w : Int32} {n : Nat} (hx : 0 ≤ x.toInt ∧ x.toInt ≤ 60) (hv : 0 ≤ v.toInt ∧ v.toInt ≤ 60) (hw : 0 ≤ w.toInt ∧ w.toInt ≤ 61) (c0 : ¬ v ≤ 0) (c : ¬ x < w + v) (h : (61 - w.toInt).toNat < n + 1) : (61 - (w + 1).toInt).toNat < n := by
  have h2 := pc_i hx hv hw c0 c
  omega

def g_X4_pieceOf_L12 (KK : Int32 → (Int32)) (sf : (Nat → Int32)) (x1 : Int32) (x2 : Int32) (x3 : Int32) (x4 : Int32) (v5 : Int32) : Nat → Int32 → (Int32)
  | 0, _ => 0
  | n + 1, v6 => (if x4 < (v6 + v5) then (KK (v5 + (-1))) else (if (g_X4_isFree sf x1 x2 (x3 + v6) v5) = 0 then (g_X4_pieceOf_L12 KK sf x1 x2 x3 x4 v5 n (v6 + 1)) else ((100 * v5) + v6)))
def g_X4_pieceOf_L4 (sf : (Nat → Int32)) (x1 : Int32) (x2 : Int32) (x3 : Int32) (x4 : Int32) : Nat → Int32 → (Int32)
  | 0, _ => 0
  | n + 1, v5 => (if v5 ≤ 0 then 0 else (g_X4_pieceOf_L12 (fun z0 => g_X4_pieceOf_L4 sf x1 x2 x3 x4 n z0) sf x1 x2 x3 x4 v5 ((61 - ((0 : Int32)).toInt).toNat + 1) 0))
def g_X4_pieceOf (sf : (Nat → Int32)) (x1 : Int32) (x2 : Int32) (x3 : Int32) (x4 : Int32) : Int32 := (g_X4_pieceOf_L4 sf x1 x2 x3 x4 ((x4).toInt.toNat + 1) x4)
set_option maxHeartbeats 4000000 in
set_option maxRecDepth 100000 in
theorem c_X4_pieceOf (l : Launch) (D : va_G) (cA cZ : ClassId) (aM : Nat) (aS : Nat) (aI : Nat) (aK : Nat) (szz : Nat) (sf : (Nat → Int32)) (mf : (Nat → Int32)) (kf : (Nat → Int32)) (m0 : Int32) (m1 : Int32) (m2 : Int32) (m3 : Int32) (m4 : Int32) (x1 : Int32) (x2 : Int32) (x3 : Int32) (x4 : Int32) (hm : (sf 10) ≤ 48) (hn : 0 ≤ (x4).toInt ∧ (x4).toInt ≤ 60) : MetI l yX4_pieceOf wsX4_pieceOf 5 115 D (tyA cA cZ) [.ref aM, .int x1, .int x2, .int x3, .int x4] (MDw cA cZ aM aS aI aK sf mf kf m0 m1 m2 m3 m4) szz (g_X4_pieceOf sf x1 x2 x3 x4) (MDw cA cZ aM aS aI aK sf mf kf m0 m1 m2 m3 m4) := by
  refine Met.ofW (cc := cX4_pieceOf) (maxL := 7) (ret := (some .int)) (by decide) rfl ?_
  intro p e s m args below meth c s₁ B hml hv
  obtain ⟨rfl, hsz, hP, hK, hD0, hN⟩ := hv
  have hx := B.exec
  have hb := B.bytes
  have hr := B.returns
  have hts := atoms_spec (ws := wsX4_pieceOf) B.pre
  have hown : s.vm.findClass RX4 = some m.cls := findClass_of_methodNamed B.named
  have hlocks := B.notSynchronized
  have iX4 : ∀ w ∈ wsX40, w ∈ wsX4_pieceOf := fun _ h => List.mem_cons_of_mem _ (List.mem_append_right _ h)
  subst hsz
  have hD := hD0.self (sz := s.heap.size)
  generalize hAe : va_A (MDw cA cZ aM aS aI aK sf mf kf m0 m1 m2 m3 m4) s.heap.size = A at hD ⊢
  have hA : ∀ q : Nat, s.heap.size ≤ q → A q := fun q h => by rw [← hAe]; exact Or.inr h
  have hS : va_S A s.heap s.heap [] := va_S.rf
  have hP : va_P D vwCl (MDw cA cZ aM aS aI aK sf mf kf m0 m1 m2 m3 m4) s.heap := hP
  obtain ⟨G, hG⟩ : ∃ G, G = (g_X4_pieceOf sf x1 x2 x3 x4) := ⟨_, rfl⟩
  rw [← hG]
  have hl := lv_entry ([.ref aM, .int x1, .int x2, .int x3, .int x4]) (n := 7) (Nat.le_of_ble_eq_true rfl)
  rw [lg_entry_eq]
  generalize (lg_sl ([.ref aM, .int x1, .int x2, .int x3, .int x4]) ++ List.replicate (7 - (lg_sl ([.ref aM, .int x1, .int x2, .int x3, .int x4])).length) Slot.unset).toArray = ls at hl ⊢
  have hl : lv_has ls 7 [(0, .ref aM), (1, .int x1), (2, .int x2), (3, .int x3), (4, .int x4)] := hl
  refine lv_iload hx hb dX4_pieceOf_0 (lv_at hl 4 rfl) ?_
  refine lv_istore (lv' := [(5, .int x4), (0, .ref aM), (1, .int x1), (2, .int x2), (3, .int x3), (4, .int x4)]) hx hb dX4_pieceOf_2 hl (by decide) rfl (fun ls hl => ?_)
  rw [g_X4_pieceOf] at hG
  refine (?_ : ∀ (n : Nat) (v5 : Int32) (H : Heap) (locs : List Loc) (ls : Array Slot), (0 ≤ (v5).toInt ∧ (v5).toInt ≤ 60) → (v5).toInt.toNat < n → G = g_X4_pieceOf_L4 sf x1 x2 x3 x4 n v5 → va_P D vwCl (MDw cA cZ aM aS aI aK sf mf kf m0 m1 m2 m3 m4) H → va_D A (MDw cA cZ aM aS aI aK sf mf kf m0 m1 m2 m3 m4) → va_S A s.heap H locs → lv_has ls 7 [(0, .ref aM), (1, .int x1), (2, .int x2), (3, .int x3), (4, .int x4), (5, .int v5)] → W p l e _ s m _ below meth c H locs _ _ _ (F0 m 4 ls [])) ((x4).toInt.toNat + 1) x4 _ _ _ (by exact hn) (Nat.lt_succ_self _) hG hP hD hS (lv_sub hl [1, 2, 3, 4, 5, 0] rfl)
  clear hG hP hD hS hl
  intro n
  induction n with
  | zero => intros; omega
  | succ n4 ih4 =>
    intro v5 H locs ls h5 hm4 hG hP hD hS hl
    refine lv_iload hx hb dX4_pieceOf_4 (lv_at hl 5 rfl) ?_
    refine lv_if_le (tgt := 58) hx hb dX4_pieceOf_6 (by decide) (fun c_1 => ?_) (fun c_1 => ?_)
    · refine lv_iconst (v := 0) hx hb dX4_pieceOf_58 (by decide) ?_
      rw [g_X4_pieceOf_L4, if_pos c_1] at hG
      rw [hG]
      exact W.iret (v := 0) hx hb hr (fun t ht hW => ⟨⟨_, (), rfl, rfl, by rw [ht]; exact hP, va_K.moved hW.alike hK, hD⟩, hS.F ht⟩) hS.2.2 dX4_pieceOf_59
    · refine lv_iconst (v := 0) hx hb dX4_pieceOf_9 (by decide) ?_
      refine lv_istore (lv' := [(6, .int 0), (0, .ref aM), (1, .int x1), (2, .int x2), (3, .int x3), (4, .int x4), (5, .int v5)]) hx hb dX4_pieceOf_10 hl (by decide) rfl (fun ls hl => ?_)
      rw [g_X4_pieceOf_L4, if_neg c_1] at hG
      refine (?_ : ∀ (n : Nat) (v6 : Int32) (H : Heap) (locs : List Loc) (ls : Array Slot), (0 ≤ (v6).toInt ∧ (v6).toInt ≤ 61) → (61 - (v6).toInt).toNat < n → G = g_X4_pieceOf_L12 (fun z0 => g_X4_pieceOf_L4 sf x1 x2 x3 x4 n4 z0) sf x1 x2 x3 x4 v5 n v6 → va_P D vwCl (MDw cA cZ aM aS aI aK sf mf kf m0 m1 m2 m3 m4) H → va_D A (MDw cA cZ aM aS aI aK sf mf kf m0 m1 m2 m3 m4) → va_S A s.heap H locs → lv_has ls 7 [(0, .ref aM), (1, .int x1), (2, .int x2), (3, .int x3), (4, .int x4), (5, .int v5), (6, .int v6)] → W p l e _ s m _ below meth c H locs _ _ _ (F0 m 12 ls [])) ((61 - ((0 : Int32)).toInt).toNat + 1) 0 _ _ _ (by decide) (Nat.lt_succ_self _) hG hP hD hS (lv_sub hl [1, 2, 3, 4, 5, 6, 0] rfl)
      clear hG hP hD hS hl
      intro n
      induction n with
      | zero => intros; omega
      | succ n12 ih12 =>
        intro v6 H locs ls h6 hm12 hG hP hD hS hl
        refine lv_iload hx hb dX4_pieceOf_12 (lv_at hl 6 rfl) ?_
        refine lv_iload hx hb dX4_pieceOf_14 (lv_at hl 5 rfl) ?_
        refine lv_iadd hx hb dX4_pieceOf_16 ?_
        refine lv_iload hx hb dX4_pieceOf_17 (lv_at hl 4 rfl) ?_
        refine lv_icmp_gt (tgt := 52) hx hb dX4_pieceOf_19 (by decide) (fun c_2 => ?_) (fun c_2 => ?_)
        · refine lv_iinc (v := (v5 + (-1))) (lv' := [(5, .int (v5 + (-1))), (0, .ref aM), (1, .int x1), (2, .int x2), (3, .int x3), (4, .int x4), (6, .int v6)]) hx hb dX4_pieceOf_52 hl (k := 5) rfl rfl (by decide) rfl (fun ls hl => ?_)
          refine lv_goto (tgt := 4) hx hb dX4_pieceOf_55 (by decide) ?_
          rw [g_X4_pieceOf_L12, if_pos c_2] at hG
          exact ih4 (v5 + (-1)) _ _ _ (by exact pc_o h5 c_1) (by exact ad_m c_1 hm4) hG hP hD hS (lv_sub hl [1, 2, 3, 4, 5, 0] rfl)
        · refine lv_aload_n hx hb dX4_pieceOf_22 rfl (lv_at hl 0 rfl) ?_
          refine lv_iload_n hx hb dX4_pieceOf_23 rfl (lv_at hl 1 rfl) ?_
          refine lv_iload_n hx hb dX4_pieceOf_24 rfl (lv_at hl 2 rfl) ?_
          refine lv_iload_n hx hb dX4_pieceOf_25 rfl (lv_at hl 3 rfl) ?_
          refine lv_iload hx hb dX4_pieceOf_26 (lv_at hl 6 rfl) ?_
          refine lv_iadd hx hb dX4_pieceOf_28 ?_
          refine lv_iload hx hb dX4_pieceOf_29 (lv_at hl 5 rfl) ?_
          refine kI (wr := ([] : va_W)) (W1 := MDw cA cZ aM aS aI aK sf mf kf m0 m1 m2 m3 m4) (wsN := MDw cA cZ aM aS aI aK sf mf kf m0 m1 m2 m3 m4) (rV (As := [.int x1, .int x2, .int (x3 + v6), .int v5]) (rest := []) (W0 := MDw cA cZ aM aS aI aK sf mf kf m0 m1 m2 m3 m4) ⟨hx, hb, hml, hown, hts⟩ (c_X4_isFree l D cA cZ aM aS aI aK H.size sf mf kf m0 m1 m2 m3 m4 x1 x2 (x3 + v6) v5 (show (sf 10) ≤ 48 from by exact hm)) (cwV 4 hts gX4_pieceOf_X4_isFree rfl rfl rfl (by decide +kernel) ⟨Nat.le_of_ble_eq_true rfl, Nat.le_of_ble_eq_true rfl⟩) hP hD hK hN ([0, 1, 2, 3] : List Nat) rfl rfl 4 0 rfl rfl rfl hl.1 rfl (Nat.le_of_ble_eq_true rfl) dX4_pieceOf_31 ⟨Nat.zero_le _, Nat.zero_le _⟩) hP hD hS hA [0, 1, 2, 3] [] [0, 1, 2, 3] rfl rfl rfl (by decide) rfl rfl (fun H locs hP hD hS => ?_)
          refine lv_if_eq (tgt := 46) hx hb dX4_pieceOf_34 (by decide) (fun c_3 => ?_) (fun c_3 => ?_)
          · refine lv_iinc (v := (v6 + 1)) (lv' := [(6, .int (v6 + 1)), (0, .ref aM), (1, .int x1), (2, .int x2), (3, .int x3), (4, .int x4), (5, .int v5)]) hx hb dX4_pieceOf_46 hl (k := 6) rfl rfl (by decide) rfl (fun ls hl => ?_)
            refine lv_goto (tgt := 12) hx hb dX4_pieceOf_49 (by decide) ?_
            rw [g_X4_pieceOf_L12, if_neg c_2, if_pos c_3] at hG
            exact ih12 (v6 + 1) _ _ _ (by exact pc_is hn h5 h6 c_1 c_2) (by exact pc_im hn h5 h6 c_1 c_2 hm12) hG hP hD hS (lv_sub hl [1, 2, 3, 4, 5, 6, 0] rfl)
          · refine lv_bipush (v := 100) hx hb dX4_pieceOf_37 (by decide) ?_
            refine lv_iload hx hb dX4_pieceOf_39 (lv_at hl 5 rfl) ?_
            refine lv_imul hx hb dX4_pieceOf_41 ?_
            refine lv_iload hx hb dX4_pieceOf_42 (lv_at hl 6 rfl) ?_
            refine lv_iadd hx hb dX4_pieceOf_44 ?_
            rw [g_X4_pieceOf_L12, if_neg c_2, if_neg c_3] at hG
            rw [hG]
            exact W.iret (v := ((100 * v5) + v6)) hx hb hr (fun t ht hW => ⟨⟨_, (), rfl, rfl, by rw [ht]; exact hP, va_K.moved hW.alike hK, hD⟩, hS.F ht⟩) hS.2.2 dX4_pieceOf_45

def g_X4_cut_L10 (sf : (Nat → Int32)) (m0 : Int32) (m1 : Int32) (m2 : Int32) (m3 : Int32) (m4 : Int32) (x1 : Int32) (x2 : Int32) (x3 : Int32) (x4 : Int32) : Nat → Int32 → Int32 → Int32 → (Int32 × Int32 × Int32 × Int32 × Int32)
  | 0, _, _, _ => (0, 0, 0, 0, 0)
  | n + 1, v5, v6, v7 => (if 6 ≤ v7 then (if (v6 / 100) < (sf 3) then (m0, m1, m2, m3, m4) else ((g_X4_get 2 v5 (x3 + (v6 - v6 / 100 * 100)) (v6 / 100) (-6)).1, (g_X4_get 2 v5 (x3 + (v6 - v6 / 100 * 100)) (v6 / 100) (-6)).2.1, (g_X4_get 2 v5 (x3 + (v6 - v6 / 100 * 100)) (v6 / 100) (-6)).2.2.1, (g_X4_get 2 v5 (x3 + (v6 - v6 / 100 * 100)) (v6 / 100) (-6)).2.2.2.1, (g_X4_get 2 v5 (x3 + (v6 - v6 / 100 * 100)) (v6 / 100) (-6)).2.2.2.2)) else (if (sf 0) < (g_X4_away v7 x2) then (g_X4_cut_L10 sf m0 m1 m2 m3 m4 x1 x2 x3 x4 n v5 v6 (v7 + 1)) else (if v5 < 0 then (g_X4_cut_L10 sf m0 m1 m2 m3 m4 x1 x2 x3 x4 n v7 (g_X4_pieceOf sf x1 v7 x3 x4) (v7 + 1)) else (if (v6 / 100) < ((g_X4_pieceOf sf x1 v7 x3 x4) / 100) then (g_X4_cut_L10 sf m0 m1 m2 m3 m4 x1 x2 x3 x4 n v7 (g_X4_pieceOf sf x1 v7 x3 x4) (v7 + 1)) else (if ((g_X4_pieceOf sf x1 v7 x3 x4) / 100) = (v6 / 100) then (if (g_X4_away v5 x2) ≤ (g_X4_away v7 x2) then (g_X4_cut_L10 sf m0 m1 m2 m3 m4 x1 x2 x3 x4 n v5 v6 (v7 + 1)) else (g_X4_cut_L10 sf m0 m1 m2 m3 m4 x1 x2 x3 x4 n v7 (g_X4_pieceOf sf x1 v7 x3 x4) (v7 + 1))) else (g_X4_cut_L10 sf m0 m1 m2 m3 m4 x1 x2 x3 x4 n v5 v6 (v7 + 1)))))))
def g_X4_cut (sf : (Nat → Int32)) (m0 : Int32) (m1 : Int32) (m2 : Int32) (m3 : Int32) (m4 : Int32) (x1 : Int32) (x2 : Int32) (x3 : Int32) (x4 : Int32) : Int32 × Int32 × Int32 × Int32 × Int32 := (g_X4_cut_L10 sf m0 m1 m2 m3 m4 x1 x2 x3 x4 (((6 : Int32).toInt - ((0 : Int32)).toInt).toNat + 1) (-6) 0 0)
set_option maxHeartbeats 4000000 in
set_option maxRecDepth 100000 in
theorem c_X4_cut (l : Launch) (D : va_G) (cA cZ : ClassId) (aM : Nat) (aS : Nat) (aI : Nat) (aK : Nat) (szz : Nat) (sf : (Nat → Int32)) (mf : (Nat → Int32)) (kf : (Nat → Int32)) (m0 : Int32) (m1 : Int32) (m2 : Int32) (m3 : Int32) (m4 : Int32) (x1 : Int32) (x2 : Int32) (x3 : Int32) (x4 : Int32) (hm : (sf 10) ≤ 48) (hn : 0 ≤ (x4).toInt ∧ (x4).toInt ≤ 60) : MetV l yX4_cut wsX4_cut 6 141 D (tyA cA cZ) [.ref aM, .int x1, .int x2, .int x3, .int x4] (MDw cA cZ aM aS aI aK sf mf kf m0 m1 m2 m3 m4) szz (MDw cA cZ aM aS aI aK sf mf kf ((g_X4_cut sf m0 m1 m2 m3 m4 x1 x2 x3 x4).1) ((g_X4_cut sf m0 m1 m2 m3 m4 x1 x2 x3 x4).2.1) ((g_X4_cut sf m0 m1 m2 m3 m4 x1 x2 x3 x4).2.2.1) ((g_X4_cut sf m0 m1 m2 m3 m4 x1 x2 x3 x4).2.2.2.1) ((g_X4_cut sf m0 m1 m2 m3 m4 x1 x2 x3 x4).2.2.2.2)) := by
  refine Met.ofW (cc := cX4_cut) (maxL := 9) (ret := none) (by decide) rfl ?_
  intro p e s m args below meth c s₁ B hml hv
  obtain ⟨rfl, hsz, hP, hK, hD0, hN⟩ := hv
  have hx := B.exec
  have hb := B.bytes
  have hr := B.returns
  have hts := atoms_spec (ws := wsX4_cut) B.pre
  have hown : s.vm.findClass RX4 = some m.cls := findClass_of_methodNamed B.named
  have hlocks := B.notSynchronized
  have iX4 : ∀ w ∈ wsX40, w ∈ wsX4_cut := fun _ h => List.mem_cons_of_mem _ (List.mem_append_right _ h)
  subst hsz
  have hD := hD0.self (sz := s.heap.size)
  generalize hAe : va_A (MDw cA cZ aM aS aI aK sf mf kf m0 m1 m2 m3 m4) s.heap.size = A at hD ⊢
  have hA : ∀ q : Nat, s.heap.size ≤ q → A q := fun q h => by rw [← hAe]; exact Or.inr h
  have hS : va_S A s.heap s.heap [] := va_S.rf
  have hP : va_P D vwCl (MDw cA cZ aM aS aI aK sf mf kf m0 m1 m2 m3 m4) s.heap := hP
  obtain ⟨G, hG⟩ : ∃ G, G = (g_X4_cut sf m0 m1 m2 m3 m4 x1 x2 x3 x4) := ⟨_, rfl⟩
  rw [← hG]
  have hl := lv_entry ([.ref aM, .int x1, .int x2, .int x3, .int x4]) (n := 9) (Nat.le_of_ble_eq_true rfl)
  rw [lg_entry_eq]
  generalize (lg_sl ([.ref aM, .int x1, .int x2, .int x3, .int x4]) ++ List.replicate (9 - (lg_sl ([.ref aM, .int x1, .int x2, .int x3, .int x4])).length) Slot.unset).toArray = ls at hl ⊢
  have hl : lv_has ls 9 [(0, .ref aM), (1, .int x1), (2, .int x2), (3, .int x3), (4, .int x4)] := hl
  refine lv_bipush (v := (-6)) hx hb dX4_cut_0 (by decide) ?_
  refine lv_istore (lv' := [(5, .int (-6)), (0, .ref aM), (1, .int x1), (2, .int x2), (3, .int x3), (4, .int x4)]) hx hb dX4_cut_2 hl (by decide) rfl (fun ls hl => ?_)
  refine lv_iconst (v := 0) hx hb dX4_cut_4 (by decide) ?_
  refine lv_istore (lv' := [(6, .int 0), (5, .int (-6)), (0, .ref aM), (1, .int x1), (2, .int x2), (3, .int x3), (4, .int x4)]) hx hb dX4_cut_5 hl (by decide) rfl (fun ls hl => ?_)
  refine lv_iconst (v := 0) hx hb dX4_cut_7 (by decide) ?_
  refine lv_istore (lv' := [(7, .int 0), (6, .int 0), (5, .int (-6)), (0, .ref aM), (1, .int x1), (2, .int x2), (3, .int x3), (4, .int x4)]) hx hb dX4_cut_8 hl (by decide) rfl (fun ls hl => ?_)
  rw [g_X4_cut] at hG
  refine (?_ : ∀ (n : Nat) (v5 : Int32) (v6 : Int32) (v7 : Int32) (H : Heap) (locs : List Loc) (ls : Array Slot), ((6 : Int32).toInt - (v7).toInt).toNat < n → G = g_X4_cut_L10 sf m0 m1 m2 m3 m4 x1 x2 x3 x4 n v5 v6 v7 → va_P D vwCl (MDw cA cZ aM aS aI aK sf mf kf m0 m1 m2 m3 m4) H → va_D A (MDw cA cZ aM aS aI aK sf mf kf m0 m1 m2 m3 m4) → va_S A s.heap H locs → lv_has ls 9 [(0, .ref aM), (1, .int x1), (2, .int x2), (3, .int x3), (4, .int x4), (5, .int v5), (6, .int v6), (7, .int v7)] → W p l e _ s m _ below meth c H locs _ _ _ (F0 m 10 ls [])) (((6 : Int32).toInt - ((0 : Int32)).toInt).toNat + 1) (-6) 0 0 _ _ _ (Nat.lt_succ_self _) hG hP hD hS (lv_sub hl [3, 4, 5, 6, 7, 2, 1, 0] rfl)
  clear hG hP hD hS hl
  intro n
  induction n with
  | zero => intros; omega
  | succ n10 ih10 =>
    intro v5 v6 v7 H locs ls hm10 hG hP hD hS hl
    refine lv_iload hx hb dX4_cut_10 (lv_at hl 7 rfl) ?_
    refine lv_bipush (v := 6) hx hb dX4_cut_12 (by decide) ?_
    refine lv_icmp_ge (tgt := 104) hx hb dX4_cut_14 (by decide) (fun c_1 => ?_) (fun c_1 => ?_)
    · refine lv_iload hx hb dX4_cut_104 (lv_at hl 6 rfl) ?_
      refine lv_bipush (v := 100) hx hb dX4_cut_106 (by decide) ?_
      refine lv_idiv hx hb dX4_cut_108 (by decide) ?_
      refine lv_aload_n hx hb dX4_cut_109 rfl (lv_at hl 0 rfl) ?_
      refine va_get (D := D) (ci := 4) (v := .ref aS) (C := RX4) (T := TX4) (N := 8) hx hb hts iX4 hown hK hP 0 rfl rfl 0 (by decide) (hts (.fieldLink RX4 7 "LightBurstsModel" "state" "[I") (List.mem_of_getElem? (i := 1) rfl)) (fun _ h9 => h9) rfl dX4_cut_110 ?_
      refine lv_iconst (v := 3) hx hb dX4_cut_113 (by decide) ?_
      refine va_iald hx hb hK hP 1 0 rfl rfl (by unfold vp_in; decide) dX4_cut_114 ?_
      refine lv_eqi (sf 3) rfl ?_
      refine lv_icmp_lt (tgt := 139) hx hb dX4_cut_115 (by decide) (fun c_2 => ?_) (fun c_2 => ?_)
      · rw [g_X4_cut_L10, if_pos c_1, if_pos c_2] at hG
        rw [hG]
        exact W.vret hx hb hr (fun t ht hW => ⟨⟨(), rfl, trivial, by rw [ht]; exact hP, va_K.moved hW.alike hK, hD⟩, hS.F ht⟩) hS.2.2 dX4_cut_139
      · refine lv_aload_n hx hb dX4_cut_118 rfl (lv_at hl 0 rfl) ?_
        refine lv_iconst (v := 2) hx hb dX4_cut_119 (by decide) ?_
        refine lv_iload hx hb dX4_cut_120 (lv_at hl 5 rfl) ?_
        refine lv_iload_n hx hb dX4_cut_122 rfl (lv_at hl 3 rfl) ?_
        refine lv_iload hx hb dX4_cut_123 (lv_at hl 6 rfl) ?_
        refine lv_bipush (v := 100) hx hb dX4_cut_125 (by decide) ?_
        refine lv_irem hx hb dX4_cut_127 (by decide) ?_
        refine lv_iadd hx hb dX4_cut_128 ?_
        refine lv_iload hx hb dX4_cut_129 (lv_at hl 6 rfl) ?_
        refine lv_bipush (v := 100) hx hb dX4_cut_131 (by decide) ?_
        refine lv_idiv hx hb dX4_cut_133 (by decide) ?_
        refine lv_bipush (v := (-6)) hx hb dX4_cut_134 (by decide) ?_
        refine kV (wr := ([] : va_W)) (W1 := MDw cA cZ aM aS aI aK sf mf kf ((g_X4_get 2 v5 (x3 + (v6 - v6 / 100 * 100)) (v6 / 100) (-6)).1) ((g_X4_get 2 v5 (x3 + (v6 - v6 / 100 * 100)) (v6 / 100) (-6)).2.1) ((g_X4_get 2 v5 (x3 + (v6 - v6 / 100 * 100)) (v6 / 100) (-6)).2.2.1) ((g_X4_get 2 v5 (x3 + (v6 - v6 / 100 * 100)) (v6 / 100) (-6)).2.2.2.1) ((g_X4_get 2 v5 (x3 + (v6 - v6 / 100 * 100)) (v6 / 100) (-6)).2.2.2.2)) (wsN := MDw cA cZ aM aS aI aK sf mf kf ((g_X4_get 2 v5 (x3 + (v6 - v6 / 100 * 100)) (v6 / 100) (-6)).1) ((g_X4_get 2 v5 (x3 + (v6 - v6 / 100 * 100)) (v6 / 100) (-6)).2.1) ((g_X4_get 2 v5 (x3 + (v6 - v6 / 100 * 100)) (v6 / 100) (-6)).2.2.1) ((g_X4_get 2 v5 (x3 + (v6 - v6 / 100 * 100)) (v6 / 100) (-6)).2.2.2.1) ((g_X4_get 2 v5 (x3 + (v6 - v6 / 100 * 100)) (v6 / 100) (-6)).2.2.2.2)) (rV (As := [.int 2, .int v5, .int (x3 + (v6 - v6 / 100 * 100)), .int (v6 / 100), .int (-6)]) (rest := []) (W0 := MDw cA cZ aM aS aI aK sf mf kf m0 m1 m2 m3 m4) ⟨hx, hb, hml, hown, hts⟩ (c_X4_get l D cA cZ aM aS aI aK H.size sf mf kf m0 m1 m2 m3 m4 2 v5 (x3 + (v6 - v6 / 100 * 100)) (v6 / 100) (-6)) (cwV 5 hts gX4_cut_X4_get rfl rfl rfl (by decide +kernel) ⟨Nat.le_of_ble_eq_true rfl, Nat.le_of_ble_eq_true rfl⟩) hP hD hK hN ([0, 1, 2, 3] : List Nat) rfl rfl 4 0 rfl rfl rfl hl.1 rfl (Nat.le_of_ble_eq_true rfl) dX4_cut_136 ⟨Nat.zero_le _, Nat.zero_le _⟩) hP hD hS hA [0, 1, 2, 3] [] [0, 1, 2, 3] rfl rfl rfl (by decide) rfl rfl (fun H locs hP hD hS => ?_)
        rw [g_X4_cut_L10, if_pos c_1, if_neg c_2] at hG
        rw [hG]
        exact W.vret hx hb hr (fun t ht hW => ⟨⟨(), rfl, trivial, by rw [ht]; exact hP, va_K.moved hW.alike hK, hD⟩, hS.F ht⟩) hS.2.2 dX4_cut_139
    · refine lv_iload hx hb dX4_cut_17 (lv_at hl 7 rfl) ?_
      refine lv_iload_n hx hb dX4_cut_19 rfl (lv_at hl 2 rfl) ?_
      refine kI (wr := MDw cA cZ aM aS aI aK sf mf kf m0 m1 m2 m3 m4) (W1 := ([] : va_W)) (wsN := MDw cA cZ aM aS aI aK sf mf kf m0 m1 m2 m3 m4) (rS (As := [.int v7, .int x2]) (rest := []) (W0 := ([] : va_W)) ⟨hx, hb, hml, hown, hts⟩ (c_X4_away l D cA cZ H.size v7 x2) (cwS 2 hts gX4_cut_X4_away rfl rfl rfl (by decide +kernel) ⟨Nat.le_of_ble_eq_true rfl, Nat.le_of_ble_eq_true rfl⟩) hP hD hK hN ([] : List Nat) rfl rfl rfl hl.1 rfl (Nat.le_of_ble_eq_true rfl) dX4_cut_20 ⟨Nat.zero_le _, Nat.zero_le _⟩) hP hD hS hA [] [0, 1, 2, 3] [0, 1, 2, 3] rfl rfl rfl (by decide) rfl rfl (fun H locs hP hD hS => ?_)
      refine lv_aload_n hx hb dX4_cut_23 rfl (lv_at hl 0 rfl) ?_
      refine va_get (D := D) (ci := 4) (v := .ref aS) (C := RX4) (T := TX4) (N := 8) hx hb hts iX4 hown hK hP 0 rfl rfl 0 (by decide) (hts (.fieldLink RX4 7 "LightBurstsModel" "state" "[I") (List.mem_of_getElem? (i := 1) rfl)) (fun _ h9 => h9) rfl dX4_cut_24 ?_
      refine lv_iconst (v := 0) hx hb dX4_cut_27 (by decide) ?_
      refine va_iald hx hb hK hP 1 0 rfl rfl (by unfold vp_in; decide) dX4_cut_28 ?_
      refine lv_eqi (sf 0) rfl ?_
      refine lv_icmp_gt (tgt := 98) hx hb dX4_cut_29 (by decide) (fun c_3 => ?_) (fun c_3 => ?_)
      · refine lv_iinc (v := (v7 + 1)) (lv' := [(7, .int (v7 + 1)), (0, .ref aM), (1, .int x1), (2, .int x2), (3, .int x3), (4, .int x4), (5, .int v5), (6, .int v6)]) hx hb dX4_cut_98 hl (k := 7) rfl rfl (by decide) rfl (fun ls hl => ?_)
        refine lv_goto (tgt := 10) hx hb dX4_cut_101 (by decide) ?_
        rw [g_X4_cut_L10, if_neg c_1, if_pos c_3] at hG
        exact ih10 v5 v6 (v7 + 1) _ _ _ (by exact ms_up c_1 hm10) hG hP hD hS (lv_sub hl [1, 2, 3, 4, 5, 6, 7, 0] rfl)
      · refine lv_aload_n hx hb dX4_cut_32 rfl (lv_at hl 0 rfl) ?_
        refine lv_iload_n hx hb dX4_cut_33 rfl (lv_at hl 1 rfl) ?_
        refine lv_iload hx hb dX4_cut_34 (lv_at hl 7 rfl) ?_
        refine lv_iload_n hx hb dX4_cut_36 rfl (lv_at hl 3 rfl) ?_
        refine lv_iload hx hb dX4_cut_37 (lv_at hl 4 rfl) ?_
        refine kI (wr := ([] : va_W)) (W1 := MDw cA cZ aM aS aI aK sf mf kf m0 m1 m2 m3 m4) (wsN := MDw cA cZ aM aS aI aK sf mf kf m0 m1 m2 m3 m4) (rV (As := [.int x1, .int v7, .int x3, .int x4]) (rest := []) (W0 := MDw cA cZ aM aS aI aK sf mf kf m0 m1 m2 m3 m4) ⟨hx, hb, hml, hown, hts⟩ (c_X4_pieceOf l D cA cZ aM aS aI aK H.size sf mf kf m0 m1 m2 m3 m4 x1 v7 x3 x4 (show (sf 10) ≤ 48 from by exact hm) (show 0 ≤ (x4).toInt ∧ (x4).toInt ≤ 60 from by exact hn)) (cwV 4 hts gX4_cut_X4_pieceOf rfl rfl rfl (by decide +kernel) ⟨Nat.le_of_ble_eq_true rfl, Nat.le_of_ble_eq_true rfl⟩) hP hD hK hN ([0, 1, 2, 3] : List Nat) rfl rfl 4 0 rfl rfl rfl hl.1 rfl (Nat.le_of_ble_eq_true rfl) dX4_cut_39 ⟨Nat.zero_le _, Nat.zero_le _⟩) hP hD hS hA [0, 1, 2, 3] [] [0, 1, 2, 3] rfl rfl rfl (by decide) rfl rfl (fun H locs hP hD hS => ?_)
        refine lv_istore (lv' := [(8, .int (g_X4_pieceOf sf x1 v7 x3 x4)), (0, .ref aM), (1, .int x1), (2, .int x2), (3, .int x3), (4, .int x4), (5, .int v5), (6, .int v6), (7, .int v7)]) hx hb dX4_cut_42 hl (by decide) rfl (fun ls hl => ?_)
        refine lv_iload hx hb dX4_cut_44 (lv_at hl 6 rfl) ?_
        refine lv_if_lt (tgt := 90) hx hb dX4_cut_46 (by decide) (fun c_4 => ?_) (fun c_4 => ?_)
        · refine lv_iload hx hb dX4_cut_90 (lv_at hl 8 rfl) ?_
          refine lv_istore (lv' := [(5, .int v7), (8, .int (g_X4_pieceOf sf x1 v7 x3 x4)), (0, .ref aM), (1, .int x1), (2, .int x2), (3, .int x3), (4, .int x4), (6, .int v6), (7, .int v7)]) hx hb dX4_cut_92 hl (by decide) rfl (fun ls hl => ?_)
          refine lv_iload hx hb dX4_cut_94 (lv_at hl 1 rfl) ?_
          refine lv_istore (lv' := [(6, .int (g_X4_pieceOf sf x1 v7 x3 x4)), (5, .int v7), (8, .int (g_X4_pieceOf sf x1 v7 x3 x4)), (0, .ref aM), (1, .int x1), (2, .int x2), (3, .int x3), (4, .int x4), (7, .int v7)]) hx hb dX4_cut_96 hl (by decide) rfl (fun ls hl => ?_)
          refine lv_iinc (v := (v7 + 1)) (lv' := [(7, .int (v7 + 1)), (6, .int (g_X4_pieceOf sf x1 v7 x3 x4)), (5, .int v7), (8, .int (g_X4_pieceOf sf x1 v7 x3 x4)), (0, .ref aM), (1, .int x1), (2, .int x2), (3, .int x3), (4, .int x4)]) hx hb dX4_cut_98 hl (k := 8) rfl rfl (by decide) rfl (fun ls hl => ?_)
          refine lv_goto (tgt := 10) hx hb dX4_cut_101 (by decide) ?_
          rw [g_X4_cut_L10, if_neg c_1, if_neg c_3, if_pos c_4] at hG
          exact ih10 v7 (g_X4_pieceOf sf x1 v7 x3 x4) (v7 + 1) _ _ _ (by exact ms_up c_1 hm10) hG hP hD hS (lv_sub hl [4, 5, 6, 7, 8, 2, 1, 0] rfl)
        · refine lv_iload hx hb dX4_cut_49 (lv_at hl 0 rfl) ?_
          refine lv_bipush (v := 100) hx hb dX4_cut_51 (by decide) ?_
          refine lv_idiv hx hb dX4_cut_53 (by decide) ?_
          refine lv_iload hx hb dX4_cut_54 (lv_at hl 7 rfl) ?_
          refine lv_bipush (v := 100) hx hb dX4_cut_56 (by decide) ?_
          refine lv_idiv hx hb dX4_cut_58 (by decide) ?_
          refine lv_icmp_gt (tgt := 90) hx hb dX4_cut_59 (by decide) (fun c_5 => ?_) (fun c_5 => ?_)
          · refine lv_iload hx hb dX4_cut_90 (lv_at hl 8 rfl) ?_
            refine lv_istore (lv' := [(5, .int v7), (8, .int (g_X4_pieceOf sf x1 v7 x3 x4)), (0, .ref aM), (1, .int x1), (2, .int x2), (3, .int x3), (4, .int x4), (6, .int v6), (7, .int v7)]) hx hb dX4_cut_92 hl (by decide) rfl (fun ls hl => ?_)
            refine lv_iload hx hb dX4_cut_94 (lv_at hl 1 rfl) ?_
            refine lv_istore (lv' := [(6, .int (g_X4_pieceOf sf x1 v7 x3 x4)), (5, .int v7), (8, .int (g_X4_pieceOf sf x1 v7 x3 x4)), (0, .ref aM), (1, .int x1), (2, .int x2), (3, .int x3), (4, .int x4), (7, .int v7)]) hx hb dX4_cut_96 hl (by decide) rfl (fun ls hl => ?_)
            refine lv_iinc (v := (v7 + 1)) (lv' := [(7, .int (v7 + 1)), (6, .int (g_X4_pieceOf sf x1 v7 x3 x4)), (5, .int v7), (8, .int (g_X4_pieceOf sf x1 v7 x3 x4)), (0, .ref aM), (1, .int x1), (2, .int x2), (3, .int x3), (4, .int x4)]) hx hb dX4_cut_98 hl (k := 8) rfl rfl (by decide) rfl (fun ls hl => ?_)
            refine lv_goto (tgt := 10) hx hb dX4_cut_101 (by decide) ?_
            rw [g_X4_cut_L10, if_neg c_1, if_neg c_3, if_neg c_4, if_pos c_5] at hG
            exact ih10 v7 (g_X4_pieceOf sf x1 v7 x3 x4) (v7 + 1) _ _ _ (by exact ms_up c_1 hm10) hG hP hD hS (lv_sub hl [4, 5, 6, 7, 8, 2, 1, 0] rfl)
          · refine lv_iload hx hb dX4_cut_62 (lv_at hl 0 rfl) ?_
            refine lv_bipush (v := 100) hx hb dX4_cut_64 (by decide) ?_
            refine lv_idiv hx hb dX4_cut_66 (by decide) ?_
            refine lv_iload hx hb dX4_cut_67 (lv_at hl 7 rfl) ?_
            refine lv_bipush (v := 100) hx hb dX4_cut_69 (by decide) ?_
            refine lv_idiv hx hb dX4_cut_71 (by decide) ?_
            refine lv_icmp_ne (tgt := 98) hx hb dX4_cut_72 (by decide) (fun c_6 => ?_) (fun c_6 => ?_)
            · refine lv_iinc (v := (v7 + 1)) (lv' := [(7, .int (v7 + 1)), (8, .int (g_X4_pieceOf sf x1 v7 x3 x4)), (0, .ref aM), (1, .int x1), (2, .int x2), (3, .int x3), (4, .int x4), (5, .int v5), (6, .int v6)]) hx hb dX4_cut_98 hl (k := 8) rfl rfl (by decide) rfl (fun ls hl => ?_)
              refine lv_goto (tgt := 10) hx hb dX4_cut_101 (by decide) ?_
              rw [g_X4_cut_L10, if_neg c_1, if_neg c_3, if_neg c_4, if_neg c_5, if_neg c_6] at hG
              exact ih10 v5 v6 (v7 + 1) _ _ _ (by exact ms_up c_1 hm10) hG hP hD hS (lv_sub hl [2, 3, 4, 5, 6, 7, 8, 0] rfl)
            · refine lv_iload hx hb dX4_cut_75 (lv_at hl 8 rfl) ?_
              refine lv_iload_n hx hb dX4_cut_77 rfl (lv_at hl 3 rfl) ?_
              refine kI (wr := MDw cA cZ aM aS aI aK sf mf kf m0 m1 m2 m3 m4) (W1 := ([] : va_W)) (wsN := MDw cA cZ aM aS aI aK sf mf kf m0 m1 m2 m3 m4) (rS (As := [.int v7, .int x2]) (rest := []) (W0 := ([] : va_W)) ⟨hx, hb, hml, hown, hts⟩ (c_X4_away l D cA cZ H.size v7 x2) (cwS 2 hts gX4_cut_X4_away rfl rfl rfl (by decide +kernel) ⟨Nat.le_of_ble_eq_true rfl, Nat.le_of_ble_eq_true rfl⟩) hP hD hK hN ([] : List Nat) rfl rfl rfl hl.1 rfl (Nat.le_of_ble_eq_true rfl) dX4_cut_78 ⟨Nat.zero_le _, Nat.zero_le _⟩) hP hD hS hA [] [0, 1, 2, 3] [0, 1, 2, 3] rfl rfl rfl (by decide) rfl rfl (fun H locs hP hD hS => ?_)
              refine lv_iload hx hb dX4_cut_81 (lv_at hl 6 rfl) ?_
              refine lv_iload_n hx hb dX4_cut_83 rfl (lv_at hl 3 rfl) ?_
              refine kI (wr := MDw cA cZ aM aS aI aK sf mf kf m0 m1 m2 m3 m4) (W1 := ([] : va_W)) (wsN := MDw cA cZ aM aS aI aK sf mf kf m0 m1 m2 m3 m4) (rS (As := [.int v5, .int x2]) (rest := [.int (g_X4_away v7 x2)]) (W0 := ([] : va_W)) ⟨hx, hb, hml, hown, hts⟩ (c_X4_away l D cA cZ H.size v5 x2) (cwS 2 hts gX4_cut_X4_away rfl rfl rfl (by decide +kernel) ⟨Nat.le_of_ble_eq_true rfl, Nat.le_of_ble_eq_true rfl⟩) hP hD hK hN ([] : List Nat) rfl rfl rfl hl.1 rfl (Nat.le_of_ble_eq_true rfl) dX4_cut_84 ⟨Nat.zero_le _, Nat.zero_le _⟩) hP hD hS hA [] [0, 1, 2, 3] [0, 1, 2, 3] rfl rfl rfl (by decide) rfl rfl (fun H locs hP hD hS => ?_)
              refine lv_icmp_ge (tgt := 98) hx hb dX4_cut_87 (by decide) (fun c_7 => ?_) (fun c_7 => ?_)
              · refine lv_iinc (v := (v7 + 1)) (lv' := [(7, .int (v7 + 1)), (8, .int (g_X4_pieceOf sf x1 v7 x3 x4)), (0, .ref aM), (1, .int x1), (2, .int x2), (3, .int x3), (4, .int x4), (5, .int v5), (6, .int v6)]) hx hb dX4_cut_98 hl (k := 8) rfl rfl (by decide) rfl (fun ls hl => ?_)
                refine lv_goto (tgt := 10) hx hb dX4_cut_101 (by decide) ?_
                rw [g_X4_cut_L10, if_neg c_1, if_neg c_3, if_neg c_4, if_neg c_5, if_pos c_6, if_pos c_7] at hG
                exact ih10 v5 v6 (v7 + 1) _ _ _ (by exact ms_up c_1 hm10) hG hP hD hS (lv_sub hl [2, 3, 4, 5, 6, 7, 8, 0] rfl)
              · refine lv_iload hx hb dX4_cut_90 (lv_at hl 8 rfl) ?_
                refine lv_istore (lv' := [(5, .int v7), (8, .int (g_X4_pieceOf sf x1 v7 x3 x4)), (0, .ref aM), (1, .int x1), (2, .int x2), (3, .int x3), (4, .int x4), (6, .int v6), (7, .int v7)]) hx hb dX4_cut_92 hl (by decide) rfl (fun ls hl => ?_)
                refine lv_iload hx hb dX4_cut_94 (lv_at hl 1 rfl) ?_
                refine lv_istore (lv' := [(6, .int (g_X4_pieceOf sf x1 v7 x3 x4)), (5, .int v7), (8, .int (g_X4_pieceOf sf x1 v7 x3 x4)), (0, .ref aM), (1, .int x1), (2, .int x2), (3, .int x3), (4, .int x4), (7, .int v7)]) hx hb dX4_cut_96 hl (by decide) rfl (fun ls hl => ?_)
                refine lv_iinc (v := (v7 + 1)) (lv' := [(7, .int (v7 + 1)), (6, .int (g_X4_pieceOf sf x1 v7 x3 x4)), (5, .int v7), (8, .int (g_X4_pieceOf sf x1 v7 x3 x4)), (0, .ref aM), (1, .int x1), (2, .int x2), (3, .int x3), (4, .int x4)]) hx hb dX4_cut_98 hl (k := 8) rfl rfl (by decide) rfl (fun ls hl => ?_)
                refine lv_goto (tgt := 10) hx hb dX4_cut_101 (by decide) ?_
                rw [g_X4_cut_L10, if_neg c_1, if_neg c_3, if_neg c_4, if_neg c_5, if_pos c_6, if_neg c_7] at hG
                exact ih10 v7 (g_X4_pieceOf sf x1 v7 x3 x4) (v7 + 1) _ _ _ (by exact ms_up c_1 hm10) hG hP hD hS (lv_sub hl [4, 5, 6, 7, 8, 2, 1, 0] rfl)

theorem nlt_of_le {a : Int32} (h : 0 ≤ a) : ¬ a < 0 := by
  rw [Int32.le_iff_toInt_le] at h
  rw [Int32.lt_iff_toInt_lt]
  omega

def g_X4_place (sf : (Nat → Int32)) (x1 : Int32) (x2 : Int32) (x3 : Int32) (x4 : Int32) : Int32 × Int32 × Int32 × Int32 × Int32 := (if (g_X4_colourFor sf x1 x2 x3 x4) < 0 then (if (g_X4_lineFor sf x1 x2 x3 x4) < 0 then (if (sf 4) = 1 then ((g_X4_cut sf ((g_X4_get 3 (-6) (-6) 0 (-6)).1) ((g_X4_get 3 (-6) (-6) 0 (-6)).2.1) ((g_X4_get 3 (-6) (-6) 0 (-6)).2.2.1) ((g_X4_get 3 (-6) (-6) 0 (-6)).2.2.2.1) ((g_X4_get 3 (-6) (-6) 0 (-6)).2.2.2.2) x1 x2 x3 x4).1, (g_X4_cut sf ((g_X4_get 3 (-6) (-6) 0 (-6)).1) ((g_X4_get 3 (-6) (-6) 0 (-6)).2.1) ((g_X4_get 3 (-6) (-6) 0 (-6)).2.2.1) ((g_X4_get 3 (-6) (-6) 0 (-6)).2.2.2.1) ((g_X4_get 3 (-6) (-6) 0 (-6)).2.2.2.2) x1 x2 x3 x4).2.1, (g_X4_cut sf ((g_X4_get 3 (-6) (-6) 0 (-6)).1) ((g_X4_get 3 (-6) (-6) 0 (-6)).2.1) ((g_X4_get 3 (-6) (-6) 0 (-6)).2.2.1) ((g_X4_get 3 (-6) (-6) 0 (-6)).2.2.2.1) ((g_X4_get 3 (-6) (-6) 0 (-6)).2.2.2.2) x1 x2 x3 x4).2.2.1, (g_X4_cut sf ((g_X4_get 3 (-6) (-6) 0 (-6)).1) ((g_X4_get 3 (-6) (-6) 0 (-6)).2.1) ((g_X4_get 3 (-6) (-6) 0 (-6)).2.2.1) ((g_X4_get 3 (-6) (-6) 0 (-6)).2.2.2.1) ((g_X4_get 3 (-6) (-6) 0 (-6)).2.2.2.2) x1 x2 x3 x4).2.2.2.1, (g_X4_cut sf ((g_X4_get 3 (-6) (-6) 0 (-6)).1) ((g_X4_get 3 (-6) (-6) 0 (-6)).2.1) ((g_X4_get 3 (-6) (-6) 0 (-6)).2.2.1) ((g_X4_get 3 (-6) (-6) 0 (-6)).2.2.2.1) ((g_X4_get 3 (-6) (-6) 0 (-6)).2.2.2.2) x1 x2 x3 x4).2.2.2.2) else ((g_X4_get 3 (-6) (-6) 0 (-6)).1, (g_X4_get 3 (-6) (-6) 0 (-6)).2.1, (g_X4_get 3 (-6) (-6) 0 (-6)).2.2.1, (g_X4_get 3 (-6) (-6) 0 (-6)).2.2.2.1, (g_X4_get 3 (-6) (-6) 0 (-6)).2.2.2.2)) else ((g_X4_get 1 (g_X4_colourFor sf x1 x2 (x3 + (sf (6 + (g_X4_lineFor sf x1 x2 x3 x4)).toNatClampNeg)) x4) (x3 + (sf (6 + (g_X4_lineFor sf x1 x2 x3 x4)).toNatClampNeg)) x4 (g_X4_lineFor sf x1 x2 x3 x4)).1, (g_X4_get 1 (g_X4_colourFor sf x1 x2 (x3 + (sf (6 + (g_X4_lineFor sf x1 x2 x3 x4)).toNatClampNeg)) x4) (x3 + (sf (6 + (g_X4_lineFor sf x1 x2 x3 x4)).toNatClampNeg)) x4 (g_X4_lineFor sf x1 x2 x3 x4)).2.1, (g_X4_get 1 (g_X4_colourFor sf x1 x2 (x3 + (sf (6 + (g_X4_lineFor sf x1 x2 x3 x4)).toNatClampNeg)) x4) (x3 + (sf (6 + (g_X4_lineFor sf x1 x2 x3 x4)).toNatClampNeg)) x4 (g_X4_lineFor sf x1 x2 x3 x4)).2.2.1, (g_X4_get 1 (g_X4_colourFor sf x1 x2 (x3 + (sf (6 + (g_X4_lineFor sf x1 x2 x3 x4)).toNatClampNeg)) x4) (x3 + (sf (6 + (g_X4_lineFor sf x1 x2 x3 x4)).toNatClampNeg)) x4 (g_X4_lineFor sf x1 x2 x3 x4)).2.2.2.1, (g_X4_get 1 (g_X4_colourFor sf x1 x2 (x3 + (sf (6 + (g_X4_lineFor sf x1 x2 x3 x4)).toNatClampNeg)) x4) (x3 + (sf (6 + (g_X4_lineFor sf x1 x2 x3 x4)).toNatClampNeg)) x4 (g_X4_lineFor sf x1 x2 x3 x4)).2.2.2.2)) else ((g_X4_get 0 (g_X4_colourFor sf x1 x2 x3 x4) x3 x4 (-6)).1, (g_X4_get 0 (g_X4_colourFor sf x1 x2 x3 x4) x3 x4 (-6)).2.1, (g_X4_get 0 (g_X4_colourFor sf x1 x2 x3 x4) x3 x4 (-6)).2.2.1, (g_X4_get 0 (g_X4_colourFor sf x1 x2 x3 x4) x3 x4 (-6)).2.2.2.1, (g_X4_get 0 (g_X4_colourFor sf x1 x2 x3 x4) x3 x4 (-6)).2.2.2.2))
set_option maxHeartbeats 4000000 in
set_option maxRecDepth 100000 in
theorem c_X4_place (l : Launch) (D : va_G) (cA cZ : ClassId) (aM : Nat) (aS : Nat) (aI : Nat) (aK : Nat) (szz : Nat) (sf : (Nat → Int32)) (mf : (Nat → Int32)) (kf : (Nat → Int32)) (m0 : Int32) (m1 : Int32) (m2 : Int32) (m3 : Int32) (m4 : Int32) (x1 : Int32) (x2 : Int32) (x3 : Int32) (x4 : Int32) (hm : (sf 10) ≤ 48) (hn : 0 ≤ (x4).toInt ∧ (x4).toInt ≤ 60) : MetV l yX4_place wsX4_place 7 170 D (tyA cA cZ) [.ref aM, .int x1, .int x2, .int x3, .int x4] (MDw cA cZ aM aS aI aK sf mf kf m0 m1 m2 m3 m4) szz (MDw cA cZ aM aS aI aK sf mf kf ((g_X4_place sf x1 x2 x3 x4).1) ((g_X4_place sf x1 x2 x3 x4).2.1) ((g_X4_place sf x1 x2 x3 x4).2.2.1) ((g_X4_place sf x1 x2 x3 x4).2.2.2.1) ((g_X4_place sf x1 x2 x3 x4).2.2.2.2)) := by
  refine Met.ofW (cc := cX4_place) (maxL := 8) (ret := none) (by decide) rfl ?_
  intro p e s m args below meth c s₁ B hml hv
  obtain ⟨rfl, hsz, hP, hK, hD0, hN⟩ := hv
  have hx := B.exec
  have hb := B.bytes
  have hr := B.returns
  have hts := atoms_spec (ws := wsX4_place) B.pre
  have hown : s.vm.findClass RX4 = some m.cls := findClass_of_methodNamed B.named
  have hlocks := B.notSynchronized
  have iX4 : ∀ w ∈ wsX40, w ∈ wsX4_place := fun _ h => List.mem_cons_of_mem _ (List.mem_append_right _ h)
  subst hsz
  have hD := hD0.self (sz := s.heap.size)
  generalize hAe : va_A (MDw cA cZ aM aS aI aK sf mf kf m0 m1 m2 m3 m4) s.heap.size = A at hD ⊢
  have hA : ∀ q : Nat, s.heap.size ≤ q → A q := fun q h => by rw [← hAe]; exact Or.inr h
  have hS : va_S A s.heap s.heap [] := va_S.rf
  have hP : va_P D vwCl (MDw cA cZ aM aS aI aK sf mf kf m0 m1 m2 m3 m4) s.heap := hP
  obtain ⟨G, hG⟩ : ∃ G, G = (g_X4_place sf x1 x2 x3 x4) := ⟨_, rfl⟩
  rw [← hG]
  have hl := lv_entry ([.ref aM, .int x1, .int x2, .int x3, .int x4]) (n := 8) (Nat.le_of_ble_eq_true rfl)
  rw [lg_entry_eq]
  generalize (lg_sl ([.ref aM, .int x1, .int x2, .int x3, .int x4]) ++ List.replicate (8 - (lg_sl ([.ref aM, .int x1, .int x2, .int x3, .int x4])).length) Slot.unset).toArray = ls at hl ⊢
  have hl : lv_has ls 8 [(0, .ref aM), (1, .int x1), (2, .int x2), (3, .int x3), (4, .int x4)] := hl
  refine lv_aload_n hx hb dX4_place_0 rfl (lv_at hl 0 rfl) ?_
  refine lv_iload_n hx hb dX4_place_1 rfl (lv_at hl 1 rfl) ?_
  refine lv_iload_n hx hb dX4_place_2 rfl (lv_at hl 2 rfl) ?_
  refine lv_iload_n hx hb dX4_place_3 rfl (lv_at hl 3 rfl) ?_
  refine lv_iload hx hb dX4_place_4 (lv_at hl 4 rfl) ?_
  refine kI (wr := ([] : va_W)) (W1 := MDw cA cZ aM aS aI aK sf mf kf m0 m1 m2 m3 m4) (wsN := MDw cA cZ aM aS aI aK sf mf kf m0 m1 m2 m3 m4) (rV (As := [.int x1, .int x2, .int x3, .int x4]) (rest := []) (W0 := MDw cA cZ aM aS aI aK sf mf kf m0 m1 m2 m3 m4) ⟨hx, hb, hml, hown, hts⟩ (c_X4_colourFor l D cA cZ aM aS aI aK s.heap.size sf mf kf m0 m1 m2 m3 m4 x1 x2 x3 x4 (show (sf 10) ≤ 48 from by exact hm)) (cwV 4 hts gX4_place_X4_colourFor rfl rfl rfl (by decide +kernel) ⟨Nat.le_of_ble_eq_true rfl, Nat.le_of_ble_eq_true rfl⟩) hP hD hK hN ([0, 1, 2, 3] : List Nat) rfl rfl 4 0 rfl rfl rfl hl.1 rfl (Nat.le_of_ble_eq_true rfl) dX4_place_6 ⟨Nat.zero_le _, Nat.zero_le _⟩) hP hD hS hA [0, 1, 2, 3] [] [0, 1, 2, 3] rfl rfl rfl (by decide) rfl rfl (fun H locs hP hD hS => ?_)
  refine lv_istore (lv' := [(5, .int (g_X4_colourFor sf x1 x2 x3 x4)), (0, .ref aM), (1, .int x1), (2, .int x2), (3, .int x3), (4, .int x4)]) hx hb dX4_place_9 hl (by decide) rfl (fun ls hl => ?_)
  refine lv_iload hx hb dX4_place_11 (lv_at hl 0 rfl) ?_
  refine lv_if_lt (tgt := 29) hx hb dX4_place_13 (by decide) (fun c_1 => ?_) (fun c_1 => ?_)
  · refine lv_aload_n hx hb dX4_place_29 rfl (lv_at hl 1 rfl) ?_
    refine lv_iload_n hx hb dX4_place_30 rfl (lv_at hl 2 rfl) ?_
    refine lv_iload_n hx hb dX4_place_31 rfl (lv_at hl 3 rfl) ?_
    refine lv_iload_n hx hb dX4_place_32 rfl (lv_at hl 4 rfl) ?_
    refine lv_iload hx hb dX4_place_33 (lv_at hl 5 rfl) ?_
    refine kI (wr := ([] : va_W)) (W1 := MDw cA cZ aM aS aI aK sf mf kf m0 m1 m2 m3 m4) (wsN := MDw cA cZ aM aS aI aK sf mf kf m0 m1 m2 m3 m4) (rV (As := [.int x1, .int x2, .int x3, .int x4]) (rest := []) (W0 := MDw cA cZ aM aS aI aK sf mf kf m0 m1 m2 m3 m4) ⟨hx, hb, hml, hown, hts⟩ (c_X4_lineFor l D cA cZ aM aS aI aK H.size sf mf kf m0 m1 m2 m3 m4 x1 x2 x3 x4 (show (sf 10) ≤ 48 from by exact hm)) (cwV 4 hts gX4_place_X4_lineFor rfl rfl rfl (by decide +kernel) ⟨Nat.le_of_ble_eq_true rfl, Nat.le_of_ble_eq_true rfl⟩) hP hD hK hN ([0, 1, 2, 3] : List Nat) rfl rfl 4 0 rfl rfl rfl hl.1 rfl (Nat.le_of_ble_eq_true rfl) dX4_place_35 ⟨Nat.zero_le _, Nat.zero_le _⟩) hP hD hS hA [0, 1, 2, 3] [] [0, 1, 2, 3] rfl rfl rfl (by decide) rfl rfl (fun H locs hP hD hS => ?_)
    refine lv_istore (lv' := [(6, .int (g_X4_lineFor sf x1 x2 x3 x4)), (5, .int (g_X4_colourFor sf x1 x2 x3 x4)), (0, .ref aM), (1, .int x1), (2, .int x2), (3, .int x3), (4, .int x4)]) hx hb dX4_place_38 hl (by decide) rfl (fun ls hl => ?_)
    refine lv_iload hx hb dX4_place_40 (lv_at hl 0 rfl) ?_
    refine lv_if_lt (tgt := 81) hx hb dX4_place_42 (by decide) (fun c_2 => ?_) (fun c_2 => ?_)
    · refine lv_aload_n hx hb dX4_place_81 rfl (lv_at hl 2 rfl) ?_
      refine lv_iconst (v := 3) hx hb dX4_place_82 (by decide) ?_
      refine lv_bipush (v := (-6)) hx hb dX4_place_83 (by decide) ?_
      refine lv_bipush (v := (-6)) hx hb dX4_place_85 (by decide) ?_
      refine lv_iconst (v := 0) hx hb dX4_place_87 (by decide) ?_
      refine lv_bipush (v := (-6)) hx hb dX4_place_88 (by decide) ?_
      refine kV (wr := ([] : va_W)) (W1 := MDw cA cZ aM aS aI aK sf mf kf ((g_X4_get 3 (-6) (-6) 0 (-6)).1) ((g_X4_get 3 (-6) (-6) 0 (-6)).2.1) ((g_X4_get 3 (-6) (-6) 0 (-6)).2.2.1) ((g_X4_get 3 (-6) (-6) 0 (-6)).2.2.2.1) ((g_X4_get 3 (-6) (-6) 0 (-6)).2.2.2.2)) (wsN := MDw cA cZ aM aS aI aK sf mf kf ((g_X4_get 3 (-6) (-6) 0 (-6)).1) ((g_X4_get 3 (-6) (-6) 0 (-6)).2.1) ((g_X4_get 3 (-6) (-6) 0 (-6)).2.2.1) ((g_X4_get 3 (-6) (-6) 0 (-6)).2.2.2.1) ((g_X4_get 3 (-6) (-6) 0 (-6)).2.2.2.2)) (rV (As := [.int 3, .int (-6), .int (-6), .int 0, .int (-6)]) (rest := []) (W0 := MDw cA cZ aM aS aI aK sf mf kf m0 m1 m2 m3 m4) ⟨hx, hb, hml, hown, hts⟩ (c_X4_get l D cA cZ aM aS aI aK H.size sf mf kf m0 m1 m2 m3 m4 3 (-6) (-6) 0 (-6)) (cwV 5 hts gX4_place_X4_get rfl rfl rfl (by decide +kernel) ⟨Nat.le_of_ble_eq_true rfl, Nat.le_of_ble_eq_true rfl⟩) hP hD hK hN ([0, 1, 2, 3] : List Nat) rfl rfl 4 0 rfl rfl rfl hl.1 rfl (Nat.le_of_ble_eq_true rfl) dX4_place_90 ⟨Nat.zero_le _, Nat.zero_le _⟩) hP hD hS hA [0, 1, 2, 3] [] [0, 1, 2, 3] rfl rfl rfl (by decide) rfl rfl (fun H locs hP hD hS => ?_)
      refine lv_aload_n hx hb dX4_place_93 rfl (lv_at hl 2 rfl) ?_
      refine va_get (D := D) (ci := 4) (v := .ref aS) (C := RX4) (T := TX4) (N := 8) hx hb hts iX4 hown hK hP 0 rfl rfl 0 (by decide) (hts (.fieldLink RX4 7 "LightBurstsModel" "state" "[I") (List.mem_of_getElem? (i := 1) rfl)) (fun _ h9 => h9) rfl dX4_place_94 ?_
      refine lv_iconst (v := 4) hx hb dX4_place_97 (by decide) ?_
      refine va_iald hx hb hK hP 1 0 rfl rfl (by unfold vp_in; decide) dX4_place_98 ?_
      refine lv_eqi (sf 4) rfl ?_
      refine lv_iconst (v := 1) hx hb dX4_place_99 (by decide) ?_
      refine lv_icmp_ne (tgt := 112) hx hb dX4_place_100 (by decide) (fun c_3 => ?_) (fun c_3 => ?_)
      · rw [g_X4_place, if_pos c_1, if_pos c_2, if_neg c_3] at hG
        rw [hG]
        exact W.vret hx hb hr (fun t ht hW => ⟨⟨(), rfl, trivial, by rw [ht]; exact hP, va_K.moved hW.alike hK, hD⟩, hS.F ht⟩) hS.2.2 dX4_place_112
      · refine lv_aload_n hx hb dX4_place_103 rfl (lv_at hl 2 rfl) ?_
        refine lv_iload_n hx hb dX4_place_104 rfl (lv_at hl 3 rfl) ?_
        refine lv_iload_n hx hb dX4_place_105 rfl (lv_at hl 4 rfl) ?_
        refine lv_iload_n hx hb dX4_place_106 rfl (lv_at hl 5 rfl) ?_
        refine lv_iload hx hb dX4_place_107 (lv_at hl 6 rfl) ?_
        refine kV (wr := ([] : va_W)) (W1 := MDw cA cZ aM aS aI aK sf mf kf ((g_X4_cut sf ((g_X4_get 3 (-6) (-6) 0 (-6)).1) ((g_X4_get 3 (-6) (-6) 0 (-6)).2.1) ((g_X4_get 3 (-6) (-6) 0 (-6)).2.2.1) ((g_X4_get 3 (-6) (-6) 0 (-6)).2.2.2.1) ((g_X4_get 3 (-6) (-6) 0 (-6)).2.2.2.2) x1 x2 x3 x4).1) ((g_X4_cut sf ((g_X4_get 3 (-6) (-6) 0 (-6)).1) ((g_X4_get 3 (-6) (-6) 0 (-6)).2.1) ((g_X4_get 3 (-6) (-6) 0 (-6)).2.2.1) ((g_X4_get 3 (-6) (-6) 0 (-6)).2.2.2.1) ((g_X4_get 3 (-6) (-6) 0 (-6)).2.2.2.2) x1 x2 x3 x4).2.1) ((g_X4_cut sf ((g_X4_get 3 (-6) (-6) 0 (-6)).1) ((g_X4_get 3 (-6) (-6) 0 (-6)).2.1) ((g_X4_get 3 (-6) (-6) 0 (-6)).2.2.1) ((g_X4_get 3 (-6) (-6) 0 (-6)).2.2.2.1) ((g_X4_get 3 (-6) (-6) 0 (-6)).2.2.2.2) x1 x2 x3 x4).2.2.1) ((g_X4_cut sf ((g_X4_get 3 (-6) (-6) 0 (-6)).1) ((g_X4_get 3 (-6) (-6) 0 (-6)).2.1) ((g_X4_get 3 (-6) (-6) 0 (-6)).2.2.1) ((g_X4_get 3 (-6) (-6) 0 (-6)).2.2.2.1) ((g_X4_get 3 (-6) (-6) 0 (-6)).2.2.2.2) x1 x2 x3 x4).2.2.2.1) ((g_X4_cut sf ((g_X4_get 3 (-6) (-6) 0 (-6)).1) ((g_X4_get 3 (-6) (-6) 0 (-6)).2.1) ((g_X4_get 3 (-6) (-6) 0 (-6)).2.2.1) ((g_X4_get 3 (-6) (-6) 0 (-6)).2.2.2.1) ((g_X4_get 3 (-6) (-6) 0 (-6)).2.2.2.2) x1 x2 x3 x4).2.2.2.2)) (wsN := MDw cA cZ aM aS aI aK sf mf kf ((g_X4_cut sf ((g_X4_get 3 (-6) (-6) 0 (-6)).1) ((g_X4_get 3 (-6) (-6) 0 (-6)).2.1) ((g_X4_get 3 (-6) (-6) 0 (-6)).2.2.1) ((g_X4_get 3 (-6) (-6) 0 (-6)).2.2.2.1) ((g_X4_get 3 (-6) (-6) 0 (-6)).2.2.2.2) x1 x2 x3 x4).1) ((g_X4_cut sf ((g_X4_get 3 (-6) (-6) 0 (-6)).1) ((g_X4_get 3 (-6) (-6) 0 (-6)).2.1) ((g_X4_get 3 (-6) (-6) 0 (-6)).2.2.1) ((g_X4_get 3 (-6) (-6) 0 (-6)).2.2.2.1) ((g_X4_get 3 (-6) (-6) 0 (-6)).2.2.2.2) x1 x2 x3 x4).2.1) ((g_X4_cut sf ((g_X4_get 3 (-6) (-6) 0 (-6)).1) ((g_X4_get 3 (-6) (-6) 0 (-6)).2.1) ((g_X4_get 3 (-6) (-6) 0 (-6)).2.2.1) ((g_X4_get 3 (-6) (-6) 0 (-6)).2.2.2.1) ((g_X4_get 3 (-6) (-6) 0 (-6)).2.2.2.2) x1 x2 x3 x4).2.2.1) ((g_X4_cut sf ((g_X4_get 3 (-6) (-6) 0 (-6)).1) ((g_X4_get 3 (-6) (-6) 0 (-6)).2.1) ((g_X4_get 3 (-6) (-6) 0 (-6)).2.2.1) ((g_X4_get 3 (-6) (-6) 0 (-6)).2.2.2.1) ((g_X4_get 3 (-6) (-6) 0 (-6)).2.2.2.2) x1 x2 x3 x4).2.2.2.1) ((g_X4_cut sf ((g_X4_get 3 (-6) (-6) 0 (-6)).1) ((g_X4_get 3 (-6) (-6) 0 (-6)).2.1) ((g_X4_get 3 (-6) (-6) 0 (-6)).2.2.1) ((g_X4_get 3 (-6) (-6) 0 (-6)).2.2.2.1) ((g_X4_get 3 (-6) (-6) 0 (-6)).2.2.2.2) x1 x2 x3 x4).2.2.2.2)) (rV (As := [.int x1, .int x2, .int x3, .int x4]) (rest := []) (W0 := MDw cA cZ aM aS aI aK sf mf kf ((g_X4_get 3 (-6) (-6) 0 (-6)).1) ((g_X4_get 3 (-6) (-6) 0 (-6)).2.1) ((g_X4_get 3 (-6) (-6) 0 (-6)).2.2.1) ((g_X4_get 3 (-6) (-6) 0 (-6)).2.2.2.1) ((g_X4_get 3 (-6) (-6) 0 (-6)).2.2.2.2)) ⟨hx, hb, hml, hown, hts⟩ (c_X4_cut l D cA cZ aM aS aI aK H.size sf mf kf ((g_X4_get 3 (-6) (-6) 0 (-6)).1) ((g_X4_get 3 (-6) (-6) 0 (-6)).2.1) ((g_X4_get 3 (-6) (-6) 0 (-6)).2.2.1) ((g_X4_get 3 (-6) (-6) 0 (-6)).2.2.2.1) ((g_X4_get 3 (-6) (-6) 0 (-6)).2.2.2.2) x1 x2 x3 x4 (show (sf 10) ≤ 48 from by exact hm) (show 0 ≤ (x4).toInt ∧ (x4).toInt ≤ 60 from by exact hn)) (cwV 4 hts gX4_place_X4_cut rfl rfl rfl (by decide +kernel) ⟨Nat.le_of_ble_eq_true rfl, Nat.le_of_ble_eq_true rfl⟩) hP hD hK hN ([0, 1, 2, 3] : List Nat) rfl rfl 4 0 rfl rfl rfl hl.1 rfl (Nat.le_of_ble_eq_true rfl) dX4_place_109 ⟨Nat.zero_le _, Nat.zero_le _⟩) hP hD hS hA [0, 1, 2, 3] [] [0, 1, 2, 3] rfl rfl rfl (by decide) rfl rfl (fun H locs hP hD hS => ?_)
        rw [g_X4_place, if_pos c_1, if_pos c_2, if_pos c_3] at hG
        rw [hG]
        exact W.vret hx hb hr (fun t ht hW => ⟨⟨(), rfl, trivial, by rw [ht]; exact hP, va_K.moved hW.alike hK, hD⟩, hS.F ht⟩) hS.2.2 dX4_place_112
    · refine lv_iload_n hx hb dX4_place_45 rfl (lv_at hl 5 rfl) ?_
      refine lv_aload_n hx hb dX4_place_46 rfl (lv_at hl 2 rfl) ?_
      refine va_get (D := D) (ci := 4) (v := .ref aS) (C := RX4) (T := TX4) (N := 8) hx hb hts iX4 hown hK hP 0 rfl rfl 0 (by decide) (hts (.fieldLink RX4 7 "LightBurstsModel" "state" "[I") (List.mem_of_getElem? (i := 1) rfl)) (fun _ h9 => h9) rfl dX4_place_47 ?_
      refine lv_bipush (v := 6) hx hb dX4_place_50 (by decide) ?_
      refine lv_iload hx hb dX4_place_52 (lv_at hl 0 rfl) ?_
      refine lv_iadd hx hb dX4_place_54 ?_
      refine va_iald hx hb hK hP 1 0 rfl rfl (lnk_in lineFor_ok c_2) dX4_place_55 ?_
      refine lv_iadd hx hb dX4_place_56 ?_
      refine lv_istore (lv' := [(7, .int (x3 + (sf (6 + (g_X4_lineFor sf x1 x2 x3 x4)).toNatClampNeg))), (6, .int (g_X4_lineFor sf x1 x2 x3 x4)), (5, .int (g_X4_colourFor sf x1 x2 x3 x4)), (0, .ref aM), (1, .int x1), (2, .int x2), (3, .int x3), (4, .int x4)]) hx hb dX4_place_57 hl (by decide) rfl (fun ls hl => ?_)
      refine lv_aload_n hx hb dX4_place_59 rfl (lv_at hl 3 rfl) ?_
      refine lv_iconst (v := 1) hx hb dX4_place_60 (by decide) ?_
      refine lv_aload_n hx hb dX4_place_61 rfl (lv_at hl 3 rfl) ?_
      refine lv_iload_n hx hb dX4_place_62 rfl (lv_at hl 4 rfl) ?_
      refine lv_iload_n hx hb dX4_place_63 rfl (lv_at hl 5 rfl) ?_
      refine lv_iload hx hb dX4_place_64 (lv_at hl 0 rfl) ?_
      refine lv_iload hx hb dX4_place_66 (lv_at hl 7 rfl) ?_
      refine kI (wr := ([] : va_W)) (W1 := MDw cA cZ aM aS aI aK sf mf kf m0 m1 m2 m3 m4) (wsN := MDw cA cZ aM aS aI aK sf mf kf m0 m1 m2 m3 m4) (rV (As := [.int x1, .int x2, .int (x3 + (sf (6 + (g_X4_lineFor sf x1 x2 x3 x4)).toNatClampNeg)), .int x4]) (rest := [.int 1, .ref aM]) (W0 := MDw cA cZ aM aS aI aK sf mf kf m0 m1 m2 m3 m4) ⟨hx, hb, hml, hown, hts⟩ (c_X4_colourFor l D cA cZ aM aS aI aK H.size sf mf kf m0 m1 m2 m3 m4 x1 x2 (x3 + (sf (6 + (g_X4_lineFor sf x1 x2 x3 x4)).toNatClampNeg)) x4 (show (sf 10) ≤ 48 from by exact hm)) (cwV 4 hts gX4_place_X4_colourFor rfl rfl rfl (by decide +kernel) ⟨Nat.le_of_ble_eq_true rfl, Nat.le_of_ble_eq_true rfl⟩) hP hD hK hN ([0, 1, 2, 3] : List Nat) rfl rfl 4 0 rfl rfl rfl hl.1 rfl (Nat.le_of_ble_eq_true rfl) dX4_place_68 ⟨Nat.zero_le _, Nat.zero_le _⟩) hP hD hS hA [0, 1, 2, 3] [] [0, 1, 2, 3] rfl rfl rfl (by decide) rfl rfl (fun H locs hP hD hS => ?_)
      refine lv_iload hx hb dX4_place_71 (lv_at hl 0 rfl) ?_
      refine lv_iload hx hb dX4_place_73 (lv_at hl 7 rfl) ?_
      refine lv_iload hx hb dX4_place_75 (lv_at hl 1 rfl) ?_
      refine kV (wr := ([] : va_W)) (W1 := MDw cA cZ aM aS aI aK sf mf kf ((g_X4_get 1 (g_X4_colourFor sf x1 x2 (x3 + (sf (6 + (g_X4_lineFor sf x1 x2 x3 x4)).toNatClampNeg)) x4) (x3 + (sf (6 + (g_X4_lineFor sf x1 x2 x3 x4)).toNatClampNeg)) x4 (g_X4_lineFor sf x1 x2 x3 x4)).1) ((g_X4_get 1 (g_X4_colourFor sf x1 x2 (x3 + (sf (6 + (g_X4_lineFor sf x1 x2 x3 x4)).toNatClampNeg)) x4) (x3 + (sf (6 + (g_X4_lineFor sf x1 x2 x3 x4)).toNatClampNeg)) x4 (g_X4_lineFor sf x1 x2 x3 x4)).2.1) ((g_X4_get 1 (g_X4_colourFor sf x1 x2 (x3 + (sf (6 + (g_X4_lineFor sf x1 x2 x3 x4)).toNatClampNeg)) x4) (x3 + (sf (6 + (g_X4_lineFor sf x1 x2 x3 x4)).toNatClampNeg)) x4 (g_X4_lineFor sf x1 x2 x3 x4)).2.2.1) ((g_X4_get 1 (g_X4_colourFor sf x1 x2 (x3 + (sf (6 + (g_X4_lineFor sf x1 x2 x3 x4)).toNatClampNeg)) x4) (x3 + (sf (6 + (g_X4_lineFor sf x1 x2 x3 x4)).toNatClampNeg)) x4 (g_X4_lineFor sf x1 x2 x3 x4)).2.2.2.1) ((g_X4_get 1 (g_X4_colourFor sf x1 x2 (x3 + (sf (6 + (g_X4_lineFor sf x1 x2 x3 x4)).toNatClampNeg)) x4) (x3 + (sf (6 + (g_X4_lineFor sf x1 x2 x3 x4)).toNatClampNeg)) x4 (g_X4_lineFor sf x1 x2 x3 x4)).2.2.2.2)) (wsN := MDw cA cZ aM aS aI aK sf mf kf ((g_X4_get 1 (g_X4_colourFor sf x1 x2 (x3 + (sf (6 + (g_X4_lineFor sf x1 x2 x3 x4)).toNatClampNeg)) x4) (x3 + (sf (6 + (g_X4_lineFor sf x1 x2 x3 x4)).toNatClampNeg)) x4 (g_X4_lineFor sf x1 x2 x3 x4)).1) ((g_X4_get 1 (g_X4_colourFor sf x1 x2 (x3 + (sf (6 + (g_X4_lineFor sf x1 x2 x3 x4)).toNatClampNeg)) x4) (x3 + (sf (6 + (g_X4_lineFor sf x1 x2 x3 x4)).toNatClampNeg)) x4 (g_X4_lineFor sf x1 x2 x3 x4)).2.1) ((g_X4_get 1 (g_X4_colourFor sf x1 x2 (x3 + (sf (6 + (g_X4_lineFor sf x1 x2 x3 x4)).toNatClampNeg)) x4) (x3 + (sf (6 + (g_X4_lineFor sf x1 x2 x3 x4)).toNatClampNeg)) x4 (g_X4_lineFor sf x1 x2 x3 x4)).2.2.1) ((g_X4_get 1 (g_X4_colourFor sf x1 x2 (x3 + (sf (6 + (g_X4_lineFor sf x1 x2 x3 x4)).toNatClampNeg)) x4) (x3 + (sf (6 + (g_X4_lineFor sf x1 x2 x3 x4)).toNatClampNeg)) x4 (g_X4_lineFor sf x1 x2 x3 x4)).2.2.2.1) ((g_X4_get 1 (g_X4_colourFor sf x1 x2 (x3 + (sf (6 + (g_X4_lineFor sf x1 x2 x3 x4)).toNatClampNeg)) x4) (x3 + (sf (6 + (g_X4_lineFor sf x1 x2 x3 x4)).toNatClampNeg)) x4 (g_X4_lineFor sf x1 x2 x3 x4)).2.2.2.2)) (rV (As := [.int 1, .int (g_X4_colourFor sf x1 x2 (x3 + (sf (6 + (g_X4_lineFor sf x1 x2 x3 x4)).toNatClampNeg)) x4), .int (x3 + (sf (6 + (g_X4_lineFor sf x1 x2 x3 x4)).toNatClampNeg)), .int x4, .int (g_X4_lineFor sf x1 x2 x3 x4)]) (rest := []) (W0 := MDw cA cZ aM aS aI aK sf mf kf m0 m1 m2 m3 m4) ⟨hx, hb, hml, hown, hts⟩ (c_X4_get l D cA cZ aM aS aI aK H.size sf mf kf m0 m1 m2 m3 m4 1 (g_X4_colourFor sf x1 x2 (x3 + (sf (6 + (g_X4_lineFor sf x1 x2 x3 x4)).toNatClampNeg)) x4) (x3 + (sf (6 + (g_X4_lineFor sf x1 x2 x3 x4)).toNatClampNeg)) x4 (g_X4_lineFor sf x1 x2 x3 x4)) (cwV 5 hts gX4_place_X4_get rfl rfl rfl (by decide +kernel) ⟨Nat.le_of_ble_eq_true rfl, Nat.le_of_ble_eq_true rfl⟩) hP hD hK hN ([0, 1, 2, 3] : List Nat) rfl rfl 4 0 rfl rfl rfl hl.1 rfl (Nat.le_of_ble_eq_true rfl) dX4_place_77 ⟨Nat.zero_le _, Nat.zero_le _⟩) hP hD hS hA [0, 1, 2, 3] [] [0, 1, 2, 3] rfl rfl rfl (by decide) rfl rfl (fun H locs hP hD hS => ?_)
      rw [g_X4_place, if_pos c_1, if_neg c_2] at hG
      rw [hG]
      exact W.vret hx hb hr (fun t ht hW => ⟨⟨(), rfl, trivial, by rw [ht]; exact hP, va_K.moved hW.alike hK, hD⟩, hS.F ht⟩) hS.2.2 dX4_place_80
  · refine lv_aload_n hx hb dX4_place_16 rfl (lv_at hl 1 rfl) ?_
    refine lv_iconst (v := 0) hx hb dX4_place_17 (by decide) ?_
    refine lv_iload hx hb dX4_place_18 (lv_at hl 0 rfl) ?_
    refine lv_iload_n hx hb dX4_place_20 rfl (lv_at hl 4 rfl) ?_
    refine lv_iload hx hb dX4_place_21 (lv_at hl 5 rfl) ?_
    refine lv_bipush (v := (-6)) hx hb dX4_place_23 (by decide) ?_
    refine kV (wr := ([] : va_W)) (W1 := MDw cA cZ aM aS aI aK sf mf kf ((g_X4_get 0 (g_X4_colourFor sf x1 x2 x3 x4) x3 x4 (-6)).1) ((g_X4_get 0 (g_X4_colourFor sf x1 x2 x3 x4) x3 x4 (-6)).2.1) ((g_X4_get 0 (g_X4_colourFor sf x1 x2 x3 x4) x3 x4 (-6)).2.2.1) ((g_X4_get 0 (g_X4_colourFor sf x1 x2 x3 x4) x3 x4 (-6)).2.2.2.1) ((g_X4_get 0 (g_X4_colourFor sf x1 x2 x3 x4) x3 x4 (-6)).2.2.2.2)) (wsN := MDw cA cZ aM aS aI aK sf mf kf ((g_X4_get 0 (g_X4_colourFor sf x1 x2 x3 x4) x3 x4 (-6)).1) ((g_X4_get 0 (g_X4_colourFor sf x1 x2 x3 x4) x3 x4 (-6)).2.1) ((g_X4_get 0 (g_X4_colourFor sf x1 x2 x3 x4) x3 x4 (-6)).2.2.1) ((g_X4_get 0 (g_X4_colourFor sf x1 x2 x3 x4) x3 x4 (-6)).2.2.2.1) ((g_X4_get 0 (g_X4_colourFor sf x1 x2 x3 x4) x3 x4 (-6)).2.2.2.2)) (rV (As := [.int 0, .int (g_X4_colourFor sf x1 x2 x3 x4), .int x3, .int x4, .int (-6)]) (rest := []) (W0 := MDw cA cZ aM aS aI aK sf mf kf m0 m1 m2 m3 m4) ⟨hx, hb, hml, hown, hts⟩ (c_X4_get l D cA cZ aM aS aI aK H.size sf mf kf m0 m1 m2 m3 m4 0 (g_X4_colourFor sf x1 x2 x3 x4) x3 x4 (-6)) (cwV 5 hts gX4_place_X4_get rfl rfl rfl (by decide +kernel) ⟨Nat.le_of_ble_eq_true rfl, Nat.le_of_ble_eq_true rfl⟩) hP hD hK hN ([0, 1, 2, 3] : List Nat) rfl rfl 4 0 rfl rfl rfl hl.1 rfl (Nat.le_of_ble_eq_true rfl) dX4_place_25 ⟨Nat.zero_le _, Nat.zero_le _⟩) hP hD hS hA [0, 1, 2, 3] [] [0, 1, 2, 3] rfl rfl rfl (by decide) rfl rfl (fun H locs hP hD hS => ?_)
    rw [g_X4_place, if_neg c_1] at hG
    rw [hG]
    exact W.vret hx hb hr (fun t ht hW => ⟨⟨(), rfl, trivial, by rw [ht]; exact hP, va_K.moved hW.alike hK, hD⟩, hS.F ht⟩) hS.2.2 dX4_place_28

def g_X4_comes (sf : (Nat → Int32)) (x1 : Int32) (x2 : Int32) : Int32 := (((sf 9) + ((sf 1) * x2)) + ((sf 2) * x1))
set_option maxHeartbeats 4000000 in
set_option maxRecDepth 100000 in
theorem c_X4_comes (l : Launch) (D : va_G) (cA cZ : ClassId) (aM : Nat) (aS : Nat) (aI : Nat) (aK : Nat) (szz : Nat) (sf : (Nat → Int32)) (mf : (Nat → Int32)) (kf : (Nat → Int32)) (m0 : Int32) (m1 : Int32) (m2 : Int32) (m3 : Int32) (m4 : Int32) (x1 : Int32) (x2 : Int32) : MetI l yX4_comes wsX4_comes 0 0 D (tyA cA cZ) [.ref aM, .int x1, .int x2] (MDw cA cZ aM aS aI aK sf mf kf m0 m1 m2 m3 m4) szz (g_X4_comes sf x1 x2) (MDw cA cZ aM aS aI aK sf mf kf m0 m1 m2 m3 m4) := by
  refine Met.ofW (cc := cX4_comes) (maxL := 3) (ret := (some .int)) (by decide) rfl ?_
  intro p e s m args below meth c s₁ B hml hv
  obtain ⟨rfl, hsz, hP, hK, hD0, hN⟩ := hv
  have hx := B.exec
  have hb := B.bytes
  have hr := B.returns
  have hts := atoms_spec (ws := wsX4_comes) B.pre
  have hown : s.vm.findClass RX4 = some m.cls := findClass_of_methodNamed B.named
  have hlocks := B.notSynchronized
  have iX4 : ∀ w ∈ wsX40, w ∈ wsX4_comes := fun _ h => List.mem_cons_of_mem _ (List.mem_append_right _ h)
  subst hsz
  have hD := hD0.self (sz := s.heap.size)
  generalize hAe : va_A (MDw cA cZ aM aS aI aK sf mf kf m0 m1 m2 m3 m4) s.heap.size = A at hD ⊢
  have hA : ∀ q : Nat, s.heap.size ≤ q → A q := fun q h => by rw [← hAe]; exact Or.inr h
  have hS : va_S A s.heap s.heap [] := va_S.rf
  have hP : va_P D vwCl (MDw cA cZ aM aS aI aK sf mf kf m0 m1 m2 m3 m4) s.heap := hP
  obtain ⟨G, hG⟩ : ∃ G, G = (g_X4_comes sf x1 x2) := ⟨_, rfl⟩
  rw [← hG]
  have hl := lv_entry ([.ref aM, .int x1, .int x2]) (n := 3) (Nat.le_of_ble_eq_true rfl)
  rw [lg_entry_eq]
  generalize (lg_sl ([.ref aM, .int x1, .int x2]) ++ List.replicate (3 - (lg_sl ([.ref aM, .int x1, .int x2])).length) Slot.unset).toArray = ls at hl ⊢
  have hl : lv_has ls 3 [(0, .ref aM), (1, .int x1), (2, .int x2)] := hl
  refine lv_aload_n hx hb dX4_comes_0 rfl (lv_at hl 0 rfl) ?_
  refine va_get (D := D) (ci := 4) (v := .ref aS) (C := RX4) (T := TX4) (N := 8) hx hb hts iX4 hown hK hP 0 rfl rfl 0 (by decide) (hts (.fieldLink RX4 7 "LightBurstsModel" "state" "[I") (List.mem_of_getElem? (i := 1) rfl)) (fun _ h9 => h9) rfl dX4_comes_1 ?_
  refine lv_bipush (v := 9) hx hb dX4_comes_4 (by decide) ?_
  refine va_iald hx hb hK hP 1 0 rfl rfl (by unfold vp_in; decide) dX4_comes_6 ?_
  refine lv_eqi (sf 9) rfl ?_
  refine lv_aload_n hx hb dX4_comes_7 rfl (lv_at hl 0 rfl) ?_
  refine va_get (D := D) (ci := 4) (v := .ref aS) (C := RX4) (T := TX4) (N := 8) hx hb hts iX4 hown hK hP 0 rfl rfl 0 (by decide) (hts (.fieldLink RX4 7 "LightBurstsModel" "state" "[I") (List.mem_of_getElem? (i := 1) rfl)) (fun _ h9 => h9) rfl dX4_comes_8 ?_
  refine lv_iconst (v := 1) hx hb dX4_comes_11 (by decide) ?_
  refine va_iald hx hb hK hP 1 0 rfl rfl (by unfold vp_in; decide) dX4_comes_12 ?_
  refine lv_eqi (sf 1) rfl ?_
  refine lv_iload_n hx hb dX4_comes_13 rfl (lv_at hl 2 rfl) ?_
  refine lv_imul hx hb dX4_comes_14 ?_
  refine lv_iadd hx hb dX4_comes_15 ?_
  refine lv_aload_n hx hb dX4_comes_16 rfl (lv_at hl 0 rfl) ?_
  refine va_get (D := D) (ci := 4) (v := .ref aS) (C := RX4) (T := TX4) (N := 8) hx hb hts iX4 hown hK hP 0 rfl rfl 0 (by decide) (hts (.fieldLink RX4 7 "LightBurstsModel" "state" "[I") (List.mem_of_getElem? (i := 1) rfl)) (fun _ h9 => h9) rfl dX4_comes_17 ?_
  refine lv_iconst (v := 2) hx hb dX4_comes_20 (by decide) ?_
  refine va_iald hx hb hK hP 1 0 rfl rfl (by unfold vp_in; decide) dX4_comes_21 ?_
  refine lv_eqi (sf 2) rfl ?_
  refine lv_iload_n hx hb dX4_comes_22 rfl (lv_at hl 1 rfl) ?_
  refine lv_imul hx hb dX4_comes_23 ?_
  refine lv_iadd hx hb dX4_comes_24 ?_
  rw [g_X4_comes] at hG
  rw [hG]
  exact W.iret (v := (((sf 9) + ((sf 1) * x2)) + ((sf 2) * x1))) hx hb hr (fun t ht hW => ⟨⟨_, (), rfl, rfl, by rw [ht]; exact hP, va_K.moved hW.alike hK, hD⟩, hS.F ht⟩) hS.2.2 dX4_comes_25

def g_X4_refusal (x0 : Int32) (x1 : Int32) (x2 : Int32) (x3 : Int32) (x4 : Int32) : Int32 := (if (g_X4_isOut x0) = 0 then (-1) else (if (g_X4_isColour x1) = 0 then (-1) else (if (g_X4_in x2 0 2) = 0 then (-1) else (if (g_X4_in x3 1 5) = 0 then (-2) else (if (g_X4_in x4 1 60) = 0 then (-2) else 0)))))
set_option maxHeartbeats 4000000 in
set_option maxRecDepth 100000 in
theorem c_X4_refusal (l : Launch) (D : va_G) (cA cZ : ClassId) (szz : Nat) (x0 : Int32) (x1 : Int32) (x2 : Int32) (x3 : Int32) (x4 : Int32) : MetI l yX4_refusal wsX4_refusal 2 42 D (tyA cA cZ) [.int x0, .int x1, .int x2, .int x3, .int x4] (([] : va_W)) szz (g_X4_refusal x0 x1 x2 x3 x4) (([] : va_W)) := by
  refine Met.ofW (cc := cX4_refusal) (maxL := 5) (ret := (some .int)) (by decide) rfl ?_
  intro p e s m args below meth c s₁ B hml hv
  obtain ⟨rfl, hsz, hP, hK, hD0, hN⟩ := hv
  have hx := B.exec
  have hb := B.bytes
  have hr := B.returns
  have hts := atoms_spec (ws := wsX4_refusal) B.pre
  have hown : s.vm.findClass RX4 = some m.cls := findClass_of_methodNamed B.named
  have hlocks := B.notSynchronized
  subst hsz
  have hD := hD0.self (sz := s.heap.size)
  generalize hAe : va_A (([] : va_W)) s.heap.size = A at hD ⊢
  have hA : ∀ q : Nat, s.heap.size ≤ q → A q := fun q h => by rw [← hAe]; exact Or.inr h
  have hS : va_S A s.heap s.heap [] := va_S.rf
  have hP : va_P D vwCl (([] : va_W)) s.heap := hP
  obtain ⟨G, hG⟩ : ∃ G, G = (g_X4_refusal x0 x1 x2 x3 x4) := ⟨_, rfl⟩
  rw [← hG]
  have hl := lv_entry ([.int x0, .int x1, .int x2, .int x3, .int x4]) (n := 5) (Nat.le_of_ble_eq_true rfl)
  rw [lg_entry_eq]
  generalize (lg_sl ([.int x0, .int x1, .int x2, .int x3, .int x4]) ++ List.replicate (5 - (lg_sl ([.int x0, .int x1, .int x2, .int x3, .int x4])).length) Slot.unset).toArray = ls at hl ⊢
  have hl : lv_has ls 5 [(0, .int x0), (1, .int x1), (2, .int x2), (3, .int x3), (4, .int x4)] := hl
  refine lv_iload_n hx hb dX4_refusal_0 rfl (lv_at hl 0 rfl) ?_
  refine kI (wr := ([] : va_W)) (W1 := ([] : va_W)) (wsN := ([] : va_W)) (rS (As := [.int x0]) (rest := []) (W0 := ([] : va_W)) ⟨hx, hb, hml, hown, hts⟩ (c_X4_isOut l D cA cZ s.heap.size x0) (cwS 1 hts gX4_refusal_X4_isOut rfl rfl rfl (by decide +kernel) ⟨Nat.le_of_ble_eq_true rfl, Nat.le_of_ble_eq_true rfl⟩) hP hD hK hN ([] : List Nat) rfl rfl rfl hl.1 rfl (Nat.le_of_ble_eq_true rfl) dX4_refusal_1 ⟨Nat.zero_le _, Nat.zero_le _⟩) hP hD hS hA [] [] [] rfl rfl rfl (by decide) rfl rfl (fun H locs hP hD hS => ?_)
  refine lv_if_eq (tgt := 23) hx hb dX4_refusal_4 (by decide) (fun c_1 => ?_) (fun c_1 => ?_)
  · refine lv_iconst (v := (-1)) hx hb dX4_refusal_23 (by decide) ?_
    rw [g_X4_refusal, if_pos c_1] at hG
    rw [hG]
    exact W.iret (v := (-1)) hx hb hr (fun t ht hW => ⟨⟨_, (), rfl, rfl, by rw [ht]; exact hP, va_K.moved hW.alike hK, hD⟩, hS.F ht⟩) hS.2.2 dX4_refusal_24
  · refine lv_iload_n hx hb dX4_refusal_7 rfl (lv_at hl 1 rfl) ?_
    refine kI (wr := ([] : va_W)) (W1 := ([] : va_W)) (wsN := ([] : va_W)) (rS (As := [.int x1]) (rest := []) (W0 := ([] : va_W)) ⟨hx, hb, hml, hown, hts⟩ (c_X4_isColour l D cA cZ H.size x1) (cwS 1 hts gX4_refusal_X4_isColour rfl rfl rfl (by decide +kernel) ⟨Nat.le_of_ble_eq_true rfl, Nat.le_of_ble_eq_true rfl⟩) hP hD hK hN ([] : List Nat) rfl rfl rfl hl.1 rfl (Nat.le_of_ble_eq_true rfl) dX4_refusal_8 ⟨Nat.zero_le _, Nat.zero_le _⟩) hP hD hS hA [] [] [] rfl rfl rfl (by decide) rfl rfl (fun H locs hP hD hS => ?_)
    refine lv_if_eq (tgt := 23) hx hb dX4_refusal_11 (by decide) (fun c_2 => ?_) (fun c_2 => ?_)
    · refine lv_iconst (v := (-1)) hx hb dX4_refusal_23 (by decide) ?_
      rw [g_X4_refusal, if_neg c_1, if_pos c_2] at hG
      rw [hG]
      exact W.iret (v := (-1)) hx hb hr (fun t ht hW => ⟨⟨_, (), rfl, rfl, by rw [ht]; exact hP, va_K.moved hW.alike hK, hD⟩, hS.F ht⟩) hS.2.2 dX4_refusal_24
    · refine lv_iload_n hx hb dX4_refusal_14 rfl (lv_at hl 2 rfl) ?_
      refine lv_iconst (v := 0) hx hb dX4_refusal_15 (by decide) ?_
      refine lv_iconst (v := 2) hx hb dX4_refusal_16 (by decide) ?_
      refine kI (wr := ([] : va_W)) (W1 := ([] : va_W)) (wsN := ([] : va_W)) (rS (As := [.int x2, .int 0, .int 2]) (rest := []) (W0 := ([] : va_W)) ⟨hx, hb, hml, hown, hts⟩ (c_X4_in l D cA cZ H.size x2 0 2) (cwS 3 hts gX4_refusal_X4_in rfl rfl rfl (by decide +kernel) ⟨Nat.le_of_ble_eq_true rfl, Nat.le_of_ble_eq_true rfl⟩) hP hD hK hN ([] : List Nat) rfl rfl rfl hl.1 rfl (Nat.le_of_ble_eq_true rfl) dX4_refusal_17 ⟨Nat.zero_le _, Nat.zero_le _⟩) hP hD hS hA [] [] [] rfl rfl rfl (by decide) rfl rfl (fun H locs hP hD hS => ?_)
      refine lv_if_ne (tgt := 25) hx hb dX4_refusal_20 (by decide) (fun c_3 => ?_) (fun c_3 => ?_)
      · refine lv_iload_n hx hb dX4_refusal_25 rfl (lv_at hl 3 rfl) ?_
        refine lv_iconst (v := 1) hx hb dX4_refusal_26 (by decide) ?_
        refine lv_iconst (v := 5) hx hb dX4_refusal_27 (by decide) ?_
        refine kI (wr := ([] : va_W)) (W1 := ([] : va_W)) (wsN := ([] : va_W)) (rS (As := [.int x3, .int 1, .int 5]) (rest := []) (W0 := ([] : va_W)) ⟨hx, hb, hml, hown, hts⟩ (c_X4_in l D cA cZ H.size x3 1 5) (cwS 3 hts gX4_refusal_X4_in rfl rfl rfl (by decide +kernel) ⟨Nat.le_of_ble_eq_true rfl, Nat.le_of_ble_eq_true rfl⟩) hP hD hK hN ([] : List Nat) rfl rfl rfl hl.1 rfl (Nat.le_of_ble_eq_true rfl) dX4_refusal_28 ⟨Nat.zero_le _, Nat.zero_le _⟩) hP hD hS hA [] [] [] rfl rfl rfl (by decide) rfl rfl (fun H locs hP hD hS => ?_)
        refine lv_if_eq (tgt := 49) hx hb dX4_refusal_31 (by decide) (fun c_4 => ?_) (fun c_4 => ?_)
        · refine lv_bipush (v := (-2)) hx hb dX4_refusal_49 (by decide) ?_
          rw [g_X4_refusal, if_neg c_1, if_neg c_2, if_neg c_3, if_pos c_4] at hG
          rw [hG]
          exact W.iret (v := (-2)) hx hb hr (fun t ht hW => ⟨⟨_, (), rfl, rfl, by rw [ht]; exact hP, va_K.moved hW.alike hK, hD⟩, hS.F ht⟩) hS.2.2 dX4_refusal_51
        · refine lv_iload hx hb dX4_refusal_34 (lv_at hl 4 rfl) ?_
          refine lv_iconst (v := 1) hx hb dX4_refusal_36 (by decide) ?_
          refine lv_bipush (v := 60) hx hb dX4_refusal_37 (by decide) ?_
          refine kI (wr := ([] : va_W)) (W1 := ([] : va_W)) (wsN := ([] : va_W)) (rS (As := [.int x4, .int 1, .int 60]) (rest := []) (W0 := ([] : va_W)) ⟨hx, hb, hml, hown, hts⟩ (c_X4_in l D cA cZ H.size x4 1 60) (cwS 3 hts gX4_refusal_X4_in rfl rfl rfl (by decide +kernel) ⟨Nat.le_of_ble_eq_true rfl, Nat.le_of_ble_eq_true rfl⟩) hP hD hK hN ([] : List Nat) rfl rfl rfl hl.1 rfl (Nat.le_of_ble_eq_true rfl) dX4_refusal_39 ⟨Nat.zero_le _, Nat.zero_le _⟩) hP hD hS hA [] [] [] rfl rfl rfl (by decide) rfl rfl (fun H locs hP hD hS => ?_)
          refine lv_if_eq (tgt := 49) hx hb dX4_refusal_42 (by decide) (fun c_5 => ?_) (fun c_5 => ?_)
          · refine lv_bipush (v := (-2)) hx hb dX4_refusal_49 (by decide) ?_
            rw [g_X4_refusal, if_neg c_1, if_neg c_2, if_neg c_3, if_neg c_4, if_pos c_5] at hG
            rw [hG]
            exact W.iret (v := (-2)) hx hb hr (fun t ht hW => ⟨⟨_, (), rfl, rfl, by rw [ht]; exact hP, va_K.moved hW.alike hK, hD⟩, hS.F ht⟩) hS.2.2 dX4_refusal_51
          · refine lv_iconst (v := 0) hx hb dX4_refusal_45 (by decide) ?_
            refine lv_goto (tgt := 51) hx hb dX4_refusal_46 (by decide) ?_
            rw [g_X4_refusal, if_neg c_1, if_neg c_2, if_neg c_3, if_neg c_4, if_neg c_5] at hG
            rw [hG]
            exact W.iret (v := 0) hx hb hr (fun t ht hW => ⟨⟨_, (), rfl, rfl, by rw [ht]; exact hP, va_K.moved hW.alike hK, hD⟩, hS.F ht⟩) hS.2.2 dX4_refusal_51
      · refine lv_iconst (v := (-1)) hx hb dX4_refusal_23 (by decide) ?_
        rw [g_X4_refusal, if_neg c_1, if_neg c_2, if_pos c_3] at hG
        rw [hG]
        exact W.iret (v := (-1)) hx hb hr (fun t ht hW => ⟨⟨_, (), rfl, rfl, by rw [ht]; exact hP, va_K.moved hW.alike hK, hD⟩, hS.F ht⟩) hS.2.2 dX4_refusal_24
