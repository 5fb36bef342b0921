/-! the i-th booking: what is asked for, and why the search ends -/
abbrev bk_is (sf : Nat → Int32) (x1 x2 b : Int32) : Prop := (0 ≤ x1 ∧ ¬ g_X4_isOn sf b x1 x2 = 0) ∨ (¬ 0 ≤ x1 ∧ ¬ g_X4_isOnLine sf b x2 = 0)
abbrev bk_c (sf : Nat → Int32) (x1 x2 v b : Int32) : Prop := bk_is sf x1 x2 b ∧ (v < 0 ∨ ¬ g_X4_beginOf sf x1 b ≤ g_X4_beginOf sf x1 v)
def bk_n (sf : Nat → Int32) (x1 x2 v b : Int32) : Prop := b < 0 ∨ (bok b ∧ bk_c sf x1 x2 v b)
def bk_m (sf : Nat → Int32) (x1 x2 v : Int32) : Nat := ((List.range 48).filter (fun j => decide (bk_c sf x1 x2 v (nI j)))).length
theorem flt_lt {α : Type} {p q : α → Bool} (l : List α) (h : ∀ x, q x = true → p x = true) {a : α} (ha : a ∈ l) (h1 : p a = true) (h2 : q a = false) : (l.filter q).length < (l.filter p).length := by
  have hle : ∀ m : List α, (m.filter q).length ≤ (m.filter p).length := by
    intro m
    induction m with
    | nil => exact Nat.le_refl _
    | cons x t ih =>
      by_cases hq : q x = true
      · rw [List.filter_cons_of_pos hq, List.filter_cons_of_pos (h x hq)]; simp only [List.length_cons]; omega
      · rw [List.filter_cons_of_neg hq]
        by_cases hp : p x = true
        · rw [List.filter_cons_of_pos hp]; simp only [List.length_cons]; omega
        · rw [List.filter_cons_of_neg hp]; exact ih
  induction l with
  | nil => exact absurd ha List.not_mem_nil
  | cons x t ih =>
    rcases List.mem_cons.mp ha with rfl | ht
    · rw [List.filter_cons_of_pos h1, List.filter_cons_of_neg (by rw [h2]; decide)]
      have := hle t
      simp only [List.length_cons]; omega
    · have h3 := ih ht
      by_cases hq : q x = true
      · rw [List.filter_cons_of_pos hq, List.filter_cons_of_pos (h x hq)]; simp only [List.length_cons]; omega
      · rw [List.filter_cons_of_neg hq]
        by_cases hp : p x = true
        · rw [List.filter_cons_of_pos hp]; simp only [List.length_cons]; omega
        · rw [List.filter_cons_of_neg hp]; exact h3
theorem bok_nI {b : Int32} (h : bok b) : ∃ j : Nat, j < 48 ∧ b = nI j := by
  have e0 : (0 : Int32).toInt = 0 := rfl
  obtain ⟨h1, h2⟩ := h
  obtain ⟨j, hj, e⟩ := nI_of (x := b) (by rw [Int32.lt_iff_toInt_lt]; omega)
  refine ⟨j, ?_, e⟩
  rw [e, nI_toInt hj] at h2
  omega
theorem bk_step {sf : Nat → Int32} {x1 x2 v w : Int32} {n : Nat} (h : bk_n sf x1 x2 v w) (c : ¬ w < 0) (hm : bk_m sf x1 x2 v < n + 1) : bk_m sf x1 x2 w < n := by
  rcases h with h | ⟨hb, hc⟩
  · exact absurd h c
  · obtain ⟨j, hj, e⟩ := bok_nI hb
    have hlt : bk_m sf x1 x2 w < bk_m sf x1 x2 v := by
      refine flt_lt (a := j) _ (fun x hx => ?_) (List.mem_range.mpr hj) ?_ ?_
      · have h1 := of_decide_eq_true hx
        refine decide_eq_true ?_
        obtain ⟨h2, h3⟩ := h1
        refine ⟨h2, ?_⟩
        rcases h3 with h3 | h3
        · exact absurd h3 c
        · rcases hc.2 with h4 | h4
          · exact Or.inl h4
          · refine Or.inr ?_
            rw [Int32.le_iff_toInt_le] at h3 h4 ⊢
            omega
      · exact decide_eq_true (e ▸ hc)
      · refine decide_eq_false ?_
        rintro ⟨h2, h3⟩
        rw [← e] at h3
        rcases h3 with h3 | h3
        · exact c h3
        · exact h3 (by rw [Int32.le_iff_toInt_le]; omega)
    omega

def g_X4_bookingAt_L20 (KK : Int32 → Int32 → (Int32)) (sf : (Nat → Int32)) (x1 : Int32) (x2 : Int32) (v4 : Int32) (v5 : Int32) : Nat → Int32 → Int32 → (Int32)
  | 0, _, _ => 0
  | n + 1, v6, v7 => (if (sf 10) ≤ v7 then (if 0 ≤ v6 then (KK v6 (v5 + 1)) else (-6)) else (if 0 ≤ x1 then (if (g_X4_isOn sf v7 x1 x2) = 0 then (g_X4_bookingAt_L20 KK sf x1 x2 v4 v5 n v6 (v7 + 1)) else (if v4 < 0 then (if v6 < 0 then (g_X4_bookingAt_L20 KK sf x1 x2 v4 v5 n v7 (v7 + 1)) else (if (g_X4_beginOf sf x1 v6) ≤ (g_X4_beginOf sf x1 v7) then (g_X4_bookingAt_L20 KK sf x1 x2 v4 v5 n v6 (v7 + 1)) else (g_X4_bookingAt_L20 KK sf x1 x2 v4 v5 n v7 (v7 + 1)))) else (if (g_X4_beginOf sf x1 v7) ≤ (g_X4_beginOf sf x1 v4) then (g_X4_bookingAt_L20 KK sf x1 x2 v4 v5 n v6 (v7 + 1)) else (if v6 < 0 then (g_X4_bookingAt_L20 KK sf x1 x2 v4 v5 n v7 (v7 + 1)) else (if (g_X4_beginOf sf x1 v6) ≤ (g_X4_beginOf sf x1 v7) then (g_X4_bookingAt_L20 KK sf x1 x2 v4 v5 n v6 (v7 + 1)) else (g_X4_bookingAt_L20 KK sf x1 x2 v4 v5 n v7 (v7 + 1))))))) else (if (g_X4_isOnLine sf v7 x2) = 0 then (g_X4_bookingAt_L20 KK sf x1 x2 v4 v5 n v6 (v7 + 1)) else (if v4 < 0 then (if v6 < 0 then (g_X4_bookingAt_L20 KK sf x1 x2 v4 v5 n v7 (v7 + 1)) else (if (g_X4_beginOf sf x1 v6) ≤ (g_X4_beginOf sf x1 v7) then (g_X4_bookingAt_L20 KK sf x1 x2 v4 v5 n v6 (v7 + 1)) else (g_X4_bookingAt_L20 KK sf x1 x2 v4 v5 n v7 (v7 + 1)))) else (if (g_X4_beginOf sf x1 v7) ≤ (g_X4_beginOf sf x1 v4) then (g_X4_bookingAt_L20 KK sf x1 x2 v4 v5 n v6 (v7 + 1)) else (if v6 < 0 then (g_X4_bookingAt_L20 KK sf x1 x2 v4 v5 n v7 (v7 + 1)) else (if (g_X4_beginOf sf x1 v6) ≤ (g_X4_beginOf sf x1 v7) then (g_X4_bookingAt_L20 KK sf x1 x2 v4 v5 n v6 (v7 + 1)) else (g_X4_bookingAt_L20 KK sf x1 x2 v4 v5 n v7 (v7 + 1)))))))))
def g_X4_bookingAt_L7 (sf : (Nat → Int32)) (x1 : Int32) (x2 : Int32) (x3 : Int32) : Nat → Int32 → Int32 → (Int32)
  | 0, _, _ => 0
  | n + 1, v4, v5 => (if x3 < v5 then v4 else (g_X4_bookingAt_L20 (fun z0 z1 => g_X4_bookingAt_L7 sf x1 x2 x3 n z0 z1) sf x1 x2 v4 v5 ((((sf 10)).toInt - ((0 : Int32)).toInt).toNat + 1) (-6) 0))
def g_X4_bookingAt (sf : (Nat → Int32)) (x1 : Int32) (x2 : Int32) (x3 : Int32) : Int32 := (g_X4_bookingAt_L7 sf x1 x2 x3 (bk_m sf x1 x2 (-6 : Int32) + 1) (-6) 0)
set_option maxHeartbeats 4000000 in
set_option maxRecDepth 100000 in
theorem c_X4_bookingAt (l : Launch) (D : va_G) (cA cZ : ClassId) (aM : Nat) (aS : Nat) (aI : Nat) (aK : Nat) (szz : Nat) (sf : (Nat → Int32)) (mf : (Nat → Int32)) (kf : (Nat → Int32)) (m0 : Int32) (m1 : Int32) (m2 : Int32) (m3 : Int32) (m4 : Int32) (x1 : Int32) (x2 : Int32) (x3 : Int32) (hm : (sf 10) ≤ 48) : MetI l yX4_bookingAt wsX4_bookingAt 3 66 D (tyA cA cZ) [.ref aM, .int x1, .int x2, .int x3] (MDw cA cZ aM aS aI aK sf mf kf m0 m1 m2 m3 m4) szz (g_X4_bookingAt sf x1 x2 x3) (MDw cA cZ aM aS aI aK sf mf kf m0 m1 m2 m3 m4) := by
  refine Met.ofW (cc := cX4_bookingAt) (maxL := 9) (ret := (some .int)) (by decide) rfl ?_
  intro p e s m args below meth c s₁ B hml hv
  obtain ⟨rfl, hsz, hP, hK, hD0, hN⟩ := hv
  have hx := B.exec
  have hb := B.bytes
  have hr := B.returns
  have hts := atoms_spec (ws := wsX4_bookingAt) B.pre
  have hown : s.vm.findClass RX4 = some m.cls := findClass_of_methodNamed B.named
  have hlocks := B.notSynchronized
  have iX4 : ∀ w ∈ wsX40, w ∈ wsX4_bookingAt := fun _ h => List.mem_cons_of_mem _ (List.mem_append_right _ h)
  subst hsz
  have hD := hD0.self (sz := s.heap.size)
  generalize hAe : va_A (MDw cA cZ aM aS aI aK sf mf kf m0 m1 m2 m3 m4) s.heap.size = A at hD ⊢
  have hA : ∀ q : Nat, s.heap.size ≤ q → A q := fun q h => by rw [← hAe]; exact Or.inr h
  have hS : va_S A s.heap s.heap [] := va_S.rf
  have hP : va_P D vwCl (MDw cA cZ aM aS aI aK sf mf kf m0 m1 m2 m3 m4) s.heap := hP
  obtain ⟨G, hG⟩ : ∃ G, G = (g_X4_bookingAt sf x1 x2 x3) := ⟨_, rfl⟩
  rw [← hG]
  have hl := lv_entry ([.ref aM, .int x1, .int x2, .int x3]) (n := 9) (Nat.le_of_ble_eq_true rfl)
  rw [lg_entry_eq]
  generalize (lg_sl ([.ref aM, .int x1, .int x2, .int x3]) ++ List.replicate (9 - (lg_sl ([.ref aM, .int x1, .int x2, .int x3])).length) Slot.unset).toArray = ls at hl ⊢
  have hl : lv_has ls 9 [(0, .ref aM), (1, .int x1), (2, .int x2), (3, .int x3)] := hl
  refine lv_bipush (v := (-6)) hx hb dX4_bookingAt_0 (by decide) ?_
  refine lv_istore (lv' := [(4, .int (-6)), (0, .ref aM), (1, .int x1), (2, .int x2), (3, .int x3)]) hx hb dX4_bookingAt_2 hl (by decide) rfl (fun ls hl => ?_)
  refine lv_iconst (v := 0) hx hb dX4_bookingAt_4 (by decide) ?_
  refine lv_istore (lv' := [(5, .int 0), (4, .int (-6)), (0, .ref aM), (1, .int x1), (2, .int x2), (3, .int x3)]) hx hb dX4_bookingAt_5 hl (by decide) rfl (fun ls hl => ?_)
  rw [g_X4_bookingAt] at hG
  refine (?_ : ∀ (n : Nat) (v4 : Int32) (v5 : Int32) (H : Heap) (locs : List Loc) (ls : Array Slot), (v4 < 0 ∨ bok v4) → bk_m sf x1 x2 v4 < n → G = g_X4_bookingAt_L7 sf x1 x2 x3 n v4 v5 → va_P D vwCl (MDw cA cZ aM aS aI aK sf mf kf m0 m1 m2 m3 m4) H → va_D A (MDw cA cZ aM aS aI aK sf mf kf m0 m1 m2 m3 m4) → va_S A s.heap H locs → lv_has ls 9 [(0, .ref aM), (1, .int x1), (2, .int x2), (3, .int x3), (4, .int v4), (5, .int v5)] → W p l e _ s m _ below meth c H locs _ _ _ (F0 m 7 ls [])) (bk_m sf x1 x2 (-6 : Int32) + 1) (-6) 0 _ _ _ (by exact Or.inl (by decide)) (Nat.lt_succ_self _) hG hP hD hS (lv_sub hl [2, 3, 4, 5, 1, 0] rfl)
  clear hG hP hD hS hl
  intro n
  induction n with
  | zero => intros; omega
  | succ n7 ih7 =>
    intro v4 v5 H locs ls h4 hm7 hG hP hD hS hl
    refine lv_iload hx hb dX4_bookingAt_7 (lv_at hl 5 rfl) ?_
    refine lv_iload_n hx hb dX4_bookingAt_9 rfl (lv_at hl 3 rfl) ?_
    refine lv_icmp_gt (tgt := 133) hx hb dX4_bookingAt_10 (by decide) (fun c_1 => ?_) (fun c_1 => ?_)
    · refine lv_iload hx hb dX4_bookingAt_133 (lv_at hl 4 rfl) ?_
      rw [g_X4_bookingAt_L7, if_pos c_1] at hG
      rw [hG]
      exact W.iret (v := v4) hx hb hr (fun t ht hW => ⟨⟨_, (), rfl, rfl, by rw [ht]; exact hP, va_K.moved hW.alike hK, hD⟩, hS.F ht⟩) hS.2.2 dX4_bookingAt_135
    · refine lv_bipush (v := (-6)) hx hb dX4_bookingAt_13 (by decide) ?_
      refine lv_istore (lv' := [(6, .int (-6)), (0, .ref aM), (1, .int x1), (2, .int x2), (3, .int x3), (4, .int v4), (5, .int v5)]) hx hb dX4_bookingAt_15 hl (by decide) rfl (fun ls hl => ?_)
      refine lv_iconst (v := 0) hx hb dX4_bookingAt_17 (by decide) ?_
      refine lv_istore (lv' := [(7, .int 0), (6, .int (-6)), (0, .ref aM), (1, .int x1), (2, .int x2), (3, .int x3), (4, .int v4), (5, .int v5)]) hx hb dX4_bookingAt_18 hl (by decide) rfl (fun ls hl => ?_)
      rw [g_X4_bookingAt_L7, if_neg c_1] at hG
      refine (?_ : ∀ (n : Nat) (v6 : Int32) (v7 : Int32) (H : Heap) (locs : List Loc) (ls : Array Slot), (0 ≤ v7) → (bk_n sf x1 x2 v4 v6) → (((sf 10)).toInt - (v7).toInt).toNat < n → G = g_X4_bookingAt_L20 (fun z0 z1 => g_X4_bookingAt_L7 sf x1 x2 x3 n7 z0 z1) sf x1 x2 v4 v5 n v6 v7 → va_P D vwCl (MDw cA cZ aM aS aI aK sf mf kf m0 m1 m2 m3 m4) H → va_D A (MDw cA cZ aM aS aI aK sf mf kf m0 m1 m2 m3 m4) → va_S A s.heap H locs → lv_has ls 9 [(0, .ref aM), (1, .int x1), (2, .int x2), (3, .int x3), (4, .int v4), (5, .int v5), (6, .int v6), (7, .int v7)] → W p l e _ s m _ below meth c H locs _ _ _ (F0 m 20 ls [])) ((((sf 10)).toInt - ((0 : Int32)).toInt).toNat + 1) (-6) 0 _ _ _ (by decide) (by exact Or.inl (by decide)) (Nat.lt_succ_self _) hG hP hD hS (lv_sub hl [2, 3, 4, 5, 6, 7, 1, 0] rfl)
      clear hG hP hD hS hl
      intro n
      induction n with
      | zero => intros; omega
      | succ n20 ih20 =>
        intro v6 v7 H locs ls h0 h6 hm20 hG hP hD hS hl
        refine lv_iload hx hb dX4_bookingAt_20 (lv_at hl 7 rfl) ?_
        refine lv_aload_n hx hb dX4_bookingAt_22 rfl (lv_at hl 0 rfl) ?_
        refine va_get (D := D) (ci := 4) (v := .ref aS) (C := RX4) (T := TX4) (N := 8) hx hb hts iX4 hown hK hP 0 rfl rfl 0 (by decide) (hts (.fieldLink RX4 7 "LightBurstsModel" "state" "[I") (List.mem_of_getElem? (i := 1) rfl)) (fun _ h9 => h9) rfl dX4_bookingAt_23 ?_
        refine lv_bipush (v := 10) hx hb dX4_bookingAt_26 (by decide) ?_
        refine va_iald hx hb hK hP 1 0 rfl rfl (by unfold vp_in; decide) dX4_bookingAt_28 ?_
        refine lv_eqi (sf 10) rfl ?_
        refine lv_icmp_ge (tgt := 115) hx hb dX4_bookingAt_29 (by decide) (fun c_2 => ?_) (fun c_2 => ?_)
        · refine lv_iload hx hb dX4_bookingAt_115 (lv_at hl 6 rfl) ?_
          refine lv_if_ge (tgt := 123) hx hb dX4_bookingAt_117 (by decide) (fun c_3 => ?_) (fun c_3 => ?_)
          · refine lv_iload hx hb dX4_bookingAt_123 (lv_at hl 6 rfl) ?_
            refine lv_istore (lv' := [(4, .int v6), (0, .ref aM), (1, .int x1), (2, .int x2), (3, .int x3), (5, .int v5), (6, .int v6), (7, .int v7)]) hx hb dX4_bookingAt_125 hl (by decide) rfl (fun ls hl => ?_)
            refine lv_iinc (v := (v5 + 1)) (lv' := [(5, .int (v5 + 1)), (4, .int v6), (0, .ref aM), (1, .int x1), (2, .int x2), (3, .int x3), (6, .int v6), (7, .int v7)]) hx hb dX4_bookingAt_127 hl (k := 5) rfl rfl (by decide) rfl (fun ls hl => ?_)
            refine lv_goto (tgt := 7) hx hb dX4_bookingAt_130 (by decide) ?_
            rw [g_X4_bookingAt_L20, if_pos c_2, if_pos c_3] at hG
            exact ih7 v6 (v5 + 1) _ _ _ (by exact Or.inr (h6.resolve_left (nlt_of_le c_3)).1) (by exact bk_step h6 (nlt_of_le c_3) hm7) hG hP hD hS (lv_sub hl [2, 3, 4, 5, 1, 0] rfl)
          · refine lv_bipush (v := (-6)) hx hb dX4_bookingAt_120 (by decide) ?_
            rw [g_X4_bookingAt_L20, if_pos c_2, if_neg c_3] at hG
            rw [hG]
            exact W.iret (v := (-6)) hx hb hr (fun t ht hW => ⟨⟨_, (), rfl, rfl, by rw [ht]; exact hP, va_K.moved hW.alike hK, hD⟩, hS.F ht⟩) hS.2.2 dX4_bookingAt_122
        · refine lv_iload_n hx hb dX4_bookingAt_32 rfl (lv_at hl 1 rfl) ?_
          refine lv_if_ge (tgt := 46) hx hb dX4_bookingAt_33 (by decide) (fun c_4 => ?_) (fun c_4 => ?_)
          · refine lv_aload_n hx hb dX4_bookingAt_46 rfl (lv_at hl 0 rfl) ?_
            refine lv_iload hx hb dX4_bookingAt_47 (lv_at hl 7 rfl) ?_
            refine lv_iload_n hx hb dX4_bookingAt_49 rfl (lv_at hl 1 rfl) ?_
            refine lv_iload_n hx hb dX4_bookingAt_50 rfl (lv_at hl 2 rfl) ?_
            refine kI (wr := ([] : va_W)) (W1 := MDw cA cZ aM aS aI aK sf mf kf m0 m1 m2 m3 m4) (wsN := MDw cA cZ aM aS aI aK sf mf kf m0 m1 m2 m3 m4) (rV (As := [.int v7, .int x1, .int x2]) (rest := []) (W0 := MDw cA cZ aM aS aI aK sf mf kf m0 m1 m2 m3 m4) ⟨hx, hb, hml, hown, hts⟩ (c_X4_isOn l D cA cZ aM aS aI aK H.size sf mf kf m0 m1 m2 m3 m4 v7 x1 x2 (show bok v7 from by exact bok_of h0 c_2 hm)) (cwV 3 hts gX4_bookingAt_X4_isOn rfl rfl rfl (by decide +kernel) ⟨Nat.le_of_ble_eq_true rfl, Nat.le_of_ble_eq_true rfl⟩) hP hD hK hN ([0, 1, 2, 3] : List Nat) rfl rfl 4 0 rfl rfl rfl hl.1 rfl (Nat.le_of_ble_eq_true rfl) dX4_bookingAt_51 ⟨Nat.zero_le _, Nat.zero_le _⟩) hP hD hS hA [0, 1, 2, 3] [] [0, 1, 2, 3] rfl rfl rfl (by decide) rfl rfl (fun H locs hP hD hS => ?_)
            refine lv_istore (lv' := [(8, .int (g_X4_isOn sf v7 x1 x2)), (0, .ref aM), (1, .int x1), (2, .int x2), (3, .int x3), (4, .int v4), (5, .int v5), (6, .int v6), (7, .int v7)]) hx hb dX4_bookingAt_54 hl (by decide) rfl (fun ls hl => ?_)
            refine lv_iload hx hb dX4_bookingAt_56 (lv_at hl 0 rfl) ?_
            refine lv_if_eq (tgt := 109) hx hb dX4_bookingAt_58 (by decide) (fun c_5 => ?_) (fun c_5 => ?_)
            · refine lv_iinc (v := (v7 + 1)) (lv' := [(7, .int (v7 + 1)), (8, .int (g_X4_isOn sf v7 x1 x2)), (0, .ref aM), (1, .int x1), (2, .int x2), (3, .int x3), (4, .int v4), (5, .int v5), (6, .int v6)]) hx hb dX4_bookingAt_109 hl (k := 8) rfl rfl (by decide) rfl (fun ls hl => ?_)
              refine lv_goto (tgt := 20) hx hb dX4_bookingAt_112 (by decide) ?_
              rw [g_X4_bookingAt_L20, if_neg c_2, if_pos c_4, if_pos c_5] at hG
              exact ih20 v6 (v7 + 1) _ _ _ (by exact up_ge h0 c_2) (by exact h6) (by exact ms_up c_2 hm20) hG hP hD hS (lv_sub hl [2, 3, 4, 5, 6, 7, 8, 0] rfl)
            · refine lv_iload hx hb dX4_bookingAt_61 (lv_at hl 5 rfl) ?_
              refine lv_if_lt (tgt := 83) hx hb dX4_bookingAt_63 (by decide) (fun c_6 => ?_) (fun c_6 => ?_)
              · refine lv_iload hx hb dX4_bookingAt_83 (lv_at hl 7 rfl) ?_
                refine lv_if_lt (tgt := 105) hx hb dX4_bookingAt_85 (by decide) (fun c_7 => ?_) (fun c_7 => ?_)
                · refine lv_iload hx hb dX4_bookingAt_105 (lv_at hl 8 rfl) ?_
                  refine lv_istore (lv' := [(6, .int v7), (8, .int (g_X4_isOn sf v7 x1 x2)), (0, .ref aM), (1, .int x1), (2, .int x2), (3, .int x3), (4, .int v4), (5, .int v5), (7, .int v7)]) hx hb dX4_bookingAt_107 hl (by decide) rfl (fun ls hl => ?_)
                  refine lv_iinc (v := (v7 + 1)) (lv' := [(7, .int (v7 + 1)), (6, .int v7), (8, .int (g_X4_isOn sf v7 x1 x2)), (0, .ref aM), (1, .int x1), (2, .int x2), (3, .int x3), (4, .int v4), (5, .int v5)]) hx hb dX4_bookingAt_109 hl (k := 8) rfl rfl (by decide) rfl (fun ls hl => ?_)
                  refine lv_goto (tgt := 20) hx hb dX4_bookingAt_112 (by decide) ?_
                  rw [g_X4_bookingAt_L20, if_neg c_2, if_pos c_4, if_neg c_5, if_pos c_6, if_pos c_7] at hG
                  exact ih20 v7 (v7 + 1) _ _ _ (by exact up_ge h0 c_2) (by exact Or.inr ⟨bok_of h0 c_2 hm, (Or.inl ⟨c_4, c_5⟩), (Or.inl c_6)⟩) (by exact ms_up c_2 hm20) hG hP hD hS (lv_sub hl [3, 4, 5, 6, 7, 8, 1, 0] rfl)
                · refine lv_aload_n hx hb dX4_bookingAt_88 rfl (lv_at hl 1 rfl) ?_
                  refine lv_iload_n hx hb dX4_bookingAt_89 rfl (lv_at hl 2 rfl) ?_
                  refine lv_iload hx hb dX4_bookingAt_90 (lv_at hl 8 rfl) ?_
                  refine kI (wr := ([] : va_W)) (W1 := MDw cA cZ aM aS aI aK sf mf kf m0 m1 m2 m3 m4) (wsN := MDw cA cZ aM aS aI aK sf mf kf m0 m1 m2 m3 m4) (rV (As := [.int x1, .int v7]) (rest := []) (W0 := MDw cA cZ aM aS aI aK sf mf kf m0 m1 m2 m3 m4) ⟨hx, hb, hml, hown, hts⟩ (c_X4_beginOf l D cA cZ aM aS aI aK H.size sf mf kf m0 m1 m2 m3 m4 x1 v7 (show bok v7 from by exact bok_of h0 c_2 hm)) (cwV 2 hts gX4_bookingAt_X4_beginOf rfl rfl rfl (by decide +kernel) ⟨Nat.le_of_ble_eq_true rfl, Nat.le_of_ble_eq_true rfl⟩) hP hD hK hN ([0, 1, 2, 3] : List Nat) rfl rfl 4 0 rfl rfl rfl hl.1 rfl (Nat.le_of_ble_eq_true rfl) dX4_bookingAt_92 ⟨Nat.zero_le _, Nat.zero_le _⟩) hP hD hS hA [0, 1, 2, 3] [] [0, 1, 2, 3] rfl rfl rfl (by decide) rfl rfl (fun H locs hP hD hS => ?_)
                  refine lv_aload_n hx hb dX4_bookingAt_95 rfl (lv_at hl 1 rfl) ?_
                  refine lv_iload_n hx hb dX4_bookingAt_96 rfl (lv_at hl 2 rfl) ?_
                  refine lv_iload hx hb dX4_bookingAt_97 (lv_at hl 7 rfl) ?_
                  refine kI (wr := ([] : va_W)) (W1 := MDw cA cZ aM aS aI aK sf mf kf m0 m1 m2 m3 m4) (wsN := MDw cA cZ aM aS aI aK sf mf kf m0 m1 m2 m3 m4) (rV (As := [.int x1, .int v6]) (rest := [.int (g_X4_beginOf sf x1 v7)]) (W0 := MDw cA cZ aM aS aI aK sf mf kf m0 m1 m2 m3 m4) ⟨hx, hb, hml, hown, hts⟩ (c_X4_beginOf l D cA cZ aM aS aI aK H.size sf mf kf m0 m1 m2 m3 m4 x1 v6 (show bok v6 from by exact (h6.resolve_left c_7).1)) (cwV 2 hts gX4_bookingAt_X4_beginOf rfl rfl rfl (by decide +kernel) ⟨Nat.le_of_ble_eq_true rfl, Nat.le_of_ble_eq_true rfl⟩) hP hD hK hN ([0, 1, 2, 3] : List Nat) rfl rfl 4 0 rfl rfl rfl hl.1 rfl (Nat.le_of_ble_eq_true rfl) dX4_bookingAt_99 ⟨Nat.zero_le _, Nat.zero_le _⟩) hP hD hS hA [0, 1, 2, 3] [] [0, 1, 2, 3] rfl rfl rfl (by decide) rfl rfl (fun H locs hP hD hS => ?_)
                  refine lv_icmp_ge (tgt := 109) hx hb dX4_bookingAt_102 (by decide) (fun c_8 => ?_) (fun c_8 => ?_)
                  · refine lv_iinc (v := (v7 + 1)) (lv' := [(7, .int (v7 + 1)), (8, .int (g_X4_isOn sf v7 x1 x2)), (0, .ref aM), (1, .int x1), (2, .int x2), (3, .int x3), (4, .int v4), (5, .int v5), (6, .int v6)]) hx hb dX4_bookingAt_109 hl (k := 8) rfl rfl (by decide) rfl (fun ls hl => ?_)
                    refine lv_goto (tgt := 20) hx hb dX4_bookingAt_112 (by decide) ?_
                    rw [g_X4_bookingAt_L20, if_neg c_2, if_pos c_4, if_neg c_5, if_pos c_6, if_neg c_7, if_pos c_8] at hG
                    exact ih20 v6 (v7 + 1) _ _ _ (by exact up_ge h0 c_2) (by exact h6) (by exact ms_up c_2 hm20) hG hP hD hS (lv_sub hl [2, 3, 4, 5, 6, 7, 8, 0] rfl)
                  · refine lv_iload hx hb dX4_bookingAt_105 (lv_at hl 8 rfl) ?_
                    refine lv_istore (lv' := [(6, .int v7), (8, .int (g_X4_isOn sf v7 x1 x2)), (0, .ref aM), (1, .int x1), (2, .int x2), (3, .int x3), (4, .int v4), (5, .int v5), (7, .int v7)]) hx hb dX4_bookingAt_107 hl (by decide) rfl (fun ls hl => ?_)
                    refine lv_iinc (v := (v7 + 1)) (lv' := [(7, .int (v7 + 1)), (6, .int v7), (8, .int (g_X4_isOn sf v7 x1 x2)), (0, .ref aM), (1, .int x1), (2, .int x2), (3, .int x3), (4, .int v4), (5, .int v5)]) hx hb dX4_bookingAt_109 hl (k := 8) rfl rfl (by decide) rfl (fun ls hl => ?_)
                    refine lv_goto (tgt := 20) hx hb dX4_bookingAt_112 (by decide) ?_
                    rw [g_X4_bookingAt_L20, if_neg c_2, if_pos c_4, if_neg c_5, if_pos c_6, if_neg c_7, if_neg c_8] at hG
                    exact ih20 v7 (v7 + 1) _ _ _ (by exact up_ge h0 c_2) (by exact Or.inr ⟨bok_of h0 c_2 hm, (Or.inl ⟨c_4, c_5⟩), (Or.inl c_6)⟩) (by exact ms_up c_2 hm20) hG hP hD hS (lv_sub hl [3, 4, 5, 6, 7, 8, 1, 0] rfl)
              · refine lv_aload_n hx hb dX4_bookingAt_66 rfl (lv_at hl 1 rfl) ?_
                refine lv_iload_n hx hb dX4_bookingAt_67 rfl (lv_at hl 2 rfl) ?_
                refine lv_iload hx hb dX4_bookingAt_68 (lv_at hl 8 rfl) ?_
                refine kI (wr := ([] : va_W)) (W1 := MDw cA cZ aM aS aI aK sf mf kf m0 m1 m2 m3 m4) (wsN := MDw cA cZ aM aS aI aK sf mf kf m0 m1 m2 m3 m4) (rV (As := [.int x1, .int v7]) (rest := []) (W0 := MDw cA cZ aM aS aI aK sf mf kf m0 m1 m2 m3 m4) ⟨hx, hb, hml, hown, hts⟩ (c_X4_beginOf l D cA cZ aM aS aI aK H.size sf mf kf m0 m1 m2 m3 m4 x1 v7 (show bok v7 from by exact bok_of h0 c_2 hm)) (cwV 2 hts gX4_bookingAt_X4_beginOf rfl rfl rfl (by decide +kernel) ⟨Nat.le_of_ble_eq_true rfl, Nat.le_of_ble_eq_true rfl⟩) hP hD hK hN ([0, 1, 2, 3] : List Nat) rfl rfl 4 0 rfl rfl rfl hl.1 rfl (Nat.le_of_ble_eq_true rfl) dX4_bookingAt_70 ⟨Nat.zero_le _, Nat.zero_le _⟩) hP hD hS hA [0, 1, 2, 3] [] [0, 1, 2, 3] rfl rfl rfl (by decide) rfl rfl (fun H locs hP hD hS => ?_)
                refine lv_aload_n hx hb dX4_bookingAt_73 rfl (lv_at hl 1 rfl) ?_
                refine lv_iload_n hx hb dX4_bookingAt_74 rfl (lv_at hl 2 rfl) ?_
                refine lv_iload hx hb dX4_bookingAt_75 (lv_at hl 5 rfl) ?_
                refine kI (wr := ([] : va_W)) (W1 := MDw cA cZ aM aS aI aK sf mf kf m0 m1 m2 m3 m4) (wsN := MDw cA cZ aM aS aI aK sf mf kf m0 m1 m2 m3 m4) (rV (As := [.int x1, .int v4]) (rest := [.int (g_X4_beginOf sf x1 v7)]) (W0 := MDw cA cZ aM aS aI aK sf mf kf m0 m1 m2 m3 m4) ⟨hx, hb, hml, hown, hts⟩ (c_X4_beginOf l D cA cZ aM aS aI aK H.size sf mf kf m0 m1 m2 m3 m4 x1 v4 (show bok v4 from by exact (h4.resolve_left c_6))) (cwV 2 hts gX4_bookingAt_X4_beginOf rfl rfl rfl (by decide +kernel) ⟨Nat.le_of_ble_eq_true rfl, Nat.le_of_ble_eq_true rfl⟩) hP hD hK hN ([0, 1, 2, 3] : List Nat) rfl rfl 4 0 rfl rfl rfl hl.1 rfl (Nat.le_of_ble_eq_true rfl) dX4_bookingAt_77 ⟨Nat.zero_le _, Nat.zero_le _⟩) hP hD hS hA [0, 1, 2, 3] [] [0, 1, 2, 3] rfl rfl rfl (by decide) rfl rfl (fun H locs hP hD hS => ?_)
                refine lv_icmp_le (tgt := 109) hx hb dX4_bookingAt_80 (by decide) (fun c_9 => ?_) (fun c_9 => ?_)
                · refine lv_iinc (v := (v7 + 1)) (lv' := [(7, .int (v7 + 1)), (8, .int (g_X4_isOn sf v7 x1 x2)), (0, .ref aM), (1, .int x1), (2, .int x2), (3, .int x3), (4, .int v4), (5, .int v5), (6, .int v6)]) hx hb dX4_bookingAt_109 hl (k := 8) rfl rfl (by decide) rfl (fun ls hl => ?_)
                  refine lv_goto (tgt := 20) hx hb dX4_bookingAt_112 (by decide) ?_
                  rw [g_X4_bookingAt_L20, if_neg c_2, if_pos c_4, if_neg c_5, if_neg c_6, if_pos c_9] at hG
                  exact ih20 v6 (v7 + 1) _ _ _ (by exact up_ge h0 c_2) (by exact h6) (by exact ms_up c_2 hm20) hG hP hD hS (lv_sub hl [2, 3, 4, 5, 6, 7, 8, 0] rfl)
                · refine lv_iload hx hb dX4_bookingAt_83 (lv_at hl 7 rfl) ?_
                  refine lv_if_lt (tgt := 105) hx hb dX4_bookingAt_85 (by decide) (fun c_10 => ?_) (fun c_10 => ?_)
                  · refine lv_iload hx hb dX4_bookingAt_105 (lv_at hl 8 rfl) ?_
                    refine lv_istore (lv' := [(6, .int v7), (8, .int (g_X4_isOn sf v7 x1 x2)), (0, .ref aM), (1, .int x1), (2, .int x2), (3, .int x3), (4, .int v4), (5, .int v5), (7, .int v7)]) hx hb dX4_bookingAt_107 hl (by decide) rfl (fun ls hl => ?_)
                    refine lv_iinc (v := (v7 + 1)) (lv' := [(7, .int (v7 + 1)), (6, .int v7), (8, .int (g_X4_isOn sf v7 x1 x2)), (0, .ref aM), (1, .int x1), (2, .int x2), (3, .int x3), (4, .int v4), (5, .int v5)]) hx hb dX4_bookingAt_109 hl (k := 8) rfl rfl (by decide) rfl (fun ls hl => ?_)
                    refine lv_goto (tgt := 20) hx hb dX4_bookingAt_112 (by decide) ?_
                    rw [g_X4_bookingAt_L20, if_neg c_2, if_pos c_4, if_neg c_5, if_neg c_6, if_neg c_9, if_pos c_10] at hG
                    exact ih20 v7 (v7 + 1) _ _ _ (by exact up_ge h0 c_2) (by exact Or.inr ⟨bok_of h0 c_2 hm, (Or.inl ⟨c_4, c_5⟩), (Or.inr c_9)⟩) (by exact ms_up c_2 hm20) hG hP hD hS (lv_sub hl [3, 4, 5, 6, 7, 8, 1, 0] rfl)
                  · refine lv_aload_n hx hb dX4_bookingAt_88 rfl (lv_at hl 1 rfl) ?_
                    refine lv_iload_n hx hb dX4_bookingAt_89 rfl (lv_at hl 2 rfl) ?_
                    refine lv_iload hx hb dX4_bookingAt_90 (lv_at hl 8 rfl) ?_
                    refine kI (wr := ([] : va_W)) (W1 := MDw cA cZ aM aS aI aK sf mf kf m0 m1 m2 m3 m4) (wsN := MDw cA cZ aM aS aI aK sf mf kf m0 m1 m2 m3 m4) (rV (As := [.int x1, .int v7]) (rest := []) (W0 := MDw cA cZ aM aS aI aK sf mf kf m0 m1 m2 m3 m4) ⟨hx, hb, hml, hown, hts⟩ (c_X4_beginOf l D cA cZ aM aS aI aK H.size sf mf kf m0 m1 m2 m3 m4 x1 v7 (show bok v7 from by exact bok_of h0 c_2 hm)) (cwV 2 hts gX4_bookingAt_X4_beginOf rfl rfl rfl (by decide +kernel) ⟨Nat.le_of_ble_eq_true rfl, Nat.le_of_ble_eq_true rfl⟩) hP hD hK hN ([0, 1, 2, 3] : List Nat) rfl rfl 4 0 rfl rfl rfl hl.1 rfl (Nat.le_of_ble_eq_true rfl) dX4_bookingAt_92 ⟨Nat.zero_le _, Nat.zero_le _⟩) hP hD hS hA [0, 1, 2, 3] [] [0, 1, 2, 3] rfl rfl rfl (by decide) rfl rfl (fun H locs hP hD hS => ?_)
                    refine lv_aload_n hx hb dX4_bookingAt_95 rfl (lv_at hl 1 rfl) ?_
                    refine lv_iload_n hx hb dX4_bookingAt_96 rfl (lv_at hl 2 rfl) ?_
                    refine lv_iload hx hb dX4_bookingAt_97 (lv_at hl 7 rfl) ?_
                    refine kI (wr := ([] : va_W)) (W1 := MDw cA cZ aM aS aI aK sf mf kf m0 m1 m2 m3 m4) (wsN := MDw cA cZ aM aS aI aK sf mf kf m0 m1 m2 m3 m4) (rV (As := [.int x1, .int v6]) (rest := [.int (g_X4_beginOf sf x1 v7)]) (W0 := MDw cA cZ aM aS aI aK sf mf kf m0 m1 m2 m3 m4) ⟨hx, hb, hml, hown, hts⟩ (c_X4_beginOf l D cA cZ aM aS aI aK H.size sf mf kf m0 m1 m2 m3 m4 x1 v6 (show bok v6 from by exact (h6.resolve_left c_10).1)) (cwV 2 hts gX4_bookingAt_X4_beginOf rfl rfl rfl (by decide +kernel) ⟨Nat.le_of_ble_eq_true rfl, Nat.le_of_ble_eq_true rfl⟩) hP hD hK hN ([0, 1, 2, 3] : List Nat) rfl rfl 4 0 rfl rfl rfl hl.1 rfl (Nat.le_of_ble_eq_true rfl) dX4_bookingAt_99 ⟨Nat.zero_le _, Nat.zero_le _⟩) hP hD hS hA [0, 1, 2, 3] [] [0, 1, 2, 3] rfl rfl rfl (by decide) rfl rfl (fun H locs hP hD hS => ?_)
                    refine lv_icmp_ge (tgt := 109) hx hb dX4_bookingAt_102 (by decide) (fun c_11 => ?_) (fun c_11 => ?_)
                    · refine lv_iinc (v := (v7 + 1)) (lv' := [(7, .int (v7 + 1)), (8, .int (g_X4_isOn sf v7 x1 x2)), (0, .ref aM), (1, .int x1), (2, .int x2), (3, .int x3), (4, .int v4), (5, .int v5), (6, .int v6)]) hx hb dX4_bookingAt_109 hl (k := 8) rfl rfl (by decide) rfl (fun ls hl => ?_)
                      refine lv_goto (tgt := 20) hx hb dX4_bookingAt_112 (by decide) ?_
                      rw [g_X4_bookingAt_L20, if_neg c_2, if_pos c_4, if_neg c_5, if_neg c_6, if_neg c_9, if_neg c_10, if_pos c_11] at hG
                      exact ih20 v6 (v7 + 1) _ _ _ (by exact up_ge h0 c_2) (by exact h6) (by exact ms_up c_2 hm20) hG hP hD hS (lv_sub hl [2, 3, 4, 5, 6, 7, 8, 0] rfl)
                    · refine lv_iload hx hb dX4_bookingAt_105 (lv_at hl 8 rfl) ?_
                      refine lv_istore (lv' := [(6, .int v7), (8, .int (g_X4_isOn sf v7 x1 x2)), (0, .ref aM), (1, .int x1), (2, .int x2), (3, .int x3), (4, .int v4), (5, .int v5), (7, .int v7)]) hx hb dX4_bookingAt_107 hl (by decide) rfl (fun ls hl => ?_)
                      refine lv_iinc (v := (v7 + 1)) (lv' := [(7, .int (v7 + 1)), (6, .int v7), (8, .int (g_X4_isOn sf v7 x1 x2)), (0, .ref aM), (1, .int x1), (2, .int x2), (3, .int x3), (4, .int v4), (5, .int v5)]) hx hb dX4_bookingAt_109 hl (k := 8) rfl rfl (by decide) rfl (fun ls hl => ?_)
                      refine lv_goto (tgt := 20) hx hb dX4_bookingAt_112 (by decide) ?_
                      rw [g_X4_bookingAt_L20, if_neg c_2, if_pos c_4, if_neg c_5, if_neg c_6, if_neg c_9, if_neg c_10, if_neg c_11] at hG
                      exact ih20 v7 (v7 + 1) _ _ _ (by exact up_ge h0 c_2) (by exact Or.inr ⟨bok_of h0 c_2 hm, (Or.inl ⟨c_4, c_5⟩), (Or.inr c_9)⟩) (by exact ms_up c_2 hm20) hG hP hD hS (lv_sub hl [3, 4, 5, 6, 7, 8, 1, 0] rfl)
          · refine lv_aload_n hx hb dX4_bookingAt_36 rfl (lv_at hl 0 rfl) ?_
            refine lv_iload hx hb dX4_bookingAt_37 (lv_at hl 7 rfl) ?_
            refine lv_iload_n hx hb dX4_bookingAt_39 rfl (lv_at hl 2 rfl) ?_
            refine kI (wr := ([] : va_W)) (W1 := MDw cA cZ aM aS aI aK sf mf kf m0 m1 m2 m3 m4) (wsN := MDw cA cZ aM aS aI aK sf mf kf m0 m1 m2 m3 m4) (rV (As := [.int v7, .int x2]) (rest := []) (W0 := MDw cA cZ aM aS aI aK sf mf kf m0 m1 m2 m3 m4) ⟨hx, hb, hml, hown, hts⟩ (c_X4_isOnLine l D cA cZ aM aS aI aK H.size sf mf kf m0 m1 m2 m3 m4 v7 x2 (show bok v7 from by exact bok_of h0 c_2 hm)) (cwV 2 hts gX4_bookingAt_X4_isOnLine rfl rfl rfl (by decide +kernel) ⟨Nat.le_of_ble_eq_true rfl, Nat.le_of_ble_eq_true rfl⟩) hP hD hK hN ([0, 1, 2, 3] : List Nat) rfl rfl 4 0 rfl rfl rfl hl.1 rfl (Nat.le_of_ble_eq_true rfl) dX4_bookingAt_40 ⟨Nat.zero_le _, Nat.zero_le _⟩) hP hD hS hA [0, 1, 2, 3] [] [0, 1, 2, 3] rfl rfl rfl (by decide) rfl rfl (fun H locs hP hD hS => ?_)
            refine lv_goto (tgt := 54) hx hb dX4_bookingAt_43 (by decide) ?_
            refine lv_istore (lv' := [(8, .int (g_X4_isOnLine sf v7 x2)), (0, .ref aM), (1, .int x1), (2, .int x2), (3, .int x3), (4, .int v4), (5, .int v5), (6, .int v6), (7, .int v7)]) hx hb dX4_bookingAt_54 hl (by decide) rfl (fun ls hl => ?_)
            refine lv_iload hx hb dX4_bookingAt_56 (lv_at hl 0 rfl) ?_
            refine lv_if_eq (tgt := 109) hx hb dX4_bookingAt_58 (by decide) (fun c_12 => ?_) (fun c_12 => ?_)
            · refine lv_iinc (v := (v7 + 1)) (lv' := [(7, .int (v7 + 1)), (8, .int (g_X4_isOnLine sf v7 x2)), (0, .ref aM), (1, .int x1), (2, .int x2), (3, .int x3), (4, .int v4), (5, .int v5), (6, .int v6)]) hx hb dX4_bookingAt_109 hl (k := 8) rfl rfl (by decide) rfl (fun ls hl => ?_)
              refine lv_goto (tgt := 20) hx hb dX4_bookingAt_112 (by decide) ?_
              rw [g_X4_bookingAt_L20, if_neg c_2, if_neg c_4, if_pos c_12] at hG
              exact ih20 v6 (v7 + 1) _ _ _ (by exact up_ge h0 c_2) (by exact h6) (by exact ms_up c_2 hm20) hG hP hD hS (lv_sub hl [2, 3, 4, 5, 6, 7, 8, 0] rfl)
            · refine lv_iload hx hb dX4_bookingAt_61 (lv_at hl 5 rfl) ?_
              refine lv_if_lt (tgt := 83) hx hb dX4_bookingAt_63 (by decide) (fun c_13 => ?_) (fun c_13 => ?_)
              · refine lv_iload hx hb dX4_bookingAt_83 (lv_at hl 7 rfl) ?_
                refine lv_if_lt (tgt := 105) hx hb dX4_bookingAt_85 (by decide) (fun c_14 => ?_) (fun c_14 => ?_)
                · refine lv_iload hx hb dX4_bookingAt_105 (lv_at hl 8 rfl) ?_
                  refine lv_istore (lv' := [(6, .int v7), (8, .int (g_X4_isOnLine sf v7 x2)), (0, .ref aM), (1, .int x1), (2, .int x2), (3, .int x3), (4, .int v4), (5, .int v5), (7, .int v7)]) hx hb dX4_bookingAt_107 hl (by decide) rfl (fun ls hl => ?_)
                  refine lv_iinc (v := (v7 + 1)) (lv' := [(7, .int (v7 + 1)), (6, .int v7), (8, .int (g_X4_isOnLine sf v7 x2)), (0, .ref aM), (1, .int x1), (2, .int x2), (3, .int x3), (4, .int v4), (5, .int v5)]) hx hb dX4_bookingAt_109 hl (k := 8) rfl rfl (by decide) rfl (fun ls hl => ?_)
                  refine lv_goto (tgt := 20) hx hb dX4_bookingAt_112 (by decide) ?_
                  rw [g_X4_bookingAt_L20, if_neg c_2, if_neg c_4, if_neg c_12, if_pos c_13, if_pos c_14] at hG
                  exact ih20 v7 (v7 + 1) _ _ _ (by exact up_ge h0 c_2) (by exact Or.inr ⟨bok_of h0 c_2 hm, (Or.inr ⟨c_4, c_12⟩), (Or.inl c_13)⟩) (by exact ms_up c_2 hm20) hG hP hD hS (lv_sub hl [3, 4, 5, 6, 7, 8, 1, 0] rfl)
                · refine lv_aload_n hx hb dX4_bookingAt_88 rfl (lv_at hl 1 rfl) ?_
                  refine lv_iload_n hx hb dX4_bookingAt_89 rfl (lv_at hl 2 rfl) ?_
                  refine lv_iload hx hb dX4_bookingAt_90 (lv_at hl 8 rfl) ?_
                  refine kI (wr := ([] : va_W)) (W1 := MDw cA cZ aM aS aI aK sf mf kf m0 m1 m2 m3 m4) (wsN := MDw cA cZ aM aS aI aK sf mf kf m0 m1 m2 m3 m4) (rV (As := [.int x1, .int v7]) (rest := []) (W0 := MDw cA cZ aM aS aI aK sf mf kf m0 m1 m2 m3 m4) ⟨hx, hb, hml, hown, hts⟩ (c_X4_beginOf l D cA cZ aM aS aI aK H.size sf mf kf m0 m1 m2 m3 m4 x1 v7 (show bok v7 from by exact bok_of h0 c_2 hm)) (cwV 2 hts gX4_bookingAt_X4_beginOf rfl rfl rfl (by decide +kernel) ⟨Nat.le_of_ble_eq_true rfl, Nat.le_of_ble_eq_true rfl⟩) hP hD hK hN ([0, 1, 2, 3] : List Nat) rfl rfl 4 0 rfl rfl rfl hl.1 rfl (Nat.le_of_ble_eq_true rfl) dX4_bookingAt_92 ⟨Nat.zero_le _, Nat.zero_le _⟩) hP hD hS hA [0, 1, 2, 3] [] [0, 1, 2, 3] rfl rfl rfl (by decide) rfl rfl (fun H locs hP hD hS => ?_)
                  refine lv_aload_n hx hb dX4_bookingAt_95 rfl (lv_at hl 1 rfl) ?_
                  refine lv_iload_n hx hb dX4_bookingAt_96 rfl (lv_at hl 2 rfl) ?_
                  refine lv_iload hx hb dX4_bookingAt_97 (lv_at hl 7 rfl) ?_
                  refine kI (wr := ([] : va_W)) (W1 := MDw cA cZ aM aS aI aK sf mf kf m0 m1 m2 m3 m4) (wsN := MDw cA cZ aM aS aI aK sf mf kf m0 m1 m2 m3 m4) (rV (As := [.int x1, .int v6]) (rest := [.int (g_X4_beginOf sf x1 v7)]) (W0 := MDw cA cZ aM aS aI aK sf mf kf m0 m1 m2 m3 m4) ⟨hx, hb, hml, hown, hts⟩ (c_X4_beginOf l D cA cZ aM aS aI aK H.size sf mf kf m0 m1 m2 m3 m4 x1 v6 (show bok v6 from by exact (h6.resolve_left c_14).1)) (cwV 2 hts gX4_bookingAt_X4_beginOf rfl rfl rfl (by decide +kernel) ⟨Nat.le_of_ble_eq_true rfl, Nat.le_of_ble_eq_true rfl⟩) hP hD hK hN ([0, 1, 2, 3] : List Nat) rfl rfl 4 0 rfl rfl rfl hl.1 rfl (Nat.le_of_ble_eq_true rfl) dX4_bookingAt_99 ⟨Nat.zero_le _, Nat.zero_le _⟩) hP hD hS hA [0, 1, 2, 3] [] [0, 1, 2, 3] rfl rfl rfl (by decide) rfl rfl (fun H locs hP hD hS => ?_)
                  refine lv_icmp_ge (tgt := 109) hx hb dX4_bookingAt_102 (by decide) (fun c_15 => ?_) (fun c_15 => ?_)
                  · refine lv_iinc (v := (v7 + 1)) (lv' := [(7, .int (v7 + 1)), (8, .int (g_X4_isOnLine sf v7 x2)), (0, .ref aM), (1, .int x1), (2, .int x2), (3, .int x3), (4, .int v4), (5, .int v5), (6, .int v6)]) hx hb dX4_bookingAt_109 hl (k := 8) rfl rfl (by decide) rfl (fun ls hl => ?_)
                    refine lv_goto (tgt := 20) hx hb dX4_bookingAt_112 (by decide) ?_
                    rw [g_X4_bookingAt_L20, if_neg c_2, if_neg c_4, if_neg c_12, if_pos c_13, if_neg c_14, if_pos c_15] at hG
                    exact ih20 v6 (v7 + 1) _ _ _ (by exact up_ge h0 c_2) (by exact h6) (by exact ms_up c_2 hm20) hG hP hD hS (lv_sub hl [2, 3, 4, 5, 6, 7, 8, 0] rfl)
                  · refine lv_iload hx hb dX4_bookingAt_105 (lv_at hl 8 rfl) ?_
                    refine lv_istore (lv' := [(6, .int v7), (8, .int (g_X4_isOnLine sf v7 x2)), (0, .ref aM), (1, .int x1), (2, .int x2), (3, .int x3), (4, .int v4), (5, .int v5), (7, .int v7)]) hx hb dX4_bookingAt_107 hl (by decide) rfl (fun ls hl => ?_)
                    refine lv_iinc (v := (v7 + 1)) (lv' := [(7, .int (v7 + 1)), (6, .int v7), (8, .int (g_X4_isOnLine sf v7 x2)), (0, .ref aM), (1, .int x1), (2, .int x2), (3, .int x3), (4, .int v4), (5, .int v5)]) hx hb dX4_bookingAt_109 hl (k := 8) rfl rfl (by decide) rfl (fun ls hl => ?_)
                    refine lv_goto (tgt := 20) hx hb dX4_bookingAt_112 (by decide) ?_
                    rw [g_X4_bookingAt_L20, if_neg c_2, if_neg c_4, if_neg c_12, if_pos c_13, if_neg c_14, if_neg c_15] at hG
                    exact ih20 v7 (v7 + 1) _ _ _ (by exact up_ge h0 c_2) (by exact Or.inr ⟨bok_of h0 c_2 hm, (Or.inr ⟨c_4, c_12⟩), (Or.inl c_13)⟩) (by exact ms_up c_2 hm20) hG hP hD hS (lv_sub hl [3, 4, 5, 6, 7, 8, 1, 0] rfl)
              · refine lv_aload_n hx hb dX4_bookingAt_66 rfl (lv_at hl 1 rfl) ?_
                refine lv_iload_n hx hb dX4_bookingAt_67 rfl (lv_at hl 2 rfl) ?_
                refine lv_iload hx hb dX4_bookingAt_68 (lv_at hl 8 rfl) ?_
                refine kI (wr := ([] : va_W)) (W1 := MDw cA cZ aM aS aI aK sf mf kf m0 m1 m2 m3 m4) (wsN := MDw cA cZ aM aS aI aK sf mf kf m0 m1 m2 m3 m4) (rV (As := [.int x1, .int v7]) (rest := []) (W0 := MDw cA cZ aM aS aI aK sf mf kf m0 m1 m2 m3 m4) ⟨hx, hb, hml, hown, hts⟩ (c_X4_beginOf l D cA cZ aM aS aI aK H.size sf mf kf m0 m1 m2 m3 m4 x1 v7 (show bok v7 from by exact bok_of h0 c_2 hm)) (cwV 2 hts gX4_bookingAt_X4_beginOf rfl rfl rfl (by decide +kernel) ⟨Nat.le_of_ble_eq_true rfl, Nat.le_of_ble_eq_true rfl⟩) hP hD hK hN ([0, 1, 2, 3] : List Nat) rfl rfl 4 0 rfl rfl rfl hl.1 rfl (Nat.le_of_ble_eq_true rfl) dX4_bookingAt_70 ⟨Nat.zero_le _, Nat.zero_le _⟩) hP hD hS hA [0, 1, 2, 3] [] [0, 1, 2, 3] rfl rfl rfl (by decide) rfl rfl (fun H locs hP hD hS => ?_)
                refine lv_aload_n hx hb dX4_bookingAt_73 rfl (lv_at hl 1 rfl) ?_
                refine lv_iload_n hx hb dX4_bookingAt_74 rfl (lv_at hl 2 rfl) ?_
                refine lv_iload hx hb dX4_bookingAt_75 (lv_at hl 5 rfl) ?_
                refine kI (wr := ([] : va_W)) (W1 := MDw cA cZ aM aS aI aK sf mf kf m0 m1 m2 m3 m4) (wsN := MDw cA cZ aM aS aI aK sf mf kf m0 m1 m2 m3 m4) (rV (As := [.int x1, .int v4]) (rest := [.int (g_X4_beginOf sf x1 v7)]) (W0 := MDw cA cZ aM aS aI aK sf mf kf m0 m1 m2 m3 m4) ⟨hx, hb, hml, hown, hts⟩ (c_X4_beginOf l D cA cZ aM aS aI aK H.size sf mf kf m0 m1 m2 m3 m4 x1 v4 (show bok v4 from by exact (h4.resolve_left c_13))) (cwV 2 hts gX4_bookingAt_X4_beginOf rfl rfl rfl (by decide +kernel) ⟨Nat.le_of_ble_eq_true rfl, Nat.le_of_ble_eq_true rfl⟩) hP hD hK hN ([0, 1, 2, 3] : List Nat) rfl rfl 4 0 rfl rfl rfl hl.1 rfl (Nat.le_of_ble_eq_true rfl) dX4_bookingAt_77 ⟨Nat.zero_le _, Nat.zero_le _⟩) hP hD hS hA [0, 1, 2, 3] [] [0, 1, 2, 3] rfl rfl rfl (by decide) rfl rfl (fun H locs hP hD hS => ?_)
                refine lv_icmp_le (tgt := 109) hx hb dX4_bookingAt_80 (by decide) (fun c_16 => ?_) (fun c_16 => ?_)
                · refine lv_iinc (v := (v7 + 1)) (lv' := [(7, .int (v7 + 1)), (8, .int (g_X4_isOnLine sf v7 x2)), (0, .ref aM), (1, .int x1), (2, .int x2), (3, .int x3), (4, .int v4), (5, .int v5), (6, .int v6)]) hx hb dX4_bookingAt_109 hl (k := 8) rfl rfl (by decide) rfl (fun ls hl => ?_)
                  refine lv_goto (tgt := 20) hx hb dX4_bookingAt_112 (by decide) ?_
                  rw [g_X4_bookingAt_L20, if_neg c_2, if_neg c_4, if_neg c_12, if_neg c_13, if_pos c_16] at hG
                  exact ih20 v6 (v7 + 1) _ _ _ (by exact up_ge h0 c_2) (by exact h6) (by exact ms_up c_2 hm20) hG hP hD hS (lv_sub hl [2, 3, 4, 5, 6, 7, 8, 0] rfl)
                · refine lv_iload hx hb dX4_bookingAt_83 (lv_at hl 7 rfl) ?_
                  refine lv_if_lt (tgt := 105) hx hb dX4_bookingAt_85 (by decide) (fun c_17 => ?_) (fun c_17 => ?_)
                  · refine lv_iload hx hb dX4_bookingAt_105 (lv_at hl 8 rfl) ?_
                    refine lv_istore (lv' := [(6, .int v7), (8, .int (g_X4_isOnLine sf v7 x2)), (0, .ref aM), (1, .int x1), (2, .int x2), (3, .int x3), (4, .int v4), (5, .int v5), (7, .int v7)]) hx hb dX4_bookingAt_107 hl (by decide) rfl (fun ls hl => ?_)
                    refine lv_iinc (v := (v7 + 1)) (lv' := [(7, .int (v7 + 1)), (6, .int v7), (8, .int (g_X4_isOnLine sf v7 x2)), (0, .ref aM), (1, .int x1), (2, .int x2), (3, .int x3), (4, .int v4), (5, .int v5)]) hx hb dX4_bookingAt_109 hl (k := 8) rfl rfl (by decide) rfl (fun ls hl => ?_)
                    refine lv_goto (tgt := 20) hx hb dX4_bookingAt_112 (by decide) ?_
                    rw [g_X4_bookingAt_L20, if_neg c_2, if_neg c_4, if_neg c_12, if_neg c_13, if_neg c_16, if_pos c_17] at hG
                    exact ih20 v7 (v7 + 1) _ _ _ (by exact up_ge h0 c_2) (by exact Or.inr ⟨bok_of h0 c_2 hm, (Or.inr ⟨c_4, c_12⟩), (Or.inr c_16)⟩) (by exact ms_up c_2 hm20) hG hP hD hS (lv_sub hl [3, 4, 5, 6, 7, 8, 1, 0] rfl)
                  · refine lv_aload_n hx hb dX4_bookingAt_88 rfl (lv_at hl 1 rfl) ?_
                    refine lv_iload_n hx hb dX4_bookingAt_89 rfl (lv_at hl 2 rfl) ?_
                    refine lv_iload hx hb dX4_bookingAt_90 (lv_at hl 8 rfl) ?_
                    refine kI (wr := ([] : va_W)) (W1 := MDw cA cZ aM aS aI aK sf mf kf m0 m1 m2 m3 m4) (wsN := MDw cA cZ aM aS aI aK sf mf kf m0 m1 m2 m3 m4) (rV (As := [.int x1, .int v7]) (rest := []) (W0 := MDw cA cZ aM aS aI aK sf mf kf m0 m1 m2 m3 m4) ⟨hx, hb, hml, hown, hts⟩ (c_X4_beginOf l D cA cZ aM aS aI aK H.size sf mf kf m0 m1 m2 m3 m4 x1 v7 (show bok v7 from by exact bok_of h0 c_2 hm)) (cwV 2 hts gX4_bookingAt_X4_beginOf rfl rfl rfl (by decide +kernel) ⟨Nat.le_of_ble_eq_true rfl, Nat.le_of_ble_eq_true rfl⟩) hP hD hK hN ([0, 1, 2, 3] : List Nat) rfl rfl 4 0 rfl rfl rfl hl.1 rfl (Nat.le_of_ble_eq_true rfl) dX4_bookingAt_92 ⟨Nat.zero_le _, Nat.zero_le _⟩) hP hD hS hA [0, 1, 2, 3] [] [0, 1, 2, 3] rfl rfl rfl (by decide) rfl rfl (fun H locs hP hD hS => ?_)
                    refine lv_aload_n hx hb dX4_bookingAt_95 rfl (lv_at hl 1 rfl) ?_
                    refine lv_iload_n hx hb dX4_bookingAt_96 rfl (lv_at hl 2 rfl) ?_
                    refine lv_iload hx hb dX4_bookingAt_97 (lv_at hl 7 rfl) ?_
                    refine kI (wr := ([] : va_W)) (W1 := MDw cA cZ aM aS aI aK sf mf kf m0 m1 m2 m3 m4) (wsN := MDw cA cZ aM aS aI aK sf mf kf m0 m1 m2 m3 m4) (rV (As := [.int x1, .int v6]) (rest := [.int (g_X4_beginOf sf x1 v7)]) (W0 := MDw cA cZ aM aS aI aK sf mf kf m0 m1 m2 m3 m4) ⟨hx, hb, hml, hown, hts⟩ (c_X4_beginOf l D cA cZ aM aS aI aK H.size sf mf kf m0 m1 m2 m3 m4 x1 v6 (show bok v6 from by exact (h6.resolve_left c_17).1)) (cwV 2 hts gX4_bookingAt_X4_beginOf rfl rfl rfl (by decide +kernel) ⟨Nat.le_of_ble_eq_true rfl, Nat.le_of_ble_eq_true rfl⟩) hP hD hK hN ([0, 1, 2, 3] : List Nat) rfl rfl 4 0 rfl rfl rfl hl.1 rfl (Nat.le_of_ble_eq_true rfl) dX4_bookingAt_99 ⟨Nat.zero_le _, Nat.zero_le _⟩) hP hD hS hA [0, 1, 2, 3] [] [0, 1, 2, 3] rfl rfl rfl (by decide) rfl rfl (fun H locs hP hD hS => ?_)
                    refine lv_icmp_ge (tgt := 109) hx hb dX4_bookingAt_102 (by decide) (fun c_18 => ?_) (fun c_18 => ?_)
                    · refine lv_iinc (v := (v7 + 1)) (lv' := [(7, .int (v7 + 1)), (8, .int (g_X4_isOnLine sf v7 x2)), (0, .ref aM), (1, .int x1), (2, .int x2), (3, .int x3), (4, .int v4), (5, .int v5), (6, .int v6)]) hx hb dX4_bookingAt_109 hl (k := 8) rfl rfl (by decide) rfl (fun ls hl => ?_)
                      refine lv_goto (tgt := 20) hx hb dX4_bookingAt_112 (by decide) ?_
                      rw [g_X4_bookingAt_L20, if_neg c_2, if_neg c_4, if_neg c_12, if_neg c_13, if_neg c_16, if_neg c_17, if_pos c_18] at hG
                      exact ih20 v6 (v7 + 1) _ _ _ (by exact up_ge h0 c_2) (by exact h6) (by exact ms_up c_2 hm20) hG hP hD hS (lv_sub hl [2, 3, 4, 5, 6, 7, 8, 0] rfl)
                    · refine lv_iload hx hb dX4_bookingAt_105 (lv_at hl 8 rfl) ?_
                      refine lv_istore (lv' := [(6, .int v7), (8, .int (g_X4_isOnLine sf v7 x2)), (0, .ref aM), (1, .int x1), (2, .int x2), (3, .int x3), (4, .int v4), (5, .int v5), (7, .int v7)]) hx hb dX4_bookingAt_107 hl (by decide) rfl (fun ls hl => ?_)
                      refine lv_iinc (v := (v7 + 1)) (lv' := [(7, .int (v7 + 1)), (6, .int v7), (8, .int (g_X4_isOnLine sf v7 x2)), (0, .ref aM), (1, .int x1), (2, .int x2), (3, .int x3), (4, .int v4), (5, .int v5)]) hx hb dX4_bookingAt_109 hl (k := 8) rfl rfl (by decide) rfl (fun ls hl => ?_)
                      refine lv_goto (tgt := 20) hx hb dX4_bookingAt_112 (by decide) ?_
                      rw [g_X4_bookingAt_L20, if_neg c_2, if_neg c_4, if_neg c_12, if_neg c_13, if_neg c_16, if_neg c_17, if_neg c_18] at hG
                      exact ih20 v7 (v7 + 1) _ _ _ (by exact up_ge h0 c_2) (by exact Or.inr ⟨bok_of h0 c_2 hm, (Or.inr ⟨c_4, c_12⟩), (Or.inr c_16)⟩) (by exact ms_up c_2 hm20) hG hP hD hS (lv_sub hl [3, 4, 5, 6, 7, 8, 1, 0] rfl)
