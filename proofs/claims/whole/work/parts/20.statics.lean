def g_X3_isBelow (x0 : Int32) (x1 : Int32) : Int32 := (if x0 < 0 then 0 else (if x1 ≤ x0 then 0 else 1))
set_option maxHeartbeats 4000000 in
set_option maxRecDepth 100000 in
theorem c_X3_isBelow (l : Launch) (D : va_G) (cA cZ : ClassId) (szz : Nat) (x0 : Int32) (x1 : Int32) : MetI l yX3_isBelow wsX3_isBelow 0 0 D (tyA cA cZ) [.int x0, .int x1] (([] : va_W)) szz (g_X3_isBelow x0 x1) (([] : va_W)) := by
  refine Met.ofW (cc := cX3_isBelow) (maxL := 2) (ret := (some .boolean)) (by decide) rfl ?_
  intro p e s m args below meth c s₁ B hml hv
  obtain ⟨rfl, hsz, hP, hK, hD0, hN⟩ := hv
  have hx := B.exec
  have hb := B.bytes
  have hr := B.returns
  have hts := atoms_spec (ws := wsX3_isBelow) B.pre
  have hown : s.vm.findClass RX3 = some m.cls := findClass_of_methodNamed B.named
  have hlocks := B.notSynchronized
  subst hsz
  have hD := hD0.self (sz := s.heap.size)
  generalize hAe : va_A (([] : va_W)) s.heap.size = A at hD ⊢
  have hA : ∀ q : Nat, s.heap.size ≤ q → A q := fun q h => by rw [← hAe]; exact Or.inr h
  have hS : va_S A s.heap s.heap [] := va_S.rf
  have hP : va_P D vwCl (([] : va_W)) s.heap := hP
  obtain ⟨G, hG⟩ : ∃ G, G = (g_X3_isBelow x0 x1) := ⟨_, rfl⟩
  rw [← hG]
  have hl := lv_entry ([.int x0, .int x1]) (n := 2) (Nat.le_of_ble_eq_true rfl)
  rw [lg_entry_eq]
  generalize (lg_sl ([.int x0, .int x1]) ++ List.replicate (2 - (lg_sl ([.int x0, .int x1])).length) Slot.unset).toArray = ls at hl ⊢
  have hl : lv_has ls 2 [(0, .int x0), (1, .int x1)] := hl
  refine lv_iload_n hx hb dX3_isBelow_0 rfl (lv_at hl 0 rfl) ?_
  refine lv_if_lt (tgt := 13) hx hb dX3_isBelow_1 (by decide) (fun c_1 => ?_) (fun c_1 => ?_)
  · refine lv_iconst (v := 0) hx hb dX3_isBelow_13 (by decide) ?_
    rw [g_X3_isBelow, if_pos c_1] at hG
    rw [hG]
    exact W.zret (v := 0) hx hb hr rfl (fun t ht hW => ⟨⟨_, (), rfl, rfl, by rw [ht]; exact hP, va_K.moved hW.alike hK, hD⟩, hS.F ht⟩) hS.2.2 dX3_isBelow_14
  · refine lv_iload_n hx hb dX3_isBelow_4 rfl (lv_at hl 0 rfl) ?_
    refine lv_iload_n hx hb dX3_isBelow_5 rfl (lv_at hl 1 rfl) ?_
    refine lv_icmp_ge (tgt := 13) hx hb dX3_isBelow_6 (by decide) (fun c_2 => ?_) (fun c_2 => ?_)
    · refine lv_iconst (v := 0) hx hb dX3_isBelow_13 (by decide) ?_
      rw [g_X3_isBelow, if_neg c_1, if_pos c_2] at hG
      rw [hG]
      exact W.zret (v := 0) hx hb hr rfl (fun t ht hW => ⟨⟨_, (), rfl, rfl, by rw [ht]; exact hP, va_K.moved hW.alike hK, hD⟩, hS.F ht⟩) hS.2.2 dX3_isBelow_14
    · refine lv_iconst (v := 1) hx hb dX3_isBelow_9 (by decide) ?_
      refine lv_goto (tgt := 14) hx hb dX3_isBelow_10 (by decide) ?_
      rw [g_X3_isBelow, if_neg c_1, if_neg c_2] at hG
      rw [hG]
      exact W.zret (v := 1) hx hb hr rfl (fun t ht hW => ⟨⟨_, (), rfl, rfl, by rw [ht]; exact hP, va_K.moved hW.alike hK, hD⟩, hS.F ht⟩) hS.2.2 dX3_isBelow_14

theorem b_isBelow (a b : Int32) : g_X3_isBelow a b = 0 ∨ g_X3_isBelow a b = 1 := by
  unfold g_X3_isBelow; split
  · exact Or.inl rfl
  · split
    · exact Or.inl rfl
    · exact Or.inr rfl
theorem below_iff {a b : Int32} : ¬ g_X3_isBelow a b = 0 ↔ 0 ≤ a.toInt ∧ a.toInt < b.toInt := by
  have e0 : (0 : Int32).toInt = 0 := rfl
  unfold g_X3_isBelow
  by_cases h1 : a < 0
  · rw [if_pos h1]; rw [Int32.lt_iff_toInt_lt, e0] at h1
    exact ⟨fun h => absurd rfl h, fun h => by omega⟩
  · rw [if_neg h1]; rw [Int32.lt_iff_toInt_lt, e0] at h1
    by_cases h2 : b ≤ a
    · rw [if_pos h2]; rw [Int32.le_iff_toInt_le] at h2
      exact ⟨fun h => absurd rfl h, fun h => by omega⟩
    · rw [if_neg h2]; rw [Int32.le_iff_toInt_le] at h2
      exact ⟨fun _ => ⟨by omega, by omega⟩, fun _ h => absurd h (by decide)⟩
theorem below_in {a b : Int32} {n : Nat} (h : ¬ g_X3_isBelow a b = 0) (hb : b.toInt = n) : vp_in a n := by
  have h1 := below_iff.mp h
  rw [vp_in_iff]; omega

def g_X3_isWithin (x0 : Int32) (x1 : Int32) (x2 : Int32) : Int32 := (if x0 < x1 then 0 else (if x2 < x0 then 0 else 1))
set_option maxHeartbeats 4000000 in
set_option maxRecDepth 100000 in
theorem c_X3_isWithin (l : Launch) (D : va_G) (cA cZ : ClassId) (szz : Nat) (x0 : Int32) (x1 : Int32) (x2 : Int32) : MetI l yX3_isWithin wsX3_isWithin 0 0 D (tyA cA cZ) [.int x0, .int x1, .int x2] (([] : va_W)) szz (g_X3_isWithin x0 x1 x2) (([] : va_W)) := by
  refine Met.ofW (cc := cX3_isWithin) (maxL := 3) (ret := (some .boolean)) (by decide) rfl ?_
  intro p e s m args below meth c s₁ B hml hv
  obtain ⟨rfl, hsz, hP, hK, hD0, hN⟩ := hv
  have hx := B.exec
  have hb := B.bytes
  have hr := B.returns
  have hts := atoms_spec (ws := wsX3_isWithin) B.pre
  have hown : s.vm.findClass RX3 = some m.cls := findClass_of_methodNamed B.named
  have hlocks := B.notSynchronized
  subst hsz
  have hD := hD0.self (sz := s.heap.size)
  generalize hAe : va_A (([] : va_W)) s.heap.size = A at hD ⊢
  have hA : ∀ q : Nat, s.heap.size ≤ q → A q := fun q h => by rw [← hAe]; exact Or.inr h
  have hS : va_S A s.heap s.heap [] := va_S.rf
  have hP : va_P D vwCl (([] : va_W)) s.heap := hP
  obtain ⟨G, hG⟩ : ∃ G, G = (g_X3_isWithin x0 x1 x2) := ⟨_, rfl⟩
  rw [← hG]
  have hl := lv_entry ([.int x0, .int x1, .int x2]) (n := 3) (Nat.le_of_ble_eq_true rfl)
  rw [lg_entry_eq]
  generalize (lg_sl ([.int x0, .int x1, .int x2]) ++ List.replicate (3 - (lg_sl ([.int x0, .int x1, .int x2])).length) Slot.unset).toArray = ls at hl ⊢
  have hl : lv_has ls 3 [(0, .int x0), (1, .int x1), (2, .int x2)] := hl
  refine lv_iload_n hx hb dX3_isWithin_0 rfl (lv_at hl 0 rfl) ?_
  refine lv_iload_n hx hb dX3_isWithin_1 rfl (lv_at hl 1 rfl) ?_
  refine lv_icmp_lt (tgt := 14) hx hb dX3_isWithin_2 (by decide) (fun c_1 => ?_) (fun c_1 => ?_)
  · refine lv_iconst (v := 0) hx hb dX3_isWithin_14 (by decide) ?_
    rw [g_X3_isWithin, if_pos c_1] at hG
    rw [hG]
    exact W.zret (v := 0) hx hb hr rfl (fun t ht hW => ⟨⟨_, (), rfl, rfl, by rw [ht]; exact hP, va_K.moved hW.alike hK, hD⟩, hS.F ht⟩) hS.2.2 dX3_isWithin_15
  · refine lv_iload_n hx hb dX3_isWithin_5 rfl (lv_at hl 0 rfl) ?_
    refine lv_iload_n hx hb dX3_isWithin_6 rfl (lv_at hl 2 rfl) ?_
    refine lv_icmp_gt (tgt := 14) hx hb dX3_isWithin_7 (by decide) (fun c_2 => ?_) (fun c_2 => ?_)
    · refine lv_iconst (v := 0) hx hb dX3_isWithin_14 (by decide) ?_
      rw [g_X3_isWithin, if_neg c_1, if_pos c_2] at hG
      rw [hG]
      exact W.zret (v := 0) hx hb hr rfl (fun t ht hW => ⟨⟨_, (), rfl, rfl, by rw [ht]; exact hP, va_K.moved hW.alike hK, hD⟩, hS.F ht⟩) hS.2.2 dX3_isWithin_15
    · refine lv_iconst (v := 1) hx hb dX3_isWithin_10 (by decide) ?_
      refine lv_goto (tgt := 15) hx hb dX3_isWithin_11 (by decide) ?_
      rw [g_X3_isWithin, if_neg c_1, if_neg c_2] at hG
      rw [hG]
      exact W.zret (v := 1) hx hb hr rfl (fun t ht hW => ⟨⟨_, (), rfl, rfl, by rw [ht]; exact hP, va_K.moved hW.alike hK, hD⟩, hS.F ht⟩) hS.2.2 dX3_isWithin_15

def g_X3_isColour (x0 : Int32) (x1 : Int32) : Int32 := (if (g_X3_isBelow x0 2) = 0 then 0 else (if (g_X3_isBelow x1 6) = 0 then 0 else 1))
set_option maxHeartbeats 4000000 in
set_option maxRecDepth 100000 in
theorem c_X3_isColour (l : Launch) (D : va_G) (cA cZ : ClassId) (szz : Nat) (x0 : Int32) (x1 : Int32) : MetI l yX3_isColour wsX3_isColour 1 21 D (tyA cA cZ) [.int x0, .int x1] (([] : va_W)) szz (g_X3_isColour x0 x1) (([] : va_W)) := by
  refine Met.ofW (cc := cX3_isColour) (maxL := 2) (ret := (some .boolean)) (by decide) rfl ?_
  intro p e s m args below meth c s₁ B hml hv
  obtain ⟨rfl, hsz, hP, hK, hD0, hN⟩ := hv
  have hx := B.exec
  have hb := B.bytes
  have hr := B.returns
  have hts := atoms_spec (ws := wsX3_isColour) B.pre
  have hown : s.vm.findClass RX3 = some m.cls := findClass_of_methodNamed B.named
  have hlocks := B.notSynchronized
  subst hsz
  have hD := hD0.self (sz := s.heap.size)
  generalize hAe : va_A (([] : va_W)) s.heap.size = A at hD ⊢
  have hA : ∀ q : Nat, s.heap.size ≤ q → A q := fun q h => by rw [← hAe]; exact Or.inr h
  have hS : va_S A s.heap s.heap [] := va_S.rf
  have hP : va_P D vwCl (([] : va_W)) s.heap := hP
  obtain ⟨G, hG⟩ : ∃ G, G = (g_X3_isColour x0 x1) := ⟨_, rfl⟩
  rw [← hG]
  have hl := lv_entry ([.int x0, .int x1]) (n := 2) (Nat.le_of_ble_eq_true rfl)
  rw [lg_entry_eq]
  generalize (lg_sl ([.int x0, .int x1]) ++ List.replicate (2 - (lg_sl ([.int x0, .int x1])).length) Slot.unset).toArray = ls at hl ⊢
  have hl : lv_has ls 2 [(0, .int x0), (1, .int x1)] := hl
  refine lv_iload_n hx hb dX3_isColour_0 rfl (lv_at hl 0 rfl) ?_
  refine lv_iconst (v := 2) hx hb dX3_isColour_1 (by decide) ?_
  refine kI (wr := ([] : va_W)) (W1 := ([] : va_W)) (wsN := ([] : va_W)) (rS (As := [.int x0, .int 2]) (rest := []) (W0 := ([] : va_W)) ⟨hx, hb, hml, hown, hts⟩ (c_X3_isBelow l D cA cZ s.heap.size x0 2) (cwS 2 hts gX3_isColour_X3_isBelow rfl rfl rfl (by decide +kernel) ⟨Nat.le_of_ble_eq_true rfl, Nat.le_of_ble_eq_true rfl⟩) hP hD hK hN ([] : List Nat) rfl rfl rfl hl.1 rfl (Nat.le_of_ble_eq_true rfl) dX3_isColour_2 ⟨Nat.zero_le _, Nat.zero_le _⟩) hP hD hS hA [] [] [] rfl rfl rfl (by decide) rfl rfl (fun H locs hP hD hS => ?_)
  refine lv_if_eq (tgt := 21) hx hb dX3_isColour_5 (by decide) (fun c_1 => ?_) (fun c_1 => ?_)
  · refine lv_iconst (v := 0) hx hb dX3_isColour_21 (by decide) ?_
    rw [g_X3_isColour, if_pos c_1] at hG
    rw [hG]
    exact W.zret (v := 0) hx hb hr rfl (fun t ht hW => ⟨⟨_, (), rfl, rfl, by rw [ht]; exact hP, va_K.moved hW.alike hK, hD⟩, hS.F ht⟩) hS.2.2 dX3_isColour_22
  · refine lv_iload_n hx hb dX3_isColour_8 rfl (lv_at hl 1 rfl) ?_
    refine lv_bipush (v := 6) hx hb dX3_isColour_9 (by decide) ?_
    refine kI (wr := ([] : va_W)) (W1 := ([] : va_W)) (wsN := ([] : va_W)) (rS (As := [.int x1, .int 6]) (rest := []) (W0 := ([] : va_W)) ⟨hx, hb, hml, hown, hts⟩ (c_X3_isBelow l D cA cZ H.size x1 6) (cwS 2 hts gX3_isColour_X3_isBelow rfl rfl rfl (by decide +kernel) ⟨Nat.le_of_ble_eq_true rfl, Nat.le_of_ble_eq_true rfl⟩) hP hD hK hN ([] : List Nat) rfl rfl rfl hl.1 rfl (Nat.le_of_ble_eq_true rfl) dX3_isColour_11 ⟨Nat.zero_le _, Nat.zero_le _⟩) hP hD hS hA [] [] [] rfl rfl rfl (by decide) rfl rfl (fun H locs hP hD hS => ?_)
    refine lv_if_eq (tgt := 21) hx hb dX3_isColour_14 (by decide) (fun c_2 => ?_) (fun c_2 => ?_)
    · refine lv_iconst (v := 0) hx hb dX3_isColour_21 (by decide) ?_
      rw [g_X3_isColour, if_neg c_1, if_pos c_2] at hG
      rw [hG]
      exact W.zret (v := 0) hx hb hr rfl (fun t ht hW => ⟨⟨_, (), rfl, rfl, by rw [ht]; exact hP, va_K.moved hW.alike hK, hD⟩, hS.F ht⟩) hS.2.2 dX3_isColour_22
    · refine lv_iconst (v := 1) hx hb dX3_isColour_17 (by decide) ?_
      refine lv_goto (tgt := 22) hx hb dX3_isColour_18 (by decide) ?_
      rw [g_X3_isColour, if_neg c_1, if_neg c_2] at hG
      rw [hG]
      exact W.zret (v := 1) hx hb hr rfl (fun t ht hW => ⟨⟨_, (), rfl, rfl, by rw [ht]; exact hP, va_K.moved hW.alike hK, hD⟩, hS.F ht⟩) hS.2.2 dX3_isColour_22

def g_X3_isSpan (x0 : Int32) (x1 : Int32) : Int32 := (if (g_X3_isWithin x0 0 20000) = 0 then 0 else (if (g_X3_isWithin x1 1 2000) = 0 then 0 else 1))
set_option maxHeartbeats 4000000 in
set_option maxRecDepth 100000 in
theorem c_X3_isSpan (l : Launch) (D : va_G) (cA cZ : ClassId) (szz : Nat) (x0 : Int32) (x1 : Int32) : MetI l yX3_isSpan wsX3_isSpan 1 22 D (tyA cA cZ) [.int x0, .int x1] (([] : va_W)) szz (g_X3_isSpan x0 x1) (([] : va_W)) := by
  refine Met.ofW (cc := cX3_isSpan) (maxL := 2) (ret := (some .boolean)) (by decide) rfl ?_
  intro p e s m args below meth c s₁ B hml hv
  obtain ⟨rfl, hsz, hP, hK, hD0, hN⟩ := hv
  have hx := B.exec
  have hb := B.bytes
  have hr := B.returns
  have hts := atoms_spec (ws := wsX3_isSpan) B.pre
  have hown : s.vm.findClass RX3 = some m.cls := findClass_of_methodNamed B.named
  have hlocks := B.notSynchronized
  subst hsz
  have hD := hD0.self (sz := s.heap.size)
  generalize hAe : va_A (([] : va_W)) s.heap.size = A at hD ⊢
  have hA : ∀ q : Nat, s.heap.size ≤ q → A q := fun q h => by rw [← hAe]; exact Or.inr h
  have hS : va_S A s.heap s.heap [] := va_S.rf
  have hP : va_P D vwCl (([] : va_W)) s.heap := hP
  obtain ⟨G, hG⟩ : ∃ G, G = (g_X3_isSpan x0 x1) := ⟨_, rfl⟩
  rw [← hG]
  have hl := lv_entry ([.int x0, .int x1]) (n := 2) (Nat.le_of_ble_eq_true rfl)
  rw [lg_entry_eq]
  generalize (lg_sl ([.int x0, .int x1]) ++ List.replicate (2 - (lg_sl ([.int x0, .int x1])).length) Slot.unset).toArray = ls at hl ⊢
  have hl : lv_has ls 2 [(0, .int x0), (1, .int x1)] := hl
  refine lv_iload_n hx hb dX3_isSpan_0 rfl (lv_at hl 0 rfl) ?_
  refine lv_iconst (v := 0) hx hb dX3_isSpan_1 (by decide) ?_
  refine lv_sipush (v := 20000) hx hb dX3_isSpan_2 (by decide) ?_
  refine kI (wr := ([] : va_W)) (W1 := ([] : va_W)) (wsN := ([] : va_W)) (rS (As := [.int x0, .int 0, .int 20000]) (rest := []) (W0 := ([] : va_W)) ⟨hx, hb, hml, hown, hts⟩ (c_X3_isWithin l D cA cZ s.heap.size x0 0 20000) (cwS 3 hts gX3_isSpan_X3_isWithin rfl rfl rfl (by decide +kernel) ⟨Nat.le_of_ble_eq_true rfl, Nat.le_of_ble_eq_true rfl⟩) hP hD hK hN ([] : List Nat) rfl rfl rfl hl.1 rfl (Nat.le_of_ble_eq_true rfl) dX3_isSpan_5 ⟨Nat.zero_le _, Nat.zero_le _⟩) hP hD hS hA [] [] [] rfl rfl rfl (by decide) rfl rfl (fun H locs hP hD hS => ?_)
  refine lv_if_eq (tgt := 26) hx hb dX3_isSpan_8 (by decide) (fun c_1 => ?_) (fun c_1 => ?_)
  · refine lv_iconst (v := 0) hx hb dX3_isSpan_26 (by decide) ?_
    rw [g_X3_isSpan, if_pos c_1] at hG
    rw [hG]
    exact W.zret (v := 0) hx hb hr rfl (fun t ht hW => ⟨⟨_, (), rfl, rfl, by rw [ht]; exact hP, va_K.moved hW.alike hK, hD⟩, hS.F ht⟩) hS.2.2 dX3_isSpan_27
  · refine lv_iload_n hx hb dX3_isSpan_11 rfl (lv_at hl 1 rfl) ?_
    refine lv_iconst (v := 1) hx hb dX3_isSpan_12 (by decide) ?_
    refine lv_sipush (v := 2000) hx hb dX3_isSpan_13 (by decide) ?_
    refine kI (wr := ([] : va_W)) (W1 := ([] : va_W)) (wsN := ([] : va_W)) (rS (As := [.int x1, .int 1, .int 2000]) (rest := []) (W0 := ([] : va_W)) ⟨hx, hb, hml, hown, hts⟩ (c_X3_isWithin l D cA cZ H.size x1 1 2000) (cwS 3 hts gX3_isSpan_X3_isWithin rfl rfl rfl (by decide +kernel) ⟨Nat.le_of_ble_eq_true rfl, Nat.le_of_ble_eq_true rfl⟩) hP hD hK hN ([] : List Nat) rfl rfl rfl hl.1 rfl (Nat.le_of_ble_eq_true rfl) dX3_isSpan_16 ⟨Nat.zero_le _, Nat.zero_le _⟩) hP hD hS hA [] [] [] rfl rfl rfl (by decide) rfl rfl (fun H locs hP hD hS => ?_)
    refine lv_if_eq (tgt := 26) hx hb dX3_isSpan_19 (by decide) (fun c_2 => ?_) (fun c_2 => ?_)
    · refine lv_iconst (v := 0) hx hb dX3_isSpan_26 (by decide) ?_
      rw [g_X3_isSpan, if_neg c_1, if_pos c_2] at hG
      rw [hG]
      exact W.zret (v := 0) hx hb hr rfl (fun t ht hW => ⟨⟨_, (), rfl, rfl, by rw [ht]; exact hP, va_K.moved hW.alike hK, hD⟩, hS.F ht⟩) hS.2.2 dX3_isSpan_27
    · refine lv_iconst (v := 1) hx hb dX3_isSpan_22 (by decide) ?_
      refine lv_goto (tgt := 27) hx hb dX3_isSpan_23 (by decide) ?_
      rw [g_X3_isSpan, if_neg c_1, if_neg c_2] at hG
      rw [hG]
      exact W.zret (v := 1) hx hb hr rfl (fun t ht hW => ⟨⟨_, (), rfl, rfl, by rw [ht]; exact hP, va_K.moved hW.alike hK, hD⟩, hS.F ht⟩) hS.2.2 dX3_isSpan_27

def g_X3_refusalOfBurst (x0 : Int32) (x1 : Int32) (x2 : Int32) (x3 : Int32) (x4 : Int32) : Int32 := (if (g_X3_isColour x0 x1) = 0 then (-1) else (if (g_X3_isBelow x2 3) = 0 then (-1) else (if (g_X3_isWithin x3 1 5) = 0 then (-2) else (if (g_X3_isWithin x4 1 60) = 0 then (-2) else 0))))
set_option maxHeartbeats 4000000 in
set_option maxRecDepth 100000 in
theorem c_X3_refusalOfBurst (l : Launch) (D : va_G) (cA cZ : ClassId) (szz : Nat) (x0 : Int32) (x1 : Int32) (x2 : Int32) (x3 : Int32) (x4 : Int32) : MetI l yX3_refusalOfBurst wsX3_refusalOfBurst 2 42 D (tyA cA cZ) [.int x0, .int x1, .int x2, .int x3, .int x4] (([] : va_W)) szz (g_X3_refusalOfBurst x0 x1 x2 x3 x4) (([] : va_W)) := by
  refine Met.ofW (cc := cX3_refusalOfBurst) (maxL := 5) (ret := (some .int)) (by decide) rfl ?_
  intro p e s m args below meth c s₁ B hml hv
  obtain ⟨rfl, hsz, hP, hK, hD0, hN⟩ := hv
  have hx := B.exec
  have hb := B.bytes
  have hr := B.returns
  have hts := atoms_spec (ws := wsX3_refusalOfBurst) B.pre
  have hown : s.vm.findClass RX3 = some m.cls := findClass_of_methodNamed B.named
  have hlocks := B.notSynchronized
  subst hsz
  have hD := hD0.self (sz := s.heap.size)
  generalize hAe : va_A (([] : va_W)) s.heap.size = A at hD ⊢
  have hA : ∀ q : Nat, s.heap.size ≤ q → A q := fun q h => by rw [← hAe]; exact Or.inr h
  have hS : va_S A s.heap s.heap [] := va_S.rf
  have hP : va_P D vwCl (([] : va_W)) s.heap := hP
  obtain ⟨G, hG⟩ : ∃ G, G = (g_X3_refusalOfBurst x0 x1 x2 x3 x4) := ⟨_, rfl⟩
  rw [← hG]
  have hl := lv_entry ([.int x0, .int x1, .int x2, .int x3, .int x4]) (n := 5) (Nat.le_of_ble_eq_true rfl)
  rw [lg_entry_eq]
  generalize (lg_sl ([.int x0, .int x1, .int x2, .int x3, .int x4]) ++ List.replicate (5 - (lg_sl ([.int x0, .int x1, .int x2, .int x3, .int x4])).length) Slot.unset).toArray = ls at hl ⊢
  have hl : lv_has ls 5 [(0, .int x0), (1, .int x1), (2, .int x2), (3, .int x3), (4, .int x4)] := hl
  refine lv_iload_n hx hb dX3_refusalOfBurst_0 rfl (lv_at hl 0 rfl) ?_
  refine lv_iload_n hx hb dX3_refusalOfBurst_1 rfl (lv_at hl 1 rfl) ?_
  refine kI (wr := ([] : va_W)) (W1 := ([] : va_W)) (wsN := ([] : va_W)) (rS (As := [.int x0, .int x1]) (rest := []) (W0 := ([] : va_W)) ⟨hx, hb, hml, hown, hts⟩ (c_X3_isColour l D cA cZ s.heap.size x0 x1) (cwS 2 hts gX3_refusalOfBurst_X3_isColour rfl rfl rfl (by decide +kernel) ⟨Nat.le_of_ble_eq_true rfl, Nat.le_of_ble_eq_true rfl⟩) hP hD hK hN ([] : List Nat) rfl rfl rfl hl.1 rfl (Nat.le_of_ble_eq_true rfl) dX3_refusalOfBurst_2 ⟨Nat.zero_le _, Nat.zero_le _⟩) hP hD hS hA [] [] [] rfl rfl rfl (by decide) rfl rfl (fun H locs hP hD hS => ?_)
  refine lv_if_eq (tgt := 16) hx hb dX3_refusalOfBurst_5 (by decide) (fun c_1 => ?_) (fun c_1 => ?_)
  · refine lv_iconst (v := (-1)) hx hb dX3_refusalOfBurst_16 (by decide) ?_
    rw [g_X3_refusalOfBurst, if_pos c_1] at hG
    rw [hG]
    exact W.iret (v := (-1)) hx hb hr (fun t ht hW => ⟨⟨_, (), rfl, rfl, by rw [ht]; exact hP, va_K.moved hW.alike hK, hD⟩, hS.F ht⟩) hS.2.2 dX3_refusalOfBurst_17
  · refine lv_iload_n hx hb dX3_refusalOfBurst_8 rfl (lv_at hl 2 rfl) ?_
    refine lv_iconst (v := 3) hx hb dX3_refusalOfBurst_9 (by decide) ?_
    refine kI (wr := ([] : va_W)) (W1 := ([] : va_W)) (wsN := ([] : va_W)) (rS (As := [.int x2, .int 3]) (rest := []) (W0 := ([] : va_W)) ⟨hx, hb, hml, hown, hts⟩ (c_X3_isBelow l D cA cZ H.size x2 3) (cwS 2 hts gX3_refusalOfBurst_X3_isBelow rfl rfl rfl (by decide +kernel) ⟨Nat.le_of_ble_eq_true rfl, Nat.le_of_ble_eq_true rfl⟩) hP hD hK hN ([] : List Nat) rfl rfl rfl hl.1 rfl (Nat.le_of_ble_eq_true rfl) dX3_refusalOfBurst_10 ⟨Nat.zero_le _, Nat.zero_le _⟩) hP hD hS hA [] [] [] rfl rfl rfl (by decide) rfl rfl (fun H locs hP hD hS => ?_)
    refine lv_if_ne (tgt := 18) hx hb dX3_refusalOfBurst_13 (by decide) (fun c_2 => ?_) (fun c_2 => ?_)
    · refine lv_iload_n hx hb dX3_refusalOfBurst_18 rfl (lv_at hl 3 rfl) ?_
      refine lv_iconst (v := 1) hx hb dX3_refusalOfBurst_19 (by decide) ?_
      refine lv_iconst (v := 5) hx hb dX3_refusalOfBurst_20 (by decide) ?_
      refine kI (wr := ([] : va_W)) (W1 := ([] : va_W)) (wsN := ([] : va_W)) (rS (As := [.int x3, .int 1, .int 5]) (rest := []) (W0 := ([] : va_W)) ⟨hx, hb, hml, hown, hts⟩ (c_X3_isWithin l D cA cZ H.size x3 1 5) (cwS 3 hts gX3_refusalOfBurst_X3_isWithin rfl rfl rfl (by decide +kernel) ⟨Nat.le_of_ble_eq_true rfl, Nat.le_of_ble_eq_true rfl⟩) hP hD hK hN ([] : List Nat) rfl rfl rfl hl.1 rfl (Nat.le_of_ble_eq_true rfl) dX3_refusalOfBurst_21 ⟨Nat.zero_le _, Nat.zero_le _⟩) hP hD hS hA [] [] [] rfl rfl rfl (by decide) rfl rfl (fun H locs hP hD hS => ?_)
      refine lv_if_eq (tgt := 38) hx hb dX3_refusalOfBurst_24 (by decide) (fun c_3 => ?_) (fun c_3 => ?_)
      · refine lv_bipush (v := (-2)) hx hb dX3_refusalOfBurst_38 (by decide) ?_
        rw [g_X3_refusalOfBurst, if_neg c_1, if_neg c_2, if_pos c_3] at hG
        rw [hG]
        exact W.iret (v := (-2)) hx hb hr (fun t ht hW => ⟨⟨_, (), rfl, rfl, by rw [ht]; exact hP, va_K.moved hW.alike hK, hD⟩, hS.F ht⟩) hS.2.2 dX3_refusalOfBurst_40
      · refine lv_iload hx hb dX3_refusalOfBurst_27 (lv_at hl 4 rfl) ?_
        refine lv_iconst (v := 1) hx hb dX3_refusalOfBurst_29 (by decide) ?_
        refine lv_bipush (v := 60) hx hb dX3_refusalOfBurst_30 (by decide) ?_
        refine kI (wr := ([] : va_W)) (W1 := ([] : va_W)) (wsN := ([] : va_W)) (rS (As := [.int x4, .int 1, .int 60]) (rest := []) (W0 := ([] : va_W)) ⟨hx, hb, hml, hown, hts⟩ (c_X3_isWithin l D cA cZ H.size x4 1 60) (cwS 3 hts gX3_refusalOfBurst_X3_isWithin rfl rfl rfl (by decide +kernel) ⟨Nat.le_of_ble_eq_true rfl, Nat.le_of_ble_eq_true rfl⟩) hP hD hK hN ([] : List Nat) rfl rfl rfl hl.1 rfl (Nat.le_of_ble_eq_true rfl) dX3_refusalOfBurst_32 ⟨Nat.zero_le _, Nat.zero_le _⟩) hP hD hS hA [] [] [] rfl rfl rfl (by decide) rfl rfl (fun H locs hP hD hS => ?_)
        refine lv_if_ne (tgt := 41) hx hb dX3_refusalOfBurst_35 (by decide) (fun c_4 => ?_) (fun c_4 => ?_)
        · refine lv_iconst (v := 0) hx hb dX3_refusalOfBurst_41 (by decide) ?_
          rw [g_X3_refusalOfBurst, if_neg c_1, if_neg c_2, if_neg c_3, if_neg c_4] at hG
          rw [hG]
          exact W.iret (v := 0) hx hb hr (fun t ht hW => ⟨⟨_, (), rfl, rfl, by rw [ht]; exact hP, va_K.moved hW.alike hK, hD⟩, hS.F ht⟩) hS.2.2 dX3_refusalOfBurst_42
        · refine lv_bipush (v := (-2)) hx hb dX3_refusalOfBurst_38 (by decide) ?_
          rw [g_X3_refusalOfBurst, if_neg c_1, if_neg c_2, if_neg c_3, if_pos c_4] at hG
          rw [hG]
          exact W.iret (v := (-2)) hx hb hr (fun t ht hW => ⟨⟨_, (), rfl, rfl, by rw [ht]; exact hP, va_K.moved hW.alike hK, hD⟩, hS.F ht⟩) hS.2.2 dX3_refusalOfBurst_40
    · refine lv_iconst (v := (-1)) hx hb dX3_refusalOfBurst_16 (by decide) ?_
      rw [g_X3_refusalOfBurst, if_neg c_1, if_pos c_2] at hG
      rw [hG]
      exact W.iret (v := (-1)) hx hb hr (fun t ht hW => ⟨⟨_, (), rfl, rfl, by rw [ht]; exact hP, va_K.moved hW.alike hK, hD⟩, hS.F ht⟩) hS.2.2 dX3_refusalOfBurst_17

def g_X3_commonDivisor_L7 : Nat → Int32 → Int32 → Int32 → (Int32)
  | 0, _, _, _ => 0
  | n + 1, v2, v3, v4 => (if 64 ≤ v4 then v2 else (if v3 = 0 then v2 else (g_X3_commonDivisor_L7 n v3 (v2 - v2 / v3 * v3) (v4 + 1))))
def g_X3_commonDivisor (x0 : Int32) (x1 : Int32) : Int32 := (g_X3_commonDivisor_L7 (((64 : Int32).toInt - ((0 : Int32)).toInt).toNat + 1) x0 x1 0)
set_option maxHeartbeats 4000000 in
set_option maxRecDepth 100000 in
theorem c_X3_commonDivisor (l : Launch) (D : va_G) (cA cZ : ClassId) (szz : Nat) (x0 : Int32) (x1 : Int32) : MetI l yX3_commonDivisor wsX3_commonDivisor 0 0 D (tyA cA cZ) [.int x0, .int x1] (([] : va_W)) szz (g_X3_commonDivisor x0 x1) (([] : va_W)) := by
  refine Met.ofW (cc := cX3_commonDivisor) (maxL := 6) (ret := (some .int)) (by decide) rfl ?_
  intro p e s m args below meth c s₁ B hml hv
  obtain ⟨rfl, hsz, hP, hK, hD0, hN⟩ := hv
  have hx := B.exec
  have hb := B.bytes
  have hr := B.returns
  have hts := atoms_spec (ws := wsX3_commonDivisor) B.pre
  have hown : s.vm.findClass RX3 = some m.cls := findClass_of_methodNamed B.named
  have hlocks := B.notSynchronized
  subst hsz
  have hD := hD0.self (sz := s.heap.size)
  generalize hAe : va_A (([] : va_W)) s.heap.size = A at hD ⊢
  have hA : ∀ q : Nat, s.heap.size ≤ q → A q := fun q h => by rw [← hAe]; exact Or.inr h
  have hS : va_S A s.heap s.heap [] := va_S.rf
  have hP : va_P D vwCl (([] : va_W)) s.heap := hP
  obtain ⟨G, hG⟩ : ∃ G, G = (g_X3_commonDivisor x0 x1) := ⟨_, rfl⟩
  rw [← hG]
  have hl := lv_entry ([.int x0, .int x1]) (n := 6) (Nat.le_of_ble_eq_true rfl)
  rw [lg_entry_eq]
  generalize (lg_sl ([.int x0, .int x1]) ++ List.replicate (6 - (lg_sl ([.int x0, .int x1])).length) Slot.unset).toArray = ls at hl ⊢
  have hl : lv_has ls 6 [(0, .int x0), (1, .int x1)] := hl
  refine lv_iload_n hx hb dX3_commonDivisor_0 rfl (lv_at hl 0 rfl) ?_
  refine lv_istore_n (lv' := [(2, .int x0), (0, .int x0), (1, .int x1)]) hx hb dX3_commonDivisor_1 rfl hl (by decide) rfl (fun ls hl => ?_)
  refine lv_iload_n hx hb dX3_commonDivisor_2 rfl (lv_at hl 2 rfl) ?_
  refine lv_istore_n (lv' := [(3, .int x1), (2, .int x0), (0, .int x0), (1, .int x1)]) hx hb dX3_commonDivisor_3 rfl hl (by decide) rfl (fun ls hl => ?_)
  refine lv_iconst (v := 0) hx hb dX3_commonDivisor_4 (by decide) ?_
  refine lv_istore (lv' := [(4, .int 0), (3, .int x1), (2, .int x0), (0, .int x0), (1, .int x1)]) hx hb dX3_commonDivisor_5 hl (by decide) rfl (fun ls hl => ?_)
  rw [g_X3_commonDivisor] at hG
  refine (?_ : ∀ (n : Nat) (v2 : Int32) (v3 : Int32) (v4 : Int32) (H : Heap) (locs : List Loc) (ls : Array Slot), ((64 : Int32).toInt - (v4).toInt).toNat < n → G = g_X3_commonDivisor_L7 n v2 v3 v4 → va_P D vwCl (([] : va_W)) H → va_D A (([] : va_W)) → va_S A s.heap H locs → lv_has ls 6 [(0, .int x0), (1, .int x1), (2, .int v2), (3, .int v3), (4, .int v4)] → W p l e _ s m _ below meth c H locs _ _ _ (F0 m 7 ls [])) (((64 : Int32).toInt - ((0 : Int32)).toInt).toNat + 1) x0 x1 0 _ _ _ (Nat.lt_succ_self _) hG hP hD hS (lv_sub hl [3, 4, 2, 1, 0] rfl)
  clear hG hP hD hS hl
  intro n
  induction n with
  | zero => intros; omega
  | succ n7 ih7 =>
    intro v2 v3 v4 H locs ls hm7 hG hP hD hS hl
    refine lv_iload hx hb dX3_commonDivisor_7 (lv_at hl 4 rfl) ?_
    refine lv_bipush (v := 64) hx hb dX3_commonDivisor_9 (by decide) ?_
    refine lv_icmp_ge (tgt := 34) hx hb dX3_commonDivisor_11 (by decide) (fun c_1 => ?_) (fun c_1 => ?_)
    · refine lv_iload_n hx hb dX3_commonDivisor_34 rfl (lv_at hl 2 rfl) ?_
      rw [g_X3_commonDivisor_L7, if_pos c_1] at hG
      rw [hG]
      exact W.iret (v := v2) hx hb hr (fun t ht hW => ⟨⟨_, (), rfl, rfl, by rw [ht]; exact hP, va_K.moved hW.alike hK, hD⟩, hS.F ht⟩) hS.2.2 dX3_commonDivisor_35
    · refine lv_iload_n hx hb dX3_commonDivisor_14 rfl (lv_at hl 3 rfl) ?_
      refine lv_if_eq (tgt := 34) hx hb dX3_commonDivisor_15 (by decide) (fun c_2 => ?_) (fun c_2 => ?_)
      · refine lv_iload_n hx hb dX3_commonDivisor_34 rfl (lv_at hl 2 rfl) ?_
        rw [g_X3_commonDivisor_L7, if_neg c_1, if_pos c_2] at hG
        rw [hG]
        exact W.iret (v := v2) hx hb hr (fun t ht hW => ⟨⟨_, (), rfl, rfl, by rw [ht]; exact hP, va_K.moved hW.alike hK, hD⟩, hS.F ht⟩) hS.2.2 dX3_commonDivisor_35
      · refine lv_iload_n hx hb dX3_commonDivisor_18 rfl (lv_at hl 2 rfl) ?_
        refine lv_iload_n hx hb dX3_commonDivisor_19 rfl (lv_at hl 3 rfl) ?_
        refine lv_irem hx hb dX3_commonDivisor_20 (by first | assumption | exact div_ne (by assumption)) ?_
        refine lv_istore (lv' := [(5, .int (v2 - v2 / v3 * v3)), (0, .int x0), (1, .int x1), (2, .int v2), (3, .int v3), (4, .int v4)]) hx hb dX3_commonDivisor_21 hl (by decide) rfl (fun ls hl => ?_)
        refine lv_iload_n hx hb dX3_commonDivisor_23 rfl (lv_at hl 4 rfl) ?_
        refine lv_istore_n (lv' := [(2, .int v3), (5, .int (v2 - v2 / v3 * v3)), (0, .int x0), (1, .int x1), (3, .int v3), (4, .int v4)]) hx hb dX3_commonDivisor_24 rfl hl (by decide) rfl (fun ls hl => ?_)
        refine lv_iload hx hb dX3_commonDivisor_25 (lv_at hl 1 rfl) ?_
        refine lv_istore_n (lv' := [(3, .int (v2 - v2 / v3 * v3)), (2, .int v3), (5, .int (v2 - v2 / v3 * v3)), (0, .int x0), (1, .int x1), (4, .int v4)]) hx hb dX3_commonDivisor_27 rfl hl (by decide) rfl (fun ls hl => ?_)
        refine lv_iinc (v := (v4 + 1)) (lv' := [(4, .int (v4 + 1)), (3, .int (v2 - v2 / v3 * v3)), (2, .int v3), (5, .int (v2 - v2 / v3 * v3)), (0, .int x0), (1, .int x1)]) hx hb dX3_commonDivisor_28 hl (k := 5) rfl rfl (by decide) rfl (fun ls hl => ?_)
        refine lv_goto (tgt := 7) hx hb dX3_commonDivisor_31 (by decide) ?_
        rw [g_X3_commonDivisor_L7, if_neg c_1, if_neg c_2] at hG
        exact ih7 v3 (v2 - v2 / v3 * v3) (v4 + 1) _ _ _ (by exact ms_up c_1 hm7) hG hP hD hS (lv_sub hl [4, 5, 2, 1, 0] rfl)
