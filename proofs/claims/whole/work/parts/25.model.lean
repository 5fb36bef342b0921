def g_X4_in (x0 : Int32) (x1 : Int32) (x2 : Int32) : Int32 := (if x0 < x1 then 0 else (if x2 < x0 then 0 else 1))
set_option maxHeartbeats 4000000 in
set_option maxRecDepth 100000 in
theorem c_X4_in (l : Launch) (D : va_G) (cA cZ : ClassId) (szz : Nat) (x0 : Int32) (x1 : Int32) (x2 : Int32) : MetI l yX4_in wsX4_in 0 0 D (tyA cA cZ) [.int x0, .int x1, .int x2] (([] : va_W)) szz (g_X4_in x0 x1 x2) (([] : va_W)) := by
  refine Met.ofW (cc := cX4_in) (maxL := 3) (ret := (some .boolean)) (by decide) rfl ?_
  intro p e s m args below meth c s₁ B hml hv
  obtain ⟨rfl, hsz, hP, hK, hD0, hN⟩ := hv
  have hx := B.exec
  have hb := B.bytes
  have hr := B.returns
  have hts := atoms_spec (ws := wsX4_in) B.pre
  have hown : s.vm.findClass RX4 = some m.cls := findClass_of_methodNamed B.named
  have hlocks := B.notSynchronized
  subst hsz
  have hD := hD0.self (sz := s.heap.size)
  generalize hAe : va_A (([] : va_W)) s.heap.size = A at hD ⊢
  have hA : ∀ q : Nat, s.heap.size ≤ q → A q := fun q h => by rw [← hAe]; exact Or.inr h
  have hS : va_S A s.heap s.heap [] := va_S.rf
  have hP : va_P D vwCl (([] : va_W)) s.heap := hP
  obtain ⟨G, hG⟩ : ∃ G, G = (g_X4_in x0 x1 x2) := ⟨_, rfl⟩
  rw [← hG]
  have hl := lv_entry ([.int x0, .int x1, .int x2]) (n := 3) (Nat.le_of_ble_eq_true rfl)
  rw [lg_entry_eq]
  generalize (lg_sl ([.int x0, .int x1, .int x2]) ++ List.replicate (3 - (lg_sl ([.int x0, .int x1, .int x2])).length) Slot.unset).toArray = ls at hl ⊢
  have hl : lv_has ls 3 [(0, .int x0), (1, .int x1), (2, .int x2)] := hl
  refine lv_iload_n hx hb dX4_in_0 rfl (lv_at hl 0 rfl) ?_
  refine lv_iload_n hx hb dX4_in_1 rfl (lv_at hl 1 rfl) ?_
  refine lv_icmp_lt (tgt := 14) hx hb dX4_in_2 (by decide) (fun c_1 => ?_) (fun c_1 => ?_)
  · refine lv_iconst (v := 0) hx hb dX4_in_14 (by decide) ?_
    rw [g_X4_in, if_pos c_1] at hG
    rw [hG]
    exact W.zret (v := 0) hx hb hr rfl (fun t ht hW => ⟨⟨_, (), rfl, rfl, by rw [ht]; exact hP, va_K.moved hW.alike hK, hD⟩, hS.F ht⟩) hS.2.2 dX4_in_15
  · refine lv_iload_n hx hb dX4_in_5 rfl (lv_at hl 0 rfl) ?_
    refine lv_iload_n hx hb dX4_in_6 rfl (lv_at hl 2 rfl) ?_
    refine lv_icmp_gt (tgt := 14) hx hb dX4_in_7 (by decide) (fun c_2 => ?_) (fun c_2 => ?_)
    · refine lv_iconst (v := 0) hx hb dX4_in_14 (by decide) ?_
      rw [g_X4_in, if_neg c_1, if_pos c_2] at hG
      rw [hG]
      exact W.zret (v := 0) hx hb hr rfl (fun t ht hW => ⟨⟨_, (), rfl, rfl, by rw [ht]; exact hP, va_K.moved hW.alike hK, hD⟩, hS.F ht⟩) hS.2.2 dX4_in_15
    · refine lv_iconst (v := 1) hx hb dX4_in_10 (by decide) ?_
      refine lv_goto (tgt := 15) hx hb dX4_in_11 (by decide) ?_
      rw [g_X4_in, if_neg c_1, if_neg c_2] at hG
      rw [hG]
      exact W.zret (v := 1) hx hb hr rfl (fun t ht hW => ⟨⟨_, (), rfl, rfl, by rw [ht]; exact hP, va_K.moved hW.alike hK, hD⟩, hS.F ht⟩) hS.2.2 dX4_in_15

theorem in_iff {a b c : Int32} : ¬ g_X4_in a b c = 0 ↔ b.toInt ≤ a.toInt ∧ a.toInt ≤ c.toInt := by
  unfold g_X4_in
  by_cases h1 : a < b
  · rw [if_pos h1]; rw [Int32.lt_iff_toInt_lt] at h1
    exact ⟨fun h => absurd rfl h, fun h => by omega⟩
  · rw [if_neg h1]; rw [Int32.lt_iff_toInt_lt] at h1
    by_cases h2 : c < a
    · rw [if_pos h2]; rw [Int32.lt_iff_toInt_lt] at h2
      exact ⟨fun h => absurd rfl h, fun h => by omega⟩
    · rw [if_neg h2]; rw [Int32.lt_iff_toInt_lt] at h2
      exact ⟨fun _ => ⟨by omega, by omega⟩, fun _ h => absurd h (by decide)⟩
theorem b_in (a b c : Int32) : g_X4_in a b c = 0 ∨ g_X4_in a b c = 1 := by
  unfold g_X4_in; split
  · exact Or.inl rfl
  · split
    · exact Or.inl rfl
    · exact Or.inr rfl
def bok (b : Int32) : Prop := 0 ≤ b.toInt ∧ b.toInt < 48
def wok (w : Int32) : Prop := 0 ≤ w.toInt ∧ w.toInt ≤ 10
theorem bok_of {b n : Int32} (h0 : 0 ≤ b) (hc : ¬ n ≤ b) (hn : n ≤ 48) : bok b := by
  have e0 : (0 : Int32).toInt = 0 := rfl
  have e48 : (48 : Int32).toInt = 48 := rfl
  rw [Int32.le_iff_toInt_le] at h0 hc hn
  unfold bok; omega
theorem in_vin {a b c : Int32} {n : Nat} (h : ¬ g_X4_in a b c = 0) (hb : 0 ≤ b.toInt) (hc : c.toInt < n) : vp_in a n := by
  have h1 := in_iff.mp h
  rw [vp_in_iff]; omega

def g_X4_at (x0 : Int32) (x1 : Int32) : Int32 := ((11 + (11 * x0)) + x1)
set_option maxHeartbeats 4000000 in
set_option maxRecDepth 100000 in
theorem c_X4_at (l : Launch) (D : va_G) (cA cZ : ClassId) (szz : Nat) (x0 : Int32) (x1 : Int32) : MetI l yX4_at wsX4_at 0 0 D (tyA cA cZ) [.int x0, .int x1] (([] : va_W)) szz (g_X4_at x0 x1) (([] : va_W)) := by
  refine Met.ofW (cc := cX4_at) (maxL := 2) (ret := (some .int)) (by decide) rfl ?_
  intro p e s m args below meth c s₁ B hml hv
  obtain ⟨rfl, hsz, hP, hK, hD0, hN⟩ := hv
  have hx := B.exec
  have hb := B.bytes
  have hr := B.returns
  have hts := atoms_spec (ws := wsX4_at) B.pre
  have hown : s.vm.findClass RX4 = some m.cls := findClass_of_methodNamed B.named
  have hlocks := B.notSynchronized
  subst hsz
  have hD := hD0.self (sz := s.heap.size)
  generalize hAe : va_A (([] : va_W)) s.heap.size = A at hD ⊢
  have hA : ∀ q : Nat, s.heap.size ≤ q → A q := fun q h => by rw [← hAe]; exact Or.inr h
  have hS : va_S A s.heap s.heap [] := va_S.rf
  have hP : va_P D vwCl (([] : va_W)) s.heap := hP
  obtain ⟨G, hG⟩ : ∃ G, G = (g_X4_at x0 x1) := ⟨_, rfl⟩
  rw [← hG]
  have hl := lv_entry ([.int x0, .int x1]) (n := 2) (Nat.le_of_ble_eq_true rfl)
  rw [lg_entry_eq]
  generalize (lg_sl ([.int x0, .int x1]) ++ List.replicate (2 - (lg_sl ([.int x0, .int x1])).length) Slot.unset).toArray = ls at hl ⊢
  have hl : lv_has ls 2 [(0, .int x0), (1, .int x1)] := hl
  refine lv_bipush (v := 11) hx hb dX4_at_0 (by decide) ?_
  refine lv_bipush (v := 11) hx hb dX4_at_2 (by decide) ?_
  refine lv_iload_n hx hb dX4_at_4 rfl (lv_at hl 0 rfl) ?_
  refine lv_imul hx hb dX4_at_5 ?_
  refine lv_iadd hx hb dX4_at_6 ?_
  refine lv_iload_n hx hb dX4_at_7 rfl (lv_at hl 1 rfl) ?_
  refine lv_iadd hx hb dX4_at_8 ?_
  rw [g_X4_at] at hG
  rw [hG]
  exact W.iret (v := ((11 + (11 * x0)) + x1)) hx hb hr (fun t ht hW => ⟨⟨_, (), rfl, rfl, by rw [ht]; exact hP, va_K.moved hW.alike hK, hD⟩, hS.F ht⟩) hS.2.2 dX4_at_9

theorem at_toInt {b w : Int32} (hb : bok b) (hw : wok w) : (g_X4_at b w).toInt = 11 + 11 * b.toInt + w.toInt := by
  have e : (11 : Int32).toInt = 11 := rfl
  obtain ⟨h1, h2⟩ := hb
  obtain ⟨h3, h4⟩ := hw
  have m1 : ((11 : Int32) * b).toInt = 11 * b.toInt := by rw [i32_mul (by rw [e]; omega) (by rw [e]; omega), e]
  have m2 : ((11 : Int32) + (11 : Int32) * b).toInt = 11 + 11 * b.toInt := by rw [i32_add (by omega) (by omega), e, m1]
  unfold g_X4_at
  rw [i32_add (by omega) (by omega), m2]
theorem at_in {b w : Int32} (hb : bok b) (hw : wok w) : vp_in (g_X4_at b w) 539 := by
  have h := at_toInt hb hw
  obtain ⟨h1, h2⟩ := hb
  obtain ⟨h3, h4⟩ := hw
  rw [vp_in_iff]; omega

def g_X4_of (sf : (Nat → Int32)) (x1 : Int32) (x2 : Int32) : Int32 := (sf (g_X4_at x1 x2).toNatClampNeg)
set_option maxHeartbeats 4000000 in
set_option maxRecDepth 100000 in
theorem c_X4_of (l : Launch) (D : va_G) (cA cZ : ClassId) (aM : Nat) (aS : Nat) (aI : Nat) (aK : Nat) (szz : Nat) (sf : (Nat → Int32)) (mf : (Nat → Int32)) (kf : (Nat → Int32)) (m0 : Int32) (m1 : Int32) (m2 : Int32) (m3 : Int32) (m4 : Int32) (x1 : Int32) (x2 : Int32) (hbk : bok x1) (hw : wok x2) : MetI l yX4_of wsX4_of 1 21 D (tyA cA cZ) [.ref aM, .int x1, .int x2] (MDw cA cZ aM aS aI aK sf mf kf m0 m1 m2 m3 m4) szz (g_X4_of sf x1 x2) (MDw cA cZ aM aS aI aK sf mf kf m0 m1 m2 m3 m4) := by
  refine Met.ofW (cc := cX4_of) (maxL := 3) (ret := (some .int)) (by decide) rfl ?_
  intro p e s m args below meth c s₁ B hml hv
  obtain ⟨rfl, hsz, hP, hK, hD0, hN⟩ := hv
  have hx := B.exec
  have hb := B.bytes
  have hr := B.returns
  have hts := atoms_spec (ws := wsX4_of) B.pre
  have hown : s.vm.findClass RX4 = some m.cls := findClass_of_methodNamed B.named
  have hlocks := B.notSynchronized
  have iX4 : ∀ w ∈ wsX40, w ∈ wsX4_of := fun _ h => List.mem_cons_of_mem _ (List.mem_append_right _ h)
  subst hsz
  have hD := hD0.self (sz := s.heap.size)
  generalize hAe : va_A (MDw cA cZ aM aS aI aK sf mf kf m0 m1 m2 m3 m4) s.heap.size = A at hD ⊢
  have hA : ∀ q : Nat, s.heap.size ≤ q → A q := fun q h => by rw [← hAe]; exact Or.inr h
  have hS : va_S A s.heap s.heap [] := va_S.rf
  have hP : va_P D vwCl (MDw cA cZ aM aS aI aK sf mf kf m0 m1 m2 m3 m4) s.heap := hP
  obtain ⟨G, hG⟩ : ∃ G, G = (g_X4_of sf x1 x2) := ⟨_, rfl⟩
  rw [← hG]
  have hl := lv_entry ([.ref aM, .int x1, .int x2]) (n := 3) (Nat.le_of_ble_eq_true rfl)
  rw [lg_entry_eq]
  generalize (lg_sl ([.ref aM, .int x1, .int x2]) ++ List.replicate (3 - (lg_sl ([.ref aM, .int x1, .int x2])).length) Slot.unset).toArray = ls at hl ⊢
  have hl : lv_has ls 3 [(0, .ref aM), (1, .int x1), (2, .int x2)] := hl
  refine lv_aload_n hx hb dX4_of_0 rfl (lv_at hl 0 rfl) ?_
  refine va_get (D := D) (ci := 4) (v := .ref aS) (C := RX4) (T := TX4) (N := 8) hx hb hts iX4 hown hK hP 0 rfl rfl 0 (by decide) (hts (.fieldLink RX4 7 "LightBurstsModel" "state" "[I") (List.mem_of_getElem? (i := 1) rfl)) (fun _ h9 => h9) rfl dX4_of_1 ?_
  refine lv_iload_n hx hb dX4_of_4 rfl (lv_at hl 1 rfl) ?_
  refine lv_iload_n hx hb dX4_of_5 rfl (lv_at hl 2 rfl) ?_
  refine kI (wr := MDw cA cZ aM aS aI aK sf mf kf m0 m1 m2 m3 m4) (W1 := ([] : va_W)) (wsN := MDw cA cZ aM aS aI aK sf mf kf m0 m1 m2 m3 m4) (rS (As := [.int x1, .int x2]) (rest := [.ref aS]) (W0 := ([] : va_W)) ⟨hx, hb, hml, hown, hts⟩ (c_X4_at l D cA cZ s.heap.size x1 x2) (cwS 2 hts gX4_of_X4_at rfl rfl rfl (by decide +kernel) ⟨Nat.le_of_ble_eq_true rfl, Nat.le_of_ble_eq_true rfl⟩) hP hD hK hN ([] : List Nat) rfl rfl rfl hl.1 rfl (Nat.le_of_ble_eq_true rfl) dX4_of_6 ⟨Nat.zero_le _, Nat.zero_le _⟩) hP hD hS hA [] [0, 1, 2, 3] [0, 1, 2, 3] rfl rfl rfl (by decide) rfl rfl (fun H locs hP hD hS => ?_)
  refine va_iald hx hb hK hP 1 0 rfl rfl (at_in hbk hw) dX4_of_9 ?_
  rw [g_X4_of] at hG
  rw [hG]
  exact W.iret (v := (sf (g_X4_at x1 x2).toNatClampNeg)) hx hb hr (fun t ht hW => ⟨⟨_, (), rfl, rfl, by rw [ht]; exact hP, va_K.moved hW.alike hK, hD⟩, hS.F ht⟩) hS.2.2 dX4_of_10

def g_X4_isBurst (sf : (Nat → Int32)) (x1 : Int32) : Int32 := (g_X4_in x1 0 ((sf 10) - 1))
set_option maxHeartbeats 4000000 in
set_option maxRecDepth 100000 in
theorem c_X4_isBurst (l : Launch) (D : va_G) (cA cZ : ClassId) (aM : Nat) (aS : Nat) (aI : Nat) (aK : Nat) (szz : Nat) (sf : (Nat → Int32)) (mf : (Nat → Int32)) (kf : (Nat → Int32)) (m0 : Int32) (m1 : Int32) (m2 : Int32) (m3 : Int32) (m4 : Int32) (x1 : Int32) : MetI l yX4_isBurst wsX4_isBurst 1 22 D (tyA cA cZ) [.ref aM, .int x1] (MDw cA cZ aM aS aI aK sf mf kf m0 m1 m2 m3 m4) szz (g_X4_isBurst sf x1) (MDw cA cZ aM aS aI aK sf mf kf m0 m1 m2 m3 m4) := by
  refine Met.ofW (cc := cX4_isBurst) (maxL := 2) (ret := (some .boolean)) (by decide) rfl ?_
  intro p e s m args below meth c s₁ B hml hv
  obtain ⟨rfl, hsz, hP, hK, hD0, hN⟩ := hv
  have hx := B.exec
  have hb := B.bytes
  have hr := B.returns
  have hts := atoms_spec (ws := wsX4_isBurst) B.pre
  have hown : s.vm.findClass RX4 = some m.cls := findClass_of_methodNamed B.named
  have hlocks := B.notSynchronized
  have iX4 : ∀ w ∈ wsX40, w ∈ wsX4_isBurst := fun _ h => List.mem_cons_of_mem _ (List.mem_append_right _ h)
  subst hsz
  have hD := hD0.self (sz := s.heap.size)
  generalize hAe : va_A (MDw cA cZ aM aS aI aK sf mf kf m0 m1 m2 m3 m4) s.heap.size = A at hD ⊢
  have hA : ∀ q : Nat, s.heap.size ≤ q → A q := fun q h => by rw [← hAe]; exact Or.inr h
  have hS : va_S A s.heap s.heap [] := va_S.rf
  have hP : va_P D vwCl (MDw cA cZ aM aS aI aK sf mf kf m0 m1 m2 m3 m4) s.heap := hP
  obtain ⟨G, hG⟩ : ∃ G, G = (g_X4_isBurst sf x1) := ⟨_, rfl⟩
  rw [← hG]
  have hl := lv_entry ([.ref aM, .int x1]) (n := 2) (Nat.le_of_ble_eq_true rfl)
  rw [lg_entry_eq]
  generalize (lg_sl ([.ref aM, .int x1]) ++ List.replicate (2 - (lg_sl ([.ref aM, .int x1])).length) Slot.unset).toArray = ls at hl ⊢
  have hl : lv_has ls 2 [(0, .ref aM), (1, .int x1)] := hl
  refine lv_iload_n hx hb dX4_isBurst_0 rfl (lv_at hl 1 rfl) ?_
  refine lv_iconst (v := 0) hx hb dX4_isBurst_1 (by decide) ?_
  refine lv_aload_n hx hb dX4_isBurst_2 rfl (lv_at hl 0 rfl) ?_
  refine va_get (D := D) (ci := 4) (v := .ref aS) (C := RX4) (T := TX4) (N := 8) hx hb hts iX4 hown hK hP 0 rfl rfl 0 (by decide) (hts (.fieldLink RX4 7 "LightBurstsModel" "state" "[I") (List.mem_of_getElem? (i := 1) rfl)) (fun _ h9 => h9) rfl dX4_isBurst_3 ?_
  refine lv_bipush (v := 10) hx hb dX4_isBurst_6 (by decide) ?_
  refine va_iald hx hb hK hP 1 0 rfl rfl (by unfold vp_in; decide) dX4_isBurst_8 ?_
  refine lv_eqi (sf 10) rfl ?_
  refine lv_iconst (v := 1) hx hb dX4_isBurst_9 (by decide) ?_
  refine lv_isub hx hb dX4_isBurst_10 ?_
  refine kI (wr := MDw cA cZ aM aS aI aK sf mf kf m0 m1 m2 m3 m4) (W1 := ([] : va_W)) (wsN := MDw cA cZ aM aS aI aK sf mf kf m0 m1 m2 m3 m4) (rS (As := [.int x1, .int 0, .int ((sf 10) - 1)]) (rest := []) (W0 := ([] : va_W)) ⟨hx, hb, hml, hown, hts⟩ (c_X4_in l D cA cZ s.heap.size x1 0 ((sf 10) - 1)) (cwS 3 hts gX4_isBurst_X4_in rfl rfl rfl (by decide +kernel) ⟨Nat.le_of_ble_eq_true rfl, Nat.le_of_ble_eq_true rfl⟩) hP hD hK hN ([] : List Nat) rfl rfl rfl hl.1 rfl (Nat.le_of_ble_eq_true rfl) dX4_isBurst_11 ⟨Nat.zero_le _, Nat.zero_le _⟩) hP hD hS hA [] [0, 1, 2, 3] [0, 1, 2, 3] rfl rfl rfl (by decide) rfl rfl (fun H locs hP hD hS => ?_)
  rw [g_X4_isBurst] at hG
  rw [hG]
  exact W.zret (v := (g_X4_in x1 0 ((sf 10) - 1))) hx hb hr (nb_01 (by first | assumption | exact b_in _ _ _)) (fun t ht hW => ⟨⟨_, (), rfl, rfl, by rw [ht]; exact hP, va_K.moved hW.alike hK, hD⟩, hS.F ht⟩) hS.2.2 dX4_isBurst_14

def g_X4_isOut (x0 : Int32) : Int32 := (g_X4_in x0 0 1)
set_option maxHeartbeats 4000000 in
set_option maxRecDepth 100000 in
theorem c_X4_isOut (l : Launch) (D : va_G) (cA cZ : ClassId) (szz : Nat) (x0 : Int32) : MetI l yX4_isOut wsX4_isOut 1 22 D (tyA cA cZ) [.int x0] (([] : va_W)) szz (g_X4_isOut x0) (([] : va_W)) := by
  refine Met.ofW (cc := cX4_isOut) (maxL := 1) (ret := (some .boolean)) (by decide) rfl ?_
  intro p e s m args below meth c s₁ B hml hv
  obtain ⟨rfl, hsz, hP, hK, hD0, hN⟩ := hv
  have hx := B.exec
  have hb := B.bytes
  have hr := B.returns
  have hts := atoms_spec (ws := wsX4_isOut) B.pre
  have hown : s.vm.findClass RX4 = some m.cls := findClass_of_methodNamed B.named
  have hlocks := B.notSynchronized
  subst hsz
  have hD := hD0.self (sz := s.heap.size)
  generalize hAe : va_A (([] : va_W)) s.heap.size = A at hD ⊢
  have hA : ∀ q : Nat, s.heap.size ≤ q → A q := fun q h => by rw [← hAe]; exact Or.inr h
  have hS : va_S A s.heap s.heap [] := va_S.rf
  have hP : va_P D vwCl (([] : va_W)) s.heap := hP
  obtain ⟨G, hG⟩ : ∃ G, G = (g_X4_isOut x0) := ⟨_, rfl⟩
  rw [← hG]
  have hl := lv_entry ([.int x0]) (n := 1) (Nat.le_of_ble_eq_true rfl)
  rw [lg_entry_eq]
  generalize (lg_sl ([.int x0]) ++ List.replicate (1 - (lg_sl ([.int x0])).length) Slot.unset).toArray = ls at hl ⊢
  have hl : lv_has ls 1 [(0, .int x0)] := hl
  refine lv_iload_n hx hb dX4_isOut_0 rfl (lv_at hl 0 rfl) ?_
  refine lv_iconst (v := 0) hx hb dX4_isOut_1 (by decide) ?_
  refine lv_iconst (v := 1) hx hb dX4_isOut_2 (by decide) ?_
  refine kI (wr := ([] : va_W)) (W1 := ([] : va_W)) (wsN := ([] : va_W)) (rS (As := [.int x0, .int 0, .int 1]) (rest := []) (W0 := ([] : va_W)) ⟨hx, hb, hml, hown, hts⟩ (c_X4_in l D cA cZ s.heap.size x0 0 1) (cwS 3 hts gX4_isOut_X4_in rfl rfl rfl (by decide +kernel) ⟨Nat.le_of_ble_eq_true rfl, Nat.le_of_ble_eq_true rfl⟩) hP hD hK hN ([] : List Nat) rfl rfl rfl hl.1 rfl (Nat.le_of_ble_eq_true rfl) dX4_isOut_3 ⟨Nat.zero_le _, Nat.zero_le _⟩) hP hD hS hA [] [] [] rfl rfl rfl (by decide) rfl rfl (fun H locs hP hD hS => ?_)
  rw [g_X4_isOut] at hG
  rw [hG]
  exact W.zret (v := (g_X4_in x0 0 1)) hx hb hr (nb_01 (by first | assumption | exact b_in _ _ _)) (fun t ht hW => ⟨⟨_, (), rfl, rfl, by rw [ht]; exact hP, va_K.moved hW.alike hK, hD⟩, hS.F ht⟩) hS.2.2 dX4_isOut_6

def g_X4_isColour (x0 : Int32) : Int32 := (g_X4_in x0 0 5)
set_option maxHeartbeats 4000000 in
set_option maxRecDepth 100000 in
theorem c_X4_isColour (l : Launch) (D : va_G) (cA cZ : ClassId) (szz : Nat) (x0 : Int32) : MetI l yX4_isColour wsX4_isColour 1 22 D (tyA cA cZ) [.int x0] (([] : va_W)) szz (g_X4_isColour x0) (([] : va_W)) := by
  refine Met.ofW (cc := cX4_isColour) (maxL := 1) (ret := (some .boolean)) (by decide) rfl ?_
  intro p e s m args below meth c s₁ B hml hv
  obtain ⟨rfl, hsz, hP, hK, hD0, hN⟩ := hv
  have hx := B.exec
  have hb := B.bytes
  have hr := B.returns
  have hts := atoms_spec (ws := wsX4_isColour) B.pre
  have hown : s.vm.findClass RX4 = some m.cls := findClass_of_methodNamed B.named
  have hlocks := B.notSynchronized
  subst hsz
  have hD := hD0.self (sz := s.heap.size)
  generalize hAe : va_A (([] : va_W)) s.heap.size = A at hD ⊢
  have hA : ∀ q : Nat, s.heap.size ≤ q → A q := fun q h => by rw [← hAe]; exact Or.inr h
  have hS : va_S A s.heap s.heap [] := va_S.rf
  have hP : va_P D vwCl (([] : va_W)) s.heap := hP
  obtain ⟨G, hG⟩ : ∃ G, G = (g_X4_isColour x0) := ⟨_, rfl⟩
  rw [← hG]
  have hl := lv_entry ([.int x0]) (n := 1) (Nat.le_of_ble_eq_true rfl)
  rw [lg_entry_eq]
  generalize (lg_sl ([.int x0]) ++ List.replicate (1 - (lg_sl ([.int x0])).length) Slot.unset).toArray = ls at hl ⊢
  have hl : lv_has ls 1 [(0, .int x0)] := hl
  refine lv_iload_n hx hb dX4_isColour_0 rfl (lv_at hl 0 rfl) ?_
  refine lv_iconst (v := 0) hx hb dX4_isColour_1 (by decide) ?_
  refine lv_iconst (v := 5) hx hb dX4_isColour_2 (by decide) ?_
  refine kI (wr := ([] : va_W)) (W1 := ([] : va_W)) (wsN := ([] : va_W)) (rS (As := [.int x0, .int 0, .int 5]) (rest := []) (W0 := ([] : va_W)) ⟨hx, hb, hml, hown, hts⟩ (c_X4_in l D cA cZ s.heap.size x0 0 5) (cwS 3 hts gX4_isColour_X4_in rfl rfl rfl (by decide +kernel) ⟨Nat.le_of_ble_eq_true rfl, Nat.le_of_ble_eq_true rfl⟩) hP hD hK hN ([] : List Nat) rfl rfl rfl hl.1 rfl (Nat.le_of_ble_eq_true rfl) dX4_isColour_3 ⟨Nat.zero_le _, Nat.zero_le _⟩) hP hD hS hA [] [] [] rfl rfl rfl (by decide) rfl rfl (fun H locs hP hD hS => ?_)
  rw [g_X4_isColour] at hG
  rw [hG]
  exact W.zret (v := (g_X4_in x0 0 5)) hx hb hr (nb_01 (by first | assumption | exact b_in _ _ _)) (fun t ht hW => ⟨⟨_, (), rfl, rfl, by rw [ht]; exact hP, va_K.moved hW.alike hK, hD⟩, hS.F ht⟩) hS.2.2 dX4_isColour_6

def g_X4_isSpan (x0 : Int32) (x1 : Int32) : Int32 := (if (g_X4_in x0 0 20000) = 0 then 0 else (if (g_X4_in x1 1 2000) = 0 then 0 else 1))
set_option maxHeartbeats 4000000 in
set_option maxRecDepth 100000 in
theorem c_X4_isSpan (l : Launch) (D : va_G) (cA cZ : ClassId) (szz : Nat) (x0 : Int32) (x1 : Int32) : MetI l yX4_isSpan wsX4_isSpan 1 22 D (tyA cA cZ) [.int x0, .int x1] (([] : va_W)) szz (g_X4_isSpan x0 x1) (([] : va_W)) := by
  refine Met.ofW (cc := cX4_isSpan) (maxL := 2) (ret := (some .boolean)) (by decide) rfl ?_
  intro p e s m args below meth c s₁ B hml hv
  obtain ⟨rfl, hsz, hP, hK, hD0, hN⟩ := hv
  have hx := B.exec
  have hb := B.bytes
  have hr := B.returns
  have hts := atoms_spec (ws := wsX4_isSpan) B.pre
  have hown : s.vm.findClass RX4 = some m.cls := findClass_of_methodNamed B.named
  have hlocks := B.notSynchronized
  subst hsz
  have hD := hD0.self (sz := s.heap.size)
  generalize hAe : va_A (([] : va_W)) s.heap.size = A at hD ⊢
  have hA : ∀ q : Nat, s.heap.size ≤ q → A q := fun q h => by rw [← hAe]; exact Or.inr h
  have hS : va_S A s.heap s.heap [] := va_S.rf
  have hP : va_P D vwCl (([] : va_W)) s.heap := hP
  obtain ⟨G, hG⟩ : ∃ G, G = (g_X4_isSpan x0 x1) := ⟨_, rfl⟩
  rw [← hG]
  have hl := lv_entry ([.int x0, .int x1]) (n := 2) (Nat.le_of_ble_eq_true rfl)
  rw [lg_entry_eq]
  generalize (lg_sl ([.int x0, .int x1]) ++ List.replicate (2 - (lg_sl ([.int x0, .int x1])).length) Slot.unset).toArray = ls at hl ⊢
  have hl : lv_has ls 2 [(0, .int x0), (1, .int x1)] := hl
  refine lv_iload_n hx hb dX4_isSpan_0 rfl (lv_at hl 0 rfl) ?_
  refine lv_iconst (v := 0) hx hb dX4_isSpan_1 (by decide) ?_
  refine lv_sipush (v := 20000) hx hb dX4_isSpan_2 (by decide) ?_
  refine kI (wr := ([] : va_W)) (W1 := ([] : va_W)) (wsN := ([] : va_W)) (rS (As := [.int x0, .int 0, .int 20000]) (rest := []) (W0 := ([] : va_W)) ⟨hx, hb, hml, hown, hts⟩ (c_X4_in l D cA cZ s.heap.size x0 0 20000) (cwS 3 hts gX4_isSpan_X4_in rfl rfl rfl (by decide +kernel) ⟨Nat.le_of_ble_eq_true rfl, Nat.le_of_ble_eq_true rfl⟩) hP hD hK hN ([] : List Nat) rfl rfl rfl hl.1 rfl (Nat.le_of_ble_eq_true rfl) dX4_isSpan_5 ⟨Nat.zero_le _, Nat.zero_le _⟩) hP hD hS hA [] [] [] rfl rfl rfl (by decide) rfl rfl (fun H locs hP hD hS => ?_)
  refine lv_if_eq (tgt := 26) hx hb dX4_isSpan_8 (by decide) (fun c_1 => ?_) (fun c_1 => ?_)
  · refine lv_iconst (v := 0) hx hb dX4_isSpan_26 (by decide) ?_
    rw [g_X4_isSpan, if_pos c_1] at hG
    rw [hG]
    exact W.zret (v := 0) hx hb hr rfl (fun t ht hW => ⟨⟨_, (), rfl, rfl, by rw [ht]; exact hP, va_K.moved hW.alike hK, hD⟩, hS.F ht⟩) hS.2.2 dX4_isSpan_27
  · refine lv_iload_n hx hb dX4_isSpan_11 rfl (lv_at hl 1 rfl) ?_
    refine lv_iconst (v := 1) hx hb dX4_isSpan_12 (by decide) ?_
    refine lv_sipush (v := 2000) hx hb dX4_isSpan_13 (by decide) ?_
    refine kI (wr := ([] : va_W)) (W1 := ([] : va_W)) (wsN := ([] : va_W)) (rS (As := [.int x1, .int 1, .int 2000]) (rest := []) (W0 := ([] : va_W)) ⟨hx, hb, hml, hown, hts⟩ (c_X4_in l D cA cZ H.size x1 1 2000) (cwS 3 hts gX4_isSpan_X4_in rfl rfl rfl (by decide +kernel) ⟨Nat.le_of_ble_eq_true rfl, Nat.le_of_ble_eq_true rfl⟩) hP hD hK hN ([] : List Nat) rfl rfl rfl hl.1 rfl (Nat.le_of_ble_eq_true rfl) dX4_isSpan_16 ⟨Nat.zero_le _, Nat.zero_le _⟩) hP hD hS hA [] [] [] rfl rfl rfl (by decide) rfl rfl (fun H locs hP hD hS => ?_)
    refine lv_if_eq (tgt := 26) hx hb dX4_isSpan_19 (by decide) (fun c_2 => ?_) (fun c_2 => ?_)
    · refine lv_iconst (v := 0) hx hb dX4_isSpan_26 (by decide) ?_
      rw [g_X4_isSpan, if_neg c_1, if_pos c_2] at hG
      rw [hG]
      exact W.zret (v := 0) hx hb hr rfl (fun t ht hW => ⟨⟨_, (), rfl, rfl, by rw [ht]; exact hP, va_K.moved hW.alike hK, hD⟩, hS.F ht⟩) hS.2.2 dX4_isSpan_27
    · refine lv_iconst (v := 1) hx hb dX4_isSpan_22 (by decide) ?_
      refine lv_goto (tgt := 27) hx hb dX4_isSpan_23 (by decide) ?_
      rw [g_X4_isSpan, if_neg c_1, if_neg c_2] at hG
      rw [hG]
      exact W.zret (v := 1) hx hb hr rfl (fun t ht hW => ⟨⟨_, (), rfl, rfl, by rw [ht]; exact hP, va_K.moved hW.alike hK, hD⟩, hS.F ht⟩) hS.2.2 dX4_isSpan_27

theorem len_in {k : Int32} (h : (0 : Int32).toInt ≤ k.toInt ∧ k.toInt ≤ (2 : Int32).toInt) : vp_in (6 + k) 539 := by
  have e6 : (6 : Int32).toInt = 6 := rfl
  have e0 : (0 : Int32).toInt = 0 := rfl
  have e2 : (2 : Int32).toInt = 2 := rfl
  rw [vp_in_iff, i32_add (by omega) (by omega)]; omega

def g_X4_rule (sf : (Nat → Int32)) (x1 : Int32) (x2 : Int32) : Int32 × (Nat → Int32) := (if (g_X4_in x1 0 5) = 0 then ((-2), sf) else (if x1 = 1 then (if x1 = 0 then (if (g_X4_in x2 1 5) = 0 then ((-2), sf) else ((sf x1.toNatClampNeg), (upd sf x1.toNatClampNeg x2))) else (if (g_X4_in x2 1 20) = 0 then ((-2), sf) else ((sf x1.toNatClampNeg), (upd sf x1.toNatClampNeg x2)))) else (if x1 = 3 then (if x1 = 0 then (if (g_X4_in x2 1 5) = 0 then ((-2), sf) else ((sf x1.toNatClampNeg), (upd sf x1.toNatClampNeg x2))) else (if x1 = 2 then (if (g_X4_in x2 1 20) = 0 then ((-2), sf) else ((sf x1.toNatClampNeg), (upd sf x1.toNatClampNeg x2))) else (if (g_X4_in x2 1 60) = 0 then ((-2), sf) else ((sf x1.toNatClampNeg), (upd sf x1.toNatClampNeg x2))))) else (if x1 = 0 then (if (g_X4_in x2 0 5) = 0 then ((-2), sf) else ((sf x1.toNatClampNeg), (upd sf x1.toNatClampNeg x2))) else (if x1 = 2 then (if (g_X4_in x2 0 20) = 0 then ((-2), sf) else ((sf x1.toNatClampNeg), (upd sf x1.toNatClampNeg x2))) else (if (g_X4_in x2 0 1) = 0 then ((-2), sf) else ((sf x1.toNatClampNeg), (upd sf x1.toNatClampNeg x2))))))))
set_option maxHeartbeats 4000000 in
set_option maxRecDepth 100000 in
theorem c_X4_rule (l : Launch) (D : va_G) (cA cZ : ClassId) (aM : Nat) (aS : Nat) (aI : Nat) (aK : Nat) (szz : Nat) (sf : (Nat → Int32)) (mf : (Nat → Int32)) (kf : (Nat → Int32)) (m0 : Int32) (m1 : Int32) (m2 : Int32) (m3 : Int32) (m4 : Int32) (x1 : Int32) (x2 : Int32) : MetI l yX4_rule wsX4_rule 1 22 D (tyA cA cZ) [.ref aM, .int x1, .int x2] (MDw cA cZ aM aS aI aK sf mf kf m0 m1 m2 m3 m4) szz (g_X4_rule sf x1 x2).1 (MDw cA cZ aM aS aI aK ((g_X4_rule sf x1 x2).2) mf kf m0 m1 m2 m3 m4) := by
  refine Met.ofW (cc := cX4_rule) (maxL := 4) (ret := (some .int)) (by decide) rfl ?_
  intro p e s m args below meth c s₁ B hml hv
  obtain ⟨rfl, hsz, hP, hK, hD0, hN⟩ := hv
  have hx := B.exec
  have hb := B.bytes
  have hr := B.returns
  have hts := atoms_spec (ws := wsX4_rule) B.pre
  have hown : s.vm.findClass RX4 = some m.cls := findClass_of_methodNamed B.named
  have hlocks := B.notSynchronized
  have iX4 : ∀ w ∈ wsX40, w ∈ wsX4_rule := fun _ h => List.mem_cons_of_mem _ (List.mem_append_right _ h)
  subst hsz
  have hD := hD0.self (sz := s.heap.size)
  generalize hAe : va_A (MDw cA cZ aM aS aI aK sf mf kf m0 m1 m2 m3 m4) s.heap.size = A at hD ⊢
  have hA : ∀ q : Nat, s.heap.size ≤ q → A q := fun q h => by rw [← hAe]; exact Or.inr h
  have hS : va_S A s.heap s.heap [] := va_S.rf
  have hP : va_P D vwCl (MDw cA cZ aM aS aI aK sf mf kf m0 m1 m2 m3 m4) s.heap := hP
  obtain ⟨G, hG⟩ : ∃ G, G = (g_X4_rule sf x1 x2) := ⟨_, rfl⟩
  rw [← hG]
  have hl := lv_entry ([.ref aM, .int x1, .int x2]) (n := 4) (Nat.le_of_ble_eq_true rfl)
  rw [lg_entry_eq]
  generalize (lg_sl ([.ref aM, .int x1, .int x2]) ++ List.replicate (4 - (lg_sl ([.ref aM, .int x1, .int x2])).length) Slot.unset).toArray = ls at hl ⊢
  have hl : lv_has ls 4 [(0, .ref aM), (1, .int x1), (2, .int x2)] := hl
  refine lv_iload_n hx hb dX4_rule_0 rfl (lv_at hl 1 rfl) ?_
  refine lv_iconst (v := 0) hx hb dX4_rule_1 (by decide) ?_
  refine lv_iconst (v := 5) hx hb dX4_rule_2 (by decide) ?_
  refine kI (wr := MDw cA cZ aM aS aI aK sf mf kf m0 m1 m2 m3 m4) (W1 := ([] : va_W)) (wsN := MDw cA cZ aM aS aI aK sf mf kf m0 m1 m2 m3 m4) (rS (As := [.int x1, .int 0, .int 5]) (rest := []) (W0 := ([] : va_W)) ⟨hx, hb, hml, hown, hts⟩ (c_X4_in l D cA cZ s.heap.size x1 0 5) (cwS 3 hts gX4_rule_X4_in rfl rfl rfl (by decide +kernel) ⟨Nat.le_of_ble_eq_true rfl, Nat.le_of_ble_eq_true rfl⟩) hP hD hK hN ([] : List Nat) rfl rfl rfl hl.1 rfl (Nat.le_of_ble_eq_true rfl) dX4_rule_3 ⟨Nat.zero_le _, Nat.zero_le _⟩) hP hD hS hA [] [0, 1, 2, 3] [0, 1, 2, 3] rfl rfl rfl (by decide) rfl rfl (fun H locs hP hD hS => ?_)
  refine lv_if_eq (tgt := 65) hx hb dX4_rule_6 (by decide) (fun c_1 => ?_) (fun c_1 => ?_)
  · refine lv_bipush (v := (-2)) hx hb dX4_rule_65 (by decide) ?_
    rw [g_X4_rule, if_pos c_1] at hG
    rw [hG]
    exact W.iret (v := (-2)) hx hb hr (fun t ht hW => ⟨⟨_, (), rfl, rfl, by rw [ht]; exact hP, va_K.moved hW.alike hK, hD⟩, hS.F ht⟩) hS.2.2 dX4_rule_67
  · refine lv_iload_n hx hb dX4_rule_9 rfl (lv_at hl 2 rfl) ?_
    refine lv_iload_n hx hb dX4_rule_10 rfl (lv_at hl 1 rfl) ?_
    refine lv_iconst (v := 1) hx hb dX4_rule_11 (by decide) ?_
    refine lv_icmp_eq (tgt := 20) hx hb dX4_rule_12 (by decide) (fun c_2 => ?_) (fun c_2 => ?_)
    · refine lv_iconst (v := 1) hx hb dX4_rule_20 (by decide) ?_
      refine lv_goto (tgt := 25) hx hb dX4_rule_21 (by decide) ?_
      refine lv_iload_n hx hb dX4_rule_25 rfl (lv_at hl 1 rfl) ?_
      refine lv_if_ne (tgt := 33) hx hb dX4_rule_26 (by decide) (fun c_3 => ?_) (fun c_3 => ?_)
      · refine lv_iload_n hx hb dX4_rule_33 rfl (lv_at hl 1 rfl) ?_
        refine lv_iconst (v := 1) hx hb dX4_rule_34 (by decide) ?_
        refine lv_icmp_eq (tgt := 43) hx hb dX4_rule_35 (by decide) (fun _ => ?_) (fun h9 => absurd c_2 h9)
        refine lv_bipush (v := 20) hx hb dX4_rule_43 (by decide) ?_
        refine lv_goto (tgt := 59) hx hb dX4_rule_45 (by decide) ?_
        refine kI (wr := MDw cA cZ aM aS aI aK sf mf kf m0 m1 m2 m3 m4) (W1 := ([] : va_W)) (wsN := MDw cA cZ aM aS aI aK sf mf kf m0 m1 m2 m3 m4) (rS (As := [.int x2, .int 1, .int 20]) (rest := []) (W0 := ([] : va_W)) ⟨hx, hb, hml, hown, hts⟩ (c_X4_in l D cA cZ H.size x2 1 20) (cwS 3 hts gX4_rule_X4_in rfl rfl rfl (by decide +kernel) ⟨Nat.le_of_ble_eq_true rfl, Nat.le_of_ble_eq_true rfl⟩) hP hD hK hN ([] : List Nat) rfl rfl rfl hl.1 rfl (Nat.le_of_ble_eq_true rfl) dX4_rule_59 ⟨Nat.zero_le _, Nat.zero_le _⟩) hP hD hS hA [] [0, 1, 2, 3] [0, 1, 2, 3] rfl rfl rfl (by decide) rfl rfl (fun H locs hP hD hS => ?_)
        refine lv_if_ne (tgt := 68) hx hb dX4_rule_62 (by decide) (fun c_4 => ?_) (fun c_4 => ?_)
        · refine lv_aload_n hx hb dX4_rule_68 rfl (lv_at hl 0 rfl) ?_
          refine va_get (D := D) (ci := 4) (v := .ref aS) (C := RX4) (T := TX4) (N := 8) hx hb hts iX4 hown hK hP 0 rfl rfl 0 (by decide) (hts (.fieldLink RX4 7 "LightBurstsModel" "state" "[I") (List.mem_of_getElem? (i := 1) rfl)) (fun _ h9 => h9) rfl dX4_rule_69 ?_
          refine lv_iload_n hx hb dX4_rule_72 rfl (lv_at hl 1 rfl) ?_
          refine va_iald hx hb hK hP 1 0 rfl rfl (in_vin c_1 (by decide) (by decide)) dX4_rule_73 ?_
          refine lv_istore_n (lv' := [(3, .int (sf x1.toNatClampNeg)), (0, .ref aM), (1, .int x1), (2, .int x2)]) hx hb dX4_rule_74 rfl hl (by decide) rfl (fun ls hl => ?_)
          refine lv_aload_n hx hb dX4_rule_75 rfl (lv_at hl 1 rfl) ?_
          refine va_get (D := D) (ci := 4) (v := .ref aS) (C := RX4) (T := TX4) (N := 8) hx hb hts iX4 hown hK hP 0 rfl rfl 0 (by decide) (hts (.fieldLink RX4 7 "LightBurstsModel" "state" "[I") (List.mem_of_getElem? (i := 1) rfl)) (fun _ h9 => h9) rfl dX4_rule_76 ?_
          refine lv_iload_n hx hb dX4_rule_79 rfl (lv_at hl 2 rfl) ?_
          refine lv_iload_n hx hb dX4_rule_80 rfl (lv_at hl 3 rfl) ?_
          refine va_iast hx hb hK hP hD hS 1 0 rfl rfl (in_vin c_1 (by decide) (by decide)) dX4_rule_81 (fun H locs hP hD hS => ?_)
          have hP : va_P D vwCl (MDw cA cZ aM aS aI aK (upd sf x1.toNatClampNeg x2) mf kf m0 m1 m2 m3 m4) H := hP
          have hD : va_D A (MDw cA cZ aM aS aI aK (upd sf x1.toNatClampNeg x2) mf kf m0 m1 m2 m3 m4) := hD
          refine lv_iload_n hx hb dX4_rule_82 rfl (lv_at hl 0 rfl) ?_
          rw [g_X4_rule, if_neg c_1, if_pos c_2, if_neg c_3, if_neg c_4] at hG
          rw [hG]
          exact W.iret (v := (sf x1.toNatClampNeg)) hx hb hr (fun t ht hW => ⟨⟨_, (), rfl, rfl, by rw [ht]; exact hP, va_K.moved hW.alike hK, hD⟩, hS.F ht⟩) hS.2.2 dX4_rule_83
        · refine lv_bipush (v := (-2)) hx hb dX4_rule_65 (by decide) ?_
          rw [g_X4_rule, if_neg c_1, if_pos c_2, if_neg c_3, if_pos c_4] at hG
          rw [hG]
          exact W.iret (v := (-2)) hx hb hr (fun t ht hW => ⟨⟨_, (), rfl, rfl, by rw [ht]; exact hP, va_K.moved hW.alike hK, hD⟩, hS.F ht⟩) hS.2.2 dX4_rule_67
      · refine lv_iconst (v := 5) hx hb dX4_rule_29 (by decide) ?_
        refine lv_goto (tgt := 59) hx hb dX4_rule_30 (by decide) ?_
        refine kI (wr := MDw cA cZ aM aS aI aK sf mf kf m0 m1 m2 m3 m4) (W1 := ([] : va_W)) (wsN := MDw cA cZ aM aS aI aK sf mf kf m0 m1 m2 m3 m4) (rS (As := [.int x2, .int 1, .int 5]) (rest := []) (W0 := ([] : va_W)) ⟨hx, hb, hml, hown, hts⟩ (c_X4_in l D cA cZ H.size x2 1 5) (cwS 3 hts gX4_rule_X4_in rfl rfl rfl (by decide +kernel) ⟨Nat.le_of_ble_eq_true rfl, Nat.le_of_ble_eq_true rfl⟩) hP hD hK hN ([] : List Nat) rfl rfl rfl hl.1 rfl (Nat.le_of_ble_eq_true rfl) dX4_rule_59 ⟨Nat.zero_le _, Nat.zero_le _⟩) hP hD hS hA [] [0, 1, 2, 3] [0, 1, 2, 3] rfl rfl rfl (by decide) rfl rfl (fun H locs hP hD hS => ?_)
        refine lv_if_ne (tgt := 68) hx hb dX4_rule_62 (by decide) (fun c_5 => ?_) (fun c_5 => ?_)
        · refine lv_aload_n hx hb dX4_rule_68 rfl (lv_at hl 0 rfl) ?_
          refine va_get (D := D) (ci := 4) (v := .ref aS) (C := RX4) (T := TX4) (N := 8) hx hb hts iX4 hown hK hP 0 rfl rfl 0 (by decide) (hts (.fieldLink RX4 7 "LightBurstsModel" "state" "[I") (List.mem_of_getElem? (i := 1) rfl)) (fun _ h9 => h9) rfl dX4_rule_69 ?_
          refine lv_iload_n hx hb dX4_rule_72 rfl (lv_at hl 1 rfl) ?_
          refine va_iald hx hb hK hP 1 0 rfl rfl (in_vin c_1 (by decide) (by decide)) dX4_rule_73 ?_
          refine lv_istore_n (lv' := [(3, .int (sf x1.toNatClampNeg)), (0, .ref aM), (1, .int x1), (2, .int x2)]) hx hb dX4_rule_74 rfl hl (by decide) rfl (fun ls hl => ?_)
          refine lv_aload_n hx hb dX4_rule_75 rfl (lv_at hl 1 rfl) ?_
          refine va_get (D := D) (ci := 4) (v := .ref aS) (C := RX4) (T := TX4) (N := 8) hx hb hts iX4 hown hK hP 0 rfl rfl 0 (by decide) (hts (.fieldLink RX4 7 "LightBurstsModel" "state" "[I") (List.mem_of_getElem? (i := 1) rfl)) (fun _ h9 => h9) rfl dX4_rule_76 ?_
          refine lv_iload_n hx hb dX4_rule_79 rfl (lv_at hl 2 rfl) ?_
          refine lv_iload_n hx hb dX4_rule_80 rfl (lv_at hl 3 rfl) ?_
          refine va_iast hx hb hK hP hD hS 1 0 rfl rfl (in_vin c_1 (by decide) (by decide)) dX4_rule_81 (fun H locs hP hD hS => ?_)
          have hP : va_P D vwCl (MDw cA cZ aM aS aI aK (upd sf x1.toNatClampNeg x2) mf kf m0 m1 m2 m3 m4) H := hP
          have hD : va_D A (MDw cA cZ aM aS aI aK (upd sf x1.toNatClampNeg x2) mf kf m0 m1 m2 m3 m4) := hD
          refine lv_iload_n hx hb dX4_rule_82 rfl (lv_at hl 0 rfl) ?_
          rw [g_X4_rule, if_neg c_1, if_pos c_2, if_pos c_3, if_neg c_5] at hG
          rw [hG]
          exact W.iret (v := (sf x1.toNatClampNeg)) hx hb hr (fun t ht hW => ⟨⟨_, (), rfl, rfl, by rw [ht]; exact hP, va_K.moved hW.alike hK, hD⟩, hS.F ht⟩) hS.2.2 dX4_rule_83
        · refine lv_bipush (v := (-2)) hx hb dX4_rule_65 (by decide) ?_
          rw [g_X4_rule, if_neg c_1, if_pos c_2, if_pos c_3, if_pos c_5] at hG
          rw [hG]
          exact W.iret (v := (-2)) hx hb hr (fun t ht hW => ⟨⟨_, (), rfl, rfl, by rw [ht]; exact hP, va_K.moved hW.alike hK, hD⟩, hS.F ht⟩) hS.2.2 dX4_rule_67
    · refine lv_iload_n hx hb dX4_rule_15 rfl (lv_at hl 1 rfl) ?_
      refine lv_iconst (v := 3) hx hb dX4_rule_16 (by decide) ?_
      refine lv_icmp_ne (tgt := 24) hx hb dX4_rule_17 (by decide) (fun c_6 => ?_) (fun c_6 => ?_)
      · refine lv_iconst (v := 0) hx hb dX4_rule_24 (by decide) ?_
        refine lv_iload_n hx hb dX4_rule_25 rfl (lv_at hl 1 rfl) ?_
        refine lv_if_ne (tgt := 33) hx hb dX4_rule_26 (by decide) (fun c_7 => ?_) (fun c_7 => ?_)
        · refine lv_iload_n hx hb dX4_rule_33 rfl (lv_at hl 1 rfl) ?_
          refine lv_iconst (v := 1) hx hb dX4_rule_34 (by decide) ?_
          refine lv_icmp_eq (tgt := 43) hx hb dX4_rule_35 (by decide) (fun h9 => absurd h9 c_2) (fun _ => ?_)
          refine lv_iload_n hx hb dX4_rule_38 rfl (lv_at hl 1 rfl) ?_
          refine lv_iconst (v := 2) hx hb dX4_rule_39 (by decide) ?_
          refine lv_icmp_ne (tgt := 48) hx hb dX4_rule_40 (by decide) (fun c_8 => ?_) (fun c_8 => ?_)
          · refine lv_iload_n hx hb dX4_rule_48 rfl (lv_at hl 1 rfl) ?_
            refine lv_iconst (v := 3) hx hb dX4_rule_49 (by decide) ?_
            refine lv_icmp_ne (tgt := 58) hx hb dX4_rule_50 (by decide) (fun _ => ?_) (fun h9 => absurd h9 c_6)
            refine lv_iconst (v := 1) hx hb dX4_rule_58 (by decide) ?_
            refine kI (wr := MDw cA cZ aM aS aI aK sf mf kf m0 m1 m2 m3 m4) (W1 := ([] : va_W)) (wsN := MDw cA cZ aM aS aI aK sf mf kf m0 m1 m2 m3 m4) (rS (As := [.int x2, .int 0, .int 1]) (rest := []) (W0 := ([] : va_W)) ⟨hx, hb, hml, hown, hts⟩ (c_X4_in l D cA cZ H.size x2 0 1) (cwS 3 hts gX4_rule_X4_in rfl rfl rfl (by decide +kernel) ⟨Nat.le_of_ble_eq_true rfl, Nat.le_of_ble_eq_true rfl⟩) hP hD hK hN ([] : List Nat) rfl rfl rfl hl.1 rfl (Nat.le_of_ble_eq_true rfl) dX4_rule_59 ⟨Nat.zero_le _, Nat.zero_le _⟩) hP hD hS hA [] [0, 1, 2, 3] [0, 1, 2, 3] rfl rfl rfl (by decide) rfl rfl (fun H locs hP hD hS => ?_)
            refine lv_if_ne (tgt := 68) hx hb dX4_rule_62 (by decide) (fun c_9 => ?_) (fun c_9 => ?_)
            · refine lv_aload_n hx hb dX4_rule_68 rfl (lv_at hl 0 rfl) ?_
              refine va_get (D := D) (ci := 4) (v := .ref aS) (C := RX4) (T := TX4) (N := 8) hx hb hts iX4 hown hK hP 0 rfl rfl 0 (by decide) (hts (.fieldLink RX4 7 "LightBurstsModel" "state" "[I") (List.mem_of_getElem? (i := 1) rfl)) (fun _ h9 => h9) rfl dX4_rule_69 ?_
              refine lv_iload_n hx hb dX4_rule_72 rfl (lv_at hl 1 rfl) ?_
              refine va_iald hx hb hK hP 1 0 rfl rfl (in_vin c_1 (by decide) (by decide)) dX4_rule_73 ?_
              refine lv_istore_n (lv' := [(3, .int (sf x1.toNatClampNeg)), (0, .ref aM), (1, .int x1), (2, .int x2)]) hx hb dX4_rule_74 rfl hl (by decide) rfl (fun ls hl => ?_)
              refine lv_aload_n hx hb dX4_rule_75 rfl (lv_at hl 1 rfl) ?_
              refine va_get (D := D) (ci := 4) (v := .ref aS) (C := RX4) (T := TX4) (N := 8) hx hb hts iX4 hown hK hP 0 rfl rfl 0 (by decide) (hts (.fieldLink RX4 7 "LightBurstsModel" "state" "[I") (List.mem_of_getElem? (i := 1) rfl)) (fun _ h9 => h9) rfl dX4_rule_76 ?_
              refine lv_iload_n hx hb dX4_rule_79 rfl (lv_at hl 2 rfl) ?_
              refine lv_iload_n hx hb dX4_rule_80 rfl (lv_at hl 3 rfl) ?_
              refine va_iast hx hb hK hP hD hS 1 0 rfl rfl (in_vin c_1 (by decide) (by decide)) dX4_rule_81 (fun H locs hP hD hS => ?_)
              have hP : va_P D vwCl (MDw cA cZ aM aS aI aK (upd sf x1.toNatClampNeg x2) mf kf m0 m1 m2 m3 m4) H := hP
              have hD : va_D A (MDw cA cZ aM aS aI aK (upd sf x1.toNatClampNeg x2) mf kf m0 m1 m2 m3 m4) := hD
              refine lv_iload_n hx hb dX4_rule_82 rfl (lv_at hl 0 rfl) ?_
              rw [g_X4_rule, if_neg c_1, if_neg c_2, if_neg c_6, if_neg c_7, if_neg c_8, if_neg c_9] at hG
              rw [hG]
              exact W.iret (v := (sf x1.toNatClampNeg)) hx hb hr (fun t ht hW => ⟨⟨_, (), rfl, rfl, by rw [ht]; exact hP, va_K.moved hW.alike hK, hD⟩, hS.F ht⟩) hS.2.2 dX4_rule_83
            · refine lv_bipush (v := (-2)) hx hb dX4_rule_65 (by decide) ?_
              rw [g_X4_rule, if_neg c_1, if_neg c_2, if_neg c_6, if_neg c_7, if_neg c_8, if_pos c_9] at hG
              rw [hG]
              exact W.iret (v := (-2)) hx hb hr (fun t ht hW => ⟨⟨_, (), rfl, rfl, by rw [ht]; exact hP, va_K.moved hW.alike hK, hD⟩, hS.F ht⟩) hS.2.2 dX4_rule_67
          · refine lv_bipush (v := 20) hx hb dX4_rule_43 (by decide) ?_
            refine lv_goto (tgt := 59) hx hb dX4_rule_45 (by decide) ?_
            refine kI (wr := MDw cA cZ aM aS aI aK sf mf kf m0 m1 m2 m3 m4) (W1 := ([] : va_W)) (wsN := MDw cA cZ aM aS aI aK sf mf kf m0 m1 m2 m3 m4) (rS (As := [.int x2, .int 0, .int 20]) (rest := []) (W0 := ([] : va_W)) ⟨hx, hb, hml, hown, hts⟩ (c_X4_in l D cA cZ H.size x2 0 20) (cwS 3 hts gX4_rule_X4_in rfl rfl rfl (by decide +kernel) ⟨Nat.le_of_ble_eq_true rfl, Nat.le_of_ble_eq_true rfl⟩) hP hD hK hN ([] : List Nat) rfl rfl rfl hl.1 rfl (Nat.le_of_ble_eq_true rfl) dX4_rule_59 ⟨Nat.zero_le _, Nat.zero_le _⟩) hP hD hS hA [] [0, 1, 2, 3] [0, 1, 2, 3] rfl rfl rfl (by decide) rfl rfl (fun H locs hP hD hS => ?_)
            refine lv_if_ne (tgt := 68) hx hb dX4_rule_62 (by decide) (fun c_10 => ?_) (fun c_10 => ?_)
            · refine lv_aload_n hx hb dX4_rule_68 rfl (lv_at hl 0 rfl) ?_
              refine va_get (D := D) (ci := 4) (v := .ref aS) (C := RX4) (T := TX4) (N := 8) hx hb hts iX4 hown hK hP 0 rfl rfl 0 (by decide) (hts (.fieldLink RX4 7 "LightBurstsModel" "state" "[I") (List.mem_of_getElem? (i := 1) rfl)) (fun _ h9 => h9) rfl dX4_rule_69 ?_
              refine lv_iload_n hx hb dX4_rule_72 rfl (lv_at hl 1 rfl) ?_
              refine va_iald hx hb hK hP 1 0 rfl rfl (in_vin c_1 (by decide) (by decide)) dX4_rule_73 ?_
              refine lv_istore_n (lv' := [(3, .int (sf x1.toNatClampNeg)), (0, .ref aM), (1, .int x1), (2, .int x2)]) hx hb dX4_rule_74 rfl hl (by decide) rfl (fun ls hl => ?_)
              refine lv_aload_n hx hb dX4_rule_75 rfl (lv_at hl 1 rfl) ?_
              refine va_get (D := D) (ci := 4) (v := .ref aS) (C := RX4) (T := TX4) (N := 8) hx hb hts iX4 hown hK hP 0 rfl rfl 0 (by decide) (hts (.fieldLink RX4 7 "LightBurstsModel" "state" "[I") (List.mem_of_getElem? (i := 1) rfl)) (fun _ h9 => h9) rfl dX4_rule_76 ?_
              refine lv_iload_n hx hb dX4_rule_79 rfl (lv_at hl 2 rfl) ?_
              refine lv_iload_n hx hb dX4_rule_80 rfl (lv_at hl 3 rfl) ?_
              refine va_iast hx hb hK hP hD hS 1 0 rfl rfl (in_vin c_1 (by decide) (by decide)) dX4_rule_81 (fun H locs hP hD hS => ?_)
              have hP : va_P D vwCl (MDw cA cZ aM aS aI aK (upd sf x1.toNatClampNeg x2) mf kf m0 m1 m2 m3 m4) H := hP
              have hD : va_D A (MDw cA cZ aM aS aI aK (upd sf x1.toNatClampNeg x2) mf kf m0 m1 m2 m3 m4) := hD
              refine lv_iload_n hx hb dX4_rule_82 rfl (lv_at hl 0 rfl) ?_
              rw [g_X4_rule, if_neg c_1, if_neg c_2, if_neg c_6, if_neg c_7, if_pos c_8, if_neg c_10] at hG
              rw [hG]
              exact W.iret (v := (sf x1.toNatClampNeg)) hx hb hr (fun t ht hW => ⟨⟨_, (), rfl, rfl, by rw [ht]; exact hP, va_K.moved hW.alike hK, hD⟩, hS.F ht⟩) hS.2.2 dX4_rule_83
            · refine lv_bipush (v := (-2)) hx hb dX4_rule_65 (by decide) ?_
              rw [g_X4_rule, if_neg c_1, if_neg c_2, if_neg c_6, if_neg c_7, if_pos c_8, if_pos c_10] at hG
              rw [hG]
              exact W.iret (v := (-2)) hx hb hr (fun t ht hW => ⟨⟨_, (), rfl, rfl, by rw [ht]; exact hP, va_K.moved hW.alike hK, hD⟩, hS.F ht⟩) hS.2.2 dX4_rule_67
        · refine lv_iconst (v := 5) hx hb dX4_rule_29 (by decide) ?_
          refine lv_goto (tgt := 59) hx hb dX4_rule_30 (by decide) ?_
          refine kI (wr := MDw cA cZ aM aS aI aK sf mf kf m0 m1 m2 m3 m4) (W1 := ([] : va_W)) (wsN := MDw cA cZ aM aS aI aK sf mf kf m0 m1 m2 m3 m4) (rS (As := [.int x2, .int 0, .int 5]) (rest := []) (W0 := ([] : va_W)) ⟨hx, hb, hml, hown, hts⟩ (c_X4_in l D cA cZ H.size x2 0 5) (cwS 3 hts gX4_rule_X4_in rfl rfl rfl (by decide +kernel) ⟨Nat.le_of_ble_eq_true rfl, Nat.le_of_ble_eq_true rfl⟩) hP hD hK hN ([] : List Nat) rfl rfl rfl hl.1 rfl (Nat.le_of_ble_eq_true rfl) dX4_rule_59 ⟨Nat.zero_le _, Nat.zero_le _⟩) hP hD hS hA [] [0, 1, 2, 3] [0, 1, 2, 3] rfl rfl rfl (by decide) rfl rfl (fun H locs hP hD hS => ?_)
          refine lv_if_ne (tgt := 68) hx hb dX4_rule_62 (by decide) (fun c_11 => ?_) (fun c_11 => ?_)
          · refine lv_aload_n hx hb dX4_rule_68 rfl (lv_at hl 0 rfl) ?_
            refine va_get (D := D) (ci := 4) (v := .ref aS) (C := RX4) (T := TX4) (N := 8) hx hb hts iX4 hown hK hP 0 rfl rfl 0 (by decide) (hts (.fieldLink RX4 7 "LightBurstsModel" "state" "[I") (List.mem_of_getElem? (i := 1) rfl)) (fun _ h9 => h9) rfl dX4_rule_69 ?_
            refine lv_iload_n hx hb dX4_rule_72 rfl (lv_at hl 1 rfl) ?_
            refine va_iald hx hb hK hP 1 0 rfl rfl (in_vin c_1 (by decide) (by decide)) dX4_rule_73 ?_
            refine lv_istore_n (lv' := [(3, .int (sf x1.toNatClampNeg)), (0, .ref aM), (1, .int x1), (2, .int x2)]) hx hb dX4_rule_74 rfl hl (by decide) rfl (fun ls hl => ?_)
            refine lv_aload_n hx hb dX4_rule_75 rfl (lv_at hl 1 rfl) ?_
            refine va_get (D := D) (ci := 4) (v := .ref aS) (C := RX4) (T := TX4) (N := 8) hx hb hts iX4 hown hK hP 0 rfl rfl 0 (by decide) (hts (.fieldLink RX4 7 "LightBurstsModel" "state" "[I") (List.mem_of_getElem? (i := 1) rfl)) (fun _ h9 => h9) rfl dX4_rule_76 ?_
            refine lv_iload_n hx hb dX4_rule_79 rfl (lv_at hl 2 rfl) ?_
            refine lv_iload_n hx hb dX4_rule_80 rfl (lv_at hl 3 rfl) ?_
            refine va_iast hx hb hK hP hD hS 1 0 rfl rfl (in_vin c_1 (by decide) (by decide)) dX4_rule_81 (fun H locs hP hD hS => ?_)
            have hP : va_P D vwCl (MDw cA cZ aM aS aI aK (upd sf x1.toNatClampNeg x2) mf kf m0 m1 m2 m3 m4) H := hP
            have hD : va_D A (MDw cA cZ aM aS aI aK (upd sf x1.toNatClampNeg x2) mf kf m0 m1 m2 m3 m4) := hD
            refine lv_iload_n hx hb dX4_rule_82 rfl (lv_at hl 0 rfl) ?_
            rw [g_X4_rule, if_neg c_1, if_neg c_2, if_neg c_6, if_pos c_7, if_neg c_11] at hG
            rw [hG]
            exact W.iret (v := (sf x1.toNatClampNeg)) hx hb hr (fun t ht hW => ⟨⟨_, (), rfl, rfl, by rw [ht]; exact hP, va_K.moved hW.alike hK, hD⟩, hS.F ht⟩) hS.2.2 dX4_rule_83
          · refine lv_bipush (v := (-2)) hx hb dX4_rule_65 (by decide) ?_
            rw [g_X4_rule, if_neg c_1, if_neg c_2, if_neg c_6, if_pos c_7, if_pos c_11] at hG
            rw [hG]
            exact W.iret (v := (-2)) hx hb hr (fun t ht hW => ⟨⟨_, (), rfl, rfl, by rw [ht]; exact hP, va_K.moved hW.alike hK, hD⟩, hS.F ht⟩) hS.2.2 dX4_rule_67
      · refine lv_iconst (v := 1) hx hb dX4_rule_20 (by decide) ?_
        refine lv_goto (tgt := 25) hx hb dX4_rule_21 (by decide) ?_
        refine lv_iload_n hx hb dX4_rule_25 rfl (lv_at hl 1 rfl) ?_
        refine lv_if_ne (tgt := 33) hx hb dX4_rule_26 (by decide) (fun c_12 => ?_) (fun c_12 => ?_)
        · refine lv_iload_n hx hb dX4_rule_33 rfl (lv_at hl 1 rfl) ?_
          refine lv_iconst (v := 1) hx hb dX4_rule_34 (by decide) ?_
          refine lv_icmp_eq (tgt := 43) hx hb dX4_rule_35 (by decide) (fun h9 => absurd h9 c_2) (fun _ => ?_)
          refine lv_iload_n hx hb dX4_rule_38 rfl (lv_at hl 1 rfl) ?_
          refine lv_iconst (v := 2) hx hb dX4_rule_39 (by decide) ?_
          refine lv_icmp_ne (tgt := 48) hx hb dX4_rule_40 (by decide) (fun c_13 => ?_) (fun c_13 => ?_)
          · refine lv_iload_n hx hb dX4_rule_48 rfl (lv_at hl 1 rfl) ?_
            refine lv_iconst (v := 3) hx hb dX4_rule_49 (by decide) ?_
            refine lv_icmp_ne (tgt := 58) hx hb dX4_rule_50 (by decide) (fun h9 => absurd c_6 h9) (fun _ => ?_)
            refine lv_bipush (v := 60) hx hb dX4_rule_53 (by decide) ?_
            refine lv_goto (tgt := 59) hx hb dX4_rule_55 (by decide) ?_
            refine kI (wr := MDw cA cZ aM aS aI aK sf mf kf m0 m1 m2 m3 m4) (W1 := ([] : va_W)) (wsN := MDw cA cZ aM aS aI aK sf mf kf m0 m1 m2 m3 m4) (rS (As := [.int x2, .int 1, .int 60]) (rest := []) (W0 := ([] : va_W)) ⟨hx, hb, hml, hown, hts⟩ (c_X4_in l D cA cZ H.size x2 1 60) (cwS 3 hts gX4_rule_X4_in rfl rfl rfl (by decide +kernel) ⟨Nat.le_of_ble_eq_true rfl, Nat.le_of_ble_eq_true rfl⟩) hP hD hK hN ([] : List Nat) rfl rfl rfl hl.1 rfl (Nat.le_of_ble_eq_true rfl) dX4_rule_59 ⟨Nat.zero_le _, Nat.zero_le _⟩) hP hD hS hA [] [0, 1, 2, 3] [0, 1, 2, 3] rfl rfl rfl (by decide) rfl rfl (fun H locs hP hD hS => ?_)
            refine lv_if_ne (tgt := 68) hx hb dX4_rule_62 (by decide) (fun c_14 => ?_) (fun c_14 => ?_)
            · refine lv_aload_n hx hb dX4_rule_68 rfl (lv_at hl 0 rfl) ?_
              refine va_get (D := D) (ci := 4) (v := .ref aS) (C := RX4) (T := TX4) (N := 8) hx hb hts iX4 hown hK hP 0 rfl rfl 0 (by decide) (hts (.fieldLink RX4 7 "LightBurstsModel" "state" "[I") (List.mem_of_getElem? (i := 1) rfl)) (fun _ h9 => h9) rfl dX4_rule_69 ?_
              refine lv_iload_n hx hb dX4_rule_72 rfl (lv_at hl 1 rfl) ?_
              refine va_iald hx hb hK hP 1 0 rfl rfl (in_vin c_1 (by decide) (by decide)) dX4_rule_73 ?_
              refine lv_istore_n (lv' := [(3, .int (sf x1.toNatClampNeg)), (0, .ref aM), (1, .int x1), (2, .int x2)]) hx hb dX4_rule_74 rfl hl (by decide) rfl (fun ls hl => ?_)
              refine lv_aload_n hx hb dX4_rule_75 rfl (lv_at hl 1 rfl) ?_
              refine va_get (D := D) (ci := 4) (v := .ref aS) (C := RX4) (T := TX4) (N := 8) hx hb hts iX4 hown hK hP 0 rfl rfl 0 (by decide) (hts (.fieldLink RX4 7 "LightBurstsModel" "state" "[I") (List.mem_of_getElem? (i := 1) rfl)) (fun _ h9 => h9) rfl dX4_rule_76 ?_
              refine lv_iload_n hx hb dX4_rule_79 rfl (lv_at hl 2 rfl) ?_
              refine lv_iload_n hx hb dX4_rule_80 rfl (lv_at hl 3 rfl) ?_
              refine va_iast hx hb hK hP hD hS 1 0 rfl rfl (in_vin c_1 (by decide) (by decide)) dX4_rule_81 (fun H locs hP hD hS => ?_)
              have hP : va_P D vwCl (MDw cA cZ aM aS aI aK (upd sf x1.toNatClampNeg x2) mf kf m0 m1 m2 m3 m4) H := hP
              have hD : va_D A (MDw cA cZ aM aS aI aK (upd sf x1.toNatClampNeg x2) mf kf m0 m1 m2 m3 m4) := hD
              refine lv_iload_n hx hb dX4_rule_82 rfl (lv_at hl 0 rfl) ?_
              rw [g_X4_rule, if_neg c_1, if_neg c_2, if_pos c_6, if_neg c_12, if_neg c_13, if_neg c_14] at hG
              rw [hG]
              exact W.iret (v := (sf x1.toNatClampNeg)) hx hb hr (fun t ht hW => ⟨⟨_, (), rfl, rfl, by rw [ht]; exact hP, va_K.moved hW.alike hK, hD⟩, hS.F ht⟩) hS.2.2 dX4_rule_83
            · refine lv_bipush (v := (-2)) hx hb dX4_rule_65 (by decide) ?_
              rw [g_X4_rule, if_neg c_1, if_neg c_2, if_pos c_6, if_neg c_12, if_neg c_13, if_pos c_14] at hG
              rw [hG]
              exact W.iret (v := (-2)) hx hb hr (fun t ht hW => ⟨⟨_, (), rfl, rfl, by rw [ht]; exact hP, va_K.moved hW.alike hK, hD⟩, hS.F ht⟩) hS.2.2 dX4_rule_67
          · refine lv_bipush (v := 20) hx hb dX4_rule_43 (by decide) ?_
            refine lv_goto (tgt := 59) hx hb dX4_rule_45 (by decide) ?_
            refine kI (wr := MDw cA cZ aM aS aI aK sf mf kf m0 m1 m2 m3 m4) (W1 := ([] : va_W)) (wsN := MDw cA cZ aM aS aI aK sf mf kf m0 m1 m2 m3 m4) (rS (As := [.int x2, .int 1, .int 20]) (rest := []) (W0 := ([] : va_W)) ⟨hx, hb, hml, hown, hts⟩ (c_X4_in l D cA cZ H.size x2 1 20) (cwS 3 hts gX4_rule_X4_in rfl rfl rfl (by decide +kernel) ⟨Nat.le_of_ble_eq_true rfl, Nat.le_of_ble_eq_true rfl⟩) hP hD hK hN ([] : List Nat) rfl rfl rfl hl.1 rfl (Nat.le_of_ble_eq_true rfl) dX4_rule_59 ⟨Nat.zero_le _, Nat.zero_le _⟩) hP hD hS hA [] [0, 1, 2, 3] [0, 1, 2, 3] rfl rfl rfl (by decide) rfl rfl (fun H locs hP hD hS => ?_)
            refine lv_if_ne (tgt := 68) hx hb dX4_rule_62 (by decide) (fun c_15 => ?_) (fun c_15 => ?_)
            · refine lv_aload_n hx hb dX4_rule_68 rfl (lv_at hl 0 rfl) ?_
              refine va_get (D := D) (ci := 4) (v := .ref aS) (C := RX4) (T := TX4) (N := 8) hx hb hts iX4 hown hK hP 0 rfl rfl 0 (by decide) (hts (.fieldLink RX4 7 "LightBurstsModel" "state" "[I") (List.mem_of_getElem? (i := 1) rfl)) (fun _ h9 => h9) rfl dX4_rule_69 ?_
              refine lv_iload_n hx hb dX4_rule_72 rfl (lv_at hl 1 rfl) ?_
              refine va_iald hx hb hK hP 1 0 rfl rfl (in_vin c_1 (by decide) (by decide)) dX4_rule_73 ?_
              refine lv_istore_n (lv' := [(3, .int (sf x1.toNatClampNeg)), (0, .ref aM), (1, .int x1), (2, .int x2)]) hx hb dX4_rule_74 rfl hl (by decide) rfl (fun ls hl => ?_)
              refine lv_aload_n hx hb dX4_rule_75 rfl (lv_at hl 1 rfl) ?_
              refine va_get (D := D) (ci := 4) (v := .ref aS) (C := RX4) (T := TX4) (N := 8) hx hb hts iX4 hown hK hP 0 rfl rfl 0 (by decide) (hts (.fieldLink RX4 7 "LightBurstsModel" "state" "[I") (List.mem_of_getElem? (i := 1) rfl)) (fun _ h9 => h9) rfl dX4_rule_76 ?_
              refine lv_iload_n hx hb dX4_rule_79 rfl (lv_at hl 2 rfl) ?_
              refine lv_iload_n hx hb dX4_rule_80 rfl (lv_at hl 3 rfl) ?_
              refine va_iast hx hb hK hP hD hS 1 0 rfl rfl (in_vin c_1 (by decide) (by decide)) dX4_rule_81 (fun H locs hP hD hS => ?_)
              have hP : va_P D vwCl (MDw cA cZ aM aS aI aK (upd sf x1.toNatClampNeg x2) mf kf m0 m1 m2 m3 m4) H := hP
              have hD : va_D A (MDw cA cZ aM aS aI aK (upd sf x1.toNatClampNeg x2) mf kf m0 m1 m2 m3 m4) := hD
              refine lv_iload_n hx hb dX4_rule_82 rfl (lv_at hl 0 rfl) ?_
              rw [g_X4_rule, if_neg c_1, if_neg c_2, if_pos c_6, if_neg c_12, if_pos c_13, if_neg c_15] at hG
              rw [hG]
              exact W.iret (v := (sf x1.toNatClampNeg)) hx hb hr (fun t ht hW => ⟨⟨_, (), rfl, rfl, by rw [ht]; exact hP, va_K.moved hW.alike hK, hD⟩, hS.F ht⟩) hS.2.2 dX4_rule_83
            · refine lv_bipush (v := (-2)) hx hb dX4_rule_65 (by decide) ?_
              rw [g_X4_rule, if_neg c_1, if_neg c_2, if_pos c_6, if_neg c_12, if_pos c_13, if_pos c_15] at hG
              rw [hG]
              exact W.iret (v := (-2)) hx hb hr (fun t ht hW => ⟨⟨_, (), rfl, rfl, by rw [ht]; exact hP, va_K.moved hW.alike hK, hD⟩, hS.F ht⟩) hS.2.2 dX4_rule_67
        · refine lv_iconst (v := 5) hx hb dX4_rule_29 (by decide) ?_
          refine lv_goto (tgt := 59) hx hb dX4_rule_30 (by decide) ?_
          refine kI (wr := MDw cA cZ aM aS aI aK sf mf kf m0 m1 m2 m3 m4) (W1 := ([] : va_W)) (wsN := MDw cA cZ aM aS aI aK sf mf kf m0 m1 m2 m3 m4) (rS (As := [.int x2, .int 1, .int 5]) (rest := []) (W0 := ([] : va_W)) ⟨hx, hb, hml, hown, hts⟩ (c_X4_in l D cA cZ H.size x2 1 5) (cwS 3 hts gX4_rule_X4_in rfl rfl rfl (by decide +kernel) ⟨Nat.le_of_ble_eq_true rfl, Nat.le_of_ble_eq_true rfl⟩) hP hD hK hN ([] : List Nat) rfl rfl rfl hl.1 rfl (Nat.le_of_ble_eq_true rfl) dX4_rule_59 ⟨Nat.zero_le _, Nat.zero_le _⟩) hP hD hS hA [] [0, 1, 2, 3] [0, 1, 2, 3] rfl rfl rfl (by decide) rfl rfl (fun H locs hP hD hS => ?_)
          refine lv_if_ne (tgt := 68) hx hb dX4_rule_62 (by decide) (fun c_16 => ?_) (fun c_16 => ?_)
          · refine lv_aload_n hx hb dX4_rule_68 rfl (lv_at hl 0 rfl) ?_
            refine va_get (D := D) (ci := 4) (v := .ref aS) (C := RX4) (T := TX4) (N := 8) hx hb hts iX4 hown hK hP 0 rfl rfl 0 (by decide) (hts (.fieldLink RX4 7 "LightBurstsModel" "state" "[I") (List.mem_of_getElem? (i := 1) rfl)) (fun _ h9 => h9) rfl dX4_rule_69 ?_
            refine lv_iload_n hx hb dX4_rule_72 rfl (lv_at hl 1 rfl) ?_
            refine va_iald hx hb hK hP 1 0 rfl rfl (in_vin c_1 (by decide) (by decide)) dX4_rule_73 ?_
            refine lv_istore_n (lv' := [(3, .int (sf x1.toNatClampNeg)), (0, .ref aM), (1, .int x1), (2, .int x2)]) hx hb dX4_rule_74 rfl hl (by decide) rfl (fun ls hl => ?_)
            refine lv_aload_n hx hb dX4_rule_75 rfl (lv_at hl 1 rfl) ?_
            refine va_get (D := D) (ci := 4) (v := .ref aS) (C := RX4) (T := TX4) (N := 8) hx hb hts iX4 hown hK hP 0 rfl rfl 0 (by decide) (hts (.fieldLink RX4 7 "LightBurstsModel" "state" "[I") (List.mem_of_getElem? (i := 1) rfl)) (fun _ h9 => h9) rfl dX4_rule_76 ?_
            refine lv_iload_n hx hb dX4_rule_79 rfl (lv_at hl 2 rfl) ?_
            refine lv_iload_n hx hb dX4_rule_80 rfl (lv_at hl 3 rfl) ?_
            refine va_iast hx hb hK hP hD hS 1 0 rfl rfl (in_vin c_1 (by decide) (by decide)) dX4_rule_81 (fun H locs hP hD hS => ?_)
            have hP : va_P D vwCl (MDw cA cZ aM aS aI aK (upd sf x1.toNatClampNeg x2) mf kf m0 m1 m2 m3 m4) H := hP
            have hD : va_D A (MDw cA cZ aM aS aI aK (upd sf x1.toNatClampNeg x2) mf kf m0 m1 m2 m3 m4) := hD
            refine lv_iload_n hx hb dX4_rule_82 rfl (lv_at hl 0 rfl) ?_
            rw [g_X4_rule, if_neg c_1, if_neg c_2, if_pos c_6, if_pos c_12, if_neg c_16] at hG
            rw [hG]
            exact W.iret (v := (sf x1.toNatClampNeg)) hx hb hr (fun t ht hW => ⟨⟨_, (), rfl, rfl, by rw [ht]; exact hP, va_K.moved hW.alike hK, hD⟩, hS.F ht⟩) hS.2.2 dX4_rule_83
          · refine lv_bipush (v := (-2)) hx hb dX4_rule_65 (by decide) ?_
            rw [g_X4_rule, if_neg c_1, if_neg c_2, if_pos c_6, if_pos c_12, if_pos c_16] at hG
            rw [hG]
            exact W.iret (v := (-2)) hx hb hr (fun t ht hW => ⟨⟨_, (), rfl, rfl, by rw [ht]; exact hP, va_K.moved hW.alike hK, hD⟩, hS.F ht⟩) hS.2.2 dX4_rule_67

def g_X4_isOnLine (sf : (Nat → Int32)) (x1 : Int32) (x2 : Int32) : Int32 := (if (g_X4_of sf x1 6) = 1 then (if (g_X4_of sf x1 10) = x2 then 1 else 0) else 0)
set_option maxHeartbeats 4000000 in
set_option maxRecDepth 100000 in
theorem c_X4_isOnLine (l : Launch) (D : va_G) (cA cZ : ClassId) (aM : Nat) (aS : Nat) (aI : Nat) (aK : Nat) (szz : Nat) (sf : (Nat → Int32)) (mf : (Nat → Int32)) (kf : (Nat → Int32)) (m0 : Int32) (m1 : Int32) (m2 : Int32) (m3 : Int32) (m4 : Int32) (x1 : Int32) (x2 : Int32) (hbk : bok x1) : MetI l yX4_isOnLine wsX4_isOnLine 2 43 D (tyA cA cZ) [.ref aM, .int x1, .int x2] (MDw cA cZ aM aS aI aK sf mf kf m0 m1 m2 m3 m4) szz (g_X4_isOnLine sf x1 x2) (MDw cA cZ aM aS aI aK sf mf kf m0 m1 m2 m3 m4) := by
  refine Met.ofW (cc := cX4_isOnLine) (maxL := 3) (ret := (some .boolean)) (by decide) rfl ?_
  intro p e s m args below meth c s₁ B hml hv
  obtain ⟨rfl, hsz, hP, hK, hD0, hN⟩ := hv
  have hx := B.exec
  have hb := B.bytes
  have hr := B.returns
  have hts := atoms_spec (ws := wsX4_isOnLine) B.pre
  have hown : s.vm.findClass RX4 = some m.cls := findClass_of_methodNamed B.named
  have hlocks := B.notSynchronized
  have iX4 : ∀ w ∈ wsX40, w ∈ wsX4_isOnLine := fun _ h => List.mem_cons_of_mem _ (List.mem_append_right _ h)
  subst hsz
  have hD := hD0.self (sz := s.heap.size)
  generalize hAe : va_A (MDw cA cZ aM aS aI aK sf mf kf m0 m1 m2 m3 m4) s.heap.size = A at hD ⊢
  have hA : ∀ q : Nat, s.heap.size ≤ q → A q := fun q h => by rw [← hAe]; exact Or.inr h
  have hS : va_S A s.heap s.heap [] := va_S.rf
  have hP : va_P D vwCl (MDw cA cZ aM aS aI aK sf mf kf m0 m1 m2 m3 m4) s.heap := hP
  obtain ⟨G, hG⟩ : ∃ G, G = (g_X4_isOnLine sf x1 x2) := ⟨_, rfl⟩
  rw [← hG]
  have hl := lv_entry ([.ref aM, .int x1, .int x2]) (n := 3) (Nat.le_of_ble_eq_true rfl)
  rw [lg_entry_eq]
  generalize (lg_sl ([.ref aM, .int x1, .int x2]) ++ List.replicate (3 - (lg_sl ([.ref aM, .int x1, .int x2])).length) Slot.unset).toArray = ls at hl ⊢
  have hl : lv_has ls 3 [(0, .ref aM), (1, .int x1), (2, .int x2)] := hl
  refine lv_aload_n hx hb dX4_isOnLine_0 rfl (lv_at hl 0 rfl) ?_
  refine lv_iload_n hx hb dX4_isOnLine_1 rfl (lv_at hl 1 rfl) ?_
  refine lv_bipush (v := 6) hx hb dX4_isOnLine_2 (by decide) ?_
  refine kI (wr := ([] : va_W)) (W1 := MDw cA cZ aM aS aI aK sf mf kf m0 m1 m2 m3 m4) (wsN := MDw cA cZ aM aS aI aK sf mf kf m0 m1 m2 m3 m4) (rV (As := [.int x1, .int 6]) (rest := []) (W0 := MDw cA cZ aM aS aI aK sf mf kf m0 m1 m2 m3 m4) ⟨hx, hb, hml, hown, hts⟩ (c_X4_of l D cA cZ aM aS aI aK s.heap.size sf mf kf m0 m1 m2 m3 m4 x1 6 (show bok x1 from by exact hbk) (show wok 6 from by exact ⟨by decide, by decide⟩)) (cwV 2 hts gX4_isOnLine_X4_of rfl rfl rfl (by decide +kernel) ⟨Nat.le_of_ble_eq_true rfl, Nat.le_of_ble_eq_true rfl⟩) hP hD hK hN ([0, 1, 2, 3] : List Nat) rfl rfl 4 0 rfl rfl rfl hl.1 rfl (Nat.le_of_ble_eq_true rfl) dX4_isOnLine_4 ⟨Nat.zero_le _, Nat.zero_le _⟩) hP hD hS hA [0, 1, 2, 3] [] [0, 1, 2, 3] rfl rfl rfl (by decide) rfl rfl (fun H locs hP hD hS => ?_)
  refine lv_iconst (v := 1) hx hb dX4_isOnLine_7 (by decide) ?_
  refine lv_icmp_ne (tgt := 26) hx hb dX4_isOnLine_8 (by decide) (fun c_1 => ?_) (fun c_1 => ?_)
  · refine lv_iconst (v := 0) hx hb dX4_isOnLine_26 (by decide) ?_
    rw [g_X4_isOnLine, if_neg c_1] at hG
    rw [hG]
    exact W.zret (v := 0) hx hb hr rfl (fun t ht hW => ⟨⟨_, (), rfl, rfl, by rw [ht]; exact hP, va_K.moved hW.alike hK, hD⟩, hS.F ht⟩) hS.2.2 dX4_isOnLine_27
  · refine lv_aload_n hx hb dX4_isOnLine_11 rfl (lv_at hl 0 rfl) ?_
    refine lv_iload_n hx hb dX4_isOnLine_12 rfl (lv_at hl 1 rfl) ?_
    refine lv_bipush (v := 10) hx hb dX4_isOnLine_13 (by decide) ?_
    refine kI (wr := ([] : va_W)) (W1 := MDw cA cZ aM aS aI aK sf mf kf m0 m1 m2 m3 m4) (wsN := MDw cA cZ aM aS aI aK sf mf kf m0 m1 m2 m3 m4) (rV (As := [.int x1, .int 10]) (rest := []) (W0 := MDw cA cZ aM aS aI aK sf mf kf m0 m1 m2 m3 m4) ⟨hx, hb, hml, hown, hts⟩ (c_X4_of l D cA cZ aM aS aI aK H.size sf mf kf m0 m1 m2 m3 m4 x1 10 (show bok x1 from by exact hbk) (show wok 10 from by exact ⟨by decide, by decide⟩)) (cwV 2 hts gX4_isOnLine_X4_of rfl rfl rfl (by decide +kernel) ⟨Nat.le_of_ble_eq_true rfl, Nat.le_of_ble_eq_true rfl⟩) hP hD hK hN ([0, 1, 2, 3] : List Nat) rfl rfl 4 0 rfl rfl rfl hl.1 rfl (Nat.le_of_ble_eq_true rfl) dX4_isOnLine_15 ⟨Nat.zero_le _, Nat.zero_le _⟩) hP hD hS hA [0, 1, 2, 3] [] [0, 1, 2, 3] rfl rfl rfl (by decide) rfl rfl (fun H locs hP hD hS => ?_)
    refine lv_iload_n hx hb dX4_isOnLine_18 rfl (lv_at hl 2 rfl) ?_
    refine lv_icmp_ne (tgt := 26) hx hb dX4_isOnLine_19 (by decide) (fun c_2 => ?_) (fun c_2 => ?_)
    · refine lv_iconst (v := 0) hx hb dX4_isOnLine_26 (by decide) ?_
      rw [g_X4_isOnLine, if_pos c_1, if_neg c_2] at hG
      rw [hG]
      exact W.zret (v := 0) hx hb hr rfl (fun t ht hW => ⟨⟨_, (), rfl, rfl, by rw [ht]; exact hP, va_K.moved hW.alike hK, hD⟩, hS.F ht⟩) hS.2.2 dX4_isOnLine_27
    · refine lv_iconst (v := 1) hx hb dX4_isOnLine_22 (by decide) ?_
      refine lv_goto (tgt := 27) hx hb dX4_isOnLine_23 (by decide) ?_
      rw [g_X4_isOnLine, if_pos c_1, if_pos c_2] at hG
      rw [hG]
      exact W.zret (v := 1) hx hb hr rfl (fun t ht hW => ⟨⟨_, (), rfl, rfl, by rw [ht]; exact hP, va_K.moved hW.alike hK, hD⟩, hS.F ht⟩) hS.2.2 dX4_isOnLine_27

def g_X4_line_L26 (sf : (Nat → Int32)) (x1 : Int32) (x2 : Int32) : Nat → Int32 → (Int32 × (Nat → Int32))
  | 0, _ => (0, (fun _ => 0))
  | n + 1, v3 => (if (sf 10) ≤ v3 then ((sf (6 + x1).toNatClampNeg), (upd sf (6 + x1).toNatClampNeg x2)) else (if (g_X4_isOnLine sf v3 x1) = 0 then (g_X4_line_L26 sf x1 x2 n (v3 + 1)) else (if ((g_X4_of sf v3 5) + (g_X4_of sf v3 4)) ≤ (sf 9) then (g_X4_line_L26 sf x1 x2 n (v3 + 1)) else ((-5), sf))))
def g_X4_line (sf : (Nat → Int32)) (x1 : Int32) (x2 : Int32) : Int32 × (Nat → Int32) := (if (g_X4_in x1 0 2) = 0 then ((-1), sf) else (if (g_X4_in x2 0 60) = 0 then ((-2), sf) else (g_X4_line_L26 sf x1 x2 ((((sf 10)).toInt - ((0 : Int32)).toInt).toNat + 1) 0)))
set_option maxHeartbeats 4000000 in
set_option maxRecDepth 100000 in
theorem c_X4_line (l : Launch) (D : va_G) (cA cZ : ClassId) (aM : Nat) (aS : Nat) (aI : Nat) (aK : Nat) (szz : Nat) (sf : (Nat → Int32)) (mf : (Nat → Int32)) (kf : (Nat → Int32)) (m0 : Int32) (m1 : Int32) (m2 : Int32) (m3 : Int32) (m4 : Int32) (x1 : Int32) (x2 : Int32) (hm : (sf 10) ≤ 48) : MetI l yX4_line wsX4_line 3 65 D (tyA cA cZ) [.ref aM, .int x1, .int x2] (MDw cA cZ aM aS aI aK sf mf kf m0 m1 m2 m3 m4) szz (g_X4_line sf x1 x2).1 (MDw cA cZ aM aS aI aK ((g_X4_line sf x1 x2).2) mf kf m0 m1 m2 m3 m4) := by
  refine Met.ofW (cc := cX4_line) (maxL := 4) (ret := (some .int)) (by decide) rfl ?_
  intro p e s m args below meth c s₁ B hml hv
  obtain ⟨rfl, hsz, hP, hK, hD0, hN⟩ := hv
  have hx := B.exec
  have hb := B.bytes
  have hr := B.returns
  have hts := atoms_spec (ws := wsX4_line) B.pre
  have hown : s.vm.findClass RX4 = some m.cls := findClass_of_methodNamed B.named
  have hlocks := B.notSynchronized
  have iX4 : ∀ w ∈ wsX40, w ∈ wsX4_line := fun _ h => List.mem_cons_of_mem _ (List.mem_append_right _ h)
  subst hsz
  have hD := hD0.self (sz := s.heap.size)
  generalize hAe : va_A (MDw cA cZ aM aS aI aK sf mf kf m0 m1 m2 m3 m4) s.heap.size = A at hD ⊢
  have hA : ∀ q : Nat, s.heap.size ≤ q → A q := fun q h => by rw [← hAe]; exact Or.inr h
  have hS : va_S A s.heap s.heap [] := va_S.rf
  have hP : va_P D vwCl (MDw cA cZ aM aS aI aK sf mf kf m0 m1 m2 m3 m4) s.heap := hP
  obtain ⟨G, hG⟩ : ∃ G, G = (g_X4_line sf x1 x2) := ⟨_, rfl⟩
  rw [← hG]
  have hl := lv_entry ([.ref aM, .int x1, .int x2]) (n := 4) (Nat.le_of_ble_eq_true rfl)
  rw [lg_entry_eq]
  generalize (lg_sl ([.ref aM, .int x1, .int x2]) ++ List.replicate (4 - (lg_sl ([.ref aM, .int x1, .int x2])).length) Slot.unset).toArray = ls at hl ⊢
  have hl : lv_has ls 4 [(0, .ref aM), (1, .int x1), (2, .int x2)] := hl
  refine lv_iload_n hx hb dX4_line_0 rfl (lv_at hl 1 rfl) ?_
  refine lv_iconst (v := 0) hx hb dX4_line_1 (by decide) ?_
  refine lv_iconst (v := 2) hx hb dX4_line_2 (by decide) ?_
  refine kI (wr := MDw cA cZ aM aS aI aK sf mf kf m0 m1 m2 m3 m4) (W1 := ([] : va_W)) (wsN := MDw cA cZ aM aS aI aK sf mf kf m0 m1 m2 m3 m4) (rS (As := [.int x1, .int 0, .int 2]) (rest := []) (W0 := ([] : va_W)) ⟨hx, hb, hml, hown, hts⟩ (c_X4_in l D cA cZ s.heap.size x1 0 2) (cwS 3 hts gX4_line_X4_in rfl rfl rfl (by decide +kernel) ⟨Nat.le_of_ble_eq_true rfl, Nat.le_of_ble_eq_true rfl⟩) hP hD hK hN ([] : List Nat) rfl rfl rfl hl.1 rfl (Nat.le_of_ble_eq_true rfl) dX4_line_3 ⟨Nat.zero_le _, Nat.zero_le _⟩) hP hD hS hA [] [0, 1, 2, 3] [0, 1, 2, 3] rfl rfl rfl (by decide) rfl rfl (fun H locs hP hD hS => ?_)
  refine lv_if_ne (tgt := 11) hx hb dX4_line_6 (by decide) (fun c_1 => ?_) (fun c_1 => ?_)
  · refine lv_iload_n hx hb dX4_line_11 rfl (lv_at hl 2 rfl) ?_
    refine lv_iconst (v := 0) hx hb dX4_line_12 (by decide) ?_
    refine lv_bipush (v := 60) hx hb dX4_line_13 (by decide) ?_
    refine kI (wr := MDw cA cZ aM aS aI aK sf mf kf m0 m1 m2 m3 m4) (W1 := ([] : va_W)) (wsN := MDw cA cZ aM aS aI aK sf mf kf m0 m1 m2 m3 m4) (rS (As := [.int x2, .int 0, .int 60]) (rest := []) (W0 := ([] : va_W)) ⟨hx, hb, hml, hown, hts⟩ (c_X4_in l D cA cZ H.size x2 0 60) (cwS 3 hts gX4_line_X4_in rfl rfl rfl (by decide +kernel) ⟨Nat.le_of_ble_eq_true rfl, Nat.le_of_ble_eq_true rfl⟩) hP hD hK hN ([] : List Nat) rfl rfl rfl hl.1 rfl (Nat.le_of_ble_eq_true rfl) dX4_line_15 ⟨Nat.zero_le _, Nat.zero_le _⟩) hP hD hS hA [] [0, 1, 2, 3] [0, 1, 2, 3] rfl rfl rfl (by decide) rfl rfl (fun H locs hP hD hS => ?_)
    refine lv_if_ne (tgt := 24) hx hb dX4_line_18 (by decide) (fun c_2 => ?_) (fun c_2 => ?_)
    · refine lv_iconst (v := 0) hx hb dX4_line_24 (by decide) ?_
      refine lv_istore_n (lv' := [(3, .int 0), (0, .ref aM), (1, .int x1), (2, .int x2)]) hx hb dX4_line_25 rfl hl (by decide) rfl (fun ls hl => ?_)
      rw [g_X4_line, if_neg c_1, if_neg c_2] at hG
      refine (?_ : ∀ (n : Nat) (v3 : Int32) (H : Heap) (locs : List Loc) (ls : Array Slot), (0 ≤ v3) → (((sf 10)).toInt - (v3).toInt).toNat < n → G = g_X4_line_L26 sf x1 x2 n v3 → va_P D vwCl (MDw cA cZ aM aS aI aK sf mf kf m0 m1 m2 m3 m4) H → va_D A (MDw cA cZ aM aS aI aK sf mf kf m0 m1 m2 m3 m4) → va_S A s.heap H locs → lv_has ls 4 [(0, .ref aM), (1, .int x1), (2, .int x2), (3, .int v3)] → W p l e _ s m _ below meth c H locs _ _ _ (F0 m 26 ls [])) ((((sf 10)).toInt - ((0 : Int32)).toInt).toNat + 1) 0 _ _ _ (by decide) (Nat.lt_succ_self _) hG hP hD hS (lv_sub hl [1, 2, 3, 0] rfl)
      clear hG hP hD hS hl
      intro n
      induction n with
      | zero => intros; omega
      | succ n26 ih26 =>
        intro v3 H locs ls h0 hm26 hG hP hD hS hl
        refine lv_iload_n hx hb dX4_line_26 rfl (lv_at hl 3 rfl) ?_
        refine lv_aload_n hx hb dX4_line_27 rfl (lv_at hl 0 rfl) ?_
        refine va_get (D := D) (ci := 4) (v := .ref aS) (C := RX4) (T := TX4) (N := 8) hx hb hts iX4 hown hK hP 0 rfl rfl 0 (by decide) (hts (.fieldLink RX4 7 "LightBurstsModel" "state" "[I") (List.mem_of_getElem? (i := 1) rfl)) (fun _ h9 => h9) rfl dX4_line_28 ?_
        refine lv_bipush (v := 10) hx hb dX4_line_31 (by decide) ?_
        refine va_iald hx hb hK hP 1 0 rfl rfl (by unfold vp_in; decide) dX4_line_33 ?_
        refine lv_eqi (sf 10) rfl ?_
        refine lv_icmp_ge (tgt := 78) hx hb dX4_line_34 (by decide) (fun c_3 => ?_) (fun c_3 => ?_)
        · refine lv_aload_n hx hb dX4_line_78 rfl (lv_at hl 0 rfl) ?_
          refine va_get (D := D) (ci := 4) (v := .ref aS) (C := RX4) (T := TX4) (N := 8) hx hb hts iX4 hown hK hP 0 rfl rfl 0 (by decide) (hts (.fieldLink RX4 7 "LightBurstsModel" "state" "[I") (List.mem_of_getElem? (i := 1) rfl)) (fun _ h9 => h9) rfl dX4_line_79 ?_
          refine lv_bipush (v := 6) hx hb dX4_line_82 (by decide) ?_
          refine lv_iload_n hx hb dX4_line_84 rfl (lv_at hl 1 rfl) ?_
          refine lv_iadd hx hb dX4_line_85 ?_
          refine va_iald hx hb hK hP 1 0 rfl rfl (len_in (in_iff.mp c_1)) dX4_line_86 ?_
          refine lv_istore_n (lv' := [(3, .int (sf (6 + x1).toNatClampNeg)), (0, .ref aM), (1, .int x1), (2, .int x2)]) hx hb dX4_line_87 rfl hl (by decide) rfl (fun ls hl => ?_)
          refine lv_aload_n hx hb dX4_line_88 rfl (lv_at hl 1 rfl) ?_
          refine va_get (D := D) (ci := 4) (v := .ref aS) (C := RX4) (T := TX4) (N := 8) hx hb hts iX4 hown hK hP 0 rfl rfl 0 (by decide) (hts (.fieldLink RX4 7 "LightBurstsModel" "state" "[I") (List.mem_of_getElem? (i := 1) rfl)) (fun _ h9 => h9) rfl dX4_line_89 ?_
          refine lv_bipush (v := 6) hx hb dX4_line_92 (by decide) ?_
          refine lv_iload_n hx hb dX4_line_94 rfl (lv_at hl 2 rfl) ?_
          refine lv_iadd hx hb dX4_line_95 ?_
          refine lv_iload_n hx hb dX4_line_96 rfl (lv_at hl 3 rfl) ?_
          refine va_iast hx hb hK hP hD hS 1 0 rfl rfl (len_in (in_iff.mp c_1)) dX4_line_97 (fun H locs hP hD hS => ?_)
          have hP : va_P D vwCl (MDw cA cZ aM aS aI aK (upd sf (6 + x1).toNatClampNeg x2) mf kf m0 m1 m2 m3 m4) H := hP
          have hD : va_D A (MDw cA cZ aM aS aI aK (upd sf (6 + x1).toNatClampNeg x2) mf kf m0 m1 m2 m3 m4) := hD
          refine lv_iload_n hx hb dX4_line_98 rfl (lv_at hl 0 rfl) ?_
          rw [g_X4_line_L26, if_pos c_3] at hG
          rw [hG]
          exact W.iret (v := (sf (6 + x1).toNatClampNeg)) hx hb hr (fun t ht hW => ⟨⟨_, (), rfl, rfl, by rw [ht]; exact hP, va_K.moved hW.alike hK, hD⟩, hS.F ht⟩) hS.2.2 dX4_line_99
        · refine lv_aload_n hx hb dX4_line_37 rfl (lv_at hl 0 rfl) ?_
          refine lv_iload_n hx hb dX4_line_38 rfl (lv_at hl 3 rfl) ?_
          refine lv_iload_n hx hb dX4_line_39 rfl (lv_at hl 1 rfl) ?_
          refine kI (wr := ([] : va_W)) (W1 := MDw cA cZ aM aS aI aK sf mf kf m0 m1 m2 m3 m4) (wsN := MDw cA cZ aM aS aI aK sf mf kf m0 m1 m2 m3 m4) (rV (As := [.int v3, .int x1]) (rest := []) (W0 := MDw cA cZ aM aS aI aK sf mf kf m0 m1 m2 m3 m4) ⟨hx, hb, hml, hown, hts⟩ (c_X4_isOnLine l D cA cZ aM aS aI aK H.size sf mf kf m0 m1 m2 m3 m4 v3 x1 (show bok v3 from by exact bok_of h0 c_3 hm)) (cwV 2 hts gX4_line_X4_isOnLine rfl rfl rfl (by decide +kernel) ⟨Nat.le_of_ble_eq_true rfl, Nat.le_of_ble_eq_true rfl⟩) hP hD hK hN ([0, 1, 2, 3] : List Nat) rfl rfl 4 0 rfl rfl rfl hl.1 rfl (Nat.le_of_ble_eq_true rfl) dX4_line_40 ⟨Nat.zero_le _, Nat.zero_le _⟩) hP hD hS hA [0, 1, 2, 3] [] [0, 1, 2, 3] rfl rfl rfl (by decide) rfl rfl (fun H locs hP hD hS => ?_)
          refine lv_if_eq (tgt := 72) hx hb dX4_line_43 (by decide) (fun c_4 => ?_) (fun c_4 => ?_)
          · refine lv_iinc (v := (v3 + 1)) (lv' := [(3, .int (v3 + 1)), (0, .ref aM), (1, .int x1), (2, .int x2)]) hx hb dX4_line_72 hl (k := 3) rfl rfl (by decide) rfl (fun ls hl => ?_)
            refine lv_goto (tgt := 26) hx hb dX4_line_75 (by decide) ?_
            rw [g_X4_line_L26, if_neg c_3, if_pos c_4] at hG
            exact ih26 (v3 + 1) _ _ _ (by exact up_ge h0 c_3) (by exact ms_up c_3 hm26) hG hP hD hS (lv_sub hl [1, 2, 3, 0] rfl)
          · refine lv_aload_n hx hb dX4_line_46 rfl (lv_at hl 0 rfl) ?_
            refine lv_iload_n hx hb dX4_line_47 rfl (lv_at hl 3 rfl) ?_
            refine lv_iconst (v := 5) hx hb dX4_line_48 (by decide) ?_
            refine kI (wr := ([] : va_W)) (W1 := MDw cA cZ aM aS aI aK sf mf kf m0 m1 m2 m3 m4) (wsN := MDw cA cZ aM aS aI aK sf mf kf m0 m1 m2 m3 m4) (rV (As := [.int v3, .int 5]) (rest := []) (W0 := MDw cA cZ aM aS aI aK sf mf kf m0 m1 m2 m3 m4) ⟨hx, hb, hml, hown, hts⟩ (c_X4_of l D cA cZ aM aS aI aK H.size sf mf kf m0 m1 m2 m3 m4 v3 5 (show bok v3 from by exact bok_of h0 c_3 hm) (show wok 5 from by exact ⟨by decide, by decide⟩)) (cwV 2 hts gX4_line_X4_of rfl rfl rfl (by decide +kernel) ⟨Nat.le_of_ble_eq_true rfl, Nat.le_of_ble_eq_true rfl⟩) hP hD hK hN ([0, 1, 2, 3] : List Nat) rfl rfl 4 0 rfl rfl rfl hl.1 rfl (Nat.le_of_ble_eq_true rfl) dX4_line_49 ⟨Nat.zero_le _, Nat.zero_le _⟩) hP hD hS hA [0, 1, 2, 3] [] [0, 1, 2, 3] rfl rfl rfl (by decide) rfl rfl (fun H locs hP hD hS => ?_)
            refine lv_aload_n hx hb dX4_line_52 rfl (lv_at hl 0 rfl) ?_
            refine lv_iload_n hx hb dX4_line_53 rfl (lv_at hl 3 rfl) ?_
            refine lv_iconst (v := 4) hx hb dX4_line_54 (by decide) ?_
            refine kI (wr := ([] : va_W)) (W1 := MDw cA cZ aM aS aI aK sf mf kf m0 m1 m2 m3 m4) (wsN := MDw cA cZ aM aS aI aK sf mf kf m0 m1 m2 m3 m4) (rV (As := [.int v3, .int 4]) (rest := [.int (g_X4_of sf v3 5)]) (W0 := MDw cA cZ aM aS aI aK sf mf kf m0 m1 m2 m3 m4) ⟨hx, hb, hml, hown, hts⟩ (c_X4_of l D cA cZ aM aS aI aK H.size sf mf kf m0 m1 m2 m3 m4 v3 4 (show bok v3 from by exact bok_of h0 c_3 hm) (show wok 4 from by exact ⟨by decide, by decide⟩)) (cwV 2 hts gX4_line_X4_of rfl rfl rfl (by decide +kernel) ⟨Nat.le_of_ble_eq_true rfl, Nat.le_of_ble_eq_true rfl⟩) hP hD hK hN ([0, 1, 2, 3] : List Nat) rfl rfl 4 0 rfl rfl rfl hl.1 rfl (Nat.le_of_ble_eq_true rfl) dX4_line_55 ⟨Nat.zero_le _, Nat.zero_le _⟩) hP hD hS hA [0, 1, 2, 3] [] [0, 1, 2, 3] rfl rfl rfl (by decide) rfl rfl (fun H locs hP hD hS => ?_)
            refine lv_iadd hx hb dX4_line_58 ?_
            refine lv_aload_n hx hb dX4_line_59 rfl (lv_at hl 0 rfl) ?_
            refine va_get (D := D) (ci := 4) (v := .ref aS) (C := RX4) (T := TX4) (N := 8) hx hb hts iX4 hown hK hP 0 rfl rfl 0 (by decide) (hts (.fieldLink RX4 7 "LightBurstsModel" "state" "[I") (List.mem_of_getElem? (i := 1) rfl)) (fun _ h9 => h9) rfl dX4_line_60 ?_
            refine lv_bipush (v := 9) hx hb dX4_line_63 (by decide) ?_
            refine va_iald hx hb hK hP 1 0 rfl rfl (by unfold vp_in; decide) dX4_line_65 ?_
            refine lv_eqi (sf 9) rfl ?_
            refine lv_icmp_le (tgt := 72) hx hb dX4_line_66 (by decide) (fun c_5 => ?_) (fun c_5 => ?_)
            · refine lv_iinc (v := (v3 + 1)) (lv' := [(3, .int (v3 + 1)), (0, .ref aM), (1, .int x1), (2, .int x2)]) hx hb dX4_line_72 hl (k := 3) rfl rfl (by decide) rfl (fun ls hl => ?_)
              refine lv_goto (tgt := 26) hx hb dX4_line_75 (by decide) ?_
              rw [g_X4_line_L26, if_neg c_3, if_neg c_4, if_pos c_5] at hG
              exact ih26 (v3 + 1) _ _ _ (by exact up_ge h0 c_3) (by exact ms_up c_3 hm26) hG hP hD hS (lv_sub hl [1, 2, 3, 0] rfl)
            · refine lv_bipush (v := (-5)) hx hb dX4_line_69 (by decide) ?_
              rw [g_X4_line_L26, if_neg c_3, if_neg c_4, if_neg c_5] at hG
              rw [hG]
              exact W.iret (v := (-5)) hx hb hr (fun t ht hW => ⟨⟨_, (), rfl, rfl, by rw [ht]; exact hP, va_K.moved hW.alike hK, hD⟩, hS.F ht⟩) hS.2.2 dX4_line_71
    · refine lv_bipush (v := (-2)) hx hb dX4_line_21 (by decide) ?_
      rw [g_X4_line, if_neg c_1, if_pos c_2] at hG
      rw [hG]
      exact W.iret (v := (-2)) hx hb hr (fun t ht hW => ⟨⟨_, (), rfl, rfl, by rw [ht]; exact hP, va_K.moved hW.alike hK, hD⟩, hS.F ht⟩) hS.2.2 dX4_line_23
  · refine lv_iconst (v := (-1)) hx hb dX4_line_9 (by decide) ?_
    rw [g_X4_line, if_pos c_1] at hG
    rw [hG]
    exact W.iret (v := (-1)) hx hb hr (fun t ht hW => ⟨⟨_, (), rfl, rfl, by rw [ht]; exact hP, va_K.moved hW.alike hK, hD⟩, hS.F ht⟩) hS.2.2 dX4_line_10

def g_X4_pass (sf : (Nat → Int32)) (x1 : Int32) : Int32 × (Nat → Int32) := (if (g_X4_in x1 1 200) = 0 then ((-2), sf) else (((upd sf 9 ((sf 9) + x1)) 9), (upd sf 9 ((sf 9) + x1))))
set_option maxHeartbeats 4000000 in
set_option maxRecDepth 100000 in
theorem c_X4_pass (l : Launch) (D : va_G) (cA cZ : ClassId) (aM : Nat) (aS : Nat) (aI : Nat) (aK : Nat) (szz : Nat) (sf : (Nat → Int32)) (mf : (Nat → Int32)) (kf : (Nat → Int32)) (m0 : Int32) (m1 : Int32) (m2 : Int32) (m3 : Int32) (m4 : Int32) (x1 : Int32) : MetI l yX4_pass wsX4_pass 1 22 D (tyA cA cZ) [.ref aM, .int x1] (MDw cA cZ aM aS aI aK sf mf kf m0 m1 m2 m3 m4) szz (g_X4_pass sf x1).1 (MDw cA cZ aM aS aI aK ((g_X4_pass sf x1).2) mf kf m0 m1 m2 m3 m4) := by
  refine Met.ofW (cc := cX4_pass) (maxL := 2) (ret := (some .int)) (by decide) rfl ?_
  intro p e s m args below meth c s₁ B hml hv
  obtain ⟨rfl, hsz, hP, hK, hD0, hN⟩ := hv
  have hx := B.exec
  have hb := B.bytes
  have hr := B.returns
  have hts := atoms_spec (ws := wsX4_pass) B.pre
  have hown : s.vm.findClass RX4 = some m.cls := findClass_of_methodNamed B.named
  have hlocks := B.notSynchronized
  have iX4 : ∀ w ∈ wsX40, w ∈ wsX4_pass := fun _ h => List.mem_cons_of_mem _ (List.mem_append_right _ h)
  subst hsz
  have hD := hD0.self (sz := s.heap.size)
  generalize hAe : va_A (MDw cA cZ aM aS aI aK sf mf kf m0 m1 m2 m3 m4) s.heap.size = A at hD ⊢
  have hA : ∀ q : Nat, s.heap.size ≤ q → A q := fun q h => by rw [← hAe]; exact Or.inr h
  have hS : va_S A s.heap s.heap [] := va_S.rf
  have hP : va_P D vwCl (MDw cA cZ aM aS aI aK sf mf kf m0 m1 m2 m3 m4) s.heap := hP
  obtain ⟨G, hG⟩ : ∃ G, G = (g_X4_pass sf x1) := ⟨_, rfl⟩
  rw [← hG]
  have hl := lv_entry ([.ref aM, .int x1]) (n := 2) (Nat.le_of_ble_eq_true rfl)
  rw [lg_entry_eq]
  generalize (lg_sl ([.ref aM, .int x1]) ++ List.replicate (2 - (lg_sl ([.ref aM, .int x1])).length) Slot.unset).toArray = ls at hl ⊢
  have hl : lv_has ls 2 [(0, .ref aM), (1, .int x1)] := hl
  refine lv_iload_n hx hb dX4_pass_0 rfl (lv_at hl 1 rfl) ?_
  refine lv_iconst (v := 1) hx hb dX4_pass_1 (by decide) ?_
  refine lv_sipush (v := 200) hx hb dX4_pass_2 (by decide) ?_
  refine kI (wr := MDw cA cZ aM aS aI aK sf mf kf m0 m1 m2 m3 m4) (W1 := ([] : va_W)) (wsN := MDw cA cZ aM aS aI aK sf mf kf m0 m1 m2 m3 m4) (rS (As := [.int x1, .int 1, .int 200]) (rest := []) (W0 := ([] : va_W)) ⟨hx, hb, hml, hown, hts⟩ (c_X4_in l D cA cZ s.heap.size x1 1 200) (cwS 3 hts gX4_pass_X4_in rfl rfl rfl (by decide +kernel) ⟨Nat.le_of_ble_eq_true rfl, Nat.le_of_ble_eq_true rfl⟩) hP hD hK hN ([] : List Nat) rfl rfl rfl hl.1 rfl (Nat.le_of_ble_eq_true rfl) dX4_pass_5 ⟨Nat.zero_le _, Nat.zero_le _⟩) hP hD hS hA [] [0, 1, 2, 3] [0, 1, 2, 3] rfl rfl rfl (by decide) rfl rfl (fun H locs hP hD hS => ?_)
  refine lv_if_ne (tgt := 14) hx hb dX4_pass_8 (by decide) (fun c_1 => ?_) (fun c_1 => ?_)
  · refine lv_aload_n hx hb dX4_pass_14 rfl (lv_at hl 0 rfl) ?_
    refine va_get (D := D) (ci := 4) (v := .ref aS) (C := RX4) (T := TX4) (N := 8) hx hb hts iX4 hown hK hP 0 rfl rfl 0 (by decide) (hts (.fieldLink RX4 7 "LightBurstsModel" "state" "[I") (List.mem_of_getElem? (i := 1) rfl)) (fun _ h9 => h9) rfl dX4_pass_15 ?_
    refine lv_bipush (v := 9) hx hb dX4_pass_18 (by decide) ?_
    refine lv_dup2_11 hx hb dX4_pass_20 rfl rfl ?_
    refine va_iald hx hb hK hP 1 0 rfl rfl (by unfold vp_in; decide) dX4_pass_21 ?_
    refine lv_eqi (sf 9) rfl ?_
    refine lv_iload_n hx hb dX4_pass_22 rfl (lv_at hl 1 rfl) ?_
    refine lv_iadd hx hb dX4_pass_23 ?_
    refine va_iast hx hb hK hP hD hS 1 0 rfl rfl (by unfold vp_in; decide) dX4_pass_24 (fun H locs hP hD hS => ?_)
    have hP : va_P D vwCl (MDw cA cZ aM aS aI aK (upd sf 9 ((sf 9) + x1)) mf kf m0 m1 m2 m3 m4) H := hP
    have hD : va_D A (MDw cA cZ aM aS aI aK (upd sf 9 ((sf 9) + x1)) mf kf m0 m1 m2 m3 m4) := hD
    refine lv_aload_n hx hb dX4_pass_25 rfl (lv_at hl 0 rfl) ?_
    refine va_get (D := D) (ci := 4) (v := .ref aS) (C := RX4) (T := TX4) (N := 8) hx hb hts iX4 hown hK hP 0 rfl rfl 0 (by decide) (hts (.fieldLink RX4 7 "LightBurstsModel" "state" "[I") (List.mem_of_getElem? (i := 1) rfl)) (fun _ h9 => h9) rfl dX4_pass_26 ?_
    refine lv_bipush (v := 9) hx hb dX4_pass_29 (by decide) ?_
    refine va_iald hx hb hK hP 1 0 rfl rfl (by unfold vp_in; decide) dX4_pass_31 ?_
    refine lv_eqi ((upd sf 9 ((sf 9) + x1)) 9) rfl ?_
    rw [g_X4_pass, if_neg c_1] at hG
    rw [hG]
    exact W.iret (v := ((upd sf 9 ((sf 9) + x1)) 9)) hx hb hr (fun t ht hW => ⟨⟨_, (), rfl, rfl, by rw [ht]; exact hP, va_K.moved hW.alike hK, hD⟩, hS.F ht⟩) hS.2.2 dX4_pass_32
  · refine lv_bipush (v := (-2)) hx hb dX4_pass_11 (by decide) ?_
    rw [g_X4_pass, if_pos c_1] at hG
    rw [hG]
    exact W.iret (v := (-2)) hx hb hr (fun t ht hW => ⟨⟨_, (), rfl, rfl, by rw [ht]; exact hP, va_K.moved hW.alike hK, hD⟩, hS.F ht⟩) hS.2.2 dX4_pass_13

def g_X4_isOn (sf : (Nat → Int32)) (x1 : Int32) (x2 : Int32) (x3 : Int32) : Int32 := (if (g_X4_of sf x1 0) = x2 then (if (g_X4_of sf x1 9) ≤ 0 then 0 else (if (g_X4_of sf x1 7) = x3 then 1 else 0)) else 0)
set_option maxHeartbeats 4000000 in
set_option maxRecDepth 100000 in
theorem c_X4_isOn (l : Launch) (D : va_G) (cA cZ : ClassId) (aM : Nat) (aS : Nat) (aI : Nat) (aK : Nat) (szz : Nat) (sf : (Nat → Int32)) (mf : (Nat → Int32)) (kf : (Nat → Int32)) (m0 : Int32) (m1 : Int32) (m2 : Int32) (m3 : Int32) (m4 : Int32) (x1 : Int32) (x2 : Int32) (x3 : Int32) (hbk : bok x1) : MetI l yX4_isOn wsX4_isOn 2 43 D (tyA cA cZ) [.ref aM, .int x1, .int x2, .int x3] (MDw cA cZ aM aS aI aK sf mf kf m0 m1 m2 m3 m4) szz (g_X4_isOn sf x1 x2 x3) (MDw cA cZ aM aS aI aK sf mf kf m0 m1 m2 m3 m4) := by
  refine Met.ofW (cc := cX4_isOn) (maxL := 4) (ret := (some .boolean)) (by decide) rfl ?_
  intro p e s m args below meth c s₁ B hml hv
  obtain ⟨rfl, hsz, hP, hK, hD0, hN⟩ := hv
  have hx := B.exec
  have hb := B.bytes
  have hr := B.returns
  have hts := atoms_spec (ws := wsX4_isOn) B.pre
  have hown : s.vm.findClass RX4 = some m.cls := findClass_of_methodNamed B.named
  have hlocks := B.notSynchronized
  have iX4 : ∀ w ∈ wsX40, w ∈ wsX4_isOn := fun _ h => List.mem_cons_of_mem _ (List.mem_append_right _ h)
  subst hsz
  have hD := hD0.self (sz := s.heap.size)
  generalize hAe : va_A (MDw cA cZ aM aS aI aK sf mf kf m0 m1 m2 m3 m4) s.heap.size = A at hD ⊢
  have hA : ∀ q : Nat, s.heap.size ≤ q → A q := fun q h => by rw [← hAe]; exact Or.inr h
  have hS : va_S A s.heap s.heap [] := va_S.rf
  have hP : va_P D vwCl (MDw cA cZ aM aS aI aK sf mf kf m0 m1 m2 m3 m4) s.heap := hP
  obtain ⟨G, hG⟩ : ∃ G, G = (g_X4_isOn sf x1 x2 x3) := ⟨_, rfl⟩
  rw [← hG]
  have hl := lv_entry ([.ref aM, .int x1, .int x2, .int x3]) (n := 4) (Nat.le_of_ble_eq_true rfl)
  rw [lg_entry_eq]
  generalize (lg_sl ([.ref aM, .int x1, .int x2, .int x3]) ++ List.replicate (4 - (lg_sl ([.ref aM, .int x1, .int x2, .int x3])).length) Slot.unset).toArray = ls at hl ⊢
  have hl : lv_has ls 4 [(0, .ref aM), (1, .int x1), (2, .int x2), (3, .int x3)] := hl
  refine lv_aload_n hx hb dX4_isOn_0 rfl (lv_at hl 0 rfl) ?_
  refine lv_iload_n hx hb dX4_isOn_1 rfl (lv_at hl 1 rfl) ?_
  refine lv_iconst (v := 0) hx hb dX4_isOn_2 (by decide) ?_
  refine kI (wr := ([] : va_W)) (W1 := MDw cA cZ aM aS aI aK sf mf kf m0 m1 m2 m3 m4) (wsN := MDw cA cZ aM aS aI aK sf mf kf m0 m1 m2 m3 m4) (rV (As := [.int x1, .int 0]) (rest := []) (W0 := MDw cA cZ aM aS aI aK sf mf kf m0 m1 m2 m3 m4) ⟨hx, hb, hml, hown, hts⟩ (c_X4_of l D cA cZ aM aS aI aK s.heap.size sf mf kf m0 m1 m2 m3 m4 x1 0 (show bok x1 from by exact hbk) (show wok 0 from by exact ⟨by decide, by decide⟩)) (cwV 2 hts gX4_isOn_X4_of rfl rfl rfl (by decide +kernel) ⟨Nat.le_of_ble_eq_true rfl, Nat.le_of_ble_eq_true rfl⟩) hP hD hK hN ([0, 1, 2, 3] : List Nat) rfl rfl 4 0 rfl rfl rfl hl.1 rfl (Nat.le_of_ble_eq_true rfl) dX4_isOn_3 ⟨Nat.zero_le _, Nat.zero_le _⟩) hP hD hS hA [0, 1, 2, 3] [] [0, 1, 2, 3] rfl rfl rfl (by decide) rfl rfl (fun H locs hP hD hS => ?_)
  refine lv_iload_n hx hb dX4_isOn_6 rfl (lv_at hl 2 rfl) ?_
  refine lv_icmp_ne (tgt := 35) hx hb dX4_isOn_7 (by decide) (fun c_1 => ?_) (fun c_1 => ?_)
  · refine lv_iconst (v := 0) hx hb dX4_isOn_35 (by decide) ?_
    rw [g_X4_isOn, if_neg c_1] at hG
    rw [hG]
    exact W.zret (v := 0) hx hb hr rfl (fun t ht hW => ⟨⟨_, (), rfl, rfl, by rw [ht]; exact hP, va_K.moved hW.alike hK, hD⟩, hS.F ht⟩) hS.2.2 dX4_isOn_36
  · refine lv_aload_n hx hb dX4_isOn_10 rfl (lv_at hl 0 rfl) ?_
    refine lv_iload_n hx hb dX4_isOn_11 rfl (lv_at hl 1 rfl) ?_
    refine lv_bipush (v := 9) hx hb dX4_isOn_12 (by decide) ?_
    refine kI (wr := ([] : va_W)) (W1 := MDw cA cZ aM aS aI aK sf mf kf m0 m1 m2 m3 m4) (wsN := MDw cA cZ aM aS aI aK sf mf kf m0 m1 m2 m3 m4) (rV (As := [.int x1, .int 9]) (rest := []) (W0 := MDw cA cZ aM aS aI aK sf mf kf m0 m1 m2 m3 m4) ⟨hx, hb, hml, hown, hts⟩ (c_X4_of l D cA cZ aM aS aI aK H.size sf mf kf m0 m1 m2 m3 m4 x1 9 (show bok x1 from by exact hbk) (show wok 9 from by exact ⟨by decide, by decide⟩)) (cwV 2 hts gX4_isOn_X4_of rfl rfl rfl (by decide +kernel) ⟨Nat.le_of_ble_eq_true rfl, Nat.le_of_ble_eq_true rfl⟩) hP hD hK hN ([0, 1, 2, 3] : List Nat) rfl rfl 4 0 rfl rfl rfl hl.1 rfl (Nat.le_of_ble_eq_true rfl) dX4_isOn_14 ⟨Nat.zero_le _, Nat.zero_le _⟩) hP hD hS hA [0, 1, 2, 3] [] [0, 1, 2, 3] rfl rfl rfl (by decide) rfl rfl (fun H locs hP hD hS => ?_)
    refine lv_if_le (tgt := 35) hx hb dX4_isOn_17 (by decide) (fun c_2 => ?_) (fun c_2 => ?_)
    · refine lv_iconst (v := 0) hx hb dX4_isOn_35 (by decide) ?_
      rw [g_X4_isOn, if_pos c_1, if_pos c_2] at hG
      rw [hG]
      exact W.zret (v := 0) hx hb hr rfl (fun t ht hW => ⟨⟨_, (), rfl, rfl, by rw [ht]; exact hP, va_K.moved hW.alike hK, hD⟩, hS.F ht⟩) hS.2.2 dX4_isOn_36
    · refine lv_aload_n hx hb dX4_isOn_20 rfl (lv_at hl 0 rfl) ?_
      refine lv_iload_n hx hb dX4_isOn_21 rfl (lv_at hl 1 rfl) ?_
      refine lv_bipush (v := 7) hx hb dX4_isOn_22 (by decide) ?_
      refine kI (wr := ([] : va_W)) (W1 := MDw cA cZ aM aS aI aK sf mf kf m0 m1 m2 m3 m4) (wsN := MDw cA cZ aM aS aI aK sf mf kf m0 m1 m2 m3 m4) (rV (As := [.int x1, .int 7]) (rest := []) (W0 := MDw cA cZ aM aS aI aK sf mf kf m0 m1 m2 m3 m4) ⟨hx, hb, hml, hown, hts⟩ (c_X4_of l D cA cZ aM aS aI aK H.size sf mf kf m0 m1 m2 m3 m4 x1 7 (show bok x1 from by exact hbk) (show wok 7 from by exact ⟨by decide, by decide⟩)) (cwV 2 hts gX4_isOn_X4_of rfl rfl rfl (by decide +kernel) ⟨Nat.le_of_ble_eq_true rfl, Nat.le_of_ble_eq_true rfl⟩) hP hD hK hN ([0, 1, 2, 3] : List Nat) rfl rfl 4 0 rfl rfl rfl hl.1 rfl (Nat.le_of_ble_eq_true rfl) dX4_isOn_24 ⟨Nat.zero_le _, Nat.zero_le _⟩) hP hD hS hA [0, 1, 2, 3] [] [0, 1, 2, 3] rfl rfl rfl (by decide) rfl rfl (fun H locs hP hD hS => ?_)
      refine lv_iload_n hx hb dX4_isOn_27 rfl (lv_at hl 3 rfl) ?_
      refine lv_icmp_ne (tgt := 35) hx hb dX4_isOn_28 (by decide) (fun c_3 => ?_) (fun c_3 => ?_)
      · refine lv_iconst (v := 0) hx hb dX4_isOn_35 (by decide) ?_
        rw [g_X4_isOn, if_pos c_1, if_neg c_2, if_neg c_3] at hG
        rw [hG]
        exact W.zret (v := 0) hx hb hr rfl (fun t ht hW => ⟨⟨_, (), rfl, rfl, by rw [ht]; exact hP, va_K.moved hW.alike hK, hD⟩, hS.F ht⟩) hS.2.2 dX4_isOn_36
      · refine lv_iconst (v := 1) hx hb dX4_isOn_31 (by decide) ?_
        refine lv_goto (tgt := 36) hx hb dX4_isOn_32 (by decide) ?_
        rw [g_X4_isOn, if_pos c_1, if_neg c_2, if_pos c_3] at hG
        rw [hG]
        exact W.zret (v := 1) hx hb hr rfl (fun t ht hW => ⟨⟨_, (), rfl, rfl, by rw [ht]; exact hP, va_K.moved hW.alike hK, hD⟩, hS.F ht⟩) hS.2.2 dX4_isOn_36

def g_X4_clash (x0 : Int32) (x1 : Int32) (x2 : Int32) (x3 : Int32) : Int32 := (if (x2 + x3) ≤ x0 then 0 else (if (x0 + x1) ≤ x2 then 0 else 1))
set_option maxHeartbeats 4000000 in
set_option maxRecDepth 100000 in
theorem c_X4_clash (l : Launch) (D : va_G) (cA cZ : ClassId) (szz : Nat) (x0 : Int32) (x1 : Int32) (x2 : Int32) (x3 : Int32) : MetI l yX4_clash wsX4_clash 0 0 D (tyA cA cZ) [.int x0, .int x1, .int x2, .int x3] (([] : va_W)) szz (g_X4_clash x0 x1 x2 x3) (([] : va_W)) := by
  refine Met.ofW (cc := cX4_clash) (maxL := 4) (ret := (some .boolean)) (by decide) rfl ?_
  intro p e s m args below meth c s₁ B hml hv
  obtain ⟨rfl, hsz, hP, hK, hD0, hN⟩ := hv
  have hx := B.exec
  have hb := B.bytes
  have hr := B.returns
  have hts := atoms_spec (ws := wsX4_clash) B.pre
  have hown : s.vm.findClass RX4 = some m.cls := findClass_of_methodNamed B.named
  have hlocks := B.notSynchronized
  subst hsz
  have hD := hD0.self (sz := s.heap.size)
  generalize hAe : va_A (([] : va_W)) s.heap.size = A at hD ⊢
  have hA : ∀ q : Nat, s.heap.size ≤ q → A q := fun q h => by rw [← hAe]; exact Or.inr h
  have hS : va_S A s.heap s.heap [] := va_S.rf
  have hP : va_P D vwCl (([] : va_W)) s.heap := hP
  obtain ⟨G, hG⟩ : ∃ G, G = (g_X4_clash x0 x1 x2 x3) := ⟨_, rfl⟩
  rw [← hG]
  have hl := lv_entry ([.int x0, .int x1, .int x2, .int x3]) (n := 4) (Nat.le_of_ble_eq_true rfl)
  rw [lg_entry_eq]
  generalize (lg_sl ([.int x0, .int x1, .int x2, .int x3]) ++ List.replicate (4 - (lg_sl ([.int x0, .int x1, .int x2, .int x3])).length) Slot.unset).toArray = ls at hl ⊢
  have hl : lv_has ls 4 [(0, .int x0), (1, .int x1), (2, .int x2), (3, .int x3)] := hl
  refine lv_iload_n hx hb dX4_clash_0 rfl (lv_at hl 0 rfl) ?_
  refine lv_iload_n hx hb dX4_clash_1 rfl (lv_at hl 2 rfl) ?_
  refine lv_iload_n hx hb dX4_clash_2 rfl (lv_at hl 3 rfl) ?_
  refine lv_iadd hx hb dX4_clash_3 ?_
  refine lv_icmp_ge (tgt := 18) hx hb dX4_clash_4 (by decide) (fun c_1 => ?_) (fun c_1 => ?_)
  · refine lv_iconst (v := 0) hx hb dX4_clash_18 (by decide) ?_
    rw [g_X4_clash, if_pos c_1] at hG
    rw [hG]
    exact W.zret (v := 0) hx hb hr rfl (fun t ht hW => ⟨⟨_, (), rfl, rfl, by rw [ht]; exact hP, va_K.moved hW.alike hK, hD⟩, hS.F ht⟩) hS.2.2 dX4_clash_19
  · refine lv_iload_n hx hb dX4_clash_7 rfl (lv_at hl 2 rfl) ?_
    refine lv_iload_n hx hb dX4_clash_8 rfl (lv_at hl 0 rfl) ?_
    refine lv_iload_n hx hb dX4_clash_9 rfl (lv_at hl 1 rfl) ?_
    refine lv_iadd hx hb dX4_clash_10 ?_
    refine lv_icmp_ge (tgt := 18) hx hb dX4_clash_11 (by decide) (fun c_2 => ?_) (fun c_2 => ?_)
    · refine lv_iconst (v := 0) hx hb dX4_clash_18 (by decide) ?_
      rw [g_X4_clash, if_neg c_1, if_pos c_2] at hG
      rw [hG]
      exact W.zret (v := 0) hx hb hr rfl (fun t ht hW => ⟨⟨_, (), rfl, rfl, by rw [ht]; exact hP, va_K.moved hW.alike hK, hD⟩, hS.F ht⟩) hS.2.2 dX4_clash_19
    · refine lv_iconst (v := 1) hx hb dX4_clash_14 (by decide) ?_
      refine lv_goto (tgt := 19) hx hb dX4_clash_15 (by decide) ?_
      rw [g_X4_clash, if_neg c_1, if_neg c_2] at hG
      rw [hG]
      exact W.zret (v := 1) hx hb hr rfl (fun t ht hW => ⟨⟨_, (), rfl, rfl, by rw [ht]; exact hP, va_K.moved hW.alike hK, hD⟩, hS.F ht⟩) hS.2.2 dX4_clash_19

def g_X4_isClear_L3 (sf : (Nat → Int32)) (x1 : Int32) (x2 : Int32) (x3 : Int32) (x4 : Int32) : Nat → Int32 → (Int32)
  | 0, _ => 0
  | n + 1, v5 => (if (sf 10) ≤ v5 then 1 else (if (g_X4_isOn sf v5 x1 x2) = 0 then (g_X4_isClear_L3 sf x1 x2 x3 x4 n (v5 + 1)) else (if (g_X4_clash x3 x4 (g_X4_of sf v5 8) (g_X4_of sf v5 9)) = 0 then (g_X4_isClear_L3 sf x1 x2 x3 x4 n (v5 + 1)) else 0)))
def g_X4_isClear (sf : (Nat → Int32)) (x1 : Int32) (x2 : Int32) (x3 : Int32) (x4 : Int32) : Int32 := (g_X4_isClear_L3 sf x1 x2 x3 x4 ((((sf 10)).toInt - ((0 : Int32)).toInt).toNat + 1) 0)
set_option maxHeartbeats 4000000 in
set_option maxRecDepth 100000 in
theorem c_X4_isClear (l : Launch) (D : va_G) (cA cZ : ClassId) (aM : Nat) (aS : Nat) (aI : Nat) (aK : Nat) (szz : Nat) (sf : (Nat → Int32)) (mf : (Nat → Int32)) (kf : (Nat → Int32)) (m0 : Int32) (m1 : Int32) (m2 : Int32) (m3 : Int32) (m4 : Int32) (x1 : Int32) (x2 : Int32) (x3 : Int32) (x4 : Int32) (hm : (sf 10) ≤ 48) : MetI l yX4_isClear wsX4_isClear 3 66 D (tyA cA cZ) [.ref aM, .int x1, .int x2, .int x3, .int x4] (MDw cA cZ aM aS aI aK sf mf kf m0 m1 m2 m3 m4) szz (g_X4_isClear sf x1 x2 x3 x4) (MDw cA cZ aM aS aI aK sf mf kf m0 m1 m2 m3 m4) := by
  refine Met.ofW (cc := cX4_isClear) (maxL := 6) (ret := (some .boolean)) (by decide) rfl ?_
  intro p e s m args below meth c s₁ B hml hv
  obtain ⟨rfl, hsz, hP, hK, hD0, hN⟩ := hv
  have hx := B.exec
  have hb := B.bytes
  have hr := B.returns
  have hts := atoms_spec (ws := wsX4_isClear) B.pre
  have hown : s.vm.findClass RX4 = some m.cls := findClass_of_methodNamed B.named
  have hlocks := B.notSynchronized
  have iX4 : ∀ w ∈ wsX40, w ∈ wsX4_isClear := fun _ h => List.mem_cons_of_mem _ (List.mem_append_right _ h)
  subst hsz
  have hD := hD0.self (sz := s.heap.size)
  generalize hAe : va_A (MDw cA cZ aM aS aI aK sf mf kf m0 m1 m2 m3 m4) s.heap.size = A at hD ⊢
  have hA : ∀ q : Nat, s.heap.size ≤ q → A q := fun q h => by rw [← hAe]; exact Or.inr h
  have hS : va_S A s.heap s.heap [] := va_S.rf
  have hP : va_P D vwCl (MDw cA cZ aM aS aI aK sf mf kf m0 m1 m2 m3 m4) s.heap := hP
  obtain ⟨G, hG⟩ : ∃ G, G = (g_X4_isClear sf x1 x2 x3 x4) := ⟨_, rfl⟩
  rw [← hG]
  have hl := lv_entry ([.ref aM, .int x1, .int x2, .int x3, .int x4]) (n := 6) (Nat.le_of_ble_eq_true rfl)
  rw [lg_entry_eq]
  generalize (lg_sl ([.ref aM, .int x1, .int x2, .int x3, .int x4]) ++ List.replicate (6 - (lg_sl ([.ref aM, .int x1, .int x2, .int x3, .int x4])).length) Slot.unset).toArray = ls at hl ⊢
  have hl : lv_has ls 6 [(0, .ref aM), (1, .int x1), (2, .int x2), (3, .int x3), (4, .int x4)] := hl
  refine lv_iconst (v := 0) hx hb dX4_isClear_0 (by decide) ?_
  refine lv_istore (lv' := [(5, .int 0), (0, .ref aM), (1, .int x1), (2, .int x2), (3, .int x3), (4, .int x4)]) hx hb dX4_isClear_1 hl (by decide) rfl (fun ls hl => ?_)
  rw [g_X4_isClear] at hG
  refine (?_ : ∀ (n : Nat) (v5 : Int32) (H : Heap) (locs : List Loc) (ls : Array Slot), (0 ≤ v5) → (((sf 10)).toInt - (v5).toInt).toNat < n → G = g_X4_isClear_L3 sf x1 x2 x3 x4 n v5 → va_P D vwCl (MDw cA cZ aM aS aI aK sf mf kf m0 m1 m2 m3 m4) H → va_D A (MDw cA cZ aM aS aI aK sf mf kf m0 m1 m2 m3 m4) → va_S A s.heap H locs → lv_has ls 6 [(0, .ref aM), (1, .int x1), (2, .int x2), (3, .int x3), (4, .int x4), (5, .int v5)] → W p l e _ s m _ below meth c H locs _ _ _ (F0 m 3 ls [])) ((((sf 10)).toInt - ((0 : Int32)).toInt).toNat + 1) 0 _ _ _ (by decide) (Nat.lt_succ_self _) hG hP hD hS (lv_sub hl [1, 2, 3, 4, 5, 0] rfl)
  clear hG hP hD hS hl
  intro n
  induction n with
  | zero => intros; omega
  | succ n3 ih3 =>
    intro v5 H locs ls h0 hm3 hG hP hD hS hl
    refine lv_iload hx hb dX4_isClear_3 (lv_at hl 5 rfl) ?_
    refine lv_aload_n hx hb dX4_isClear_5 rfl (lv_at hl 0 rfl) ?_
    refine va_get (D := D) (ci := 4) (v := .ref aS) (C := RX4) (T := TX4) (N := 8) hx hb hts iX4 hown hK hP 0 rfl rfl 0 (by decide) (hts (.fieldLink RX4 7 "LightBurstsModel" "state" "[I") (List.mem_of_getElem? (i := 1) rfl)) (fun _ h9 => h9) rfl dX4_isClear_6 ?_
    refine lv_bipush (v := 10) hx hb dX4_isClear_9 (by decide) ?_
    refine va_iald hx hb hK hP 1 0 rfl rfl (by unfold vp_in; decide) dX4_isClear_11 ?_
    refine lv_eqi (sf 10) rfl ?_
    refine lv_icmp_ge (tgt := 59) hx hb dX4_isClear_12 (by decide) (fun c_1 => ?_) (fun c_1 => ?_)
    · refine lv_iconst (v := 1) hx hb dX4_isClear_59 (by decide) ?_
      rw [g_X4_isClear_L3, if_pos c_1] at hG
      rw [hG]
      exact W.zret (v := 1) hx hb hr rfl (fun t ht hW => ⟨⟨_, (), rfl, rfl, by rw [ht]; exact hP, va_K.moved hW.alike hK, hD⟩, hS.F ht⟩) hS.2.2 dX4_isClear_60
    · refine lv_aload_n hx hb dX4_isClear_15 rfl (lv_at hl 0 rfl) ?_
      refine lv_iload hx hb dX4_isClear_16 (lv_at hl 5 rfl) ?_
      refine lv_iload_n hx hb dX4_isClear_18 rfl (lv_at hl 1 rfl) ?_
      refine lv_iload_n hx hb dX4_isClear_19 rfl (lv_at hl 2 rfl) ?_
      refine kI (wr := ([] : va_W)) (W1 := MDw cA cZ aM aS aI aK sf mf kf m0 m1 m2 m3 m4) (wsN := MDw cA cZ aM aS aI aK sf mf kf m0 m1 m2 m3 m4) (rV (As := [.int v5, .int x1, .int x2]) (rest := []) (W0 := MDw cA cZ aM aS aI aK sf mf kf m0 m1 m2 m3 m4) ⟨hx, hb, hml, hown, hts⟩ (c_X4_isOn l D cA cZ aM aS aI aK H.size sf mf kf m0 m1 m2 m3 m4 v5 x1 x2 (show bok v5 from by exact bok_of h0 c_1 hm)) (cwV 3 hts gX4_isClear_X4_isOn rfl rfl rfl (by decide +kernel) ⟨Nat.le_of_ble_eq_true rfl, Nat.le_of_ble_eq_true rfl⟩) hP hD hK hN ([0, 1, 2, 3] : List Nat) rfl rfl 4 0 rfl rfl rfl hl.1 rfl (Nat.le_of_ble_eq_true rfl) dX4_isClear_20 ⟨Nat.zero_le _, Nat.zero_le _⟩) hP hD hS hA [0, 1, 2, 3] [] [0, 1, 2, 3] rfl rfl rfl (by decide) rfl rfl (fun H locs hP hD hS => ?_)
      refine lv_if_eq (tgt := 53) hx hb dX4_isClear_23 (by decide) (fun c_2 => ?_) (fun c_2 => ?_)
      · refine lv_iinc (v := (v5 + 1)) (lv' := [(5, .int (v5 + 1)), (0, .ref aM), (1, .int x1), (2, .int x2), (3, .int x3), (4, .int x4)]) hx hb dX4_isClear_53 hl (k := 5) rfl rfl (by decide) rfl (fun ls hl => ?_)
        refine lv_goto (tgt := 3) hx hb dX4_isClear_56 (by decide) ?_
        rw [g_X4_isClear_L3, if_neg c_1, if_pos c_2] at hG
        exact ih3 (v5 + 1) _ _ _ (by exact up_ge h0 c_1) (by exact ms_up c_1 hm3) hG hP hD hS (lv_sub hl [1, 2, 3, 4, 5, 0] rfl)
      · refine lv_iload_n hx hb dX4_isClear_26 rfl (lv_at hl 3 rfl) ?_
        refine lv_iload hx hb dX4_isClear_27 (lv_at hl 4 rfl) ?_
        refine lv_aload_n hx hb dX4_isClear_29 rfl (lv_at hl 0 rfl) ?_
        refine lv_iload hx hb dX4_isClear_30 (lv_at hl 5 rfl) ?_
        refine lv_bipush (v := 8) hx hb dX4_isClear_32 (by decide) ?_
        refine kI (wr := ([] : va_W)) (W1 := MDw cA cZ aM aS aI aK sf mf kf m0 m1 m2 m3 m4) (wsN := MDw cA cZ aM aS aI aK sf mf kf m0 m1 m2 m3 m4) (rV (As := [.int v5, .int 8]) (rest := [.int x4, .int x3]) (W0 := MDw cA cZ aM aS aI aK sf mf kf m0 m1 m2 m3 m4) ⟨hx, hb, hml, hown, hts⟩ (c_X4_of l D cA cZ aM aS aI aK H.size sf mf kf m0 m1 m2 m3 m4 v5 8 (show bok v5 from by exact bok_of h0 c_1 hm) (show wok 8 from by exact ⟨by decide, by decide⟩)) (cwV 2 hts gX4_isClear_X4_of rfl rfl rfl (by decide +kernel) ⟨Nat.le_of_ble_eq_true rfl, Nat.le_of_ble_eq_true rfl⟩) hP hD hK hN ([0, 1, 2, 3] : List Nat) rfl rfl 4 0 rfl rfl rfl hl.1 rfl (Nat.le_of_ble_eq_true rfl) dX4_isClear_34 ⟨Nat.zero_le _, Nat.zero_le _⟩) hP hD hS hA [0, 1, 2, 3] [] [0, 1, 2, 3] rfl rfl rfl (by decide) rfl rfl (fun H locs hP hD hS => ?_)
        refine lv_aload_n hx hb dX4_isClear_37 rfl (lv_at hl 0 rfl) ?_
        refine lv_iload hx hb dX4_isClear_38 (lv_at hl 5 rfl) ?_
        refine lv_bipush (v := 9) hx hb dX4_isClear_40 (by decide) ?_
        refine kI (wr := ([] : va_W)) (W1 := MDw cA cZ aM aS aI aK sf mf kf m0 m1 m2 m3 m4) (wsN := MDw cA cZ aM aS aI aK sf mf kf m0 m1 m2 m3 m4) (rV (As := [.int v5, .int 9]) (rest := [.int (g_X4_of sf v5 8), .int x4, .int x3]) (W0 := MDw cA cZ aM aS aI aK sf mf kf m0 m1 m2 m3 m4) ⟨hx, hb, hml, hown, hts⟩ (c_X4_of l D cA cZ aM aS aI aK H.size sf mf kf m0 m1 m2 m3 m4 v5 9 (show bok v5 from by exact bok_of h0 c_1 hm) (show wok 9 from by exact ⟨by decide, by decide⟩)) (cwV 2 hts gX4_isClear_X4_of rfl rfl rfl (by decide +kernel) ⟨Nat.le_of_ble_eq_true rfl, Nat.le_of_ble_eq_true rfl⟩) hP hD hK hN ([0, 1, 2, 3] : List Nat) rfl rfl 4 0 rfl rfl rfl hl.1 rfl (Nat.le_of_ble_eq_true rfl) dX4_isClear_42 ⟨Nat.zero_le _, Nat.zero_le _⟩) hP hD hS hA [0, 1, 2, 3] [] [0, 1, 2, 3] rfl rfl rfl (by decide) rfl rfl (fun H locs hP hD hS => ?_)
        refine kI (wr := MDw cA cZ aM aS aI aK sf mf kf m0 m1 m2 m3 m4) (W1 := ([] : va_W)) (wsN := MDw cA cZ aM aS aI aK sf mf kf m0 m1 m2 m3 m4) (rS (As := [.int x3, .int x4, .int (g_X4_of sf v5 8), .int (g_X4_of sf v5 9)]) (rest := []) (W0 := ([] : va_W)) ⟨hx, hb, hml, hown, hts⟩ (c_X4_clash l D cA cZ H.size x3 x4 (g_X4_of sf v5 8) (g_X4_of sf v5 9)) (cwS 4 hts gX4_isClear_X4_clash rfl rfl rfl (by decide +kernel) ⟨Nat.le_of_ble_eq_true rfl, Nat.le_of_ble_eq_true rfl⟩) hP hD hK hN ([] : List Nat) rfl rfl rfl hl.1 rfl (Nat.le_of_ble_eq_true rfl) dX4_isClear_45 ⟨Nat.zero_le _, Nat.zero_le _⟩) hP hD hS hA [] [0, 1, 2, 3] [0, 1, 2, 3] rfl rfl rfl (by decide) rfl rfl (fun H locs hP hD hS => ?_)
        refine lv_if_eq (tgt := 53) hx hb dX4_isClear_48 (by decide) (fun c_3 => ?_) (fun c_3 => ?_)
        · refine lv_iinc (v := (v5 + 1)) (lv' := [(5, .int (v5 + 1)), (0, .ref aM), (1, .int x1), (2, .int x2), (3, .int x3), (4, .int x4)]) hx hb dX4_isClear_53 hl (k := 5) rfl rfl (by decide) rfl (fun ls hl => ?_)
          refine lv_goto (tgt := 3) hx hb dX4_isClear_56 (by decide) ?_
          rw [g_X4_isClear_L3, if_neg c_1, if_neg c_2, if_pos c_3] at hG
          exact ih3 (v5 + 1) _ _ _ (by exact up_ge h0 c_1) (by exact ms_up c_1 hm3) hG hP hD hS (lv_sub hl [1, 2, 3, 4, 5, 0] rfl)
        · refine lv_iconst (v := 0) hx hb dX4_isClear_51 (by decide) ?_
          rw [g_X4_isClear_L3, if_neg c_1, if_neg c_2, if_neg c_3] at hG
          rw [hG]
          exact W.zret (v := 0) hx hb hr rfl (fun t ht hW => ⟨⟨_, (), rfl, rfl, by rw [ht]; exact hP, va_K.moved hW.alike hK, hD⟩, hS.F ht⟩) hS.2.2 dX4_isClear_52

def g_X4_isLast_L3 (sf : (Nat → Int32)) (x1 : Int32) (x2 : Int32) (x3 : Int32) : Nat → Int32 → (Int32)
  | 0, _ => 0
  | n + 1, v4 => (if (sf 10) ≤ v4 then 1 else (if (g_X4_isOn sf v4 x1 x2) = 0 then (g_X4_isLast_L3 sf x1 x2 x3 n (v4 + 1)) else (if ((g_X4_of sf v4 8) + (g_X4_of sf v4 9)) ≤ x3 then (g_X4_isLast_L3 sf x1 x2 x3 n (v4 + 1)) else 0)))
def g_X4_isLast (sf : (Nat → Int32)) (x1 : Int32) (x2 : Int32) (x3 : Int32) : Int32 := (g_X4_isLast_L3 sf x1 x2 x3 ((((sf 10)).toInt - ((0 : Int32)).toInt).toNat + 1) 0)
set_option maxHeartbeats 4000000 in
set_option maxRecDepth 100000 in
theorem c_X4_isLast (l : Launch) (D : va_G) (cA cZ : ClassId) (aM : Nat) (aS : Nat) (aI : Nat) (aK : Nat) (szz : Nat) (sf : (Nat → Int32)) (mf : (Nat → Int32)) (kf : (Nat → Int32)) (m0 : Int32) (m1 : Int32) (m2 : Int32) (m3 : Int32) (m4 : Int32) (x1 : Int32) (x2 : Int32) (x3 : Int32) (hm : (sf 10) ≤ 48) : MetI l yX4_isLast wsX4_isLast 3 66 D (tyA cA cZ) [.ref aM, .int x1, .int x2, .int x3] (MDw cA cZ aM aS aI aK sf mf kf m0 m1 m2 m3 m4) szz (g_X4_isLast sf x1 x2 x3) (MDw cA cZ aM aS aI aK sf mf kf m0 m1 m2 m3 m4) := by
  refine Met.ofW (cc := cX4_isLast) (maxL := 5) (ret := (some .boolean)) (by decide) rfl ?_
  intro p e s m args below meth c s₁ B hml hv
  obtain ⟨rfl, hsz, hP, hK, hD0, hN⟩ := hv
  have hx := B.exec
  have hb := B.bytes
  have hr := B.returns
  have hts := atoms_spec (ws := wsX4_isLast) B.pre
  have hown : s.vm.findClass RX4 = some m.cls := findClass_of_methodNamed B.named
  have hlocks := B.notSynchronized
  have iX4 : ∀ w ∈ wsX40, w ∈ wsX4_isLast := fun _ h => List.mem_cons_of_mem _ (List.mem_append_right _ h)
  subst hsz
  have hD := hD0.self (sz := s.heap.size)
  generalize hAe : va_A (MDw cA cZ aM aS aI aK sf mf kf m0 m1 m2 m3 m4) s.heap.size = A at hD ⊢
  have hA : ∀ q : Nat, s.heap.size ≤ q → A q := fun q h => by rw [← hAe]; exact Or.inr h
  have hS : va_S A s.heap s.heap [] := va_S.rf
  have hP : va_P D vwCl (MDw cA cZ aM aS aI aK sf mf kf m0 m1 m2 m3 m4) s.heap := hP
  obtain ⟨G, hG⟩ : ∃ G, G = (g_X4_isLast sf x1 x2 x3) := ⟨_, rfl⟩
  rw [← hG]
  have hl := lv_entry ([.ref aM, .int x1, .int x2, .int x3]) (n := 5) (Nat.le_of_ble_eq_true rfl)
  rw [lg_entry_eq]
  generalize (lg_sl ([.ref aM, .int x1, .int x2, .int x3]) ++ List.replicate (5 - (lg_sl ([.ref aM, .int x1, .int x2, .int x3])).length) Slot.unset).toArray = ls at hl ⊢
  have hl : lv_has ls 5 [(0, .ref aM), (1, .int x1), (2, .int x2), (3, .int x3)] := hl
  refine lv_iconst (v := 0) hx hb dX4_isLast_0 (by decide) ?_
  refine lv_istore (lv' := [(4, .int 0), (0, .ref aM), (1, .int x1), (2, .int x2), (3, .int x3)]) hx hb dX4_isLast_1 hl (by decide) rfl (fun ls hl => ?_)
  rw [g_X4_isLast] at hG
  refine (?_ : ∀ (n : Nat) (v4 : Int32) (H : Heap) (locs : List Loc) (ls : Array Slot), (0 ≤ v4) → (((sf 10)).toInt - (v4).toInt).toNat < n → G = g_X4_isLast_L3 sf x1 x2 x3 n v4 → va_P D vwCl (MDw cA cZ aM aS aI aK sf mf kf m0 m1 m2 m3 m4) H → va_D A (MDw cA cZ aM aS aI aK sf mf kf m0 m1 m2 m3 m4) → va_S A s.heap H locs → lv_has ls 5 [(0, .ref aM), (1, .int x1), (2, .int x2), (3, .int x3), (4, .int v4)] → W p l e _ s m _ below meth c H locs _ _ _ (F0 m 3 ls [])) ((((sf 10)).toInt - ((0 : Int32)).toInt).toNat + 1) 0 _ _ _ (by decide) (Nat.lt_succ_self _) hG hP hD hS (lv_sub hl [1, 2, 3, 4, 0] rfl)
  clear hG hP hD hS hl
  intro n
  induction n with
  | zero => intros; omega
  | succ n3 ih3 =>
    intro v4 H locs ls h0 hm3 hG hP hD hS hl
    refine lv_iload hx hb dX4_isLast_3 (lv_at hl 4 rfl) ?_
    refine lv_aload_n hx hb dX4_isLast_5 rfl (lv_at hl 0 rfl) ?_
    refine va_get (D := D) (ci := 4) (v := .ref aS) (C := RX4) (T := TX4) (N := 8) hx hb hts iX4 hown hK hP 0 rfl rfl 0 (by decide) (hts (.fieldLink RX4 7 "LightBurstsModel" "state" "[I") (List.mem_of_getElem? (i := 1) rfl)) (fun _ h9 => h9) rfl dX4_isLast_6 ?_
    refine lv_bipush (v := 10) hx hb dX4_isLast_9 (by decide) ?_
    refine va_iald hx hb hK hP 1 0 rfl rfl (by unfold vp_in; decide) dX4_isLast_11 ?_
    refine lv_eqi (sf 10) rfl ?_
    refine lv_icmp_ge (tgt := 55) hx hb dX4_isLast_12 (by decide) (fun c_1 => ?_) (fun c_1 => ?_)
    · refine lv_iconst (v := 1) hx hb dX4_isLast_55 (by decide) ?_
      rw [g_X4_isLast_L3, if_pos c_1] at hG
      rw [hG]
      exact W.zret (v := 1) hx hb hr rfl (fun t ht hW => ⟨⟨_, (), rfl, rfl, by rw [ht]; exact hP, va_K.moved hW.alike hK, hD⟩, hS.F ht⟩) hS.2.2 dX4_isLast_56
    · refine lv_aload_n hx hb dX4_isLast_15 rfl (lv_at hl 0 rfl) ?_
      refine lv_iload hx hb dX4_isLast_16 (lv_at hl 4 rfl) ?_
      refine lv_iload_n hx hb dX4_isLast_18 rfl (lv_at hl 1 rfl) ?_
      refine lv_iload_n hx hb dX4_isLast_19 rfl (lv_at hl 2 rfl) ?_
      refine kI (wr := ([] : va_W)) (W1 := MDw cA cZ aM aS aI aK sf mf kf m0 m1 m2 m3 m4) (wsN := MDw cA cZ aM aS aI aK sf mf kf m0 m1 m2 m3 m4) (rV (As := [.int v4, .int x1, .int x2]) (rest := []) (W0 := MDw cA cZ aM aS aI aK sf mf kf m0 m1 m2 m3 m4) ⟨hx, hb, hml, hown, hts⟩ (c_X4_isOn l D cA cZ aM aS aI aK H.size sf mf kf m0 m1 m2 m3 m4 v4 x1 x2 (show bok v4 from by exact bok_of h0 c_1 hm)) (cwV 3 hts gX4_isLast_X4_isOn rfl rfl rfl (by decide +kernel) ⟨Nat.le_of_ble_eq_true rfl, Nat.le_of_ble_eq_true rfl⟩) hP hD hK hN ([0, 1, 2, 3] : List Nat) rfl rfl 4 0 rfl rfl rfl hl.1 rfl (Nat.le_of_ble_eq_true rfl) dX4_isLast_20 ⟨Nat.zero_le _, Nat.zero_le _⟩) hP hD hS hA [0, 1, 2, 3] [] [0, 1, 2, 3] rfl rfl rfl (by decide) rfl rfl (fun H locs hP hD hS => ?_)
      refine lv_if_eq (tgt := 49) hx hb dX4_isLast_23 (by decide) (fun c_2 => ?_) (fun c_2 => ?_)
      · refine lv_iinc (v := (v4 + 1)) (lv' := [(4, .int (v4 + 1)), (0, .ref aM), (1, .int x1), (2, .int x2), (3, .int x3)]) hx hb dX4_isLast_49 hl (k := 4) rfl rfl (by decide) rfl (fun ls hl => ?_)
        refine lv_goto (tgt := 3) hx hb dX4_isLast_52 (by decide) ?_
        rw [g_X4_isLast_L3, if_neg c_1, if_pos c_2] at hG
        exact ih3 (v4 + 1) _ _ _ (by exact up_ge h0 c_1) (by exact ms_up c_1 hm3) hG hP hD hS (lv_sub hl [1, 2, 3, 4, 0] rfl)
      · refine lv_aload_n hx hb dX4_isLast_26 rfl (lv_at hl 0 rfl) ?_
        refine lv_iload hx hb dX4_isLast_27 (lv_at hl 4 rfl) ?_
        refine lv_bipush (v := 8) hx hb dX4_isLast_29 (by decide) ?_
        refine kI (wr := ([] : va_W)) (W1 := MDw cA cZ aM aS aI aK sf mf kf m0 m1 m2 m3 m4) (wsN := MDw cA cZ aM aS aI aK sf mf kf m0 m1 m2 m3 m4) (rV (As := [.int v4, .int 8]) (rest := []) (W0 := MDw cA cZ aM aS aI aK sf mf kf m0 m1 m2 m3 m4) ⟨hx, hb, hml, hown, hts⟩ (c_X4_of l D cA cZ aM aS aI aK H.size sf mf kf m0 m1 m2 m3 m4 v4 8 (show bok v4 from by exact bok_of h0 c_1 hm) (show wok 8 from by exact ⟨by decide, by decide⟩)) (cwV 2 hts gX4_isLast_X4_of rfl rfl rfl (by decide +kernel) ⟨Nat.le_of_ble_eq_true rfl, Nat.le_of_ble_eq_true rfl⟩) hP hD hK hN ([0, 1, 2, 3] : List Nat) rfl rfl 4 0 rfl rfl rfl hl.1 rfl (Nat.le_of_ble_eq_true rfl) dX4_isLast_31 ⟨Nat.zero_le _, Nat.zero_le _⟩) hP hD hS hA [0, 1, 2, 3] [] [0, 1, 2, 3] rfl rfl rfl (by decide) rfl rfl (fun H locs hP hD hS => ?_)
        refine lv_aload_n hx hb dX4_isLast_34 rfl (lv_at hl 0 rfl) ?_
        refine lv_iload hx hb dX4_isLast_35 (lv_at hl 4 rfl) ?_
        refine lv_bipush (v := 9) hx hb dX4_isLast_37 (by decide) ?_
        refine kI (wr := ([] : va_W)) (W1 := MDw cA cZ aM aS aI aK sf mf kf m0 m1 m2 m3 m4) (wsN := MDw cA cZ aM aS aI aK sf mf kf m0 m1 m2 m3 m4) (rV (As := [.int v4, .int 9]) (rest := [.int (g_X4_of sf v4 8)]) (W0 := MDw cA cZ aM aS aI aK sf mf kf m0 m1 m2 m3 m4) ⟨hx, hb, hml, hown, hts⟩ (c_X4_of l D cA cZ aM aS aI aK H.size sf mf kf m0 m1 m2 m3 m4 v4 9 (show bok v4 from by exact bok_of h0 c_1 hm) (show wok 9 from by exact ⟨by decide, by decide⟩)) (cwV 2 hts gX4_isLast_X4_of rfl rfl rfl (by decide +kernel) ⟨Nat.le_of_ble_eq_true rfl, Nat.le_of_ble_eq_true rfl⟩) hP hD hK hN ([0, 1, 2, 3] : List Nat) rfl rfl 4 0 rfl rfl rfl hl.1 rfl (Nat.le_of_ble_eq_true rfl) dX4_isLast_39 ⟨Nat.zero_le _, Nat.zero_le _⟩) hP hD hS hA [0, 1, 2, 3] [] [0, 1, 2, 3] rfl rfl rfl (by decide) rfl rfl (fun H locs hP hD hS => ?_)
        refine lv_iadd hx hb dX4_isLast_42 ?_
        refine lv_iload_n hx hb dX4_isLast_43 rfl (lv_at hl 3 rfl) ?_
        refine lv_icmp_le (tgt := 49) hx hb dX4_isLast_44 (by decide) (fun c_3 => ?_) (fun c_3 => ?_)
        · refine lv_iinc (v := (v4 + 1)) (lv' := [(4, .int (v4 + 1)), (0, .ref aM), (1, .int x1), (2, .int x2), (3, .int x3)]) hx hb dX4_isLast_49 hl (k := 4) rfl rfl (by decide) rfl (fun ls hl => ?_)
          refine lv_goto (tgt := 3) hx hb dX4_isLast_52 (by decide) ?_
          rw [g_X4_isLast_L3, if_neg c_1, if_neg c_2, if_pos c_3] at hG
          exact ih3 (v4 + 1) _ _ _ (by exact up_ge h0 c_1) (by exact ms_up c_1 hm3) hG hP hD hS (lv_sub hl [1, 2, 3, 4, 0] rfl)
        · refine lv_iconst (v := 0) hx hb dX4_isLast_47 (by decide) ?_
          rw [g_X4_isLast_L3, if_neg c_1, if_neg c_2, if_neg c_3] at hG
          rw [hG]
          exact W.zret (v := 0) hx hb hr rfl (fun t ht hW => ⟨⟨_, (), rfl, rfl, by rw [ht]; exact hP, va_K.moved hW.alike hK, hD⟩, hS.F ht⟩) hS.2.2 dX4_isLast_48

def g_X4_isFree (sf : (Nat → Int32)) (x1 : Int32) (x2 : Int32) (x3 : Int32) (x4 : Int32) : Int32 := (if (g_X4_isClear sf x1 x2 x3 x4) = 0 then 0 else (if (sf 5) = 1 then 1 else (if (g_X4_isLast sf x1 x2 x3) = 0 then 0 else 1)))
set_option maxHeartbeats 4000000 in
set_option maxRecDepth 100000 in
theorem c_X4_isFree (l : Launch) (D : va_G) (cA cZ : ClassId) (aM : Nat) (aS : Nat) (aI : Nat) (aK : Nat) (szz : Nat) (sf : (Nat → Int32)) (mf : (Nat → Int32)) (kf : (Nat → Int32)) (m0 : Int32) (m1 : Int32) (m2 : Int32) (m3 : Int32) (m4 : Int32) (x1 : Int32) (x2 : Int32) (x3 : Int32) (x4 : Int32) (hm : (sf 10) ≤ 48) : MetI l yX4_isFree wsX4_isFree 4 91 D (tyA cA cZ) [.ref aM, .int x1, .int x2, .int x3, .int x4] (MDw cA cZ aM aS aI aK sf mf kf m0 m1 m2 m3 m4) szz (g_X4_isFree sf x1 x2 x3 x4) (MDw cA cZ aM aS aI aK sf mf kf m0 m1 m2 m3 m4) := by
  refine Met.ofW (cc := cX4_isFree) (maxL := 5) (ret := (some .boolean)) (by decide) rfl ?_
  intro p e s m args below meth c s₁ B hml hv
  obtain ⟨rfl, hsz, hP, hK, hD0, hN⟩ := hv
  have hx := B.exec
  have hb := B.bytes
  have hr := B.returns
  have hts := atoms_spec (ws := wsX4_isFree) B.pre
  have hown : s.vm.findClass RX4 = some m.cls := findClass_of_methodNamed B.named
  have hlocks := B.notSynchronized
  have iX4 : ∀ w ∈ wsX40, w ∈ wsX4_isFree := fun _ h => List.mem_cons_of_mem _ (List.mem_append_right _ h)
  subst hsz
  have hD := hD0.self (sz := s.heap.size)
  generalize hAe : va_A (MDw cA cZ aM aS aI aK sf mf kf m0 m1 m2 m3 m4) s.heap.size = A at hD ⊢
  have hA : ∀ q : Nat, s.heap.size ≤ q → A q := fun q h => by rw [← hAe]; exact Or.inr h
  have hS : va_S A s.heap s.heap [] := va_S.rf
  have hP : va_P D vwCl (MDw cA cZ aM aS aI aK sf mf kf m0 m1 m2 m3 m4) s.heap := hP
  obtain ⟨G, hG⟩ : ∃ G, G = (g_X4_isFree sf x1 x2 x3 x4) := ⟨_, rfl⟩
  rw [← hG]
  have hl := lv_entry ([.ref aM, .int x1, .int x2, .int x3, .int x4]) (n := 5) (Nat.le_of_ble_eq_true rfl)
  rw [lg_entry_eq]
  generalize (lg_sl ([.ref aM, .int x1, .int x2, .int x3, .int x4]) ++ List.replicate (5 - (lg_sl ([.ref aM, .int x1, .int x2, .int x3, .int x4])).length) Slot.unset).toArray = ls at hl ⊢
  have hl : lv_has ls 5 [(0, .ref aM), (1, .int x1), (2, .int x2), (3, .int x3), (4, .int x4)] := hl
  refine lv_aload_n hx hb dX4_isFree_0 rfl (lv_at hl 0 rfl) ?_
  refine lv_iload_n hx hb dX4_isFree_1 rfl (lv_at hl 1 rfl) ?_
  refine lv_iload_n hx hb dX4_isFree_2 rfl (lv_at hl 2 rfl) ?_
  refine lv_iload_n hx hb dX4_isFree_3 rfl (lv_at hl 3 rfl) ?_
  refine lv_iload hx hb dX4_isFree_4 (lv_at hl 4 rfl) ?_
  refine kI (wr := ([] : va_W)) (W1 := MDw cA cZ aM aS aI aK sf mf kf m0 m1 m2 m3 m4) (wsN := MDw cA cZ aM aS aI aK sf mf kf m0 m1 m2 m3 m4) (rV (As := [.int x1, .int x2, .int x3, .int x4]) (rest := []) (W0 := MDw cA cZ aM aS aI aK sf mf kf m0 m1 m2 m3 m4) ⟨hx, hb, hml, hown, hts⟩ (c_X4_isClear l D cA cZ aM aS aI aK s.heap.size sf mf kf m0 m1 m2 m3 m4 x1 x2 x3 x4 (show (sf 10) ≤ 48 from by exact hm)) (cwV 4 hts gX4_isFree_X4_isClear rfl rfl rfl (by decide +kernel) ⟨Nat.le_of_ble_eq_true rfl, Nat.le_of_ble_eq_true rfl⟩) hP hD hK hN ([0, 1, 2, 3] : List Nat) rfl rfl 4 0 rfl rfl rfl hl.1 rfl (Nat.le_of_ble_eq_true rfl) dX4_isFree_6 ⟨Nat.zero_le _, Nat.zero_le _⟩) hP hD hS hA [0, 1, 2, 3] [] [0, 1, 2, 3] rfl rfl rfl (by decide) rfl rfl (fun H locs hP hD hS => ?_)
  refine lv_if_eq (tgt := 36) hx hb dX4_isFree_9 (by decide) (fun c_1 => ?_) (fun c_1 => ?_)
  · refine lv_iconst (v := 0) hx hb dX4_isFree_36 (by decide) ?_
    rw [g_X4_isFree, if_pos c_1] at hG
    rw [hG]
    exact W.zret (v := 0) hx hb hr rfl (fun t ht hW => ⟨⟨_, (), rfl, rfl, by rw [ht]; exact hP, va_K.moved hW.alike hK, hD⟩, hS.F ht⟩) hS.2.2 dX4_isFree_37
  · refine lv_aload_n hx hb dX4_isFree_12 rfl (lv_at hl 0 rfl) ?_
    refine va_get (D := D) (ci := 4) (v := .ref aS) (C := RX4) (T := TX4) (N := 8) hx hb hts iX4 hown hK hP 0 rfl rfl 0 (by decide) (hts (.fieldLink RX4 7 "LightBurstsModel" "state" "[I") (List.mem_of_getElem? (i := 1) rfl)) (fun _ h9 => h9) rfl dX4_isFree_13 ?_
    refine lv_iconst (v := 5) hx hb dX4_isFree_16 (by decide) ?_
    refine va_iald hx hb hK hP 1 0 rfl rfl (by unfold vp_in; decide) dX4_isFree_17 ?_
    refine lv_eqi (sf 5) rfl ?_
    refine lv_iconst (v := 1) hx hb dX4_isFree_18 (by decide) ?_
    refine lv_icmp_eq (tgt := 32) hx hb dX4_isFree_19 (by decide) (fun c_2 => ?_) (fun c_2 => ?_)
    · refine lv_iconst (v := 1) hx hb dX4_isFree_32 (by decide) ?_
      refine lv_goto (tgt := 37) hx hb dX4_isFree_33 (by decide) ?_
      rw [g_X4_isFree, if_neg c_1, if_pos c_2] at hG
      rw [hG]
      exact W.zret (v := 1) hx hb hr rfl (fun t ht hW => ⟨⟨_, (), rfl, rfl, by rw [ht]; exact hP, va_K.moved hW.alike hK, hD⟩, hS.F ht⟩) hS.2.2 dX4_isFree_37
    · refine lv_aload_n hx hb dX4_isFree_22 rfl (lv_at hl 0 rfl) ?_
      refine lv_iload_n hx hb dX4_isFree_23 rfl (lv_at hl 1 rfl) ?_
      refine lv_iload_n hx hb dX4_isFree_24 rfl (lv_at hl 2 rfl) ?_
      refine lv_iload_n hx hb dX4_isFree_25 rfl (lv_at hl 3 rfl) ?_
      refine kI (wr := ([] : va_W)) (W1 := MDw cA cZ aM aS aI aK sf mf kf m0 m1 m2 m3 m4) (wsN := MDw cA cZ aM aS aI aK sf mf kf m0 m1 m2 m3 m4) (rV (As := [.int x1, .int x2, .int x3]) (rest := []) (W0 := MDw cA cZ aM aS aI aK sf mf kf m0 m1 m2 m3 m4) ⟨hx, hb, hml, hown, hts⟩ (c_X4_isLast l D cA cZ aM aS aI aK H.size sf mf kf m0 m1 m2 m3 m4 x1 x2 x3 (show (sf 10) ≤ 48 from by exact hm)) (cwV 3 hts gX4_isFree_X4_isLast rfl rfl rfl (by decide +kernel) ⟨Nat.le_of_ble_eq_true rfl, Nat.le_of_ble_eq_true rfl⟩) hP hD hK hN ([0, 1, 2, 3] : List Nat) rfl rfl 4 0 rfl rfl rfl hl.1 rfl (Nat.le_of_ble_eq_true rfl) dX4_isFree_26 ⟨Nat.zero_le _, Nat.zero_le _⟩) hP hD hS hA [0, 1, 2, 3] [] [0, 1, 2, 3] rfl rfl rfl (by decide) rfl rfl (fun H locs hP hD hS => ?_)
      refine lv_if_eq (tgt := 36) hx hb dX4_isFree_29 (by decide) (fun c_3 => ?_) (fun c_3 => ?_)
      · refine lv_iconst (v := 0) hx hb dX4_isFree_36 (by decide) ?_
        rw [g_X4_isFree, if_neg c_1, if_neg c_2, if_pos c_3] at hG
        rw [hG]
        exact W.zret (v := 0) hx hb hr rfl (fun t ht hW => ⟨⟨_, (), rfl, rfl, by rw [ht]; exact hP, va_K.moved hW.alike hK, hD⟩, hS.F ht⟩) hS.2.2 dX4_isFree_37
      · refine lv_iconst (v := 1) hx hb dX4_isFree_32 (by decide) ?_
        refine lv_goto (tgt := 37) hx hb dX4_isFree_33 (by decide) ?_
        rw [g_X4_isFree, if_neg c_1, if_neg c_2, if_neg c_3] at hG
        rw [hG]
        exact W.zret (v := 1) hx hb hr rfl (fun t ht hW => ⟨⟨_, (), rfl, rfl, by rw [ht]; exact hP, va_K.moved hW.alike hK, hD⟩, hS.F ht⟩) hS.2.2 dX4_isFree_37

def g_X4_gap_L12 (sf : (Nat → Int32)) (x1 : Int32) (x2 : Int32) (x3 : Int32) : Nat → Int32 → Int32 → (Int32)
  | 0, _, _ => 0
  | n + 1, v4, v5 => (if (sf 10) ≤ v5 then (x3 - v4) else (if (g_X4_isOn sf v5 x1 x2) = 0 then (g_X4_gap_L12 sf x1 x2 x3 n v4 (v5 + 1)) else (if x3 < ((g_X4_of sf v5 8) + (g_X4_of sf v5 9)) then (g_X4_gap_L12 sf x1 x2 x3 n v4 (v5 + 1)) else (if ((g_X4_of sf v5 8) + (g_X4_of sf v5 9)) ≤ v4 then (g_X4_gap_L12 sf x1 x2 x3 n v4 (v5 + 1)) else (g_X4_gap_L12 sf x1 x2 x3 n ((g_X4_of sf v5 8) + (g_X4_of sf v5 9)) (v5 + 1))))))
def g_X4_gap (sf : (Nat → Int32)) (x1 : Int32) (x2 : Int32) (x3 : Int32) : Int32 := (g_X4_gap_L12 sf x1 x2 x3 ((((sf 10)).toInt - ((0 : Int32)).toInt).toNat + 1) (sf 9) 0)
set_option maxHeartbeats 4000000 in
set_option maxRecDepth 100000 in
theorem c_X4_gap (l : Launch) (D : va_G) (cA cZ : ClassId) (aM : Nat) (aS : Nat) (aI : Nat) (aK : Nat) (szz : Nat) (sf : (Nat → Int32)) (mf : (Nat → Int32)) (kf : (Nat → Int32)) (m0 : Int32) (m1 : Int32) (m2 : Int32) (m3 : Int32) (m4 : Int32) (x1 : Int32) (x2 : Int32) (x3 : Int32) (hm : (sf 10) ≤ 48) : MetI l yX4_gap wsX4_gap 3 66 D (tyA cA cZ) [.ref aM, .int x1, .int x2, .int x3] (MDw cA cZ aM aS aI aK sf mf kf m0 m1 m2 m3 m4) szz (g_X4_gap sf x1 x2 x3) (MDw cA cZ aM aS aI aK sf mf kf m0 m1 m2 m3 m4) := by
  refine Met.ofW (cc := cX4_gap) (maxL := 7) (ret := (some .int)) (by decide) rfl ?_
  intro p e s m args below meth c s₁ B hml hv
  obtain ⟨rfl, hsz, hP, hK, hD0, hN⟩ := hv
  have hx := B.exec
  have hb := B.bytes
  have hr := B.returns
  have hts := atoms_spec (ws := wsX4_gap) B.pre
  have hown : s.vm.findClass RX4 = some m.cls := findClass_of_methodNamed B.named
  have hlocks := B.notSynchronized
  have iX4 : ∀ w ∈ wsX40, w ∈ wsX4_gap := fun _ h => List.mem_cons_of_mem _ (List.mem_append_right _ h)
  subst hsz
  have hD := hD0.self (sz := s.heap.size)
  generalize hAe : va_A (MDw cA cZ aM aS aI aK sf mf kf m0 m1 m2 m3 m4) s.heap.size = A at hD ⊢
  have hA : ∀ q : Nat, s.heap.size ≤ q → A q := fun q h => by rw [← hAe]; exact Or.inr h
  have hS : va_S A s.heap s.heap [] := va_S.rf
  have hP : va_P D vwCl (MDw cA cZ aM aS aI aK sf mf kf m0 m1 m2 m3 m4) s.heap := hP
  obtain ⟨G, hG⟩ : ∃ G, G = (g_X4_gap sf x1 x2 x3) := ⟨_, rfl⟩
  rw [← hG]
  have hl := lv_entry ([.ref aM, .int x1, .int x2, .int x3]) (n := 7) (Nat.le_of_ble_eq_true rfl)
  rw [lg_entry_eq]
  generalize (lg_sl ([.ref aM, .int x1, .int x2, .int x3]) ++ List.replicate (7 - (lg_sl ([.ref aM, .int x1, .int x2, .int x3])).length) Slot.unset).toArray = ls at hl ⊢
  have hl : lv_has ls 7 [(0, .ref aM), (1, .int x1), (2, .int x2), (3, .int x3)] := hl
  refine lv_aload_n hx hb dX4_gap_0 rfl (lv_at hl 0 rfl) ?_
  refine va_get (D := D) (ci := 4) (v := .ref aS) (C := RX4) (T := TX4) (N := 8) hx hb hts iX4 hown hK hP 0 rfl rfl 0 (by decide) (hts (.fieldLink RX4 7 "LightBurstsModel" "state" "[I") (List.mem_of_getElem? (i := 1) rfl)) (fun _ h9 => h9) rfl dX4_gap_1 ?_
  refine lv_bipush (v := 9) hx hb dX4_gap_4 (by decide) ?_
  refine va_iald hx hb hK hP 1 0 rfl rfl (by unfold vp_in; decide) dX4_gap_6 ?_
  refine lv_eqi (sf 9) rfl ?_
  refine lv_istore (lv' := [(4, .int (sf 9)), (0, .ref aM), (1, .int x1), (2, .int x2), (3, .int x3)]) hx hb dX4_gap_7 hl (by decide) rfl (fun ls hl => ?_)
  refine lv_iconst (v := 0) hx hb dX4_gap_9 (by decide) ?_
  refine lv_istore (lv' := [(5, .int 0), (4, .int (sf 9)), (0, .ref aM), (1, .int x1), (2, .int x2), (3, .int x3)]) hx hb dX4_gap_10 hl (by decide) rfl (fun ls hl => ?_)
  rw [g_X4_gap] at hG
  refine (?_ : ∀ (n : Nat) (v4 : Int32) (v5 : Int32) (H : Heap) (locs : List Loc) (ls : Array Slot), (0 ≤ v5) → (((sf 10)).toInt - (v5).toInt).toNat < n → G = g_X4_gap_L12 sf x1 x2 x3 n v4 v5 → va_P D vwCl (MDw cA cZ aM aS aI aK sf mf kf m0 m1 m2 m3 m4) H → va_D A (MDw cA cZ aM aS aI aK sf mf kf m0 m1 m2 m3 m4) → va_S A s.heap H locs → lv_has ls 7 [(0, .ref aM), (1, .int x1), (2, .int x2), (3, .int x3), (4, .int v4), (5, .int v5)] → W p l e _ s m _ below meth c H locs _ _ _ (F0 m 12 ls [])) ((((sf 10)).toInt - ((0 : Int32)).toInt).toNat + 1) (sf 9) 0 _ _ _ (by decide) (Nat.lt_succ_self _) hG hP hD hS (lv_sub hl [2, 3, 4, 5, 1, 0] rfl)
  clear hG hP hD hS hl
  intro n
  induction n with
  | zero => intros; omega
  | succ n12 ih12 =>
    intro v4 v5 H locs ls h0 hm12 hG hP hD hS hl
    refine lv_iload hx hb dX4_gap_12 (lv_at hl 5 rfl) ?_
    refine lv_aload_n hx hb dX4_gap_14 rfl (lv_at hl 0 rfl) ?_
    refine va_get (D := D) (ci := 4) (v := .ref aS) (C := RX4) (T := TX4) (N := 8) hx hb hts iX4 hown hK hP 0 rfl rfl 0 (by decide) (hts (.fieldLink RX4 7 "LightBurstsModel" "state" "[I") (List.mem_of_getElem? (i := 1) rfl)) (fun _ h9 => h9) rfl dX4_gap_15 ?_
    refine lv_bipush (v := 10) hx hb dX4_gap_18 (by decide) ?_
    refine va_iald hx hb hK hP 1 0 rfl rfl (by unfold vp_in; decide) dX4_gap_20 ?_
    refine lv_eqi (sf 10) rfl ?_
    refine lv_icmp_ge (tgt := 82) hx hb dX4_gap_21 (by decide) (fun c_1 => ?_) (fun c_1 => ?_)
    · refine lv_iload_n hx hb dX4_gap_82 rfl (lv_at hl 3 rfl) ?_
      refine lv_iload hx hb dX4_gap_83 (lv_at hl 4 rfl) ?_
      refine lv_isub hx hb dX4_gap_85 ?_
      rw [g_X4_gap_L12, if_pos c_1] at hG
      rw [hG]
      exact W.iret (v := (x3 - v4)) hx hb hr (fun t ht hW => ⟨⟨_, (), rfl, rfl, by rw [ht]; exact hP, va_K.moved hW.alike hK, hD⟩, hS.F ht⟩) hS.2.2 dX4_gap_86
    · refine lv_aload_n hx hb dX4_gap_24 rfl (lv_at hl 0 rfl) ?_
      refine lv_iload hx hb dX4_gap_25 (lv_at hl 5 rfl) ?_
      refine lv_bipush (v := 8) hx hb dX4_gap_27 (by decide) ?_
      refine kI (wr := ([] : va_W)) (W1 := MDw cA cZ aM aS aI aK sf mf kf m0 m1 m2 m3 m4) (wsN := MDw cA cZ aM aS aI aK sf mf kf m0 m1 m2 m3 m4) (rV (As := [.int v5, .int 8]) (rest := []) (W0 := MDw cA cZ aM aS aI aK sf mf kf m0 m1 m2 m3 m4) ⟨hx, hb, hml, hown, hts⟩ (c_X4_of l D cA cZ aM aS aI aK H.size sf mf kf m0 m1 m2 m3 m4 v5 8 (show bok v5 from by exact bok_of h0 c_1 hm) (show wok 8 from by exact ⟨by decide, by decide⟩)) (cwV 2 hts gX4_gap_X4_of rfl rfl rfl (by decide +kernel) ⟨Nat.le_of_ble_eq_true rfl, Nat.le_of_ble_eq_true rfl⟩) hP hD hK hN ([0, 1, 2, 3] : List Nat) rfl rfl 4 0 rfl rfl rfl hl.1 rfl (Nat.le_of_ble_eq_true rfl) dX4_gap_29 ⟨Nat.zero_le _, Nat.zero_le _⟩) hP hD hS hA [0, 1, 2, 3] [] [0, 1, 2, 3] rfl rfl rfl (by decide) rfl rfl (fun H locs hP hD hS => ?_)
      refine lv_aload_n hx hb dX4_gap_32 rfl (lv_at hl 0 rfl) ?_
      refine lv_iload hx hb dX4_gap_33 (lv_at hl 5 rfl) ?_
      refine lv_bipush (v := 9) hx hb dX4_gap_35 (by decide) ?_
      refine kI (wr := ([] : va_W)) (W1 := MDw cA cZ aM aS aI aK sf mf kf m0 m1 m2 m3 m4) (wsN := MDw cA cZ aM aS aI aK sf mf kf m0 m1 m2 m3 m4) (rV (As := [.int v5, .int 9]) (rest := [.int (g_X4_of sf v5 8)]) (W0 := MDw cA cZ aM aS aI aK sf mf kf m0 m1 m2 m3 m4) ⟨hx, hb, hml, hown, hts⟩ (c_X4_of l D cA cZ aM aS aI aK H.size sf mf kf m0 m1 m2 m3 m4 v5 9 (show bok v5 from by exact bok_of h0 c_1 hm) (show wok 9 from by exact ⟨by decide, by decide⟩)) (cwV 2 hts gX4_gap_X4_of rfl rfl rfl (by decide +kernel) ⟨Nat.le_of_ble_eq_true rfl, Nat.le_of_ble_eq_true rfl⟩) hP hD hK hN ([0, 1, 2, 3] : List Nat) rfl rfl 4 0 rfl rfl rfl hl.1 rfl (Nat.le_of_ble_eq_true rfl) dX4_gap_37 ⟨Nat.zero_le _, Nat.zero_le _⟩) hP hD hS hA [0, 1, 2, 3] [] [0, 1, 2, 3] rfl rfl rfl (by decide) rfl rfl (fun H locs hP hD hS => ?_)
      refine lv_iadd hx hb dX4_gap_40 ?_
      refine lv_istore (lv' := [(6, .int ((g_X4_of sf v5 8) + (g_X4_of sf v5 9))), (0, .ref aM), (1, .int x1), (2, .int x2), (3, .int x3), (4, .int v4), (5, .int v5)]) hx hb dX4_gap_41 hl (by decide) rfl (fun ls hl => ?_)
      refine lv_aload_n hx hb dX4_gap_43 rfl (lv_at hl 1 rfl) ?_
      refine lv_iload hx hb dX4_gap_44 (lv_at hl 6 rfl) ?_
      refine lv_iload_n hx hb dX4_gap_46 rfl (lv_at hl 2 rfl) ?_
      refine lv_iload_n hx hb dX4_gap_47 rfl (lv_at hl 3 rfl) ?_
      refine kI (wr := ([] : va_W)) (W1 := MDw cA cZ aM aS aI aK sf mf kf m0 m1 m2 m3 m4) (wsN := MDw cA cZ aM aS aI aK sf mf kf m0 m1 m2 m3 m4) (rV (As := [.int v5, .int x1, .int x2]) (rest := []) (W0 := MDw cA cZ aM aS aI aK sf mf kf m0 m1 m2 m3 m4) ⟨hx, hb, hml, hown, hts⟩ (c_X4_isOn l D cA cZ aM aS aI aK H.size sf mf kf m0 m1 m2 m3 m4 v5 x1 x2 (show bok v5 from by exact bok_of h0 c_1 hm)) (cwV 3 hts gX4_gap_X4_isOn rfl rfl rfl (by decide +kernel) ⟨Nat.le_of_ble_eq_true rfl, Nat.le_of_ble_eq_true rfl⟩) hP hD hK hN ([0, 1, 2, 3] : List Nat) rfl rfl 4 0 rfl rfl rfl hl.1 rfl (Nat.le_of_ble_eq_true rfl) dX4_gap_48 ⟨Nat.zero_le _, Nat.zero_le _⟩) hP hD hS hA [0, 1, 2, 3] [] [0, 1, 2, 3] rfl rfl rfl (by decide) rfl rfl (fun H locs hP hD hS => ?_)
      refine lv_if_eq (tgt := 72) hx hb dX4_gap_51 (by decide) (fun c_2 => ?_) (fun c_2 => ?_)
      · refine lv_iload hx hb dX4_gap_72 (lv_at hl 5 rfl) ?_
        refine lv_istore (lv' := [(4, .int v4), (6, .int ((g_X4_of sf v5 8) + (g_X4_of sf v5 9))), (0, .ref aM), (1, .int x1), (2, .int x2), (3, .int x3), (5, .int v5)]) hx hb dX4_gap_74 hl (by decide) rfl (fun ls hl => ?_)
        refine lv_iinc (v := (v5 + 1)) (lv' := [(5, .int (v5 + 1)), (4, .int v4), (6, .int ((g_X4_of sf v5 8) + (g_X4_of sf v5 9))), (0, .ref aM), (1, .int x1), (2, .int x2), (3, .int x3)]) hx hb dX4_gap_76 hl (k := 6) rfl rfl (by decide) rfl (fun ls hl => ?_)
        refine lv_goto (tgt := 12) hx hb dX4_gap_79 (by decide) ?_
        rw [g_X4_gap_L12, if_neg c_1, if_pos c_2] at hG
        exact ih12 v4 (v5 + 1) _ _ _ (by exact up_ge h0 c_1) (by exact ms_up c_1 hm12) hG hP hD hS (lv_sub hl [3, 4, 5, 6, 1, 0] rfl)
      · refine lv_iload hx hb dX4_gap_54 (lv_at hl 0 rfl) ?_
        refine lv_iload_n hx hb dX4_gap_56 rfl (lv_at hl 4 rfl) ?_
        refine lv_icmp_gt (tgt := 72) hx hb dX4_gap_57 (by decide) (fun c_3 => ?_) (fun c_3 => ?_)
        · refine lv_iload hx hb dX4_gap_72 (lv_at hl 5 rfl) ?_
          refine lv_istore (lv' := [(4, .int v4), (6, .int ((g_X4_of sf v5 8) + (g_X4_of sf v5 9))), (0, .ref aM), (1, .int x1), (2, .int x2), (3, .int x3), (5, .int v5)]) hx hb dX4_gap_74 hl (by decide) rfl (fun ls hl => ?_)
          refine lv_iinc (v := (v5 + 1)) (lv' := [(5, .int (v5 + 1)), (4, .int v4), (6, .int ((g_X4_of sf v5 8) + (g_X4_of sf v5 9))), (0, .ref aM), (1, .int x1), (2, .int x2), (3, .int x3)]) hx hb dX4_gap_76 hl (k := 6) rfl rfl (by decide) rfl (fun ls hl => ?_)
          refine lv_goto (tgt := 12) hx hb dX4_gap_79 (by decide) ?_
          rw [g_X4_gap_L12, if_neg c_1, if_neg c_2, if_pos c_3] at hG
          exact ih12 v4 (v5 + 1) _ _ _ (by exact up_ge h0 c_1) (by exact ms_up c_1 hm12) hG hP hD hS (lv_sub hl [3, 4, 5, 6, 1, 0] rfl)
        · refine lv_iload hx hb dX4_gap_60 (lv_at hl 0 rfl) ?_
          refine lv_iload hx hb dX4_gap_62 (lv_at hl 5 rfl) ?_
          refine lv_icmp_le (tgt := 72) hx hb dX4_gap_64 (by decide) (fun c_4 => ?_) (fun c_4 => ?_)
          · refine lv_iload hx hb dX4_gap_72 (lv_at hl 5 rfl) ?_
            refine lv_istore (lv' := [(4, .int v4), (6, .int ((g_X4_of sf v5 8) + (g_X4_of sf v5 9))), (0, .ref aM), (1, .int x1), (2, .int x2), (3, .int x3), (5, .int v5)]) hx hb dX4_gap_74 hl (by decide) rfl (fun ls hl => ?_)
            refine lv_iinc (v := (v5 + 1)) (lv' := [(5, .int (v5 + 1)), (4, .int v4), (6, .int ((g_X4_of sf v5 8) + (g_X4_of sf v5 9))), (0, .ref aM), (1, .int x1), (2, .int x2), (3, .int x3)]) hx hb dX4_gap_76 hl (k := 6) rfl rfl (by decide) rfl (fun ls hl => ?_)
            refine lv_goto (tgt := 12) hx hb dX4_gap_79 (by decide) ?_
            rw [g_X4_gap_L12, if_neg c_1, if_neg c_2, if_neg c_3, if_pos c_4] at hG
            exact ih12 v4 (v5 + 1) _ _ _ (by exact up_ge h0 c_1) (by exact ms_up c_1 hm12) hG hP hD hS (lv_sub hl [3, 4, 5, 6, 1, 0] rfl)
          · refine lv_iload hx hb dX4_gap_67 (lv_at hl 0 rfl) ?_
            refine lv_goto (tgt := 74) hx hb dX4_gap_69 (by decide) ?_
            refine lv_istore (lv' := [(4, .int ((g_X4_of sf v5 8) + (g_X4_of sf v5 9))), (6, .int ((g_X4_of sf v5 8) + (g_X4_of sf v5 9))), (0, .ref aM), (1, .int x1), (2, .int x2), (3, .int x3), (5, .int v5)]) hx hb dX4_gap_74 hl (by decide) rfl (fun ls hl => ?_)
            refine lv_iinc (v := (v5 + 1)) (lv' := [(5, .int (v5 + 1)), (4, .int ((g_X4_of sf v5 8) + (g_X4_of sf v5 9))), (6, .int ((g_X4_of sf v5 8) + (g_X4_of sf v5 9))), (0, .ref aM), (1, .int x1), (2, .int x2), (3, .int x3)]) hx hb dX4_gap_76 hl (k := 6) rfl rfl (by decide) rfl (fun ls hl => ?_)
            refine lv_goto (tgt := 12) hx hb dX4_gap_79 (by decide) ?_
            rw [g_X4_gap_L12, if_neg c_1, if_neg c_2, if_neg c_3, if_neg c_4] at hG
            exact ih12 ((g_X4_of sf v5 8) + (g_X4_of sf v5 9)) (v5 + 1) _ _ _ (by exact up_ge h0 c_1) (by exact ms_up c_1 hm12) hG hP hD hS (lv_sub hl [3, 4, 5, 6, 1, 0] rfl)

def g_X4_away (x0 : Int32) (x1 : Int32) : Int32 := (if x1 ≤ x0 then (x0 - x1) else (x1 - x0))
set_option maxHeartbeats 4000000 in
set_option maxRecDepth 100000 in
theorem c_X4_away (l : Launch) (D : va_G) (cA cZ : ClassId) (szz : Nat) (x0 : Int32) (x1 : Int32) : MetI l yX4_away wsX4_away 0 0 D (tyA cA cZ) [.int x0, .int x1] (([] : va_W)) szz (g_X4_away x0 x1) (([] : va_W)) := by
  refine Met.ofW (cc := cX4_away) (maxL := 2) (ret := (some .int)) (by decide) rfl ?_
  intro p e s m args below meth c s₁ B hml hv
  obtain ⟨rfl, hsz, hP, hK, hD0, hN⟩ := hv
  have hx := B.exec
  have hb := B.bytes
  have hr := B.returns
  have hts := atoms_spec (ws := wsX4_away) B.pre
  have hown : s.vm.findClass RX4 = some m.cls := findClass_of_methodNamed B.named
  have hlocks := B.notSynchronized
  subst hsz
  have hD := hD0.self (sz := s.heap.size)
  generalize hAe : va_A (([] : va_W)) s.heap.size = A at hD ⊢
  have hA : ∀ q : Nat, s.heap.size ≤ q → A q := fun q h => by rw [← hAe]; exact Or.inr h
  have hS : va_S A s.heap s.heap [] := va_S.rf
  have hP : va_P D vwCl (([] : va_W)) s.heap := hP
  obtain ⟨G, hG⟩ : ∃ G, G = (g_X4_away x0 x1) := ⟨_, rfl⟩
  rw [← hG]
  have hl := lv_entry ([.int x0, .int x1]) (n := 2) (Nat.le_of_ble_eq_true rfl)
  rw [lg_entry_eq]
  generalize (lg_sl ([.int x0, .int x1]) ++ List.replicate (2 - (lg_sl ([.int x0, .int x1])).length) Slot.unset).toArray = ls at hl ⊢
  have hl : lv_has ls 2 [(0, .int x0), (1, .int x1)] := hl
  refine lv_iload_n hx hb dX4_away_0 rfl (lv_at hl 0 rfl) ?_
  refine lv_iload_n hx hb dX4_away_1 rfl (lv_at hl 1 rfl) ?_
  refine lv_icmp_ge (tgt := 11) hx hb dX4_away_2 (by decide) (fun c_1 => ?_) (fun c_1 => ?_)
  · refine lv_iload_n hx hb dX4_away_11 rfl (lv_at hl 0 rfl) ?_
    refine lv_iload_n hx hb dX4_away_12 rfl (lv_at hl 1 rfl) ?_
    refine lv_isub hx hb dX4_away_13 ?_
    rw [g_X4_away, if_pos c_1] at hG
    rw [hG]
    exact W.iret (v := (x0 - x1)) hx hb hr (fun t ht hW => ⟨⟨_, (), rfl, rfl, by rw [ht]; exact hP, va_K.moved hW.alike hK, hD⟩, hS.F ht⟩) hS.2.2 dX4_away_14
  · refine lv_iload_n hx hb dX4_away_5 rfl (lv_at hl 1 rfl) ?_
    refine lv_iload_n hx hb dX4_away_6 rfl (lv_at hl 0 rfl) ?_
    refine lv_isub hx hb dX4_away_7 ?_
    refine lv_goto (tgt := 14) hx hb dX4_away_8 (by decide) ?_
    rw [g_X4_away, if_neg c_1] at hG
    rw [hG]
    exact W.iret (v := (x1 - x0)) hx hb hr (fun t ht hW => ⟨⟨_, (), rfl, rfl, by rw [ht]; exact hP, va_K.moved hW.alike hK, hD⟩, hS.F ht⟩) hS.2.2 dX4_away_14

def g_X4_colourFor_L7 (sf : (Nat → Int32)) (x1 : Int32) (x2 : Int32) (x3 : Int32) (x4 : Int32) : Nat → Int32 → Int32 → (Int32)
  | 0, _, _ => 0
  | n + 1, v5, v6 => (if 6 ≤ v6 then v5 else (if (sf 0) < (g_X4_away v6 x2) then (g_X4_colourFor_L7 sf x1 x2 x3 x4 n v5 (v6 + 1)) else (if (g_X4_isFree sf x1 v6 x3 x4) = 0 then (g_X4_colourFor_L7 sf x1 x2 x3 x4 n v5 (v6 + 1)) else (if 0 ≤ v5 then (if ((g_X4_gap sf x1 v6 x3) - (g_X4_gap sf x1 v5 x3)) < 0 then (g_X4_colourFor_L7 sf x1 x2 x3 x4 n v6 (v6 + 1)) else (if ((g_X4_gap sf x1 v6 x3) - (g_X4_gap sf x1 v5 x3)) = 0 then (if (g_X4_away v5 x2) ≤ (g_X4_away v6 x2) then (g_X4_colourFor_L7 sf x1 x2 x3 x4 n v5 (v6 + 1)) else (g_X4_colourFor_L7 sf x1 x2 x3 x4 n v6 (v6 + 1))) else (g_X4_colourFor_L7 sf x1 x2 x3 x4 n v5 (v6 + 1)))) else (g_X4_colourFor_L7 sf x1 x2 x3 x4 n v6 (v6 + 1))))))
def g_X4_colourFor (sf : (Nat → Int32)) (x1 : Int32) (x2 : Int32) (x3 : Int32) (x4 : Int32) : Int32 := (g_X4_colourFor_L7 sf x1 x2 x3 x4 (((6 : Int32).toInt - ((0 : Int32)).toInt).toNat + 1) (-6) 0)
set_option maxHeartbeats 4000000 in
set_option maxRecDepth 100000 in
theorem c_X4_colourFor (l : Launch) (D : va_G) (cA cZ : ClassId) (aM : Nat) (aS : Nat) (aI : Nat) (aK : Nat) (szz : Nat) (sf : (Nat → Int32)) (mf : (Nat → Int32)) (kf : (Nat → Int32)) (m0 : Int32) (m1 : Int32) (m2 : Int32) (m3 : Int32) (m4 : Int32) (x1 : Int32) (x2 : Int32) (x3 : Int32) (x4 : Int32) (hm : (sf 10) ≤ 48) : MetI l yX4_colourFor wsX4_colourFor 5 115 D (tyA cA cZ) [.ref aM, .int x1, .int x2, .int x3, .int x4] (MDw cA cZ aM aS aI aK sf mf kf m0 m1 m2 m3 m4) szz (g_X4_colourFor sf x1 x2 x3 x4) (MDw cA cZ aM aS aI aK sf mf kf m0 m1 m2 m3 m4) := by
  refine Met.ofW (cc := cX4_colourFor) (maxL := 8) (ret := (some .int)) (by decide) rfl ?_
  intro p e s m args below meth c s₁ B hml hv
  obtain ⟨rfl, hsz, hP, hK, hD0, hN⟩ := hv
  have hx := B.exec
  have hb := B.bytes
  have hr := B.returns
  have hts := atoms_spec (ws := wsX4_colourFor) B.pre
  have hown : s.vm.findClass RX4 = some m.cls := findClass_of_methodNamed B.named
  have hlocks := B.notSynchronized
  have iX4 : ∀ w ∈ wsX40, w ∈ wsX4_colourFor := fun _ h => List.mem_cons_of_mem _ (List.mem_append_right _ h)
  subst hsz
  have hD := hD0.self (sz := s.heap.size)
  generalize hAe : va_A (MDw cA cZ aM aS aI aK sf mf kf m0 m1 m2 m3 m4) s.heap.size = A at hD ⊢
  have hA : ∀ q : Nat, s.heap.size ≤ q → A q := fun q h => by rw [← hAe]; exact Or.inr h
  have hS : va_S A s.heap s.heap [] := va_S.rf
  have hP : va_P D vwCl (MDw cA cZ aM aS aI aK sf mf kf m0 m1 m2 m3 m4) s.heap := hP
  obtain ⟨G, hG⟩ : ∃ G, G = (g_X4_colourFor sf x1 x2 x3 x4) := ⟨_, rfl⟩
  rw [← hG]
  have hl := lv_entry ([.ref aM, .int x1, .int x2, .int x3, .int x4]) (n := 8) (Nat.le_of_ble_eq_true rfl)
  rw [lg_entry_eq]
  generalize (lg_sl ([.ref aM, .int x1, .int x2, .int x3, .int x4]) ++ List.replicate (8 - (lg_sl ([.ref aM, .int x1, .int x2, .int x3, .int x4])).length) Slot.unset).toArray = ls at hl ⊢
  have hl : lv_has ls 8 [(0, .ref aM), (1, .int x1), (2, .int x2), (3, .int x3), (4, .int x4)] := hl
  refine lv_bipush (v := (-6)) hx hb dX4_colourFor_0 (by decide) ?_
  refine lv_istore (lv' := [(5, .int (-6)), (0, .ref aM), (1, .int x1), (2, .int x2), (3, .int x3), (4, .int x4)]) hx hb dX4_colourFor_2 hl (by decide) rfl (fun ls hl => ?_)
  refine lv_iconst (v := 0) hx hb dX4_colourFor_4 (by decide) ?_
  refine lv_istore (lv' := [(6, .int 0), (5, .int (-6)), (0, .ref aM), (1, .int x1), (2, .int x2), (3, .int x3), (4, .int x4)]) hx hb dX4_colourFor_5 hl (by decide) rfl (fun ls hl => ?_)
  rw [g_X4_colourFor] at hG
  refine (?_ : ∀ (n : Nat) (v5 : Int32) (v6 : Int32) (H : Heap) (locs : List Loc) (ls : Array Slot), ((6 : Int32).toInt - (v6).toInt).toNat < n → G = g_X4_colourFor_L7 sf x1 x2 x3 x4 n v5 v6 → va_P D vwCl (MDw cA cZ aM aS aI aK sf mf kf m0 m1 m2 m3 m4) H → va_D A (MDw cA cZ aM aS aI aK sf mf kf m0 m1 m2 m3 m4) → va_S A s.heap H locs → lv_has ls 8 [(0, .ref aM), (1, .int x1), (2, .int x2), (3, .int x3), (4, .int x4), (5, .int v5), (6, .int v6)] → W p l e _ s m _ below meth c H locs _ _ _ (F0 m 7 ls [])) (((6 : Int32).toInt - ((0 : Int32)).toInt).toNat + 1) (-6) 0 _ _ _ (Nat.lt_succ_self _) hG hP hD hS (lv_sub hl [2, 3, 4, 5, 6, 1, 0] rfl)
  clear hG hP hD hS hl
  intro n
  induction n with
  | zero => intros; omega
  | succ n7 ih7 =>
    intro v5 v6 H locs ls hm7 hG hP hD hS hl
    refine lv_iload hx hb dX4_colourFor_7 (lv_at hl 6 rfl) ?_
    refine lv_bipush (v := 6) hx hb dX4_colourFor_9 (by decide) ?_
    refine lv_icmp_ge (tgt := 110) hx hb dX4_colourFor_11 (by decide) (fun c_1 => ?_) (fun c_1 => ?_)
    · refine lv_iload hx hb dX4_colourFor_110 (lv_at hl 5 rfl) ?_
      rw [g_X4_colourFor_L7, if_pos c_1] at hG
      rw [hG]
      exact W.iret (v := v5) hx hb hr (fun t ht hW => ⟨⟨_, (), rfl, rfl, by rw [ht]; exact hP, va_K.moved hW.alike hK, hD⟩, hS.F ht⟩) hS.2.2 dX4_colourFor_112
    · refine lv_iload hx hb dX4_colourFor_14 (lv_at hl 6 rfl) ?_
      refine lv_iload_n hx hb dX4_colourFor_16 rfl (lv_at hl 2 rfl) ?_
      refine kI (wr := MDw cA cZ aM aS aI aK sf mf kf m0 m1 m2 m3 m4) (W1 := ([] : va_W)) (wsN := MDw cA cZ aM aS aI aK sf mf kf m0 m1 m2 m3 m4) (rS (As := [.int v6, .int x2]) (rest := []) (W0 := ([] : va_W)) ⟨hx, hb, hml, hown, hts⟩ (c_X4_away l D cA cZ H.size v6 x2) (cwS 2 hts gX4_colourFor_X4_away rfl rfl rfl (by decide +kernel) ⟨Nat.le_of_ble_eq_true rfl, Nat.le_of_ble_eq_true rfl⟩) hP hD hK hN ([] : List Nat) rfl rfl rfl hl.1 rfl (Nat.le_of_ble_eq_true rfl) dX4_colourFor_17 ⟨Nat.zero_le _, Nat.zero_le _⟩) hP hD hS hA [] [0, 1, 2, 3] [0, 1, 2, 3] rfl rfl rfl (by decide) rfl rfl (fun H locs hP hD hS => ?_)
      refine lv_aload_n hx hb dX4_colourFor_20 rfl (lv_at hl 0 rfl) ?_
      refine va_get (D := D) (ci := 4) (v := .ref aS) (C := RX4) (T := TX4) (N := 8) hx hb hts iX4 hown hK hP 0 rfl rfl 0 (by decide) (hts (.fieldLink RX4 7 "LightBurstsModel" "state" "[I") (List.mem_of_getElem? (i := 1) rfl)) (fun _ h9 => h9) rfl dX4_colourFor_21 ?_
      refine lv_iconst (v := 0) hx hb dX4_colourFor_24 (by decide) ?_
      refine va_iald hx hb hK hP 1 0 rfl rfl (by unfold vp_in; decide) dX4_colourFor_25 ?_
      refine lv_eqi (sf 0) rfl ?_
      refine lv_icmp_gt (tgt := 104) hx hb dX4_colourFor_26 (by decide) (fun c_2 => ?_) (fun c_2 => ?_)
      · refine lv_iinc (v := (v6 + 1)) (lv' := [(6, .int (v6 + 1)), (0, .ref aM), (1, .int x1), (2, .int x2), (3, .int x3), (4, .int x4), (5, .int v5)]) hx hb dX4_colourFor_104 hl (k := 6) rfl rfl (by decide) rfl (fun ls hl => ?_)
        refine lv_goto (tgt := 7) hx hb dX4_colourFor_107 (by decide) ?_
        rw [g_X4_colourFor_L7, if_neg c_1, if_pos c_2] at hG
        exact ih7 v5 (v6 + 1) _ _ _ (by exact ms_up c_1 hm7) hG hP hD hS (lv_sub hl [1, 2, 3, 4, 5, 6, 0] rfl)
      · refine lv_aload_n hx hb dX4_colourFor_29 rfl (lv_at hl 0 rfl) ?_
        refine lv_iload_n hx hb dX4_colourFor_30 rfl (lv_at hl 1 rfl) ?_
        refine lv_iload hx hb dX4_colourFor_31 (lv_at hl 6 rfl) ?_
        refine lv_iload_n hx hb dX4_colourFor_33 rfl (lv_at hl 3 rfl) ?_
        refine lv_iload hx hb dX4_colourFor_34 (lv_at hl 4 rfl) ?_
        refine kI (wr := ([] : va_W)) (W1 := MDw cA cZ aM aS aI aK sf mf kf m0 m1 m2 m3 m4) (wsN := MDw cA cZ aM aS aI aK sf mf kf m0 m1 m2 m3 m4) (rV (As := [.int x1, .int v6, .int x3, .int x4]) (rest := []) (W0 := MDw cA cZ aM aS aI aK sf mf kf m0 m1 m2 m3 m4) ⟨hx, hb, hml, hown, hts⟩ (c_X4_isFree l D cA cZ aM aS aI aK H.size sf mf kf m0 m1 m2 m3 m4 x1 v6 x3 x4 (show (sf 10) ≤ 48 from by exact hm)) (cwV 4 hts gX4_colourFor_X4_isFree rfl rfl rfl (by decide +kernel) ⟨Nat.le_of_ble_eq_true rfl, Nat.le_of_ble_eq_true rfl⟩) hP hD hK hN ([0, 1, 2, 3] : List Nat) rfl rfl 4 0 rfl rfl rfl hl.1 rfl (Nat.le_of_ble_eq_true rfl) dX4_colourFor_36 ⟨Nat.zero_le _, Nat.zero_le _⟩) hP hD hS hA [0, 1, 2, 3] [] [0, 1, 2, 3] rfl rfl rfl (by decide) rfl rfl (fun H locs hP hD hS => ?_)
        refine lv_if_eq (tgt := 104) hx hb dX4_colourFor_39 (by decide) (fun c_3 => ?_) (fun c_3 => ?_)
        · refine lv_iinc (v := (v6 + 1)) (lv' := [(6, .int (v6 + 1)), (0, .ref aM), (1, .int x1), (2, .int x2), (3, .int x3), (4, .int x4), (5, .int v5)]) hx hb dX4_colourFor_104 hl (k := 6) rfl rfl (by decide) rfl (fun ls hl => ?_)
          refine lv_goto (tgt := 7) hx hb dX4_colourFor_107 (by decide) ?_
          rw [g_X4_colourFor_L7, if_neg c_1, if_neg c_2, if_pos c_3] at hG
          exact ih7 v5 (v6 + 1) _ _ _ (by exact ms_up c_1 hm7) hG hP hD hS (lv_sub hl [1, 2, 3, 4, 5, 6, 0] rfl)
        · refine lv_iload hx hb dX4_colourFor_42 (lv_at hl 5 rfl) ?_
          refine lv_if_ge (tgt := 51) hx hb dX4_colourFor_44 (by decide) (fun c_4 => ?_) (fun c_4 => ?_)
          · refine lv_aload_n hx hb dX4_colourFor_51 rfl (lv_at hl 0 rfl) ?_
            refine lv_iload_n hx hb dX4_colourFor_52 rfl (lv_at hl 1 rfl) ?_
            refine lv_iload hx hb dX4_colourFor_53 (lv_at hl 6 rfl) ?_
            refine lv_iload_n hx hb dX4_colourFor_55 rfl (lv_at hl 3 rfl) ?_
            refine kI (wr := ([] : va_W)) (W1 := MDw cA cZ aM aS aI aK sf mf kf m0 m1 m2 m3 m4) (wsN := MDw cA cZ aM aS aI aK sf mf kf m0 m1 m2 m3 m4) (rV (As := [.int x1, .int v6, .int x3]) (rest := []) (W0 := MDw cA cZ aM aS aI aK sf mf kf m0 m1 m2 m3 m4) ⟨hx, hb, hml, hown, hts⟩ (c_X4_gap l D cA cZ aM aS aI aK H.size sf mf kf m0 m1 m2 m3 m4 x1 v6 x3 (show (sf 10) ≤ 48 from by exact hm)) (cwV 3 hts gX4_colourFor_X4_gap rfl rfl rfl (by decide +kernel) ⟨Nat.le_of_ble_eq_true rfl, Nat.le_of_ble_eq_true rfl⟩) hP hD hK hN ([0, 1, 2, 3] : List Nat) rfl rfl 4 0 rfl rfl rfl hl.1 rfl (Nat.le_of_ble_eq_true rfl) dX4_colourFor_56 ⟨Nat.zero_le _, Nat.zero_le _⟩) hP hD hS hA [0, 1, 2, 3] [] [0, 1, 2, 3] rfl rfl rfl (by decide) rfl rfl (fun H locs hP hD hS => ?_)
            refine lv_aload_n hx hb dX4_colourFor_59 rfl (lv_at hl 0 rfl) ?_
            refine lv_iload_n hx hb dX4_colourFor_60 rfl (lv_at hl 1 rfl) ?_
            refine lv_iload hx hb dX4_colourFor_61 (lv_at hl 5 rfl) ?_
            refine lv_iload_n hx hb dX4_colourFor_63 rfl (lv_at hl 3 rfl) ?_
            refine kI (wr := ([] : va_W)) (W1 := MDw cA cZ aM aS aI aK sf mf kf m0 m1 m2 m3 m4) (wsN := MDw cA cZ aM aS aI aK sf mf kf m0 m1 m2 m3 m4) (rV (As := [.int x1, .int v5, .int x3]) (rest := [.int (g_X4_gap sf x1 v6 x3)]) (W0 := MDw cA cZ aM aS aI aK sf mf kf m0 m1 m2 m3 m4) ⟨hx, hb, hml, hown, hts⟩ (c_X4_gap l D cA cZ aM aS aI aK H.size sf mf kf m0 m1 m2 m3 m4 x1 v5 x3 (show (sf 10) ≤ 48 from by exact hm)) (cwV 3 hts gX4_colourFor_X4_gap rfl rfl rfl (by decide +kernel) ⟨Nat.le_of_ble_eq_true rfl, Nat.le_of_ble_eq_true rfl⟩) hP hD hK hN ([0, 1, 2, 3] : List Nat) rfl rfl 4 0 rfl rfl rfl hl.1 rfl (Nat.le_of_ble_eq_true rfl) dX4_colourFor_64 ⟨Nat.zero_le _, Nat.zero_le _⟩) hP hD hS hA [0, 1, 2, 3] [] [0, 1, 2, 3] rfl rfl rfl (by decide) rfl rfl (fun H locs hP hD hS => ?_)
            refine lv_isub hx hb dX4_colourFor_67 ?_
            refine lv_istore (lv' := [(7, .int ((g_X4_gap sf x1 v6 x3) - (g_X4_gap sf x1 v5 x3))), (0, .ref aM), (1, .int x1), (2, .int x2), (3, .int x3), (4, .int x4), (5, .int v5), (6, .int v6)]) hx hb dX4_colourFor_68 hl (by decide) rfl (fun ls hl => ?_)
            refine lv_iload hx hb dX4_colourFor_70 (lv_at hl 0 rfl) ?_
            refine lv_if_lt (tgt := 95) hx hb dX4_colourFor_72 (by decide) (fun c_5 => ?_) (fun c_5 => ?_)
            · refine lv_iload hx hb dX4_colourFor_95 (lv_at hl 7 rfl) ?_
              refine lv_goto (tgt := 102) hx hb dX4_colourFor_97 (by decide) ?_
              refine lv_istore (lv' := [(5, .int v6), (7, .int ((g_X4_gap sf x1 v6 x3) - (g_X4_gap sf x1 v5 x3))), (0, .ref aM), (1, .int x1), (2, .int x2), (3, .int x3), (4, .int x4), (6, .int v6)]) hx hb dX4_colourFor_102 hl (by decide) rfl (fun ls hl => ?_)
              refine lv_iinc (v := (v6 + 1)) (lv' := [(6, .int (v6 + 1)), (5, .int v6), (7, .int ((g_X4_gap sf x1 v6 x3) - (g_X4_gap sf x1 v5 x3))), (0, .ref aM), (1, .int x1), (2, .int x2), (3, .int x3), (4, .int x4)]) hx hb dX4_colourFor_104 hl (k := 7) rfl rfl (by decide) rfl (fun ls hl => ?_)
              refine lv_goto (tgt := 7) hx hb dX4_colourFor_107 (by decide) ?_
              rw [g_X4_colourFor_L7, if_neg c_1, if_neg c_2, if_neg c_3, if_pos c_4, if_pos c_5] at hG
              exact ih7 v6 (v6 + 1) _ _ _ (by exact ms_up c_1 hm7) hG hP hD hS (lv_sub hl [3, 4, 5, 6, 7, 1, 0] rfl)
            · refine lv_iload hx hb dX4_colourFor_75 (lv_at hl 0 rfl) ?_
              refine lv_if_ne (tgt := 100) hx hb dX4_colourFor_77 (by decide) (fun c_6 => ?_) (fun c_6 => ?_)
              · refine lv_iload hx hb dX4_colourFor_100 (lv_at hl 6 rfl) ?_
                refine lv_istore (lv' := [(5, .int v5), (7, .int ((g_X4_gap sf x1 v6 x3) - (g_X4_gap sf x1 v5 x3))), (0, .ref aM), (1, .int x1), (2, .int x2), (3, .int x3), (4, .int x4), (6, .int v6)]) hx hb dX4_colourFor_102 hl (by decide) rfl (fun ls hl => ?_)
                refine lv_iinc (v := (v6 + 1)) (lv' := [(6, .int (v6 + 1)), (5, .int v5), (7, .int ((g_X4_gap sf x1 v6 x3) - (g_X4_gap sf x1 v5 x3))), (0, .ref aM), (1, .int x1), (2, .int x2), (3, .int x3), (4, .int x4)]) hx hb dX4_colourFor_104 hl (k := 7) rfl rfl (by decide) rfl (fun ls hl => ?_)
                refine lv_goto (tgt := 7) hx hb dX4_colourFor_107 (by decide) ?_
                rw [g_X4_colourFor_L7, if_neg c_1, if_neg c_2, if_neg c_3, if_pos c_4, if_neg c_5, if_neg c_6] at hG
                exact ih7 v5 (v6 + 1) _ _ _ (by exact ms_up c_1 hm7) hG hP hD hS (lv_sub hl [3, 4, 5, 6, 7, 1, 0] rfl)
              · refine lv_iload hx hb dX4_colourFor_80 (lv_at hl 7 rfl) ?_
                refine lv_iload_n hx hb dX4_colourFor_82 rfl (lv_at hl 3 rfl) ?_
                refine kI (wr := MDw cA cZ aM aS aI aK sf mf kf m0 m1 m2 m3 m4) (W1 := ([] : va_W)) (wsN := MDw cA cZ aM aS aI aK sf mf kf m0 m1 m2 m3 m4) (rS (As := [.int v6, .int x2]) (rest := []) (W0 := ([] : va_W)) ⟨hx, hb, hml, hown, hts⟩ (c_X4_away l D cA cZ H.size v6 x2) (cwS 2 hts gX4_colourFor_X4_away rfl rfl rfl (by decide +kernel) ⟨Nat.le_of_ble_eq_true rfl, Nat.le_of_ble_eq_true rfl⟩) hP hD hK hN ([] : List Nat) rfl rfl rfl hl.1 rfl (Nat.le_of_ble_eq_true rfl) dX4_colourFor_83 ⟨Nat.zero_le _, Nat.zero_le _⟩) hP hD hS hA [] [0, 1, 2, 3] [0, 1, 2, 3] rfl rfl rfl (by decide) rfl rfl (fun H locs hP hD hS => ?_)
                refine lv_iload hx hb dX4_colourFor_86 (lv_at hl 6 rfl) ?_
                refine lv_iload_n hx hb dX4_colourFor_88 rfl (lv_at hl 3 rfl) ?_
                refine kI (wr := MDw cA cZ aM aS aI aK sf mf kf m0 m1 m2 m3 m4) (W1 := ([] : va_W)) (wsN := MDw cA cZ aM aS aI aK sf mf kf m0 m1 m2 m3 m4) (rS (As := [.int v5, .int x2]) (rest := [.int (g_X4_away v6 x2)]) (W0 := ([] : va_W)) ⟨hx, hb, hml, hown, hts⟩ (c_X4_away l D cA cZ H.size v5 x2) (cwS 2 hts gX4_colourFor_X4_away rfl rfl rfl (by decide +kernel) ⟨Nat.le_of_ble_eq_true rfl, Nat.le_of_ble_eq_true rfl⟩) hP hD hK hN ([] : List Nat) rfl rfl rfl hl.1 rfl (Nat.le_of_ble_eq_true rfl) dX4_colourFor_89 ⟨Nat.zero_le _, Nat.zero_le _⟩) hP hD hS hA [] [0, 1, 2, 3] [0, 1, 2, 3] rfl rfl rfl (by decide) rfl rfl (fun H locs hP hD hS => ?_)
                refine lv_icmp_ge (tgt := 100) hx hb dX4_colourFor_92 (by decide) (fun c_7 => ?_) (fun c_7 => ?_)
                · refine lv_iload hx hb dX4_colourFor_100 (lv_at hl 6 rfl) ?_
                  refine lv_istore (lv' := [(5, .int v5), (7, .int ((g_X4_gap sf x1 v6 x3) - (g_X4_gap sf x1 v5 x3))), (0, .ref aM), (1, .int x1), (2, .int x2), (3, .int x3), (4, .int x4), (6, .int v6)]) hx hb dX4_colourFor_102 hl (by decide) rfl (fun ls hl => ?_)
                  refine lv_iinc (v := (v6 + 1)) (lv' := [(6, .int (v6 + 1)), (5, .int v5), (7, .int ((g_X4_gap sf x1 v6 x3) - (g_X4_gap sf x1 v5 x3))), (0, .ref aM), (1, .int x1), (2, .int x2), (3, .int x3), (4, .int x4)]) hx hb dX4_colourFor_104 hl (k := 7) rfl rfl (by decide) rfl (fun ls hl => ?_)
                  refine lv_goto (tgt := 7) hx hb dX4_colourFor_107 (by decide) ?_
                  rw [g_X4_colourFor_L7, if_neg c_1, if_neg c_2, if_neg c_3, if_pos c_4, if_neg c_5, if_pos c_6, if_pos c_7] at hG
                  exact ih7 v5 (v6 + 1) _ _ _ (by exact ms_up c_1 hm7) hG hP hD hS (lv_sub hl [3, 4, 5, 6, 7, 1, 0] rfl)
                · refine lv_iload hx hb dX4_colourFor_95 (lv_at hl 7 rfl) ?_
                  refine lv_goto (tgt := 102) hx hb dX4_colourFor_97 (by decide) ?_
                  refine lv_istore (lv' := [(5, .int v6), (7, .int ((g_X4_gap sf x1 v6 x3) - (g_X4_gap sf x1 v5 x3))), (0, .ref aM), (1, .int x1), (2, .int x2), (3, .int x3), (4, .int x4), (6, .int v6)]) hx hb dX4_colourFor_102 hl (by decide) rfl (fun ls hl => ?_)
                  refine lv_iinc (v := (v6 + 1)) (lv' := [(6, .int (v6 + 1)), (5, .int v6), (7, .int ((g_X4_gap sf x1 v6 x3) - (g_X4_gap sf x1 v5 x3))), (0, .ref aM), (1, .int x1), (2, .int x2), (3, .int x3), (4, .int x4)]) hx hb dX4_colourFor_104 hl (k := 7) rfl rfl (by decide) rfl (fun ls hl => ?_)
                  refine lv_goto (tgt := 7) hx hb dX4_colourFor_107 (by decide) ?_
                  rw [g_X4_colourFor_L7, if_neg c_1, if_neg c_2, if_neg c_3, if_pos c_4, if_neg c_5, if_pos c_6, if_neg c_7] at hG
                  exact ih7 v6 (v6 + 1) _ _ _ (by exact ms_up c_1 hm7) hG hP hD hS (lv_sub hl [3, 4, 5, 6, 7, 1, 0] rfl)
          · refine lv_iconst (v := (-1)) hx hb dX4_colourFor_47 (by decide) ?_
            refine lv_goto (tgt := 68) hx hb dX4_colourFor_48 (by decide) ?_
            refine lv_istore (lv' := [(7, .int (-1)), (0, .ref aM), (1, .int x1), (2, .int x2), (3, .int x3), (4, .int x4), (5, .int v5), (6, .int v6)]) hx hb dX4_colourFor_68 hl (by decide) rfl (fun ls hl => ?_)
            refine lv_iload hx hb dX4_colourFor_70 (lv_at hl 0 rfl) ?_
            refine lv_if_lt (tgt := 95) hx hb dX4_colourFor_72 (by decide) (fun _ => ?_) (fun h9 => absurd h9 (by decide))
            refine lv_iload hx hb dX4_colourFor_95 (lv_at hl 7 rfl) ?_
            refine lv_goto (tgt := 102) hx hb dX4_colourFor_97 (by decide) ?_
            refine lv_istore (lv' := [(5, .int v6), (7, .int (-1)), (0, .ref aM), (1, .int x1), (2, .int x2), (3, .int x3), (4, .int x4), (6, .int v6)]) hx hb dX4_colourFor_102 hl (by decide) rfl (fun ls hl => ?_)
            refine lv_iinc (v := (v6 + 1)) (lv' := [(6, .int (v6 + 1)), (5, .int v6), (7, .int (-1)), (0, .ref aM), (1, .int x1), (2, .int x2), (3, .int x3), (4, .int x4)]) hx hb dX4_colourFor_104 hl (k := 7) rfl rfl (by decide) rfl (fun ls hl => ?_)
            refine lv_goto (tgt := 7) hx hb dX4_colourFor_107 (by decide) ?_
            rw [g_X4_colourFor_L7, if_neg c_1, if_neg c_2, if_neg c_3, if_neg c_4] at hG
            exact ih7 v6 (v6 + 1) _ _ _ (by exact ms_up c_1 hm7) hG hP hD hS (lv_sub hl [3, 4, 5, 6, 7, 1, 0] rfl)

def g_X4_isLineClear_L3 (sf : (Nat → Int32)) (x1 : Int32) (x2 : Int32) (x3 : Int32) : Nat → Int32 → (Int32)
  | 0, _ => 0
  | n + 1, v4 => (if (sf 10) ≤ v4 then 1 else (if (g_X4_isOnLine sf v4 x1) = 0 then (g_X4_isLineClear_L3 sf x1 x2 x3 n (v4 + 1)) else (if (g_X4_clash x2 x3 (g_X4_of sf v4 5) (g_X4_of sf v4 4)) = 0 then (g_X4_isLineClear_L3 sf x1 x2 x3 n (v4 + 1)) else 0)))
def g_X4_isLineClear (sf : (Nat → Int32)) (x1 : Int32) (x2 : Int32) (x3 : Int32) : Int32 := (g_X4_isLineClear_L3 sf x1 x2 x3 ((((sf 10)).toInt - ((0 : Int32)).toInt).toNat + 1) 0)
set_option maxHeartbeats 4000000 in
set_option maxRecDepth 100000 in
theorem c_X4_isLineClear (l : Launch) (D : va_G) (cA cZ : ClassId) (aM : Nat) (aS : Nat) (aI : Nat) (aK : Nat) (szz : Nat) (sf : (Nat → Int32)) (mf : (Nat → Int32)) (kf : (Nat → Int32)) (m0 : Int32) (m1 : Int32) (m2 : Int32) (m3 : Int32) (m4 : Int32) (x1 : Int32) (x2 : Int32) (x3 : Int32) (hm : (sf 10) ≤ 48) : MetI l yX4_isLineClear wsX4_isLineClear 3 65 D (tyA cA cZ) [.ref aM, .int x1, .int x2, .int x3] (MDw cA cZ aM aS aI aK sf mf kf m0 m1 m2 m3 m4) szz (g_X4_isLineClear sf x1 x2 x3) (MDw cA cZ aM aS aI aK sf mf kf m0 m1 m2 m3 m4) := by
  refine Met.ofW (cc := cX4_isLineClear) (maxL := 5) (ret := (some .boolean)) (by decide) rfl ?_
  intro p e s m args below meth c s₁ B hml hv
  obtain ⟨rfl, hsz, hP, hK, hD0, hN⟩ := hv
  have hx := B.exec
  have hb := B.bytes
  have hr := B.returns
  have hts := atoms_spec (ws := wsX4_isLineClear) B.pre
  have hown : s.vm.findClass RX4 = some m.cls := findClass_of_methodNamed B.named
  have hlocks := B.notSynchronized
  have iX4 : ∀ w ∈ wsX40, w ∈ wsX4_isLineClear := fun _ h => List.mem_cons_of_mem _ (List.mem_append_right _ h)
  subst hsz
  have hD := hD0.self (sz := s.heap.size)
  generalize hAe : va_A (MDw cA cZ aM aS aI aK sf mf kf m0 m1 m2 m3 m4) s.heap.size = A at hD ⊢
  have hA : ∀ q : Nat, s.heap.size ≤ q → A q := fun q h => by rw [← hAe]; exact Or.inr h
  have hS : va_S A s.heap s.heap [] := va_S.rf
  have hP : va_P D vwCl (MDw cA cZ aM aS aI aK sf mf kf m0 m1 m2 m3 m4) s.heap := hP
  obtain ⟨G, hG⟩ : ∃ G, G = (g_X4_isLineClear sf x1 x2 x3) := ⟨_, rfl⟩
  rw [← hG]
  have hl := lv_entry ([.ref aM, .int x1, .int x2, .int x3]) (n := 5) (Nat.le_of_ble_eq_true rfl)
  rw [lg_entry_eq]
  generalize (lg_sl ([.ref aM, .int x1, .int x2, .int x3]) ++ List.replicate (5 - (lg_sl ([.ref aM, .int x1, .int x2, .int x3])).length) Slot.unset).toArray = ls at hl ⊢
  have hl : lv_has ls 5 [(0, .ref aM), (1, .int x1), (2, .int x2), (3, .int x3)] := hl
  refine lv_iconst (v := 0) hx hb dX4_isLineClear_0 (by decide) ?_
  refine lv_istore (lv' := [(4, .int 0), (0, .ref aM), (1, .int x1), (2, .int x2), (3, .int x3)]) hx hb dX4_isLineClear_1 hl (by decide) rfl (fun ls hl => ?_)
  rw [g_X4_isLineClear] at hG
  refine (?_ : ∀ (n : Nat) (v4 : Int32) (H : Heap) (locs : List Loc) (ls : Array Slot), (0 ≤ v4) → (((sf 10)).toInt - (v4).toInt).toNat < n → G = g_X4_isLineClear_L3 sf x1 x2 x3 n v4 → va_P D vwCl (MDw cA cZ aM aS aI aK sf mf kf m0 m1 m2 m3 m4) H → va_D A (MDw cA cZ aM aS aI aK sf mf kf m0 m1 m2 m3 m4) → va_S A s.heap H locs → lv_has ls 5 [(0, .ref aM), (1, .int x1), (2, .int x2), (3, .int x3), (4, .int v4)] → W p l e _ s m _ below meth c H locs _ _ _ (F0 m 3 ls [])) ((((sf 10)).toInt - ((0 : Int32)).toInt).toNat + 1) 0 _ _ _ (by decide) (Nat.lt_succ_self _) hG hP hD hS (lv_sub hl [1, 2, 3, 4, 0] rfl)
  clear hG hP hD hS hl
  intro n
  induction n with
  | zero => intros; omega
  | succ n3 ih3 =>
    intro v4 H locs ls h0 hm3 hG hP hD hS hl
    refine lv_iload hx hb dX4_isLineClear_3 (lv_at hl 4 rfl) ?_
    refine lv_aload_n hx hb dX4_isLineClear_5 rfl (lv_at hl 0 rfl) ?_
    refine va_get (D := D) (ci := 4) (v := .ref aS) (C := RX4) (T := TX4) (N := 8) hx hb hts iX4 hown hK hP 0 rfl rfl 0 (by decide) (hts (.fieldLink RX4 7 "LightBurstsModel" "state" "[I") (List.mem_of_getElem? (i := 1) rfl)) (fun _ h9 => h9) rfl dX4_isLineClear_6 ?_
    refine lv_bipush (v := 10) hx hb dX4_isLineClear_9 (by decide) ?_
    refine va_iald hx hb hK hP 1 0 rfl rfl (by unfold vp_in; decide) dX4_isLineClear_11 ?_
    refine lv_eqi (sf 10) rfl ?_
    refine lv_icmp_ge (tgt := 55) hx hb dX4_isLineClear_12 (by decide) (fun c_1 => ?_) (fun c_1 => ?_)
    · refine lv_iconst (v := 1) hx hb dX4_isLineClear_55 (by decide) ?_
      rw [g_X4_isLineClear_L3, if_pos c_1] at hG
      rw [hG]
      exact W.zret (v := 1) hx hb hr rfl (fun t ht hW => ⟨⟨_, (), rfl, rfl, by rw [ht]; exact hP, va_K.moved hW.alike hK, hD⟩, hS.F ht⟩) hS.2.2 dX4_isLineClear_56
    · refine lv_aload_n hx hb dX4_isLineClear_15 rfl (lv_at hl 0 rfl) ?_
      refine lv_iload hx hb dX4_isLineClear_16 (lv_at hl 4 rfl) ?_
      refine lv_iload_n hx hb dX4_isLineClear_18 rfl (lv_at hl 1 rfl) ?_
      refine kI (wr := ([] : va_W)) (W1 := MDw cA cZ aM aS aI aK sf mf kf m0 m1 m2 m3 m4) (wsN := MDw cA cZ aM aS aI aK sf mf kf m0 m1 m2 m3 m4) (rV (As := [.int v4, .int x1]) (rest := []) (W0 := MDw cA cZ aM aS aI aK sf mf kf m0 m1 m2 m3 m4) ⟨hx, hb, hml, hown, hts⟩ (c_X4_isOnLine l D cA cZ aM aS aI aK H.size sf mf kf m0 m1 m2 m3 m4 v4 x1 (show bok v4 from by exact bok_of h0 c_1 hm)) (cwV 2 hts gX4_isLineClear_X4_isOnLine rfl rfl rfl (by decide +kernel) ⟨Nat.le_of_ble_eq_true rfl, Nat.le_of_ble_eq_true rfl⟩) hP hD hK hN ([0, 1, 2, 3] : List Nat) rfl rfl 4 0 rfl rfl rfl hl.1 rfl (Nat.le_of_ble_eq_true rfl) dX4_isLineClear_19 ⟨Nat.zero_le _, Nat.zero_le _⟩) hP hD hS hA [0, 1, 2, 3] [] [0, 1, 2, 3] rfl rfl rfl (by decide) rfl rfl (fun H locs hP hD hS => ?_)
      refine lv_if_eq (tgt := 49) hx hb dX4_isLineClear_22 (by decide) (fun c_2 => ?_) (fun c_2 => ?_)
      · refine lv_iinc (v := (v4 + 1)) (lv' := [(4, .int (v4 + 1)), (0, .ref aM), (1, .int x1), (2, .int x2), (3, .int x3)]) hx hb dX4_isLineClear_49 hl (k := 4) rfl rfl (by decide) rfl (fun ls hl => ?_)
        refine lv_goto (tgt := 3) hx hb dX4_isLineClear_52 (by decide) ?_
        rw [g_X4_isLineClear_L3, if_neg c_1, if_pos c_2] at hG
        exact ih3 (v4 + 1) _ _ _ (by exact up_ge h0 c_1) (by exact ms_up c_1 hm3) hG hP hD hS (lv_sub hl [1, 2, 3, 4, 0] rfl)
      · refine lv_iload_n hx hb dX4_isLineClear_25 rfl (lv_at hl 2 rfl) ?_
        refine lv_iload_n hx hb dX4_isLineClear_26 rfl (lv_at hl 3 rfl) ?_
        refine lv_aload_n hx hb dX4_isLineClear_27 rfl (lv_at hl 0 rfl) ?_
        refine lv_iload hx hb dX4_isLineClear_28 (lv_at hl 4 rfl) ?_
        refine lv_iconst (v := 5) hx hb dX4_isLineClear_30 (by decide) ?_
        refine kI (wr := ([] : va_W)) (W1 := MDw cA cZ aM aS aI aK sf mf kf m0 m1 m2 m3 m4) (wsN := MDw cA cZ aM aS aI aK sf mf kf m0 m1 m2 m3 m4) (rV (As := [.int v4, .int 5]) (rest := [.int x3, .int x2]) (W0 := MDw cA cZ aM aS aI aK sf mf kf m0 m1 m2 m3 m4) ⟨hx, hb, hml, hown, hts⟩ (c_X4_of l D cA cZ aM aS aI aK H.size sf mf kf m0 m1 m2 m3 m4 v4 5 (show bok v4 from by exact bok_of h0 c_1 hm) (show wok 5 from by exact ⟨by decide, by decide⟩)) (cwV 2 hts gX4_isLineClear_X4_of rfl rfl rfl (by decide +kernel) ⟨Nat.le_of_ble_eq_true rfl, Nat.le_of_ble_eq_true rfl⟩) hP hD hK hN ([0, 1, 2, 3] : List Nat) rfl rfl 4 0 rfl rfl rfl hl.1 rfl (Nat.le_of_ble_eq_true rfl) dX4_isLineClear_31 ⟨Nat.zero_le _, Nat.zero_le _⟩) hP hD hS hA [0, 1, 2, 3] [] [0, 1, 2, 3] rfl rfl rfl (by decide) rfl rfl (fun H locs hP hD hS => ?_)
        refine lv_aload_n hx hb dX4_isLineClear_34 rfl (lv_at hl 0 rfl) ?_
        refine lv_iload hx hb dX4_isLineClear_35 (lv_at hl 4 rfl) ?_
        refine lv_iconst (v := 4) hx hb dX4_isLineClear_37 (by decide) ?_
        refine kI (wr := ([] : va_W)) (W1 := MDw cA cZ aM aS aI aK sf mf kf m0 m1 m2 m3 m4) (wsN := MDw cA cZ aM aS aI aK sf mf kf m0 m1 m2 m3 m4) (rV (As := [.int v4, .int 4]) (rest := [.int (g_X4_of sf v4 5), .int x3, .int x2]) (W0 := MDw cA cZ aM aS aI aK sf mf kf m0 m1 m2 m3 m4) ⟨hx, hb, hml, hown, hts⟩ (c_X4_of l D cA cZ aM aS aI aK H.size sf mf kf m0 m1 m2 m3 m4 v4 4 (show bok v4 from by exact bok_of h0 c_1 hm) (show wok 4 from by exact ⟨by decide, by decide⟩)) (cwV 2 hts gX4_isLineClear_X4_of rfl rfl rfl (by decide +kernel) ⟨Nat.le_of_ble_eq_true rfl, Nat.le_of_ble_eq_true rfl⟩) hP hD hK hN ([0, 1, 2, 3] : List Nat) rfl rfl 4 0 rfl rfl rfl hl.1 rfl (Nat.le_of_ble_eq_true rfl) dX4_isLineClear_38 ⟨Nat.zero_le _, Nat.zero_le _⟩) hP hD hS hA [0, 1, 2, 3] [] [0, 1, 2, 3] rfl rfl rfl (by decide) rfl rfl (fun H locs hP hD hS => ?_)
        refine kI (wr := MDw cA cZ aM aS aI aK sf mf kf m0 m1 m2 m3 m4) (W1 := ([] : va_W)) (wsN := MDw cA cZ aM aS aI aK sf mf kf m0 m1 m2 m3 m4) (rS (As := [.int x2, .int x3, .int (g_X4_of sf v4 5), .int (g_X4_of sf v4 4)]) (rest := []) (W0 := ([] : va_W)) ⟨hx, hb, hml, hown, hts⟩ (c_X4_clash l D cA cZ H.size x2 x3 (g_X4_of sf v4 5) (g_X4_of sf v4 4)) (cwS 4 hts gX4_isLineClear_X4_clash rfl rfl rfl (by decide +kernel) ⟨Nat.le_of_ble_eq_true rfl, Nat.le_of_ble_eq_true rfl⟩) hP hD hK hN ([] : List Nat) rfl rfl rfl hl.1 rfl (Nat.le_of_ble_eq_true rfl) dX4_isLineClear_41 ⟨Nat.zero_le _, Nat.zero_le _⟩) hP hD hS hA [] [0, 1, 2, 3] [0, 1, 2, 3] rfl rfl rfl (by decide) rfl rfl (fun H locs hP hD hS => ?_)
        refine lv_if_eq (tgt := 49) hx hb dX4_isLineClear_44 (by decide) (fun c_3 => ?_) (fun c_3 => ?_)
        · refine lv_iinc (v := (v4 + 1)) (lv' := [(4, .int (v4 + 1)), (0, .ref aM), (1, .int x1), (2, .int x2), (3, .int x3)]) hx hb dX4_isLineClear_49 hl (k := 4) rfl rfl (by decide) rfl (fun ls hl => ?_)
          refine lv_goto (tgt := 3) hx hb dX4_isLineClear_52 (by decide) ?_
          rw [g_X4_isLineClear_L3, if_neg c_1, if_neg c_2, if_pos c_3] at hG
          exact ih3 (v4 + 1) _ _ _ (by exact up_ge h0 c_1) (by exact ms_up c_1 hm3) hG hP hD hS (lv_sub hl [1, 2, 3, 4, 0] rfl)
        · refine lv_iconst (v := 0) hx hb dX4_isLineClear_47 (by decide) ?_
          rw [g_X4_isLineClear_L3, if_neg c_1, if_neg c_2, if_neg c_3] at hG
          rw [hG]
          exact W.zret (v := 0) hx hb hr rfl (fun t ht hW => ⟨⟨_, (), rfl, rfl, by rw [ht]; exact hP, va_K.moved hW.alike hK, hD⟩, hS.F ht⟩) hS.2.2 dX4_isLineClear_48

def g_X4_get (x1 : Int32) (x2 : Int32) (x3 : Int32) (x4 : Int32) (x5 : Int32) : Int32 × Int32 × Int32 × Int32 × Int32 := (x1, x2, x3, x4, x5)
set_option maxHeartbeats 4000000 in
set_option maxRecDepth 100000 in
theorem c_X4_get (l : Launch) (D : va_G) (cA cZ : ClassId) (aM : Nat) (aS : Nat) (aI : Nat) (aK : Nat) (szz : Nat) (sf : (Nat → Int32)) (mf : (Nat → Int32)) (kf : (Nat → Int32)) (m0 : Int32) (m1 : Int32) (m2 : Int32) (m3 : Int32) (m4 : Int32) (x1 : Int32) (x2 : Int32) (x3 : Int32) (x4 : Int32) (x5 : Int32) : MetV l yX4_get wsX4_get 0 0 D (tyA cA cZ) [.ref aM, .int x1, .int x2, .int x3, .int x4, .int x5] (MDw cA cZ aM aS aI aK sf mf kf m0 m1 m2 m3 m4) szz (MDw cA cZ aM aS aI aK sf mf kf ((g_X4_get x1 x2 x3 x4 x5).1) ((g_X4_get x1 x2 x3 x4 x5).2.1) ((g_X4_get x1 x2 x3 x4 x5).2.2.1) ((g_X4_get x1 x2 x3 x4 x5).2.2.2.1) ((g_X4_get x1 x2 x3 x4 x5).2.2.2.2)) := by
  refine Met.ofW (cc := cX4_get) (maxL := 6) (ret := none) (by decide) rfl ?_
  intro p e s m args below meth c s₁ B hml hv
  obtain ⟨rfl, hsz, hP, hK, hD0, hN⟩ := hv
  have hx := B.exec
  have hb := B.bytes
  have hr := B.returns
  have hts := atoms_spec (ws := wsX4_get) B.pre
  have hown : s.vm.findClass RX4 = some m.cls := findClass_of_methodNamed B.named
  have hlocks := B.notSynchronized
  have iX4 : ∀ w ∈ wsX40, w ∈ wsX4_get := fun _ h => List.mem_cons_of_mem _ (List.mem_append_right _ h)
  subst hsz
  have hD := hD0.self (sz := s.heap.size)
  generalize hAe : va_A (MDw cA cZ aM aS aI aK sf mf kf m0 m1 m2 m3 m4) s.heap.size = A at hD ⊢
  have hA : ∀ q : Nat, s.heap.size ≤ q → A q := fun q h => by rw [← hAe]; exact Or.inr h
  have hS : va_S A s.heap s.heap [] := va_S.rf
  have hP : va_P D vwCl (MDw cA cZ aM aS aI aK sf mf kf m0 m1 m2 m3 m4) s.heap := hP
  obtain ⟨G, hG⟩ : ∃ G, G = (g_X4_get x1 x2 x3 x4 x5) := ⟨_, rfl⟩
  rw [← hG]
  have hl := lv_entry ([.ref aM, .int x1, .int x2, .int x3, .int x4, .int x5]) (n := 6) (Nat.le_of_ble_eq_true rfl)
  rw [lg_entry_eq]
  generalize (lg_sl ([.ref aM, .int x1, .int x2, .int x3, .int x4, .int x5]) ++ List.replicate (6 - (lg_sl ([.ref aM, .int x1, .int x2, .int x3, .int x4, .int x5])).length) Slot.unset).toArray = ls at hl ⊢
  have hl : lv_has ls 6 [(0, .ref aM), (1, .int x1), (2, .int x2), (3, .int x3), (4, .int x4), (5, .int x5)] := hl
  refine lv_aload_n hx hb dX4_get_0 rfl (lv_at hl 0 rfl) ?_
  refine lv_iload_n hx hb dX4_get_1 rfl (lv_at hl 1 rfl) ?_
  refine va_put (D := D) (ci := 4) (v := .int x1) (ty := .int) (C := RX4) (T := TX4) (N := 8) hx hb hts iX4 tyX4 tyX4_ok nmX4 hown hK hP hD hS 0 rfl rfl 3 (by decide) (hts (.fieldLink RX4 58 "LightBurstsModel" "fate" "I") (List.mem_of_getElem? (i := 1) rfl)) (fun _ h9 => h9) rfl (tyX4_ok 3 (by decide)) rfl rfl (Nat.le_of_ble_eq_true rfl) dX4_get_2 (fun H locs hP hD hS => ?_)
  have hP : va_P D vwCl (MDw cA cZ aM aS aI aK sf mf kf x1 m1 m2 m3 m4) H := hP
  have hD : va_D A (MDw cA cZ aM aS aI aK sf mf kf x1 m1 m2 m3 m4) := hD
  refine lv_aload_n hx hb dX4_get_5 rfl (lv_at hl 0 rfl) ?_
  refine lv_iload_n hx hb dX4_get_6 rfl (lv_at hl 2 rfl) ?_
  refine va_put (D := D) (ci := 4) (v := .int x2) (ty := .int) (C := RX4) (T := TX4) (N := 8) hx hb hts iX4 tyX4 tyX4_ok nmX4 hown hK hP hD hS 0 rfl rfl 4 (by decide) (hts (.fieldLink RX4 62 "LightBurstsModel" "on" "I") (List.mem_of_getElem? (i := 2) rfl)) (fun _ h9 => h9) rfl (tyX4_ok 4 (by decide)) rfl rfl (Nat.le_of_ble_eq_true rfl) dX4_get_7 (fun H locs hP hD hS => ?_)
  have hP : va_P D vwCl (MDw cA cZ aM aS aI aK sf mf kf x1 x2 m2 m3 m4) H := hP
  have hD : va_D A (MDw cA cZ aM aS aI aK sf mf kf x1 x2 m2 m3 m4) := hD
  refine lv_aload_n hx hb dX4_get_10 rfl (lv_at hl 0 rfl) ?_
  refine lv_iload_n hx hb dX4_get_11 rfl (lv_at hl 3 rfl) ?_
  refine va_put (D := D) (ci := 4) (v := .int x3) (ty := .int) (C := RX4) (T := TX4) (N := 8) hx hb hts iX4 tyX4 tyX4_ok nmX4 hown hK hP hD hS 0 rfl rfl 5 (by decide) (hts (.fieldLink RX4 65 "LightBurstsModel" "from" "I") (List.mem_of_getElem? (i := 3) rfl)) (fun _ h9 => h9) rfl (tyX4_ok 5 (by decide)) rfl rfl (Nat.le_of_ble_eq_true rfl) dX4_get_12 (fun H locs hP hD hS => ?_)
  have hP : va_P D vwCl (MDw cA cZ aM aS aI aK sf mf kf x1 x2 x3 m3 m4) H := hP
  have hD : va_D A (MDw cA cZ aM aS aI aK sf mf kf x1 x2 x3 m3 m4) := hD
  refine lv_aload_n hx hb dX4_get_15 rfl (lv_at hl 0 rfl) ?_
  refine lv_iload hx hb dX4_get_16 (lv_at hl 4 rfl) ?_
  refine va_put (D := D) (ci := 4) (v := .int x4) (ty := .int) (C := RX4) (T := TX4) (N := 8) hx hb hts iX4 tyX4 tyX4_ok nmX4 hown hK hP hD hS 0 rfl rfl 6 (by decide) (hts (.fieldLink RX4 68 "LightBurstsModel" "size" "I") (List.mem_of_getElem? (i := 4) rfl)) (fun _ h9 => h9) rfl (tyX4_ok 6 (by decide)) rfl rfl (Nat.le_of_ble_eq_true rfl) dX4_get_18 (fun H locs hP hD hS => ?_)
  have hP : va_P D vwCl (MDw cA cZ aM aS aI aK sf mf kf x1 x2 x3 x4 m4) H := hP
  have hD : va_D A (MDw cA cZ aM aS aI aK sf mf kf x1 x2 x3 x4 m4) := hD
  refine lv_aload_n hx hb dX4_get_21 rfl (lv_at hl 0 rfl) ?_
  refine lv_iload hx hb dX4_get_22 (lv_at hl 5 rfl) ?_
  refine va_put (D := D) (ci := 4) (v := .int x5) (ty := .int) (C := RX4) (T := TX4) (N := 8) hx hb hts iX4 tyX4 tyX4_ok nmX4 hown hK hP hD hS 0 rfl rfl 7 (by decide) (hts (.fieldLink RX4 71 "LightBurstsModel" "by" "I") (List.mem_of_getElem? (i := 5) rfl)) (fun _ h9 => h9) rfl (tyX4_ok 7 (by decide)) rfl rfl (Nat.le_of_ble_eq_true rfl) dX4_get_24 (fun H locs hP hD hS => ?_)
  have hP : va_P D vwCl (MDw cA cZ aM aS aI aK sf mf kf x1 x2 x3 x4 x5) H := hP
  have hD : va_D A (MDw cA cZ aM aS aI aK sf mf kf x1 x2 x3 x4 x5) := hD
  rw [g_X4_get] at hG
  rw [hG]
  exact W.vret hx hb hr (fun t ht hW => ⟨⟨(), rfl, trivial, by rw [ht]; exact hP, va_K.moved hW.alike hK, hD⟩, hS.F ht⟩) hS.2.2 dX4_get_27
