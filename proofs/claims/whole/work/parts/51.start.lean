abbrev SF0 : Nat → Int32 := (upd (upd (upd (upd (upd (upd (fun _ => 0) 0 5) 1 4) 2 8) 3 3) 4 1) 5 1)
theorem SF0_hi {j : Nat} (h : 6 ≤ j) : SF0 j = 0 := by
  unfold SF0
  simp only [up_def]
  rw [if_neg (by omega), if_neg (by omega), if_neg (by omega), if_neg (by omega), if_neg (by omega), if_neg (by omega)]
theorem SF0_lo : ∀ j, j < 6 → SF0 j = rA j := by
  intro j hj
  rcases (show j = 0 ∨ j = 1 ∨ j = 2 ∨ j = 3 ∨ j = 4 ∨ j = 5 by omega) with rfl | rfl | rfl | rfl | rfl | rfl <;> rfl
theorem Sim_0 (now1 told1 : Int32) (rf1 lf1 ff1 : Nat → Int32) (now2 told2 : Int32) (rf2 lf2 ff2 mf : Nat → Int32) : Sim (200 * 0) 0 0 0 rA (fun _ => 0) (fun _ => 0) now1 told1 rf1 lf1 ff1 now2 told2 rf2 lf2 ff2 SF0 mf (fun _ => 0) := by
  have e0 : (0 : Int32).toInt = 0 := rfl
  refine ⟨⟨⟨SF0_lo, fun j _ => SF0_hi (by omega), SF0_hi (by omega), SF0_hi (by omega), fun j _ => SF0_hi (by omega)⟩, ⟨by omega, by omega, ?_, fun j _ => (show 0 ≤ (0 : Int32).toInt ∧ (0 : Int32).toInt ≤ 60 from ⟨by decide, by decide⟩), fun b hb => by omega, fun a b ha => by omega⟩⟩, Or.inl ⟨rfl, rfl, rfl⟩, fun h => absurd h (by decide), fun h => absurd h (by decide)⟩
  refine ⟨?_, ?_, ?_, ?_, ?_, ?_⟩ <;> exact ⟨by decide, by decide⟩
theorem tb_of {s : State} {b : Nat} {nm : String} {f : Nat → Int32} {A : Nat → Prop} (hA : ∀ a : Nat, a < s.heap.size → ¬ A a) (hl : (Cond.laysStatic "LightBursts" nm "[I").before #[Value.ref b] s = true) (hini : (Cond.initialized "LightBursts").before #[Value.ref b] s = true) (harr : (Cond.arrayOf (.static "LightBursts" nm "[I") .int).before #[Value.ref b] s = true) (hlen : (Cond.eq (.length (.static "LightBursts" nm "[I")) (.int 6)).before #[Value.ref b] s = true)
    (h0 : (Cond.eq (.elem (.static "LightBursts" nm "[I") (.int 0)) (.int (f 0))).before #[Value.ref b] s = true) (h1 : (Cond.eq (.elem (.static "LightBursts" nm "[I") (.int 1)) (.int (f 1))).before #[Value.ref b] s = true) (h2 : (Cond.eq (.elem (.static "LightBursts" nm "[I") (.int 2)) (.int (f 2))).before #[Value.ref b] s = true)
    (h3 : (Cond.eq (.elem (.static "LightBursts" nm "[I") (.int 3)) (.int (f 3))).before #[Value.ref b] s = true) (h4 : (Cond.eq (.elem (.static "LightBursts" nm "[I") (.int 4)) (.int (f 4))).before #[Value.ref b] s = true) (h5 : (Cond.eq (.elem (.static "LightBursts" nm "[I") (.int 5)) (.int (f 5))).before #[Value.ref b] s = true) :
    ∃ t, va_Z "LightBursts" nm "[I" (.ref t) A s s.heap ∧ va_T .int t 6 (fun j => .int (f j)) A s s.heap ∧ (Term.static "LightBursts" nm "[I").eval #[Value.ref b] s none [] s = some (.ref t) := by
  have hel : ∀ j : Nat, j < 6 → (Term.elem (.static "LightBursts" nm "[I") (.int (Int32.ofNat j))).eval #[Value.ref b] s none [] s = some (.int (f j)) := by
    intro j hj
    rcases (show j = 0 ∨ j = 1 ∨ j = 2 ∨ j = 3 ∨ j = 4 ∨ j = 5 by omega) with rfl | rfl | rfl | rfl | rfl | rfl
    · exact va_eqt h0
    · exact va_eqt h1
    · exact va_eqt h2
    · exact va_eqt h3
    · exact va_eqt h4
    · exact va_eqt h5
  obtain ⟨t, hv, hT⟩ := va_Tof (N := 6) (f := fun j => .int (f j)) (A := A) (by decide) harr (va_eqt hlen) hel hA
  exact ⟨t, va_Zref hl hini hv hA, hT, hv⟩
theorem len_sz {tm : Term} {args : Array Value} {s : State} {t : Nat} {cell : Cell} {v : Value} (hv : tm.eval args s none [] s = some (.ref t)) (ha : s.arrayAt? t = some cell) (hl : (Term.length tm).eval args s none [] s = some v) : cell.slots.size < 2147483648 := by
  simp only [Term.eval, hv, ha, Option.bind_eq_bind, Option.bind_some] at hl
  by_cases hlt : cell.slots.size < 2147483648
  · exact hlt
  · simp [hlt] at hl
theorem cT_of {s : State} {b t : Nat} {nm : String} {A : Nat → Prop} {cA : ClassId} (hcA : s.vm.findClass "[I" = some cA) (hlen : (Cond.eq (.length (.static "LightBursts" nm "[I")) (.int 6)).before #[Value.ref b] s = true) (hex : (Cond.exactly (.static "LightBursts" nm "[I") "[I").before #[Value.ref b] s = true) (hv : (Term.static "LightBursts" nm "[I").eval #[Value.ref b] s none [] s = some (.ref t)) (hT : va_T .int t 6 (fun j => .int (rA j)) A s s.heap) : cT cA t A s.heap := by
  obtain ⟨cell, h1, h2, h3, h4, h5, h6, h7⟩ := hT
  have hl := va_eqt hlen
  obtain ⟨t2, cell2, g1, g2, g3⟩ := Term.length_spec hl
  cases hv.symm.trans g1
  obtain ⟨k1, -, -, -⟩ := State.arrayAt?_spec g2
  cases h1.symm.trans k1
  have hsz : cell.slots.size < 2147483648 := len_sz g1 g2 hl
  have hsz6 : cell.slots.size = 6 := by
    have e1 : (nI cell.slots.size).toInt = (cell.slots.size : Int) := nI_toInt hsz
    have e2 : (nI 6).toInt = 6 := rfl
    have e3 : nI cell.slots.size = nI 6 := h5
    rw [e3, e2] at e1
    omega
  obtain ⟨a, c, cell3, k, m1, m2, m3, m4, m5, m6, m7⟩ := Cond.exactly_spec (show (Cond.exactly (.static "LightBursts" nm "[I") "[I").holds #[Value.ref b] s none s [] = true from hex)
  cases hv.symm.trans m1
  cases h1.symm.trans m3
  cases hcA.symm.trans m2
  refine ⟨cell, h1, fun k hk => by rw [hk] at m5; exact Bool.noConfusion (show true = false from m5), h3, m6, ?_, h7⟩
  apply Array.ext_getElem?
  intro i
  by_cases hi : i < 6
  · rw [h6 i hi]
    show _ = (Array.ofFn (n := 6) fun j => Value.int (rA j.val))[i]?
    rw [Array.getElem?_ofFn, dif_pos hi]
  · rw [Array.getElem?_eq_none (by omega), Array.getElem?_eq_none (by show (arrV cA 6 (fun j => Value.int (rA j))).slots.size ≤ i; rw [arrV_size]; omega)]

set_option maxRecDepth 100000 in
theorem stQ_start {s : State} {b : Nat} {cA : ClassId} (hts0 : ∀ w ∈ lw_tbl, w.before #[Value.ref b] s = true) (hgv : (Jvm.Cond.and given_1 narrow_1).before #[Value.ref b] s = true) (hcA : s.vm.findClass "[I" = some cA) : stQ cA (fun q : Nat => s.heap.size ≤ q) s s.heap := by
  have hs := flat_of_before _ hgv
  obtain ⟨tF, hZF, hTF, hvF⟩ := tb_of (nm := "RULE_FROM") (f := rF) (A := fun q : Nat => s.heap.size ≤ q) (fun a h1 h2 => Nat.not_le.mpr h1 h2) (hts0 (.laysStatic "LightBursts" "RULE_FROM" "[I") (List.mem_of_getElem? (i := 208) (by first | rfl | decide +kernel))) (hts0 (.initialized "LightBursts") (List.mem_of_getElem? (i := 65) (by first | rfl | decide +kernel))) (hs (.arrayOf (.static "LightBursts" "RULE_FROM" "[I") .int) (by decide +kernel)) (hs (.eq (.length (.static "LightBursts" "RULE_FROM" "[I")) (.int 6)) (by decide +kernel)) (hs (.eq (.elem (.static "LightBursts" "RULE_FROM" "[I") (.int 0)) (.int 0)) (by decide +kernel)) (hs (.eq (.elem (.static "LightBursts" "RULE_FROM" "[I") (.int 1)) (.int 1)) (by decide +kernel)) (hs (.eq (.elem (.static "LightBursts" "RULE_FROM" "[I") (.int 2)) (.int 0)) (by decide +kernel)) (hs (.eq (.elem (.static "LightBursts" "RULE_FROM" "[I") (.int 3)) (.int 1)) (by decide +kernel)) (hs (.eq (.elem (.static "LightBursts" "RULE_FROM" "[I") (.int 4)) (.int 0)) (by decide +kernel)) (hs (.eq (.elem (.static "LightBursts" "RULE_FROM" "[I") (.int 5)) (.int 0)) (by decide +kernel))
  obtain ⟨tT, hZT, hTT, hvT⟩ := tb_of (nm := "RULE_TO") (f := rT) (A := fun q : Nat => s.heap.size ≤ q) (fun a h1 h2 => Nat.not_le.mpr h1 h2) (hts0 (.laysStatic "LightBursts" "RULE_TO" "[I") (List.mem_of_getElem? (i := 210) (by first | rfl | decide +kernel))) (hts0 (.initialized "LightBursts") (List.mem_of_getElem? (i := 65) (by first | rfl | decide +kernel))) (hs (.arrayOf (.static "LightBursts" "RULE_TO" "[I") .int) (by decide +kernel)) (hs (.eq (.length (.static "LightBursts" "RULE_TO" "[I")) (.int 6)) (by decide +kernel)) (hs (.eq (.elem (.static "LightBursts" "RULE_TO" "[I") (.int 0)) (.int 5)) (by decide +kernel)) (hs (.eq (.elem (.static "LightBursts" "RULE_TO" "[I") (.int 1)) (.int 20)) (by decide +kernel)) (hs (.eq (.elem (.static "LightBursts" "RULE_TO" "[I") (.int 2)) (.int 20)) (by decide +kernel)) (hs (.eq (.elem (.static "LightBursts" "RULE_TO" "[I") (.int 3)) (.int 60)) (by decide +kernel)) (hs (.eq (.elem (.static "LightBursts" "RULE_TO" "[I") (.int 4)) (.int 1)) (by decide +kernel)) (hs (.eq (.elem (.static "LightBursts" "RULE_TO" "[I") (.int 5)) (.int 1)) (by decide +kernel))
  obtain ⟨tA, hZA, hTA, hvA⟩ := tb_of (nm := "RULE_AT_FIRST") (f := rA) (A := fun q : Nat => s.heap.size ≤ q) (fun a h1 h2 => Nat.not_le.mpr h1 h2) (hts0 (.laysStatic "LightBursts" "RULE_AT_FIRST" "[I") (List.mem_of_getElem? (i := 93) (by first | rfl | decide +kernel))) (hts0 (.initialized "LightBursts") (List.mem_of_getElem? (i := 65) (by first | rfl | decide +kernel))) (hs (.arrayOf (.static "LightBursts" "RULE_AT_FIRST" "[I") .int) (by decide +kernel)) (hs (.eq (.length (.static "LightBursts" "RULE_AT_FIRST" "[I")) (.int 6)) (by decide +kernel)) (hs (.eq (.elem (.static "LightBursts" "RULE_AT_FIRST" "[I") (.int 0)) (.int 5)) (by decide +kernel)) (hs (.eq (.elem (.static "LightBursts" "RULE_AT_FIRST" "[I") (.int 1)) (.int 4)) (by decide +kernel)) (hs (.eq (.elem (.static "LightBursts" "RULE_AT_FIRST" "[I") (.int 2)) (.int 8)) (by decide +kernel)) (hs (.eq (.elem (.static "LightBursts" "RULE_AT_FIRST" "[I") (.int 3)) (.int 3)) (by decide +kernel)) (hs (.eq (.elem (.static "LightBursts" "RULE_AT_FIRST" "[I") (.int 4)) (.int 1)) (by decide +kernel)) (hs (.eq (.elem (.static "LightBursts" "RULE_AT_FIRST" "[I") (.int 5)) (.int 1)) (by decide +kernel))
  exact ⟨⟨tF, hZF, hTF⟩, ⟨tT, hZT, hTT⟩, ⟨tA, hZA, cT_of hcA (hs (.eq (.length (.static "LightBursts" "RULE_AT_FIRST" "[I")) (.int 6)) (by decide +kernel)) (hs (.exactly (.static "LightBursts" "RULE_AT_FIRST" "[I") "[I") (by decide +kernel)) hvA hTA⟩⟩
theorem arr_start {s : State} {b : Nat} {ty : FieldType} (h : (Cond.arrayClass ty).before #[Value.ref b] s = true) (hty : ∀ C, ty ≠ .object C) : ∃ c, ArrOfT s c ty ∧ va_RA s c ty := by
  obtain ⟨c, k, comp, h1, h2, h3⟩ := Cond.arrayClass_spec (show (Cond.arrayClass ty).holds #[Value.ref b] s none s [] = true from h)
  refine ⟨c, fun n z => ⟨fun k h => (by cases h), k, h2, comp, h3⟩, ?_⟩
  cases ty with
  | object C => exact absurd rfl (hty C)
  | _ => exact h1
