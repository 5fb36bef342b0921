/-! ===== burst, back, count, tally, image, restore ===== -/
theorem isBurst_iff {now told : Int32} {rf lf ff sf : Nat → Int32} {T : Nat} (he : eqS now told rf lf ff sf) (hi : Inv T now told rf lf ff) (x : Int32) : ¬ g_X4_isBurst sf x = 0 ↔ ¬ g_X3_isBelow x told = 0 := by
  have e0 : (0 : Int32).toInt = 0 := rfl
  have e1 : (1 : Int32).toInt = 1 := rfl
  have h1 := hi.2.1
  have h10 : sf 10 = told := he.2.2.2.1
  unfold g_X4_isBurst
  rw [in_iff, below_iff, h10, i32_sub (by omega) (by omega)]
  omega
theorem bok_b {now told : Int32} {rf lf ff : Nat → Int32} {T : Nat} (hi : Inv T now told rf lf ff) {x : Int32} (h : ¬ g_X3_isBelow x told = 0) : bok x := by
  have h1 := hi.2.1
  have h2 := below_iff.mp h
  exact ⟨by omega, by omega⟩
theorem core_burst {T : Nat} {now told : Int32} {rf lf ff sf : Nat → Int32} (he : eqS now told rf lf ff sf) (hi : Inv T now told rf lf ff) (x1 x2 : Int32) : g_X3_burst told ff x1 x2 = g_X4_burst sf x1 x2 := by
  have e0 : (0 : Int32).toInt = 0 := rfl
  have e10 : (10 : Int32).toInt = 10 := rfl
  have e11 : (11 : Int32).toInt = 11 := rfl
  unfold g_X3_burst g_X4_burst
  have hb := isBurst_iff he hi x1
  by_cases c1 : g_X3_isBelow x1 told = 0
  · rw [if_pos c1, if_pos (Decidable.byContradiction fun h => (hb.mp h) c1)]
  · rw [if_neg c1, if_neg (hb.mpr c1)]
    by_cases c2 : 0 ≤ x2.toInt ∧ x2.toInt ≤ 10
    · rw [if_neg (below_iff.mpr (by omega)), if_neg (in_iff.mpr (by omega))]
      exact (of_fact he (bok_b hi c1) c2).symm
    · rw [if_pos (below_no (by omega)), if_pos (in_no (by omega))]
def tb (ff : Nat → Int32) (b : Nat) : Nat → Int32 := upd (upd (upd (upd (upd ff (11 * b + 6) 4) (11 * b + 7) (-6)) (11 * b + 8) (-6)) (11 * b + 9) 0) (11 * b + 10) (-6)
theorem takeBack_at {ff : Nat → Int32} {b : Nat} (hb : b < 48) : g_X0_takeBack ff (nI b) = tb ff b := by
  unfold g_X0_takeBack tb
  rw [show (6 : Int32) = nI 6 from rfl, show (7 : Int32) = nI 7 from rfl, show (8 : Int32) = nI 8 from rfl, show (9 : Int32) = nI 9 from rfl, show (10 : Int32) = nI 10 from rfl]
  rw [setFact_at hb (by omega), setFact_at hb (by omega), setFact_at hb (by omega), setFact_at hb (by omega), setFact_at hb (by omega)]
theorem tb_ne {ff : Nat → Int32} {b b' w : Nat} (hw : w ≤ 10) (h : b' ≠ b) : fI (tb ff b) b' w = fI ff b' w := by
  unfold tb
  rw [fI_up (by omega) hw, if_neg (by omega), fI_up (by omega) hw, if_neg (by omega), fI_up (by omega) hw, if_neg (by omega), fI_up (by omega) hw, if_neg (by omega), fI_up (by omega) hw, if_neg (by omega)]
theorem tb_lo {ff : Nat → Int32} {b w : Nat} (hw : w ≤ 5) : fI (tb ff b) b w = fI ff b w := by
  unfold tb
  rw [fI_up (by omega) (by omega), if_neg (by omega), fI_up (by omega) (by omega), if_neg (by omega), fI_up (by omega) (by omega), if_neg (by omega), fI_up (by omega) (by omega), if_neg (by omega), fI_up (by omega) (by omega), if_neg (by omega)]
theorem tb_6 {ff : Nat → Int32} {b : Nat} : fI (tb ff b) b 6 = 4 := by
  unfold tb
  rw [fI_up (by omega) (by omega), if_neg (by omega), fI_up (by omega) (by omega), if_neg (by omega), fI_up (by omega) (by omega), if_neg (by omega), fI_up (by omega) (by omega), if_neg (by omega), fI_up (by omega) (by omega), if_pos (by omega)]
  rfl
theorem tb_7 {ff : Nat → Int32} {b : Nat} : fI (tb ff b) b 7 = -6 := by
  unfold tb
  rw [fI_up (by omega) (by omega), if_neg (by omega), fI_up (by omega) (by omega), if_neg (by omega), fI_up (by omega) (by omega), if_neg (by omega), fI_up (by omega) (by omega), if_pos (by omega)]
  rfl
theorem tb_8 {ff : Nat → Int32} {b : Nat} : fI (tb ff b) b 8 = -6 := by
  unfold tb
  rw [fI_up (by omega) (by omega), if_neg (by omega), fI_up (by omega) (by omega), if_neg (by omega), fI_up (by omega) (by omega), if_pos (by omega)]
  rfl
theorem tb_9 {ff : Nat → Int32} {b : Nat} : fI (tb ff b) b 9 = 0 := by
  unfold tb
  rw [fI_up (by omega) (by omega), if_neg (by omega), fI_up (by omega) (by omega), if_pos (by omega)]
  rfl
theorem tb_10 {ff : Nat → Int32} {b : Nat} : fI (tb ff b) b 10 = -6 := by
  unfold tb
  rw [fI_up (by omega) (by omega), if_pos (by omega)]
  rfl
theorem tb_Inv {T : Nat} {now told : Int32} {rf lf ff : Nat → Int32} (hi : Inv T now told rf lf ff) {b : Nat} (hb : (b : Int) < told.toInt) : Inv T now told rf lf (tb ff b) := by
  obtain ⟨h0, h1, h2, h3, h4, h5⟩ := hi
  refine ⟨h0, h1, h2, h3, fun a ha => ?_, fun a c ha hc hac => ?_⟩
  · by_cases hab : a = b
    · subst hab
      obtain ⟨g0, g1, g2, g3, g4, -⟩ := h4 a ha
      unfold buOk
      rw [tb_lo (w := 0) (by omega), tb_lo (w := 2) (by omega), tb_lo (w := 4) (by omega), tb_lo (w := 5) (by omega), tb_6, tb_7, tb_8, tb_9, tb_10]
      exact ⟨g0, g1, g2, g3, by omega, fun h => by omega, fun _ => ⟨rfl, rfl, rfl⟩, fun h => by omega, fun _ => rfl⟩
    · have g := h4 a ha
      unfold buOk at g ⊢
      rw [tb_ne (w := 0) (by omega) hab, tb_ne (w := 2) (by omega) hab, tb_ne (w := 4) (by omega) hab, tb_ne (w := 5) (by omega) hab, tb_ne (w := 6) (by omega) hab, tb_ne (w := 7) (by omega) hab, tb_ne (w := 8) (by omega) hab, tb_ne (w := 9) (by omega) hab, tb_ne (w := 10) (by omega) hab]
      exact g
  · by_cases hab : a = b
    · subst hab
      refine ⟨fun h => ?_, fun h => ?_⟩ <;> rw [tb_6] at h <;> omega
    · by_cases hcb : c = b
      · subst hcb
        refine ⟨fun _ h => ?_, fun _ h => ?_⟩ <;> rw [tb_6] at h <;> omega
      · have g := h5 a c ha hc hac
        unfold apOk at g ⊢
        rw [tb_ne (w := 0) (by omega) hab, tb_ne (w := 4) (by omega) hab, tb_ne (w := 5) (by omega) hab, tb_ne (w := 6) (by omega) hab, tb_ne (w := 7) (by omega) hab, tb_ne (w := 8) (by omega) hab, tb_ne (w := 9) (by omega) hab, tb_ne (w := 10) (by omega) hab]
        rw [tb_ne (w := 0) (by omega) hcb, tb_ne (w := 4) (by omega) hcb, tb_ne (w := 5) (by omega) hcb, tb_ne (w := 6) (by omega) hcb, tb_ne (w := 7) (by omega) hcb, tb_ne (w := 8) (by omega) hcb, tb_ne (w := 9) (by omega) hcb, tb_ne (w := 10) (by omega) hcb]
        exact g
theorem core_back {T : Nat} {now told : Int32} {rf lf ff sf : Nat → Int32} (he : eqS now told rf lf ff sf) (hi : Inv T now told rf lf ff) (x1 : Int32) : (g_X3_back now told ff x1).1 = (g_X4_back sf x1).1 ∧ eqS now told rf lf (g_X3_back now told ff x1).2 (g_X4_back sf x1).2 ∧ Inv T now told rf lf (g_X3_back now told ff x1).2 := by
  unfold g_X3_back g_X4_back
  have hb := isBurst_iff he hi x1
  have h9 : sf 9 = now := he.2.2.1
  by_cases c1 : g_X3_isBelow x1 told = 0
  · rw [if_pos c1, if_pos (Decidable.byContradiction fun h => (hb.mp h) c1)]
    exact ⟨rfl, he, hi⟩
  · rw [if_neg c1, if_neg (hb.mpr c1), h9]
    have hbk := bok_b hi c1
    have hlt := (below_iff.mp c1).2
    rw [of_fact he hbk (w := 5) ⟨by decide, by decide⟩, of_fact he hbk (w := 6) ⟨by decide, by decide⟩, of_fact he hbk (w := 9) ⟨by decide, by decide⟩]
    split
    · split
      · exact ⟨rfl, he, hi⟩
      · obtain ⟨b, hb48, rfl⟩ := bok_nI hbk
        rw [tI b (by omega)] at hlt
        refine ⟨rfl, ?_, ?_⟩
        · show eqS now told rf lf (g_X0_takeBack ff (nI b)) _
          rw [takeBack_at hb48]
          have a6 : (g_X4_at (nI b) 6).toNatClampNeg = 11 + (11 * b + 6) := at_at (w := 6) hb48 (by omega)
          have a7 : (g_X4_at (nI b) 7).toNatClampNeg = 11 + (11 * b + 7) := at_at (w := 7) hb48 (by omega)
          have a8 : (g_X4_at (nI b) 8).toNatClampNeg = 11 + (11 * b + 8) := at_at (w := 8) hb48 (by omega)
          have a9 : (g_X4_at (nI b) 9).toNatClampNeg = 11 + (11 * b + 9) := at_at (w := 9) hb48 (by omega)
          have a10 : (g_X4_at (nI b) 10).toNatClampNeg = 11 + (11 * b + 10) := at_at (w := 10) hb48 (by omega)
          rw [a6, a7, a8, a9, a10]
          exact eqS_f (eqS_f (eqS_f (eqS_f (eqS_f he (by omega) 4) (by omega) (-6)) (by omega) (-6)) (by omega) 0) (by omega) (-6)
        · show Inv T now told rf lf (g_X0_takeBack ff (nI b))
          rw [takeBack_at hb48]
          exact tb_Inv hi hlt
    · exact ⟨rfl, he, hi⟩
