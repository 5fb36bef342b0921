/-! ===== telling ===== -/
def nw (ff : Nat → Int32) (z : Nat) (a0 a1 a2 a3 a4 a5 a6 a7 a8 a9 a10 : Int32) : Nat → Int32 := upd (upd (upd (upd (upd (upd (upd (upd (upd (upd (upd ff (11 * z + 0) a0) (11 * z + 1) a1) (11 * z + 2) a2) (11 * z + 3) a3) (11 * z + 4) a4) (11 * z + 5) a5) (11 * z + 6) a6) (11 * z + 7) a7) (11 * z + 8) a8) (11 * z + 9) a9) (11 * z + 10) a10
def nm (sf : Nat → Int32) (z : Nat) (a0 a1 a2 a3 a4 a5 a6 a7 a8 a9 a10 : Int32) : Nat → Int32 := upd (upd (upd (upd (upd (upd (upd (upd (upd (upd (upd sf (11 + (11 * z + 0)) a0) (11 + (11 * z + 1)) a1) (11 + (11 * z + 2)) a2) (11 + (11 * z + 3)) a3) (11 + (11 * z + 4)) a4) (11 + (11 * z + 5)) a5) (11 + (11 * z + 6)) a6) (11 + (11 * z + 7)) a7) (11 + (11 * z + 8)) a8) (11 + (11 * z + 9)) a9) (11 + (11 * z + 10)) a10
theorem upd_comm (a b : Nat) (h : a ≠ b) (f : Nat → Int32) (x y : Int32) : upd (upd f a x) b y = upd (upd f b y) a x := by
  funext j
  simp only [up_def]
  by_cases h1 : j = a
  · rw [if_pos h1, if_neg (show ¬ j = b by omega), if_pos h1]
  · rw [if_neg h1, if_neg h1]
theorem write_at {ff : Nat → Int32} {z : Nat} (hz : z < 48) (a0 a1 a2 a3 a4 a5 a6 a7 a8 a9 a10 : Int32) : g_X1_writeTo a0 a1 a5 a4 a6 a7 a8 a9 a10 (g_X0_setFact (g_X0_setFact ff (nI z) 2 a2) (nI z) 3 a3) (nI z) = nw ff z a0 a1 a2 a3 a4 a5 a6 a7 a8 a9 a10 := by
  have s0 : ∀ (f : Nat → Int32) (x : Int32), g_X0_setFact f (nI z) 0 x = upd f (11 * z + 0) x := fun f x => setFact_at (w := 0) hz (by omega) x
  have s1 : ∀ (f : Nat → Int32) (x : Int32), g_X0_setFact f (nI z) 1 x = upd f (11 * z + 1) x := fun f x => setFact_at (w := 1) hz (by omega) x
  have s2 : ∀ (f : Nat → Int32) (x : Int32), g_X0_setFact f (nI z) 2 x = upd f (11 * z + 2) x := fun f x => setFact_at (w := 2) hz (by omega) x
  have s3 : ∀ (f : Nat → Int32) (x : Int32), g_X0_setFact f (nI z) 3 x = upd f (11 * z + 3) x := fun f x => setFact_at (w := 3) hz (by omega) x
  have s4 : ∀ (f : Nat → Int32) (x : Int32), g_X0_setFact f (nI z) 4 x = upd f (11 * z + 4) x := fun f x => setFact_at (w := 4) hz (by omega) x
  have s5 : ∀ (f : Nat → Int32) (x : Int32), g_X0_setFact f (nI z) 5 x = upd f (11 * z + 5) x := fun f x => setFact_at (w := 5) hz (by omega) x
  have s6 : ∀ (f : Nat → Int32) (x : Int32), g_X0_setFact f (nI z) 6 x = upd f (11 * z + 6) x := fun f x => setFact_at (w := 6) hz (by omega) x
  have s7 : ∀ (f : Nat → Int32) (x : Int32), g_X0_setFact f (nI z) 7 x = upd f (11 * z + 7) x := fun f x => setFact_at (w := 7) hz (by omega) x
  have s8 : ∀ (f : Nat → Int32) (x : Int32), g_X0_setFact f (nI z) 8 x = upd f (11 * z + 8) x := fun f x => setFact_at (w := 8) hz (by omega) x
  have s9 : ∀ (f : Nat → Int32) (x : Int32), g_X0_setFact f (nI z) 9 x = upd f (11 * z + 9) x := fun f x => setFact_at (w := 9) hz (by omega) x
  have s10 : ∀ (f : Nat → Int32) (x : Int32), g_X0_setFact f (nI z) 10 x = upd f (11 * z + 10) x := fun f x => setFact_at (w := 10) hz (by omega) x
  unfold g_X1_writeTo nw
  rw [s2, s3, s0, s1, s5, s4, s6, s7, s8, s9, s10]
  rw [upd_comm (11 * z + 3) (11 * z + 0) (by omega), upd_comm (11 * z + 2) (11 * z + 0) (by omega), upd_comm (11 * z + 3) (11 * z + 1) (by omega), upd_comm (11 * z + 2) (11 * z + 1) (by omega), upd_comm (11 * z + 5) (11 * z + 4) (by omega)]
theorem nw_ne {ff : Nat → Int32} {z : Nat} {a0 a1 a2 a3 a4 a5 a6 a7 a8 a9 a10 : Int32} {b w : Nat} (hw : w ≤ 10) (h : b ≠ z) : fI (nw ff z a0 a1 a2 a3 a4 a5 a6 a7 a8 a9 a10) b w = fI ff b w := by
  unfold nw
  rw [fI_up (by omega) hw, if_neg (by omega), fI_up (by omega) hw, if_neg (by omega), fI_up (by omega) hw, if_neg (by omega), fI_up (by omega) hw, if_neg (by omega), fI_up (by omega) hw, if_neg (by omega), fI_up (by omega) hw, if_neg (by omega), fI_up (by omega) hw, if_neg (by omega), fI_up (by omega) hw, if_neg (by omega), fI_up (by omega) hw, if_neg (by omega), fI_up (by omega) hw, if_neg (by omega), fI_up (by omega) hw, if_neg (by omega)]
theorem nw_0 {ff : Nat → Int32} {z : Nat} {a0 a1 a2 a3 a4 a5 a6 a7 a8 a9 a10 : Int32} : fI (nw ff z a0 a1 a2 a3 a4 a5 a6 a7 a8 a9 a10) z 0 = a0.toInt := by
  unfold nw
  rw [fI_up (by omega) (by omega), if_neg (by omega), fI_up (by omega) (by omega), if_neg (by omega), fI_up (by omega) (by omega), if_neg (by omega), fI_up (by omega) (by omega), if_neg (by omega), fI_up (by omega) (by omega), if_neg (by omega), fI_up (by omega) (by omega), if_neg (by omega), fI_up (by omega) (by omega), if_neg (by omega), fI_up (by omega) (by omega), if_neg (by omega), fI_up (by omega) (by omega), if_neg (by omega), fI_up (by omega) (by omega), if_neg (by omega), fI_up (by omega) (by omega), if_pos (by omega)]
theorem nw_1 {ff : Nat → Int32} {z : Nat} {a0 a1 a2 a3 a4 a5 a6 a7 a8 a9 a10 : Int32} : fI (nw ff z a0 a1 a2 a3 a4 a5 a6 a7 a8 a9 a10) z 1 = a1.toInt := by
  unfold nw
  rw [fI_up (by omega) (by omega), if_neg (by omega), fI_up (by omega) (by omega), if_neg (by omega), fI_up (by omega) (by omega), if_neg (by omega), fI_up (by omega) (by omega), if_neg (by omega), fI_up (by omega) (by omega), if_neg (by omega), fI_up (by omega) (by omega), if_neg (by omega), fI_up (by omega) (by omega), if_neg (by omega), fI_up (by omega) (by omega), if_neg (by omega), fI_up (by omega) (by omega), if_neg (by omega), fI_up (by omega) (by omega), if_pos (by omega)]
theorem nw_2 {ff : Nat → Int32} {z : Nat} {a0 a1 a2 a3 a4 a5 a6 a7 a8 a9 a10 : Int32} : fI (nw ff z a0 a1 a2 a3 a4 a5 a6 a7 a8 a9 a10) z 2 = a2.toInt := by
  unfold nw
  rw [fI_up (by omega) (by omega), if_neg (by omega), fI_up (by omega) (by omega), if_neg (by omega), fI_up (by omega) (by omega), if_neg (by omega), fI_up (by omega) (by omega), if_neg (by omega), fI_up (by omega) (by omega), if_neg (by omega), fI_up (by omega) (by omega), if_neg (by omega), fI_up (by omega) (by omega), if_neg (by omega), fI_up (by omega) (by omega), if_neg (by omega), fI_up (by omega) (by omega), if_pos (by omega)]
theorem nw_3 {ff : Nat → Int32} {z : Nat} {a0 a1 a2 a3 a4 a5 a6 a7 a8 a9 a10 : Int32} : fI (nw ff z a0 a1 a2 a3 a4 a5 a6 a7 a8 a9 a10) z 3 = a3.toInt := by
  unfold nw
  rw [fI_up (by omega) (by omega), if_neg (by omega), fI_up (by omega) (by omega), if_neg (by omega), fI_up (by omega) (by omega), if_neg (by omega), fI_up (by omega) (by omega), if_neg (by omega), fI_up (by omega) (by omega), if_neg (by omega), fI_up (by omega) (by omega), if_neg (by omega), fI_up (by omega) (by omega), if_neg (by omega), fI_up (by omega) (by omega), if_pos (by omega)]
theorem nw_4 {ff : Nat → Int32} {z : Nat} {a0 a1 a2 a3 a4 a5 a6 a7 a8 a9 a10 : Int32} : fI (nw ff z a0 a1 a2 a3 a4 a5 a6 a7 a8 a9 a10) z 4 = a4.toInt := by
  unfold nw
  rw [fI_up (by omega) (by omega), if_neg (by omega), fI_up (by omega) (by omega), if_neg (by omega), fI_up (by omega) (by omega), if_neg (by omega), fI_up (by omega) (by omega), if_neg (by omega), fI_up (by omega) (by omega), if_neg (by omega), fI_up (by omega) (by omega), if_neg (by omega), fI_up (by omega) (by omega), if_pos (by omega)]
theorem nw_5 {ff : Nat → Int32} {z : Nat} {a0 a1 a2 a3 a4 a5 a6 a7 a8 a9 a10 : Int32} : fI (nw ff z a0 a1 a2 a3 a4 a5 a6 a7 a8 a9 a10) z 5 = a5.toInt := by
  unfold nw
  rw [fI_up (by omega) (by omega), if_neg (by omega), fI_up (by omega) (by omega), if_neg (by omega), fI_up (by omega) (by omega), if_neg (by omega), fI_up (by omega) (by omega), if_neg (by omega), fI_up (by omega) (by omega), if_neg (by omega), fI_up (by omega) (by omega), if_pos (by omega)]
theorem nw_6 {ff : Nat → Int32} {z : Nat} {a0 a1 a2 a3 a4 a5 a6 a7 a8 a9 a10 : Int32} : fI (nw ff z a0 a1 a2 a3 a4 a5 a6 a7 a8 a9 a10) z 6 = a6.toInt := by
  unfold nw
  rw [fI_up (by omega) (by omega), if_neg (by omega), fI_up (by omega) (by omega), if_neg (by omega), fI_up (by omega) (by omega), if_neg (by omega), fI_up (by omega) (by omega), if_neg (by omega), fI_up (by omega) (by omega), if_pos (by omega)]
theorem nw_7 {ff : Nat → Int32} {z : Nat} {a0 a1 a2 a3 a4 a5 a6 a7 a8 a9 a10 : Int32} : fI (nw ff z a0 a1 a2 a3 a4 a5 a6 a7 a8 a9 a10) z 7 = a7.toInt := by
  unfold nw
  rw [fI_up (by omega) (by omega), if_neg (by omega), fI_up (by omega) (by omega), if_neg (by omega), fI_up (by omega) (by omega), if_neg (by omega), fI_up (by omega) (by omega), if_pos (by omega)]
theorem nw_8 {ff : Nat → Int32} {z : Nat} {a0 a1 a2 a3 a4 a5 a6 a7 a8 a9 a10 : Int32} : fI (nw ff z a0 a1 a2 a3 a4 a5 a6 a7 a8 a9 a10) z 8 = a8.toInt := by
  unfold nw
  rw [fI_up (by omega) (by omega), if_neg (by omega), fI_up (by omega) (by omega), if_neg (by omega), fI_up (by omega) (by omega), if_pos (by omega)]
theorem nw_9 {ff : Nat → Int32} {z : Nat} {a0 a1 a2 a3 a4 a5 a6 a7 a8 a9 a10 : Int32} : fI (nw ff z a0 a1 a2 a3 a4 a5 a6 a7 a8 a9 a10) z 9 = a9.toInt := by
  unfold nw
  rw [fI_up (by omega) (by omega), if_neg (by omega), fI_up (by omega) (by omega), if_pos (by omega)]
theorem nw_10 {ff : Nat → Int32} {z : Nat} {a0 a1 a2 a3 a4 a5 a6 a7 a8 a9 a10 : Int32} : fI (nw ff z a0 a1 a2 a3 a4 a5 a6 a7 a8 a9 a10) z 10 = a10.toInt := by
  unfold nw
  rw [fI_up (by omega) (by omega), if_pos (by omega)]
theorem nw_eqS {now told : Int32} {rf lf ff sf : Nat → Int32} (he : eqS now told rf lf ff sf) {z : Nat} (hz : z < 48) (a0 a1 a2 a3 a4 a5 a6 a7 a8 a9 a10 : Int32) : eqS now told rf lf (nw ff z a0 a1 a2 a3 a4 a5 a6 a7 a8 a9 a10) (nm sf z a0 a1 a2 a3 a4 a5 a6 a7 a8 a9 a10) := by
  exact eqS_f (eqS_f (eqS_f (eqS_f (eqS_f (eqS_f (eqS_f (eqS_f (eqS_f (eqS_f (eqS_f he (show 11 * z + 0 < 528 by omega) a0) (show 11 * z + 1 < 528 by omega) a1) (show 11 * z + 2 < 528 by omega) a2) (show 11 * z + 3 < 528 by omega) a3) (show 11 * z + 4 < 528 by omega) a4) (show 11 * z + 5 < 528 by omega) a5) (show 11 * z + 6 < 528 by omega) a6) (show 11 * z + 7 < 528 by omega) a7) (show 11 * z + 8 < 528 by omega) a8) (show 11 * z + 9 < 528 by omega) a9) (show 11 * z + 10 < 528 by omega) a10
theorem comes_up (f : Nat → Int32) (j : Nat) (x a b : Int32) : g_X4_comes (upd f (11 + j) x) a b = g_X4_comes f a b := by
  unfold g_X4_comes
  rw [up_def f _ x 9, up_def f _ x 1, up_def f _ x 2, if_neg (show ¬ 9 = 11 + j by omega), if_neg (show ¬ 1 = 11 + j by omega), if_neg (show ¬ 2 = 11 + j by omega)]
theorem tellC_at {sf : Nat → Int32} {z : Nat} (hz : z < 48) (h10 : sf 10 = nI z) (u : Int32 × Int32 × Int32 × Int32 × Int32) (x1 x2 x3 x4 x5 : Int32) : g_X4_tell_C47 u sf x1 x2 x3 x4 x5 = (nI z, upd (nm sf z x1 x2 x3 x4 x5 (g_X4_comes sf x3 x4) u.1 u.2.1 u.2.2.1 u.2.2.2.1 u.2.2.2.2) 10 ((nm sf z x1 x2 x3 x4 x5 (g_X4_comes sf x3 x4) u.1 u.2.1 u.2.2.1 u.2.2.2.1 u.2.2.2.2) 10 + 1), u.1, u.2.1, u.2.2.1, u.2.2.2.1, u.2.2.2.2) := by
  have t0 : (g_X4_at (nI z) 0).toNatClampNeg = 11 + (11 * z + 0) := at_at (w := 0) hz (by omega)
  have t1 : (g_X4_at (nI z) 1).toNatClampNeg = 11 + (11 * z + 1) := at_at (w := 1) hz (by omega)
  have t2 : (g_X4_at (nI z) 2).toNatClampNeg = 11 + (11 * z + 2) := at_at (w := 2) hz (by omega)
  have t3 : (g_X4_at (nI z) 3).toNatClampNeg = 11 + (11 * z + 3) := at_at (w := 3) hz (by omega)
  have t4 : (g_X4_at (nI z) 4).toNatClampNeg = 11 + (11 * z + 4) := at_at (w := 4) hz (by omega)
  have t5 : (g_X4_at (nI z) 5).toNatClampNeg = 11 + (11 * z + 5) := at_at (w := 5) hz (by omega)
  have t6 : (g_X4_at (nI z) 6).toNatClampNeg = 11 + (11 * z + 6) := at_at (w := 6) hz (by omega)
  have t7 : (g_X4_at (nI z) 7).toNatClampNeg = 11 + (11 * z + 7) := at_at (w := 7) hz (by omega)
  have t8 : (g_X4_at (nI z) 8).toNatClampNeg = 11 + (11 * z + 8) := at_at (w := 8) hz (by omega)
  have t9 : (g_X4_at (nI z) 9).toNatClampNeg = 11 + (11 * z + 9) := at_at (w := 9) hz (by omega)
  have t10 : (g_X4_at (nI z) 10).toNatClampNeg = 11 + (11 * z + 10) := at_at (w := 10) hz (by omega)
  unfold g_X4_tell_C47 nm
  rw [h10, t0, t1, t2, t3, t4, t5, t6, t7, t8, t9, t10, comes_up, comes_up, comes_up, comes_up, comes_up]
theorem apOk_symm {ff : Nat → Int32} {a b : Nat} (h : apOk ff a b) : apOk ff b a := by
  obtain ⟨h1, h2⟩ := h
  refine ⟨fun c1 c2 c3 c4 => ?_, fun c1 c2 c3 => ?_⟩
  · exact (h1 c2 c1 c3.symm c4.symm).symm
  · exact (h2 c2 c1 c3.symm).symm
theorem ap_ne {ff : Nat → Int32} {z : Nat} {a0 a1 a2 a3 a4 a5 a6 a7 a8 a9 a10 : Int32} {a b : Nat} (ha : a ≠ z) (hb : b ≠ z) (h : apOk ff a b) : apOk (nw ff z a0 a1 a2 a3 a4 a5 a6 a7 a8 a9 a10) a b := by
  unfold apOk
  rw [nw_ne (by omega) ha, nw_ne (by omega) ha, nw_ne (by omega) ha, nw_ne (by omega) ha, nw_ne (by omega) ha, nw_ne (by omega) ha, nw_ne (by omega) ha, nw_ne (by omega) ha]
  rw [nw_ne (by omega) hb, nw_ne (by omega) hb, nw_ne (by omega) hb, nw_ne (by omega) hb, nw_ne (by omega) hb, nw_ne (by omega) hb, nw_ne (by omega) hb, nw_ne (by omega) hb]
  exact h
theorem bu_ne {T : Nat} {ff : Nat → Int32} {z : Nat} {a0 a1 a2 a3 a4 a5 a6 a7 a8 a9 a10 : Int32} {b : Nat} (hb : b ≠ z) (h : buOk T ff b) : buOk T (nw ff z a0 a1 a2 a3 a4 a5 a6 a7 a8 a9 a10) b := by
  unfold buOk
  rw [nw_ne (w := 0) (by omega) hb, nw_ne (w := 2) (by omega) hb, nw_ne (w := 4) (by omega) hb, nw_ne (w := 5) (by omega) hb, nw_ne (w := 6) (by omega) hb, nw_ne (w := 7) (by omega) hb, nw_ne (w := 8) (by omega) hb, nw_ne (w := 9) (by omega) hb, nw_ne (w := 10) (by omega) hb]
  exact h
theorem nw_Inv {T : Nat} {now : Int32} {z : Nat} {rf lf ff : Nat → Int32} (hi : Inv T now (nI z) rf lf ff) (hz : z < 48) (a0 a1 a2 a3 a4 a5 a6 a7 a8 a9 a10 : Int32) (hb : buOk T (nw ff z a0 a1 a2 a3 a4 a5 a6 a7 a8 a9 a10) z) (hap : ∀ b, b < z → apOk (nw ff z a0 a1 a2 a3 a4 a5 a6 a7 a8 a9 a10) z b) : Inv T now (nI (z + 1)) rf lf (nw ff z a0 a1 a2 a3 a4 a5 a6 a7 a8 a9 a10) := by
  obtain ⟨h0, h1, h2, h3, h4, h5⟩ := hi
  have ez := tI z (by omega)
  have ez1 := tI (z + 1) (by omega)
  refine ⟨h0, by omega, h2, h3, fun b hb' => ?_, fun a b ha hb' hab => ?_⟩
  · by_cases c : b = z
    · rw [c]; exact hb
    · exact bu_ne c (h4 b (by omega))
  · by_cases c : a = z
    · rw [c]; exact hap b (by omega)
    · by_cases c2 : b = z
      · rw [c2]; exact apOk_symm (hap a (by omega))
      · exact ap_ne c c2 (h5 a b (by omega) (by omega) hab)
theorem free_clear {sf : Nat → Int32} {x1 x2 x3 x4 : Int32} (h : ¬ g_X4_isFree sf x1 x2 x3 x4 = 0) : ¬ g_X4_isClear sf x1 x2 x3 x4 = 0 := by
  intro c
  apply h
  unfold g_X4_isFree
  rw [if_pos c]
theorem pl_int {T : Nat} {sf lf : Nat → Int32} (hl : lnOk lf) {x1 c : Int32} (hT : T ≤ 102400) (hc : 0 ≤ c.toInt ∧ c.toInt ≤ T + 140) {N : Nat} (hN : 1 ≤ N ∧ N ≤ 60) {fate on frm size byl : Int32} (h : plOk sf lf x1 c N fate on frm size byl) :
    (0 ≤ fate.toInt ∧ fate.toInt ≤ 3) ∧ (fate.toInt ≤ 2 → (0 ≤ on.toInt ∧ on.toInt ≤ 5) ∧ (0 ≤ frm.toInt ∧ frm.toInt ≤ T + 260) ∧ (1 ≤ size.toInt ∧ size.toInt ≤ N) ∧ ¬ g_X4_isFree sf x1 on frm size = 0) ∧ (¬ fate.toInt ≤ 2 → on.toInt = -6 ∧ frm.toInt = -6 ∧ size.toInt = 0) ∧ (fate.toInt = 1 → (0 ≤ byl.toInt ∧ byl.toInt ≤ 2) ∧ ¬ g_X4_isLineClear sf byl c (nI N) = 0) ∧ (¬ fate.toInt = 1 → byl.toInt = -6) := by
  have e0 : (0 : Int32).toInt = 0 := rfl
  have e1 : (1 : Int32).toInt = 1 := rfl
  have e2 : (2 : Int32).toInt = 2 := rfl
  have e3 : (3 : Int32).toInt = 3 := rfl
  have e6 : (-6 : Int32).toInt = -6 := rfl
  have eN := tI N (by omega)
  rcases h with ⟨h1, h2, h3, h4, h5, h6⟩ | ⟨j, hj, h1, h2, h3, h4, h5, h6, h7⟩ | ⟨M, A, m1, m2, h1, h2, h3, h4, h5, h6⟩ | ⟨h1, h2, h3, h4, h5⟩
  · subst h1 h3 h4 h5
    exact ⟨by omega, fun _ => ⟨h2, by omega, by omega, h6⟩, fun z => by omega, fun z => by omega, fun _ => e6⟩
  · subst h1 h3 h4 h5
    have hlj := hl j hj
    have ej := tI j (by omega)
    have es : (c + lf j).toInt = c.toInt + (lf j).toInt := i32_add (by omega) (by omega)
    exact ⟨by omega, fun _ => ⟨h2, by omega, by omega, h6⟩, fun z => by omega, fun z => ⟨by omega, h7⟩, fun z => by omega⟩
  · subst h1 h3 h4 h5
    have eM := tI M (by omega)
    have eA := tI A (by omega)
    have es : (c + nI A).toInt = c.toInt + (nI A).toInt := i32_add (by omega) (by omega)
    exact ⟨by omega, fun _ => ⟨h2, by omega, by omega, h6⟩, fun z => by omega, fun z => by omega, fun z => e6⟩
  · subst h1 h2 h3 h4 h5
    exact ⟨by omega, fun z => by omega, fun _ => ⟨e6, e6, e0⟩, fun z => by omega, fun z => e6⟩
theorem new_Inv {T : Nat} (hT : T ≤ 102400) {now : Int32} {z : Nat} (hz : z < 48) {rf lf ff sf : Nat → Int32} (he : eqS now (nI z) rf lf ff sf) (hi : Inv T now (nI z) rf lf ff) {x1 x2 x3 x4 c : Int32} (h1 : 0 ≤ x1.toInt ∧ x1.toInt ≤ 1) (h3 : 0 ≤ x3.toInt ∧ x3.toInt ≤ 2) (hc : 0 ≤ c.toInt ∧ c.toInt ≤ T + 140) {N : Nat} (hN : 1 ≤ N ∧ N ≤ 60) {fate on frm size byl : Int32} (h : plOk sf lf x1 c N fate on frm size byl) : Inv T now (nI (z + 1)) rf lf (nw ff z x1 x2 x3 x4 (nI N) c fate on frm size byl) := by
  obtain ⟨p1, p2, p3, p4, p5⟩ := pl_int hi.2.2.2.1 hT hc hN h
  have eN := tI N (by omega)
  have ez := tI z (by omega)
  refine nw_Inv hi hz _ _ _ _ _ _ _ _ _ _ _ ?_ ?_
  · unfold buOk
    rw [nw_0, nw_2, nw_4, nw_5, nw_6, nw_7, nw_8, nw_9, nw_10, eN]
    exact ⟨h1, h3, by omega, hc, by omega, fun g => ⟨(p2 g).1, (p2 g).2.1, (p2 g).2.2.1⟩, p3, fun g => (p4 g).1, p5⟩
  · intro b hb
    have hbz : b ≠ z := by omega
    have hbu := hi.2.2.2.2.1 b (by omega)
    unfold apOk
    rw [nw_0, nw_4, nw_5, nw_6, nw_7, nw_8, nw_9, nw_10, eN]
    rw [nw_ne (w := 0) (by omega) hbz, nw_ne (w := 4) (by omega) hbz, nw_ne (w := 5) (by omega) hbz, nw_ne (w := 6) (by omega) hbz, nw_ne (w := 7) (by omega) hbz, nw_ne (w := 8) (by omega) hbz, nw_ne (w := 9) (by omega) hbz, nw_ne (w := 10) (by omega) hbz]
    refine ⟨fun g1 g2 g3 g4 => ?_, fun g1 g2 g3 => ?_⟩
    · obtain ⟨q1, q2, q3, q4⟩ := p2 g1
      have hon : onC ff x1 on b := ⟨Int32.toInt_inj.mp g4.symm, Int32.toInt_inj.mp g3.symm⟩
      have ok := onC_ok hbu (show 0 ≤ on.toInt by omega) hon
      have hcl := (isClear_b hT (by omega) he hi (x1 := x1) (show 0 ≤ on.toInt by omega) (f := frm) (n := size) (by omega) (by omega)).mp (free_clear q4) b hb hon
      unfold fI at ok ⊢
      rw [i32_add (by omega) (by omega)] at hcl
      omega
    · obtain ⟨q1, q2⟩ := p4 g1
      have hon : onL ff byl b := Int32.toInt_inj.mp g3.symm
      have ok := onL_ok hbu (show 0 ≤ byl.toInt by omega) hon
      have hcl := (isLineClear_b hT (by omega) he hi (x := byl) (show 0 ≤ byl.toInt by omega) (f := c) (n := nI N) (by omega) (by omega)).mp q2 b hb hon
      unfold fI at ok ⊢
      rw [i32_add (by omega) (by omega)] at hcl
      omega
theorem core_tell {T : Nat} (hT : T ≤ 102400) {now told : Int32} {rf lf ff sf : Nat → Int32} (he : eqS now told rf lf ff sf) (hi : Inv T now told rf lf ff) (q0 q1 q2 q3 q4 q5 q6 q7 q8 sz : Int32) (bf gf ef : Nat → Int32) (m0 m1 m2 m3 m4 x1 x2 x3 x4 x5 : Int32) : ∀ G, G = g_X3_tell q0 q1 q2 q3 q4 q5 q6 q7 q8 now told rf lf ff sz bf gf ef x1 x2 x3 x4 x5 → ∀ K, K = g_X4_tell sf m0 m1 m2 m3 m4 x1 x2 x3 x4 x5 → G.1 = K.1 ∧ eqS now G.2.2.2.2.2.2.2.2.2.2.1 rf lf G.2.2.2.2.2.2.2.2.2.2.2.1 K.2.1 ∧ Inv T now G.2.2.2.2.2.2.2.2.2.2.1 rf lf G.2.2.2.2.2.2.2.2.2.2.2.1 := by
  intro G hG K hK
  obtain ⟨z, hz, ez, -⟩ := told_nat hi
  subst ez
  obtain ⟨r1, r2⟩ := refusal_eq x1 x2 x3 x4 x5
  have h10 : sf 10 = nI z := he.2.2.2.1
  have e48 : (48 : Int32).toInt = 48 := rfl
  unfold g_X3_tell at hG
  unfold g_X4_tell at hK
  rw [r1] at hG
  rw [h10] at hK
  by_cases c : g_X4_refusal x1 x2 x3 x4 x5 = 0
  · rw [if_pos c] at hG hK
    obtain ⟨h1, h2, h3, h4, h5⟩ := r2 c
    obtain ⟨k1, k2, k3⟩ := comes_at hT he hi h3 h4
    obtain ⟨N, hN, rfl⟩ := nat_of (x := x5) (n := 61) (by omega) (by omega)
    rw [tI N (by omega)] at h5
    by_cases c2 : z < 48
    · rw [if_pos (show nI z < 48 by rw [Int32.lt_iff_toInt_lt, tI z (by omega), e48]; omega)] at hG
      rw [if_neg (show ¬ nI z = 48 by rw [i_eq e48, tI z (by omega)]; omega)] at hK
      obtain ⟨fate, on, frm, size, byl, s1, s2, s3, s4, e1, e2, e3⟩ := place_both hT hz he hi (x1 := x1) (c := g_X4_comes sf x3 x4) h2 (by omega) (N := N) (by omega) sz bf gf ef
      rw [k1, e2] at hG
      rw [e1, tellC_at c2 h10] at hK
      have hnm := nw_eqS he c2 x1 x2 x3 x4 (nI N) (g_X4_comes sf x3 x4) fate on frm size byl
      have hw := write_at (ff := ff) c2 x1 x2 x3 x4 (nI N) (g_X4_comes sf x3 x4) fate on frm size byl
      have hI := new_Inv hT c2 he hi (x2 := x2) (x4 := x4) h1 h3 ⟨k2, k3⟩ (by omega) e3
      have ht : nm sf z x1 x2 x3 x4 (nI N) (g_X4_comes sf x3 x4) fate on frm size byl 10 = nI z := hnm.2.2.2.1
      have hG1 : G.1 = nI z := by rw [hG]; rfl
      have hG2 : G.2.2.2.2.2.2.2.2.2.2.1 = nI (z + 1) := by rw [hG]; exact nI_1 z
      have hG3 : G.2.2.2.2.2.2.2.2.2.2.2.1 = nw ff z x1 x2 x3 x4 (nI N) (g_X4_comes sf x3 x4) fate on frm size byl := by rw [hG]; exact hw
      have hK1 : K.1 = nI z := by rw [hK]
      have hK2 : K.2.1 = upd (nm sf z x1 x2 x3 x4 (nI N) (g_X4_comes sf x3 x4) fate on frm size byl) 10 (nI (z + 1)) := by
        rw [hK]
        show upd (nm sf z x1 x2 x3 x4 (nI N) (g_X4_comes sf x3 x4) fate on frm size byl) 10 (nm sf z x1 x2 x3 x4 (nI N) (g_X4_comes sf x3 x4) fate on frm size byl 10 + 1) = _
        rw [ht, nI_1]
      rw [hG1, hG2, hG3, hK1, hK2]
      exact ⟨rfl, eqS_t hnm _, hI⟩
    · rw [if_neg (show ¬ nI z < 48 by rw [Int32.lt_iff_toInt_lt, tI z (by omega), e48]; omega)] at hG
      rw [if_pos (show nI z = 48 by rw [i_eq e48, tI z (by omega)]; omega)] at hK
      subst hG hK
      exact ⟨rfl, he, hi⟩
  · rw [if_neg c] at hG hK
    subst hG hK
    exact ⟨rfl, he, hi⟩
