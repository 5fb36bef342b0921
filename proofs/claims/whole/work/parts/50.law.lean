theorem law_i (k : Nat) : nI (6 * k) + Int32.ofInt 6 = nI (6 * (k + 1)) := by
  rw [show Int32.ofInt 6 = nI 6 from rfl, nI_add]; exact congrArg nI (by omega)
theorem sw_out17 {x : Int32} (h0 : ¬ x = 0) (h1 : ¬ x = 1) (h2 : ¬ x = 2) (h3 : ¬ x = 3) (h4 : ¬ x = 4) (h5 : ¬ x = 5) (h6 : ¬ x = 6) (h7 : ¬ x = 7) (h8 : ¬ x = 8) (h9 : ¬ x = 9) (h10 : ¬ x = 10) (h11 : ¬ x = 11) (h12 : ¬ x = 12) (h13 : ¬ x = 13) (h14 : ¬ x = 14) (h15 : ¬ x = 15) (h16 : ¬ x = 16) : x.toInt < 0 ∨ 16 < x.toInt := by
  have a0 := sw_c (k := 0) rfl h0
  have a1 := sw_c (k := 1) rfl h1
  have a2 := sw_c (k := 2) rfl h2
  have a3 := sw_c (k := 3) rfl h3
  have a4 := sw_c (k := 4) rfl h4
  have a5 := sw_c (k := 5) rfl h5
  have a6 := sw_c (k := 6) rfl h6
  have a7 := sw_c (k := 7) rfl h7
  have a8 := sw_c (k := 8) rfl h8
  have a9 := sw_c (k := 9) rfl h9
  have a10 := sw_c (k := 10) rfl h10
  have a11 := sw_c (k := 11) rfl h11
  have a12 := sw_c (k := 12) rfl h12
  have a13 := sw_c (k := 13) rfl h13
  have a14 := sw_c (k := 14) rfl h14
  have a15 := sw_c (k := 15) rfl h15
  have a16 := sw_c (k := 16) rfl h16
  omega
set_option maxHeartbeats 8000000 in
set_option maxRecDepth 100000 in
theorem law_loop {p : Program} {l : Launch} {e : Env} {s : State} {m : MethodId} {below : List Frame} {meth : Method} {c : Code} {D : va_G} {cA cZ : ClassId} {b L : Nat} {xs : Nat → Int32} (hL : L ≤ 3072) (C0 : lw_At p s m meth c b L xs) (hK : va_K D vwCl (tyA cA cZ) s) (hN : nst s) (hQ : stQ cA (fun q : Nat => s.heap.size ≤ q) s s.heap) (hCa : va_Nw clW s) (aX : Nat) (aB : Nat) (aB1 : Nat) (aB2 : Nat) (aT : Nat) (aP : Nat) (aR : Nat) (aL : Nat) (aF : Nat) (aU : Nat) (aG : Nat) (aE : Nat) (aR1 : Nat) (aL1 : Nat) (aF1 : Nat) (aR2 : Nat) (aL2 : Nat) (aF2 : Nat) (aM : Nat) (aS : Nat) (aI : Nat) (aK : Nat) :
    ∀ (n k : Nat) (kp : Int32) (q0 : Int32) (q1 : Int32) (q2 : Int32) (q3 : Int32) (q4 : Int32) (q5 : Int32) (q6 : Int32) (q7 : Int32) (q8 : Int32) (now : Int32) (told : Int32) (rf : (Nat → Int32)) (lf : (Nat → Int32)) (ff : (Nat → Int32)) (sz : Int32) (bf : (Nat → Int32)) (gf : (Nat → Int32)) (ef : (Nat → Int32)) (now1 : Int32) (told1 : Int32) (rf1 : (Nat → Int32)) (lf1 : (Nat → Int32)) (ff1 : (Nat → Int32)) (now2 : Int32) (told2 : Int32) (rf2 : (Nat → Int32)) (lf2 : (Nat → Int32)) (ff2 : (Nat → Int32)) (sf : (Nat → Int32)) (mf : (Nat → Int32)) (kf : (Nat → Int32)) (m0 : Int32) (m1 : Int32) (m2 : Int32) (m3 : Int32) (m4 : Int32) (H : Heap) (locs : List Loc) (ls : Array Slot), k ≤ 512 → 513 ≤ k + n → Sim (200 * k) kp now told rf lf ff now1 told1 rf1 lf1 ff1 now2 told2 rf2 lf2 ff2 sf mf kf → va_P D vwCl (LBw aX aB aB1 aB2 aT aP kp ++ PLw aP aB aT q0 q1 q2 q3 q4 q5 q6 q7 q8 ++ BKw cA aB aR aL aF now told rf lf ff ++ TRw cA aT aU aG aE sz bf gf ef ++ BKw cA aB1 aR1 aL1 aF1 now1 told1 rf1 lf1 ff1 ++ BKw cA aB2 aR2 aL2 aF2 now2 told2 rf2 lf2 ff2 ++ MDw cA cZ aM aS aI aK sf mf kf m0 m1 m2 m3 m4) H → va_D (fun q : Nat => s.heap.size ≤ q) (LBw aX aB aB1 aB2 aT aP kp ++ PLw aP aB aT q0 q1 q2 q3 q4 q5 q6 q7 q8 ++ BKw cA aB aR aL aF now told rf lf ff ++ TRw cA aT aU aG aE sz bf gf ef ++ BKw cA aB1 aR1 aL1 aF1 now1 told1 rf1 lf1 ff1 ++ BKw cA aB2 aR2 aL2 aF2 now2 told2 rf2 lf2 ff2 ++ MDw cA cZ aM aS aI aK sf mf kf m0 m1 m2 m3 m4) → va_S (fun q : Nat => s.heap.size ≤ q) s.heap H locs → lv_has ls 4 [(0, .ref b), (1, .ref aX), (2, .ref aM), (3, .int (nI (6 * k)))] → W p l e room_1 s m #[Value.ref b] below meth c H locs 22 3418 (lw_Z below #[Value.ref b] s) (F0 m 18 ls []) := by
  obtain ⟨hx, hb, hr, hml, hown, hts, hX, hbl, hlocks, hgv⟩ := C0
  have hts := fun w h => hts w (wsL_law_in w h)
  have hA : ∀ q : Nat, s.heap.size ≤ q → (fun q : Nat => s.heap.size ≤ q) q := fun _ h => h
  have hbA : ¬ (fun q : Nat => s.heap.size ≤ q) b := Nat.not_le.mpr hbl
  intro n
  induction n with
  | zero => intros; omega
  | succ n ih =>
    intro k kp q0 q1 q2 q3 q4 q5 q6 q7 q8 now told rf lf ff sz bf gf ef now1 told1 rf1 lf1 ff1 now2 told2 rf2 lf2 ff2 sf mf kf m0 m1 m2 m3 m4 H locs ls hk hkn hSim hP hD hS hl
    obtain ⟨hm, hm0⟩ := Sim_many hSim
    refine lv_iload_n hx hb dL_law_18 rfl (lv_at hl 3 rfl) ?_
    refine lv_aload_n hx hb dL_law_19 rfl (lv_at hl 0 rfl) ?_
    refine va_slen hx hb hX hbl hbA hS dL_law_20 ?_
    refine lv_bipush (v := 6) hx hb dL_law_21 (by decide) ?_
    refine lv_isub hx hb dL_law_23 ?_
    refine lv_icmp_gt (tgt := 793) hx hb dL_law_24 (by decide) (fun c_0 => ?_) (fun c_0 => ?_)
    · refine lv_iconst (v := 1) hx hb dL_law_793 (by decide) ?_
      refine va_forget (fun q hq => hS.2.2 q hq) ?_
      refine W.widen (k := 600000) (n := 7302250) (Nat.le_of_ble_eq_true rfl) (Nat.le_of_ble_eq_true rfl) ?_
      exact lw_ret hx hb hr hlocks dL_law_794
    · have hlt : 6 * k + 6 ≤ L := law_lt hL hk c_0
      have hk1 : k + 1 ≤ 512 := by omega
      have hT : 200 * k ≤ 102400 := by omega
      have h_0 : vp_in (nI (6 * k)) L := vp_in_nI (by omega) (by omega)
      have h_1 : vp_in (nI (6 * k) + 1) L := law_in (j := 1) rfl (by omega) (by omega)
      obtain ⟨y1, e_1⟩ : ∃ y : Int32, y = xs (nI (6 * k) + 1).toNatClampNeg := ⟨_, rfl⟩
      have h_2 : vp_in (nI (6 * k) + 2) L := law_in (j := 2) rfl (by omega) (by omega)
      obtain ⟨y2, e_2⟩ : ∃ y : Int32, y = xs (nI (6 * k) + 2).toNatClampNeg := ⟨_, rfl⟩
      have h_3 : vp_in (nI (6 * k) + 3) L := law_in (j := 3) rfl (by omega) (by omega)
      obtain ⟨y3, e_3⟩ : ∃ y : Int32, y = xs (nI (6 * k) + 3).toNatClampNeg := ⟨_, rfl⟩
      have h_4 : vp_in (nI (6 * k) + 4) L := law_in (j := 4) rfl (by omega) (by omega)
      obtain ⟨y4, e_4⟩ : ∃ y : Int32, y = xs (nI (6 * k) + 4).toNatClampNeg := ⟨_, rfl⟩
      have h_5 : vp_in (nI (6 * k) + 5) L := law_in (j := 5) rfl (by omega) (by omega)
      obtain ⟨y5, e_5⟩ : ∃ y : Int32, y = xs (nI (6 * k) + 5).toNatClampNeg := ⟨_, rfl⟩
      refine lv_aload_n hx hb dL_law_27 rfl (lv_at hl 0 rfl) ?_
      refine lv_iload_n hx hb dL_law_28 rfl (lv_at hl 3 rfl) ?_
      refine va_sld hx hb hX hbl hbA hS h_0 dL_law_29 ?_
      refine lv_bipush (v := 31) hx hb dL_law_30 (by decide) ?_
      refine lv_iand hx hb dL_law_32 ?_
      refine lv_topi (fun sw esw => ?_)
      rcases Decidable.em (sw = 0) with c_1 | c_1
      · refine lv_tableIn (off := 83) (tgt := 116) hx hb dL_law_33 (by rw [c_1]; decide) (by rw [c_1]; decide) (by rw [c_1]; rfl) (by decide) ?_
        refine lv_aload_n hx hb dL_law_116 rfl (lv_at hl 1 rfl) ?_
        refine lv_aload_n hx hb dL_law_117 rfl (lv_at hl 0 rfl) ?_
        refine lv_iload_n hx hb dL_law_118 rfl (lv_at hl 3 rfl) ?_
        refine lv_iconst (v := 1) hx hb dL_law_119 (by decide) ?_
        refine lv_iadd hx hb dL_law_120 ?_
        refine va_sld hx hb hX hbl hbA hS h_1 dL_law_121 ?_
        refine lv_eqi y1 e_1.symm ?_
        refine lv_aload_n hx hb dL_law_122 rfl (lv_at hl 0 rfl) ?_
        refine lv_iload_n hx hb dL_law_123 rfl (lv_at hl 3 rfl) ?_
        refine lv_iconst (v := 2) hx hb dL_law_124 (by decide) ?_
        refine lv_iadd hx hb dL_law_125 ?_
        refine va_sld hx hb hX hbl hbA hS h_2 dL_law_126 ?_
        refine lv_eqi y2 e_2.symm ?_
        refine kI (wr := PLw aP aB aT q0 q1 q2 q3 q4 q5 q6 q7 q8 ++ TRw cA aT aU aG aE sz bf gf ef ++ BKw cA aB1 aR1 aL1 aF1 now1 told1 rf1 lf1 ff1 ++ BKw cA aB2 aR2 aL2 aF2 now2 told2 rf2 lf2 ff2 ++ MDw cA cZ aM aS aI aK sf mf kf m0 m1 m2 m3 m4) (W1 := LBw aX aB aB1 aB2 aT aP kp ++ BKw cA aB aR aL aF now told ((g_X3_rule rf y1 y2).2) lf ff) (wsN := LBw aX aB aB1 aB2 aT aP kp ++ PLw aP aB aT q0 q1 q2 q3 q4 q5 q6 q7 q8 ++ BKw cA aB aR aL aF now told ((g_X3_rule rf y1 y2).2) lf ff ++ TRw cA aT aU aG aE sz bf gf ef ++ BKw cA aB1 aR1 aL1 aF1 now1 told1 rf1 lf1 ff1 ++ BKw cA aB2 aR2 aL2 aF2 now2 told2 rf2 lf2 ff2 ++ MDw cA cZ aM aS aI aK sf mf kf m0 m1 m2 m3 m4) (rVS (As := [.int y1, .int y2]) (rest := []) (W0 := LBw aX aB aB1 aB2 aT aP kp ++ BKw cA aB aR aL aF now told rf lf ff) ⟨hx, hb, hml, hown, hts⟩ (c_X3_rule l D cA cZ aX aB aB1 aB2 aT aP aR aL aF H.size kp now told rf lf ff y1 y2) (cwV 2 hts gL_law_X3_rule rfl rfl rfl (by decide +kernel) ⟨Nat.le_of_ble_eq_true rfl, Nat.le_of_ble_eq_true rfl⟩) hP hD hK hN hS hA hQ hCa ([0, 2, 3, 4, 5] : List Nat) rfl rfl 3 0 rfl rfl rfl hl.1 rfl (Nat.le_of_ble_eq_true rfl) dL_law_127 ⟨Nat.le_of_ble_eq_true rfl, Nat.le_of_ble_eq_true rfl⟩) hP hD hS hA [0, 2, 3, 4, 5] [1, 6, 7, 8, 9, 10, 11, 12, 13, 14, 15, 16, 17, 18, 19, 20, 21] [17, 0, 18, 19, 20, 21, 1, 2, 3, 4, 5, 6, 7, 8, 9, 10, 11, 12, 13, 14, 15, 16] rfl rfl rfl (by decide) rfl rfl (fun H locs hP hD hS => ?_)
        refine lv_aload_n hx hb dL_law_130 rfl (lv_at hl 2 rfl) ?_
        refine lv_aload_n hx hb dL_law_131 rfl (lv_at hl 0 rfl) ?_
        refine lv_iload_n hx hb dL_law_132 rfl (lv_at hl 3 rfl) ?_
        refine lv_iconst (v := 1) hx hb dL_law_133 (by decide) ?_
        refine lv_iadd hx hb dL_law_134 ?_
        refine va_sld hx hb hX hbl hbA hS h_1 dL_law_135 ?_
        refine lv_eqi y1 e_1.symm ?_
        refine lv_aload_n hx hb dL_law_136 rfl (lv_at hl 0 rfl) ?_
        refine lv_iload_n hx hb dL_law_137 rfl (lv_at hl 3 rfl) ?_
        refine lv_iconst (v := 2) hx hb dL_law_138 (by decide) ?_
        refine lv_iadd hx hb dL_law_139 ?_
        refine va_sld hx hb hX hbl hbA hS h_2 dL_law_140 ?_
        refine lv_eqi y2 e_2.symm ?_
        refine kI (wr := LBw aX aB aB1 aB2 aT aP kp ++ PLw aP aB aT q0 q1 q2 q3 q4 q5 q6 q7 q8 ++ BKw cA aB aR aL aF now told ((g_X3_rule rf y1 y2).2) lf ff ++ TRw cA aT aU aG aE sz bf gf ef ++ BKw cA aB1 aR1 aL1 aF1 now1 told1 rf1 lf1 ff1 ++ BKw cA aB2 aR2 aL2 aF2 now2 told2 rf2 lf2 ff2) (W1 := MDw cA cZ aM aS aI aK ((g_X4_rule sf y1 y2).2) mf kf m0 m1 m2 m3 m4) (wsN := LBw aX aB aB1 aB2 aT aP kp ++ PLw aP aB aT q0 q1 q2 q3 q4 q5 q6 q7 q8 ++ BKw cA aB aR aL aF now told ((g_X3_rule rf y1 y2).2) lf ff ++ TRw cA aT aU aG aE sz bf gf ef ++ BKw cA aB1 aR1 aL1 aF1 now1 told1 rf1 lf1 ff1 ++ BKw cA aB2 aR2 aL2 aF2 now2 told2 rf2 lf2 ff2 ++ MDw cA cZ aM aS aI aK ((g_X4_rule sf y1 y2).2) mf kf m0 m1 m2 m3 m4) (rV (As := [.int y1, .int y2]) (rest := [.int ((g_X3_rule rf y1 y2).1)]) (W0 := MDw cA cZ aM aS aI aK sf mf kf m0 m1 m2 m3 m4) ⟨hx, hb, hml, hown, hts⟩ (c_X4_rule l D cA cZ aM aS aI aK H.size sf mf kf m0 m1 m2 m3 m4 y1 y2) (cwV 2 hts gL_law_X4_rule rfl rfl rfl (by decide +kernel) ⟨Nat.le_of_ble_eq_true rfl, Nat.le_of_ble_eq_true rfl⟩) hP hD hK hN ([18, 19, 20, 21] : List Nat) rfl rfl 4 0 rfl rfl rfl hl.1 rfl (Nat.le_of_ble_eq_true rfl) dL_law_141 ⟨Nat.le_of_ble_eq_true rfl, Nat.le_of_ble_eq_true rfl⟩) hP hD hS hA [18, 19, 20, 21] [0, 1, 2, 3, 4, 5, 6, 7, 8, 9, 10, 11, 12, 13, 14, 15, 16, 17] [0, 1, 2, 3, 4, 5, 6, 7, 8, 9, 10, 11, 12, 13, 14, 15, 16, 17, 18, 19, 20, 21] rfl rfl rfl (by decide) rfl rfl (fun H locs hP hD hS => ?_)
        have hL9 := L_rule hT kp q0 q1 q2 q3 q4 q5 q6 q7 q8 now told rf lf ff sz bf gf ef now1 told1 rf1 lf1 ff1 now2 told2 rf2 lf2 ff2 sf mf kf m0 m1 m2 m3 m4 hSim y1 y2
        refine lv_icmp_eq (tgt := 787) hx hb dL_law_144 (by decide) (fun _ => ?_) (fun c9 => absurd hL9.1 c9)
        refine lv_iinc (v := nI (6 * (k + 1))) (lv' := [(3, .int (nI (6 * (k + 1)))), (0, .ref b), (1, .ref aX), (2, .ref aM)]) hx hb dL_law_787 hl (k := 3) rfl (law_i k) (by decide) rfl (fun ls hl => ?_)
        refine lv_goto (tgt := 18) hx hb dL_law_790 (by decide) ?_
        exact ih (k + 1) kp q0 q1 q2 q3 q4 q5 q6 q7 q8 now told ((g_X3_rule rf y1 y2).2) lf ff sz bf gf ef now1 told1 rf1 lf1 ff1 now2 told2 rf2 lf2 ff2 ((g_X4_rule sf y1 y2).2) mf kf m0 m1 m2 m3 m4 H locs ls hk1 (by omega) (law_T hL9.2) hP hD hS (lv_sub hl [1, 2, 3, 0] rfl)
      rcases Decidable.em (sw = 1) with c_2 | c_2
      · refine lv_tableIn (off := 116) (tgt := 149) hx hb dL_law_33 (by rw [c_2]; decide) (by rw [c_2]; decide) (by rw [c_2]; rfl) (by decide) ?_
        refine lv_aload_n hx hb dL_law_149 rfl (lv_at hl 1 rfl) ?_
        refine lv_aload_n hx hb dL_law_150 rfl (lv_at hl 0 rfl) ?_
        refine lv_iload_n hx hb dL_law_151 rfl (lv_at hl 3 rfl) ?_
        refine lv_iconst (v := 1) hx hb dL_law_152 (by decide) ?_
        refine lv_iadd hx hb dL_law_153 ?_
        refine va_sld hx hb hX hbl hbA hS h_1 dL_law_154 ?_
        refine lv_eqi y1 e_1.symm ?_
        refine lv_aload_n hx hb dL_law_155 rfl (lv_at hl 0 rfl) ?_
        refine lv_iload_n hx hb dL_law_156 rfl (lv_at hl 3 rfl) ?_
        refine lv_iconst (v := 2) hx hb dL_law_157 (by decide) ?_
        refine lv_iadd hx hb dL_law_158 ?_
        refine va_sld hx hb hX hbl hbA hS h_2 dL_law_159 ?_
        refine lv_eqi y2 e_2.symm ?_
        refine kI (wr := PLw aP aB aT q0 q1 q2 q3 q4 q5 q6 q7 q8 ++ BKw cA aB1 aR1 aL1 aF1 now1 told1 rf1 lf1 ff1 ++ BKw cA aB2 aR2 aL2 aF2 now2 told2 rf2 lf2 ff2 ++ MDw cA cZ aM aS aI aK sf mf kf m0 m1 m2 m3 m4) (W1 := LBw aX aB aB1 aB2 aT aP kp ++ BKw cA aB aR aL aF now told rf ((g_X3_line now told lf ff sz bf gf ef y1 y2).2.1) ff ++ TRw cA aT aU aG aE ((g_X3_line now told lf ff sz bf gf ef y1 y2).2.2.1) ((g_X3_line now told lf ff sz bf gf ef y1 y2).2.2.2.1) ((g_X3_line now told lf ff sz bf gf ef y1 y2).2.2.2.2.1) ((g_X3_line now told lf ff sz bf gf ef y1 y2).2.2.2.2.2)) (wsN := LBw aX aB aB1 aB2 aT aP kp ++ PLw aP aB aT q0 q1 q2 q3 q4 q5 q6 q7 q8 ++ BKw cA aB aR aL aF now told rf ((g_X3_line now told lf ff sz bf gf ef y1 y2).2.1) ff ++ TRw cA aT aU aG aE ((g_X3_line now told lf ff sz bf gf ef y1 y2).2.2.1) ((g_X3_line now told lf ff sz bf gf ef y1 y2).2.2.2.1) ((g_X3_line now told lf ff sz bf gf ef y1 y2).2.2.2.2.1) ((g_X3_line now told lf ff sz bf gf ef y1 y2).2.2.2.2.2) ++ BKw cA aB1 aR1 aL1 aF1 now1 told1 rf1 lf1 ff1 ++ BKw cA aB2 aR2 aL2 aF2 now2 told2 rf2 lf2 ff2 ++ MDw cA cZ aM aS aI aK sf mf kf m0 m1 m2 m3 m4) (rV (As := [.int y1, .int y2]) (rest := []) (W0 := LBw aX aB aB1 aB2 aT aP kp ++ BKw cA aB aR aL aF now told rf lf ff ++ TRw cA aT aU aG aE sz bf gf ef) ⟨hx, hb, hml, hown, hts⟩ (c_X3_line l D cA cZ aX aB aB1 aB2 aT aP aR aL aF aU aG aE H.size kp now told rf lf ff sz bf gf ef y1 y2) (cwV 2 hts gL_law_X3_line rfl rfl rfl (by decide +kernel) ⟨Nat.le_of_ble_eq_true rfl, Nat.le_of_ble_eq_true rfl⟩) hP hD hK hN ([0, 2, 3, 4, 5, 6, 7, 8, 9] : List Nat) rfl rfl 3 0 rfl rfl rfl hl.1 rfl (Nat.le_of_ble_eq_true rfl) dL_law_160 ⟨Nat.le_of_ble_eq_true rfl, Nat.le_of_ble_eq_true rfl⟩) hP hD hS hA [0, 2, 3, 4, 5, 6, 7, 8, 9] [1, 10, 11, 12, 13, 14, 15, 16, 17, 18, 19, 20, 21] [13, 0, 14, 15, 16, 17, 18, 19, 20, 21, 1, 2, 3, 4, 5, 6, 7, 8, 9, 10, 11, 12] rfl rfl rfl (by decide) rfl rfl (fun H locs hP hD hS => ?_)
        refine lv_aload_n hx hb dL_law_163 rfl (lv_at hl 2 rfl) ?_
        refine lv_aload_n hx hb dL_law_164 rfl (lv_at hl 0 rfl) ?_
        refine lv_iload_n hx hb dL_law_165 rfl (lv_at hl 3 rfl) ?_
        refine lv_iconst (v := 1) hx hb dL_law_166 (by decide) ?_
        refine lv_iadd hx hb dL_law_167 ?_
        refine va_sld hx hb hX hbl hbA hS h_1 dL_law_168 ?_
        refine lv_eqi y1 e_1.symm ?_
        refine lv_aload_n hx hb dL_law_169 rfl (lv_at hl 0 rfl) ?_
        refine lv_iload_n hx hb dL_law_170 rfl (lv_at hl 3 rfl) ?_
        refine lv_iconst (v := 2) hx hb dL_law_171 (by decide) ?_
        refine lv_iadd hx hb dL_law_172 ?_
        refine va_sld hx hb hX hbl hbA hS h_2 dL_law_173 ?_
        refine lv_eqi y2 e_2.symm ?_
        refine kI (wr := LBw aX aB aB1 aB2 aT aP kp ++ PLw aP aB aT q0 q1 q2 q3 q4 q5 q6 q7 q8 ++ BKw cA aB aR aL aF now told rf ((g_X3_line now told lf ff sz bf gf ef y1 y2).2.1) ff ++ TRw cA aT aU aG aE ((g_X3_line now told lf ff sz bf gf ef y1 y2).2.2.1) ((g_X3_line now told lf ff sz bf gf ef y1 y2).2.2.2.1) ((g_X3_line now told lf ff sz bf gf ef y1 y2).2.2.2.2.1) ((g_X3_line now told lf ff sz bf gf ef y1 y2).2.2.2.2.2) ++ BKw cA aB1 aR1 aL1 aF1 now1 told1 rf1 lf1 ff1 ++ BKw cA aB2 aR2 aL2 aF2 now2 told2 rf2 lf2 ff2) (W1 := MDw cA cZ aM aS aI aK ((g_X4_line sf y1 y2).2) mf kf m0 m1 m2 m3 m4) (wsN := LBw aX aB aB1 aB2 aT aP kp ++ PLw aP aB aT q0 q1 q2 q3 q4 q5 q6 q7 q8 ++ BKw cA aB aR aL aF now told rf ((g_X3_line now told lf ff sz bf gf ef y1 y2).2.1) ff ++ TRw cA aT aU aG aE ((g_X3_line now told lf ff sz bf gf ef y1 y2).2.2.1) ((g_X3_line now told lf ff sz bf gf ef y1 y2).2.2.2.1) ((g_X3_line now told lf ff sz bf gf ef y1 y2).2.2.2.2.1) ((g_X3_line now told lf ff sz bf gf ef y1 y2).2.2.2.2.2) ++ BKw cA aB1 aR1 aL1 aF1 now1 told1 rf1 lf1 ff1 ++ BKw cA aB2 aR2 aL2 aF2 now2 told2 rf2 lf2 ff2 ++ MDw cA cZ aM aS aI aK ((g_X4_line sf y1 y2).2) mf kf m0 m1 m2 m3 m4) (rV (As := [.int y1, .int y2]) (rest := [.int ((g_X3_line now told lf ff sz bf gf ef y1 y2).1)]) (W0 := MDw cA cZ aM aS aI aK sf mf kf m0 m1 m2 m3 m4) ⟨hx, hb, hml, hown, hts⟩ (c_X4_line l D cA cZ aM aS aI aK H.size sf mf kf m0 m1 m2 m3 m4 y1 y2 hm) (cwV 2 hts gL_law_X4_line rfl rfl rfl (by decide +kernel) ⟨Nat.le_of_ble_eq_true rfl, Nat.le_of_ble_eq_true rfl⟩) hP hD hK hN ([18, 19, 20, 21] : List Nat) rfl rfl 4 0 rfl rfl rfl hl.1 rfl (Nat.le_of_ble_eq_true rfl) dL_law_174 ⟨Nat.le_of_ble_eq_true rfl, Nat.le_of_ble_eq_true rfl⟩) hP hD hS hA [18, 19, 20, 21] [0, 1, 2, 3, 4, 5, 6, 7, 8, 9, 10, 11, 12, 13, 14, 15, 16, 17] [0, 1, 2, 3, 4, 5, 6, 7, 8, 9, 10, 11, 12, 13, 14, 15, 16, 17, 18, 19, 20, 21] rfl rfl rfl (by decide) rfl rfl (fun H locs hP hD hS => ?_)
        have hL9 := L_line hT kp q0 q1 q2 q3 q4 q5 q6 q7 q8 now told rf lf ff sz bf gf ef now1 told1 rf1 lf1 ff1 now2 told2 rf2 lf2 ff2 sf mf kf m0 m1 m2 m3 m4 hSim y1 y2
        refine lv_icmp_eq (tgt := 787) hx hb dL_law_177 (by decide) (fun _ => ?_) (fun c9 => absurd hL9.1 c9)
        refine lv_iinc (v := nI (6 * (k + 1))) (lv' := [(3, .int (nI (6 * (k + 1)))), (0, .ref b), (1, .ref aX), (2, .ref aM)]) hx hb dL_law_787 hl (k := 3) rfl (law_i k) (by decide) rfl (fun ls hl => ?_)
        refine lv_goto (tgt := 18) hx hb dL_law_790 (by decide) ?_
        exact ih (k + 1) kp q0 q1 q2 q3 q4 q5 q6 q7 q8 now told rf ((g_X3_line now told lf ff sz bf gf ef y1 y2).2.1) ff ((g_X3_line now told lf ff sz bf gf ef y1 y2).2.2.1) ((g_X3_line now told lf ff sz bf gf ef y1 y2).2.2.2.1) ((g_X3_line now told lf ff sz bf gf ef y1 y2).2.2.2.2.1) ((g_X3_line now told lf ff sz bf gf ef y1 y2).2.2.2.2.2) now1 told1 rf1 lf1 ff1 now2 told2 rf2 lf2 ff2 ((g_X4_line sf y1 y2).2) mf kf m0 m1 m2 m3 m4 H locs ls hk1 (by omega) (law_T hL9.2) hP hD hS (lv_sub hl [1, 2, 3, 0] rfl)
      rcases Decidable.em (sw = 2) with c_3 | c_3
      · refine lv_tableIn (off := 149) (tgt := 182) hx hb dL_law_33 (by rw [c_3]; decide) (by rw [c_3]; decide) (by rw [c_3]; rfl) (by decide) ?_
        refine lv_aload_n hx hb dL_law_182 rfl (lv_at hl 1 rfl) ?_
        refine lv_aload_n hx hb dL_law_183 rfl (lv_at hl 0 rfl) ?_
        refine lv_iload_n hx hb dL_law_184 rfl (lv_at hl 3 rfl) ?_
        refine lv_iconst (v := 1) hx hb dL_law_185 (by decide) ?_
        refine lv_iadd hx hb dL_law_186 ?_
        refine va_sld hx hb hX hbl hbA hS h_1 dL_law_187 ?_
        refine lv_eqi y1 e_1.symm ?_
        refine kI (wr := PLw aP aB aT q0 q1 q2 q3 q4 q5 q6 q7 q8 ++ TRw cA aT aU aG aE sz bf gf ef ++ BKw cA aB1 aR1 aL1 aF1 now1 told1 rf1 lf1 ff1 ++ BKw cA aB2 aR2 aL2 aF2 now2 told2 rf2 lf2 ff2 ++ MDw cA cZ aM aS aI aK sf mf kf m0 m1 m2 m3 m4) (W1 := LBw aX aB aB1 aB2 aT aP kp ++ BKw cA aB aR aL aF ((g_X3_pass now y1).2) told rf lf ff) (wsN := LBw aX aB aB1 aB2 aT aP kp ++ PLw aP aB aT q0 q1 q2 q3 q4 q5 q6 q7 q8 ++ BKw cA aB aR aL aF ((g_X3_pass now y1).2) told rf lf ff ++ TRw cA aT aU aG aE sz bf gf ef ++ BKw cA aB1 aR1 aL1 aF1 now1 told1 rf1 lf1 ff1 ++ BKw cA aB2 aR2 aL2 aF2 now2 told2 rf2 lf2 ff2 ++ MDw cA cZ aM aS aI aK sf mf kf m0 m1 m2 m3 m4) (rV (As := [.int y1]) (rest := []) (W0 := LBw aX aB aB1 aB2 aT aP kp ++ BKw cA aB aR aL aF now told rf lf ff) ⟨hx, hb, hml, hown, hts⟩ (c_X3_pass l D cA cZ aX aB aB1 aB2 aT aP aR aL aF H.size kp now told rf lf ff y1) (cwV 1 hts gL_law_X3_pass rfl rfl rfl (by decide +kernel) ⟨Nat.le_of_ble_eq_true rfl, Nat.le_of_ble_eq_true rfl⟩) hP hD hK hN ([0, 2, 3, 4, 5] : List Nat) rfl rfl 3 0 rfl rfl rfl hl.1 rfl (Nat.le_of_ble_eq_true rfl) dL_law_188 ⟨Nat.le_of_ble_eq_true rfl, Nat.le_of_ble_eq_true rfl⟩) hP hD hS hA [0, 2, 3, 4, 5] [1, 6, 7, 8, 9, 10, 11, 12, 13, 14, 15, 16, 17, 18, 19, 20, 21] [17, 0, 18, 19, 20, 21, 1, 2, 3, 4, 5, 6, 7, 8, 9, 10, 11, 12, 13, 14, 15, 16] rfl rfl rfl (by decide) rfl rfl (fun H locs hP hD hS => ?_)
        refine lv_aload_n hx hb dL_law_191 rfl (lv_at hl 2 rfl) ?_
        refine lv_aload_n hx hb dL_law_192 rfl (lv_at hl 0 rfl) ?_
        refine lv_iload_n hx hb dL_law_193 rfl (lv_at hl 3 rfl) ?_
        refine lv_iconst (v := 1) hx hb dL_law_194 (by decide) ?_
        refine lv_iadd hx hb dL_law_195 ?_
        refine va_sld hx hb hX hbl hbA hS h_1 dL_law_196 ?_
        refine lv_eqi y1 e_1.symm ?_
        refine kI (wr := LBw aX aB aB1 aB2 aT aP kp ++ PLw aP aB aT q0 q1 q2 q3 q4 q5 q6 q7 q8 ++ BKw cA aB aR aL aF ((g_X3_pass now y1).2) told rf lf ff ++ TRw cA aT aU aG aE sz bf gf ef ++ BKw cA aB1 aR1 aL1 aF1 now1 told1 rf1 lf1 ff1 ++ BKw cA aB2 aR2 aL2 aF2 now2 told2 rf2 lf2 ff2) (W1 := MDw cA cZ aM aS aI aK ((g_X4_pass sf y1).2) mf kf m0 m1 m2 m3 m4) (wsN := LBw aX aB aB1 aB2 aT aP kp ++ PLw aP aB aT q0 q1 q2 q3 q4 q5 q6 q7 q8 ++ BKw cA aB aR aL aF ((g_X3_pass now y1).2) told rf lf ff ++ TRw cA aT aU aG aE sz bf gf ef ++ BKw cA aB1 aR1 aL1 aF1 now1 told1 rf1 lf1 ff1 ++ BKw cA aB2 aR2 aL2 aF2 now2 told2 rf2 lf2 ff2 ++ MDw cA cZ aM aS aI aK ((g_X4_pass sf y1).2) mf kf m0 m1 m2 m3 m4) (rV (As := [.int y1]) (rest := [.int ((g_X3_pass now y1).1)]) (W0 := MDw cA cZ aM aS aI aK sf mf kf m0 m1 m2 m3 m4) ⟨hx, hb, hml, hown, hts⟩ (c_X4_pass l D cA cZ aM aS aI aK H.size sf mf kf m0 m1 m2 m3 m4 y1) (cwV 1 hts gL_law_X4_pass rfl rfl rfl (by decide +kernel) ⟨Nat.le_of_ble_eq_true rfl, Nat.le_of_ble_eq_true rfl⟩) hP hD hK hN ([18, 19, 20, 21] : List Nat) rfl rfl 4 0 rfl rfl rfl hl.1 rfl (Nat.le_of_ble_eq_true rfl) dL_law_197 ⟨Nat.le_of_ble_eq_true rfl, Nat.le_of_ble_eq_true rfl⟩) hP hD hS hA [18, 19, 20, 21] [0, 1, 2, 3, 4, 5, 6, 7, 8, 9, 10, 11, 12, 13, 14, 15, 16, 17] [0, 1, 2, 3, 4, 5, 6, 7, 8, 9, 10, 11, 12, 13, 14, 15, 16, 17, 18, 19, 20, 21] rfl rfl rfl (by decide) rfl rfl (fun H locs hP hD hS => ?_)
        have hL9 := L_pass hT kp q0 q1 q2 q3 q4 q5 q6 q7 q8 now told rf lf ff sz bf gf ef now1 told1 rf1 lf1 ff1 now2 told2 rf2 lf2 ff2 sf mf kf m0 m1 m2 m3 m4 hSim y1
        refine lv_icmp_eq (tgt := 787) hx hb dL_law_200 (by decide) (fun _ => ?_) (fun c9 => absurd hL9.1 c9)
        refine lv_iinc (v := nI (6 * (k + 1))) (lv' := [(3, .int (nI (6 * (k + 1)))), (0, .ref b), (1, .ref aX), (2, .ref aM)]) hx hb dL_law_787 hl (k := 3) rfl (law_i k) (by decide) rfl (fun ls hl => ?_)
        refine lv_goto (tgt := 18) hx hb dL_law_790 (by decide) ?_
        exact ih (k + 1) kp q0 q1 q2 q3 q4 q5 q6 q7 q8 ((g_X3_pass now y1).2) told rf lf ff sz bf gf ef now1 told1 rf1 lf1 ff1 now2 told2 rf2 lf2 ff2 ((g_X4_pass sf y1).2) mf kf m0 m1 m2 m3 m4 H locs ls hk1 (by omega) (law_T hL9.2) hP hD hS (lv_sub hl [1, 2, 3, 0] rfl)
      rcases Decidable.em (sw = 3) with c_4 | c_4
      · refine lv_tableIn (off := 172) (tgt := 205) hx hb dL_law_33 (by rw [c_4]; decide) (by rw [c_4]; decide) (by rw [c_4]; rfl) (by decide) ?_
        refine lv_aload_n hx hb dL_law_205 rfl (lv_at hl 1 rfl) ?_
        refine lv_aload_n hx hb dL_law_206 rfl (lv_at hl 0 rfl) ?_
        refine lv_iload_n hx hb dL_law_207 rfl (lv_at hl 3 rfl) ?_
        refine lv_iconst (v := 1) hx hb dL_law_208 (by decide) ?_
        refine lv_iadd hx hb dL_law_209 ?_
        refine va_sld hx hb hX hbl hbA hS h_1 dL_law_210 ?_
        refine lv_eqi y1 e_1.symm ?_
        refine lv_aload_n hx hb dL_law_211 rfl (lv_at hl 0 rfl) ?_
        refine lv_iload_n hx hb dL_law_212 rfl (lv_at hl 3 rfl) ?_
        refine lv_iconst (v := 2) hx hb dL_law_213 (by decide) ?_
        refine lv_iadd hx hb dL_law_214 ?_
        refine va_sld hx hb hX hbl hbA hS h_2 dL_law_215 ?_
        refine lv_eqi y2 e_2.symm ?_
        refine lv_aload_n hx hb dL_law_216 rfl (lv_at hl 0 rfl) ?_
        refine lv_iload_n hx hb dL_law_217 rfl (lv_at hl 3 rfl) ?_
        refine lv_iconst (v := 3) hx hb dL_law_218 (by decide) ?_
        refine lv_iadd hx hb dL_law_219 ?_
        refine va_sld hx hb hX hbl hbA hS h_3 dL_law_220 ?_
        refine lv_eqi y3 e_3.symm ?_
        refine lv_aload_n hx hb dL_law_221 rfl (lv_at hl 0 rfl) ?_
        refine lv_iload_n hx hb dL_law_222 rfl (lv_at hl 3 rfl) ?_
        refine lv_iconst (v := 4) hx hb dL_law_223 (by decide) ?_
        refine lv_iadd hx hb dL_law_224 ?_
        refine va_sld hx hb hX hbl hbA hS h_4 dL_law_225 ?_
        refine lv_eqi y4 e_4.symm ?_
        refine lv_aload_n hx hb dL_law_226 rfl (lv_at hl 0 rfl) ?_
        refine lv_iload_n hx hb dL_law_227 rfl (lv_at hl 3 rfl) ?_
        refine lv_iconst (v := 5) hx hb dL_law_228 (by decide) ?_
        refine lv_iadd hx hb dL_law_229 ?_
        refine va_sld hx hb hX hbl hbA hS h_5 dL_law_230 ?_
        refine lv_eqi y5 e_5.symm ?_
        refine kI (wr := BKw cA aB1 aR1 aL1 aF1 now1 told1 rf1 lf1 ff1 ++ BKw cA aB2 aR2 aL2 aF2 now2 told2 rf2 lf2 ff2 ++ MDw cA cZ aM aS aI aK sf mf kf m0 m1 m2 m3 m4) (W1 := LBw aX aB aB1 aB2 aT aP kp ++ PLw aP aB aT ((g_X3_tell q0 q1 q2 q3 q4 q5 q6 q7 q8 now told rf lf ff sz bf gf ef y1 y2 y3 y4 y5).2.1) ((g_X3_tell q0 q1 q2 q3 q4 q5 q6 q7 q8 now told rf lf ff sz bf gf ef y1 y2 y3 y4 y5).2.2.1) ((g_X3_tell q0 q1 q2 q3 q4 q5 q6 q7 q8 now told rf lf ff sz bf gf ef y1 y2 y3 y4 y5).2.2.2.1) ((g_X3_tell q0 q1 q2 q3 q4 q5 q6 q7 q8 now told rf lf ff sz bf gf ef y1 y2 y3 y4 y5).2.2.2.2.1) ((g_X3_tell q0 q1 q2 q3 q4 q5 q6 q7 q8 now told rf lf ff sz bf gf ef y1 y2 y3 y4 y5).2.2.2.2.2.1) ((g_X3_tell q0 q1 q2 q3 q4 q5 q6 q7 q8 now told rf lf ff sz bf gf ef y1 y2 y3 y4 y5).2.2.2.2.2.2.1) ((g_X3_tell q0 q1 q2 q3 q4 q5 q6 q7 q8 now told rf lf ff sz bf gf ef y1 y2 y3 y4 y5).2.2.2.2.2.2.2.1) ((g_X3_tell q0 q1 q2 q3 q4 q5 q6 q7 q8 now told rf lf ff sz bf gf ef y1 y2 y3 y4 y5).2.2.2.2.2.2.2.2.1) ((g_X3_tell q0 q1 q2 q3 q4 q5 q6 q7 q8 now told rf lf ff sz bf gf ef y1 y2 y3 y4 y5).2.2.2.2.2.2.2.2.2.1) ++ BKw cA aB aR aL aF now ((g_X3_tell q0 q1 q2 q3 q4 q5 q6 q7 q8 now told rf lf ff sz bf gf ef y1 y2 y3 y4 y5).2.2.2.2.2.2.2.2.2.2.1) rf lf ((g_X3_tell q0 q1 q2 q3 q4 q5 q6 q7 q8 now told rf lf ff sz bf gf ef y1 y2 y3 y4 y5).2.2.2.2.2.2.2.2.2.2.2.1) ++ TRw cA aT aU aG aE ((g_X3_tell q0 q1 q2 q3 q4 q5 q6 q7 q8 now told rf lf ff sz bf gf ef y1 y2 y3 y4 y5).2.2.2.2.2.2.2.2.2.2.2.2.1) ((g_X3_tell q0 q1 q2 q3 q4 q5 q6 q7 q8 now told rf lf ff sz bf gf ef y1 y2 y3 y4 y5).2.2.2.2.2.2.2.2.2.2.2.2.2.1) ((g_X3_tell q0 q1 q2 q3 q4 q5 q6 q7 q8 now told rf lf ff sz bf gf ef y1 y2 y3 y4 y5).2.2.2.2.2.2.2.2.2.2.2.2.2.2.1) ((g_X3_tell q0 q1 q2 q3 q4 q5 q6 q7 q8 now told rf lf ff sz bf gf ef y1 y2 y3 y4 y5).2.2.2.2.2.2.2.2.2.2.2.2.2.2.2)) (wsN := LBw aX aB aB1 aB2 aT aP kp ++ PLw aP aB aT ((g_X3_tell q0 q1 q2 q3 q4 q5 q6 q7 q8 now told rf lf ff sz bf gf ef y1 y2 y3 y4 y5).2.1) ((g_X3_tell q0 q1 q2 q3 q4 q5 q6 q7 q8 now told rf lf ff sz bf gf ef y1 y2 y3 y4 y5).2.2.1) ((g_X3_tell q0 q1 q2 q3 q4 q5 q6 q7 q8 now told rf lf ff sz bf gf ef y1 y2 y3 y4 y5).2.2.2.1) ((g_X3_tell q0 q1 q2 q3 q4 q5 q6 q7 q8 now told rf lf ff sz bf gf ef y1 y2 y3 y4 y5).2.2.2.2.1) ((g_X3_tell q0 q1 q2 q3 q4 q5 q6 q7 q8 now told rf lf ff sz bf gf ef y1 y2 y3 y4 y5).2.2.2.2.2.1) ((g_X3_tell q0 q1 q2 q3 q4 q5 q6 q7 q8 now told rf lf ff sz bf gf ef y1 y2 y3 y4 y5).2.2.2.2.2.2.1) ((g_X3_tell q0 q1 q2 q3 q4 q5 q6 q7 q8 now told rf lf ff sz bf gf ef y1 y2 y3 y4 y5).2.2.2.2.2.2.2.1) ((g_X3_tell q0 q1 q2 q3 q4 q5 q6 q7 q8 now told rf lf ff sz bf gf ef y1 y2 y3 y4 y5).2.2.2.2.2.2.2.2.1) ((g_X3_tell q0 q1 q2 q3 q4 q5 q6 q7 q8 now told rf lf ff sz bf gf ef y1 y2 y3 y4 y5).2.2.2.2.2.2.2.2.2.1) ++ BKw cA aB aR aL aF now ((g_X3_tell q0 q1 q2 q3 q4 q5 q6 q7 q8 now told rf lf ff sz bf gf ef y1 y2 y3 y4 y5).2.2.2.2.2.2.2.2.2.2.1) rf lf ((g_X3_tell q0 q1 q2 q3 q4 q5 q6 q7 q8 now told rf lf ff sz bf gf ef y1 y2 y3 y4 y5).2.2.2.2.2.2.2.2.2.2.2.1) ++ TRw cA aT aU aG aE ((g_X3_tell q0 q1 q2 q3 q4 q5 q6 q7 q8 now told rf lf ff sz bf gf ef y1 y2 y3 y4 y5).2.2.2.2.2.2.2.2.2.2.2.2.1) ((g_X3_tell q0 q1 q2 q3 q4 q5 q6 q7 q8 now told rf lf ff sz bf gf ef y1 y2 y3 y4 y5).2.2.2.2.2.2.2.2.2.2.2.2.2.1) ((g_X3_tell q0 q1 q2 q3 q4 q5 q6 q7 q8 now told rf lf ff sz bf gf ef y1 y2 y3 y4 y5).2.2.2.2.2.2.2.2.2.2.2.2.2.2.1) ((g_X3_tell q0 q1 q2 q3 q4 q5 q6 q7 q8 now told rf lf ff sz bf gf ef y1 y2 y3 y4 y5).2.2.2.2.2.2.2.2.2.2.2.2.2.2.2) ++ BKw cA aB1 aR1 aL1 aF1 now1 told1 rf1 lf1 ff1 ++ BKw cA aB2 aR2 aL2 aF2 now2 told2 rf2 lf2 ff2 ++ MDw cA cZ aM aS aI aK sf mf kf m0 m1 m2 m3 m4) (rV (As := [.int y1, .int y2, .int y3, .int y4, .int y5]) (rest := []) (W0 := LBw aX aB aB1 aB2 aT aP kp ++ PLw aP aB aT q0 q1 q2 q3 q4 q5 q6 q7 q8 ++ BKw cA aB aR aL aF now told rf lf ff ++ TRw cA aT aU aG aE sz bf gf ef) ⟨hx, hb, hml, hown, hts⟩ (c_X3_tell l D cA cZ aX aB aB1 aB2 aT aP aR aL aF aU aG aE H.size kp q0 q1 q2 q3 q4 q5 q6 q7 q8 now told rf lf ff sz bf gf ef y1 y2 y3 y4 y5) (cwV 5 hts gL_law_X3_tell rfl rfl rfl (by decide +kernel) ⟨Nat.le_of_ble_eq_true rfl, Nat.le_of_ble_eq_true rfl⟩) hP hD hK hN ([0, 1, 2, 3, 4, 5, 6, 7, 8, 9] : List Nat) rfl rfl 3 0 rfl rfl rfl hl.1 rfl (Nat.le_of_ble_eq_true rfl) dL_law_231 ⟨Nat.le_of_ble_eq_true rfl, Nat.le_of_ble_eq_true rfl⟩) hP hD hS hA [0, 1, 2, 3, 4, 5, 6, 7, 8, 9] [10, 11, 12, 13, 14, 15, 16, 17, 18, 19, 20, 21] [12, 13, 14, 15, 16, 17, 18, 19, 20, 21, 0, 1, 2, 3, 4, 5, 6, 7, 8, 9, 10, 11] rfl rfl rfl (by decide) rfl rfl (fun H locs hP hD hS => ?_)
        refine lv_aload_n hx hb dL_law_234 rfl (lv_at hl 2 rfl) ?_
        refine lv_aload_n hx hb dL_law_235 rfl (lv_at hl 0 rfl) ?_
        refine lv_iload_n hx hb dL_law_236 rfl (lv_at hl 3 rfl) ?_
        refine lv_iconst (v := 1) hx hb dL_law_237 (by decide) ?_
        refine lv_iadd hx hb dL_law_238 ?_
        refine va_sld hx hb hX hbl hbA hS h_1 dL_law_239 ?_
        refine lv_eqi y1 e_1.symm ?_
        refine lv_aload_n hx hb dL_law_240 rfl (lv_at hl 0 rfl) ?_
        refine lv_iload_n hx hb dL_law_241 rfl (lv_at hl 3 rfl) ?_
        refine lv_iconst (v := 2) hx hb dL_law_242 (by decide) ?_
        refine lv_iadd hx hb dL_law_243 ?_
        refine va_sld hx hb hX hbl hbA hS h_2 dL_law_244 ?_
        refine lv_eqi y2 e_2.symm ?_
        refine lv_aload_n hx hb dL_law_245 rfl (lv_at hl 0 rfl) ?_
        refine lv_iload_n hx hb dL_law_246 rfl (lv_at hl 3 rfl) ?_
        refine lv_iconst (v := 3) hx hb dL_law_247 (by decide) ?_
        refine lv_iadd hx hb dL_law_248 ?_
        refine va_sld hx hb hX hbl hbA hS h_3 dL_law_249 ?_
        refine lv_eqi y3 e_3.symm ?_
        refine lv_aload_n hx hb dL_law_250 rfl (lv_at hl 0 rfl) ?_
        refine lv_iload_n hx hb dL_law_251 rfl (lv_at hl 3 rfl) ?_
        refine lv_iconst (v := 4) hx hb dL_law_252 (by decide) ?_
        refine lv_iadd hx hb dL_law_253 ?_
        refine va_sld hx hb hX hbl hbA hS h_4 dL_law_254 ?_
        refine lv_eqi y4 e_4.symm ?_
        refine lv_aload_n hx hb dL_law_255 rfl (lv_at hl 0 rfl) ?_
        refine lv_iload_n hx hb dL_law_256 rfl (lv_at hl 3 rfl) ?_
        refine lv_iconst (v := 5) hx hb dL_law_257 (by decide) ?_
        refine lv_iadd hx hb dL_law_258 ?_
        refine va_sld hx hb hX hbl hbA hS h_5 dL_law_259 ?_
        refine lv_eqi y5 e_5.symm ?_
        refine kI (wr := LBw aX aB aB1 aB2 aT aP kp ++ PLw aP aB aT ((g_X3_tell q0 q1 q2 q3 q4 q5 q6 q7 q8 now told rf lf ff sz bf gf ef y1 y2 y3 y4 y5).2.1) ((g_X3_tell q0 q1 q2 q3 q4 q5 q6 q7 q8 now told rf lf ff sz bf gf ef y1 y2 y3 y4 y5).2.2.1) ((g_X3_tell q0 q1 q2 q3 q4 q5 q6 q7 q8 now told rf lf ff sz bf gf ef y1 y2 y3 y4 y5).2.2.2.1) ((g_X3_tell q0 q1 q2 q3 q4 q5 q6 q7 q8 now told rf lf ff sz bf gf ef y1 y2 y3 y4 y5).2.2.2.2.1) ((g_X3_tell q0 q1 q2 q3 q4 q5 q6 q7 q8 now told rf lf ff sz bf gf ef y1 y2 y3 y4 y5).2.2.2.2.2.1) ((g_X3_tell q0 q1 q2 q3 q4 q5 q6 q7 q8 now told rf lf ff sz bf gf ef y1 y2 y3 y4 y5).2.2.2.2.2.2.1) ((g_X3_tell q0 q1 q2 q3 q4 q5 q6 q7 q8 now told rf lf ff sz bf gf ef y1 y2 y3 y4 y5).2.2.2.2.2.2.2.1) ((g_X3_tell q0 q1 q2 q3 q4 q5 q6 q7 q8 now told rf lf ff sz bf gf ef y1 y2 y3 y4 y5).2.2.2.2.2.2.2.2.1) ((g_X3_tell q0 q1 q2 q3 q4 q5 q6 q7 q8 now told rf lf ff sz bf gf ef y1 y2 y3 y4 y5).2.2.2.2.2.2.2.2.2.1) ++ BKw cA aB aR aL aF now ((g_X3_tell q0 q1 q2 q3 q4 q5 q6 q7 q8 now told rf lf ff sz bf gf ef y1 y2 y3 y4 y5).2.2.2.2.2.2.2.2.2.2.1) rf lf ((g_X3_tell q0 q1 q2 q3 q4 q5 q6 q7 q8 now told rf lf ff sz bf gf ef y1 y2 y3 y4 y5).2.2.2.2.2.2.2.2.2.2.2.1) ++ TRw cA aT aU aG aE ((g_X3_tell q0 q1 q2 q3 q4 q5 q6 q7 q8 now told rf lf ff sz bf gf ef y1 y2 y3 y4 y5).2.2.2.2.2.2.2.2.2.2.2.2.1) ((g_X3_tell q0 q1 q2 q3 q4 q5 q6 q7 q8 now told rf lf ff sz bf gf ef y1 y2 y3 y4 y5).2.2.2.2.2.2.2.2.2.2.2.2.2.1) ((g_X3_tell q0 q1 q2 q3 q4 q5 q6 q7 q8 now told rf lf ff sz bf gf ef y1 y2 y3 y4 y5).2.2.2.2.2.2.2.2.2.2.2.2.2.2.1) ((g_X3_tell q0 q1 q2 q3 q4 q5 q6 q7 q8 now told rf lf ff sz bf gf ef y1 y2 y3 y4 y5).2.2.2.2.2.2.2.2.2.2.2.2.2.2.2) ++ BKw cA aB1 aR1 aL1 aF1 now1 told1 rf1 lf1 ff1 ++ BKw cA aB2 aR2 aL2 aF2 now2 told2 rf2 lf2 ff2) (W1 := MDw cA cZ aM aS aI aK ((g_X4_tell sf m0 m1 m2 m3 m4 y1 y2 y3 y4 y5).2.1) mf kf ((g_X4_tell sf m0 m1 m2 m3 m4 y1 y2 y3 y4 y5).2.2.1) ((g_X4_tell sf m0 m1 m2 m3 m4 y1 y2 y3 y4 y5).2.2.2.1) ((g_X4_tell sf m0 m1 m2 m3 m4 y1 y2 y3 y4 y5).2.2.2.2.1) ((g_X4_tell sf m0 m1 m2 m3 m4 y1 y2 y3 y4 y5).2.2.2.2.2.1) ((g_X4_tell sf m0 m1 m2 m3 m4 y1 y2 y3 y4 y5).2.2.2.2.2.2)) (wsN := LBw aX aB aB1 aB2 aT aP kp ++ PLw aP aB aT ((g_X3_tell q0 q1 q2 q3 q4 q5 q6 q7 q8 now told rf lf ff sz bf gf ef y1 y2 y3 y4 y5).2.1) ((g_X3_tell q0 q1 q2 q3 q4 q5 q6 q7 q8 now told rf lf ff sz bf gf ef y1 y2 y3 y4 y5).2.2.1) ((g_X3_tell q0 q1 q2 q3 q4 q5 q6 q7 q8 now told rf lf ff sz bf gf ef y1 y2 y3 y4 y5).2.2.2.1) ((g_X3_tell q0 q1 q2 q3 q4 q5 q6 q7 q8 now told rf lf ff sz bf gf ef y1 y2 y3 y4 y5).2.2.2.2.1) ((g_X3_tell q0 q1 q2 q3 q4 q5 q6 q7 q8 now told rf lf ff sz bf gf ef y1 y2 y3 y4 y5).2.2.2.2.2.1) ((g_X3_tell q0 q1 q2 q3 q4 q5 q6 q7 q8 now told rf lf ff sz bf gf ef y1 y2 y3 y4 y5).2.2.2.2.2.2.1) ((g_X3_tell q0 q1 q2 q3 q4 q5 q6 q7 q8 now told rf lf ff sz bf gf ef y1 y2 y3 y4 y5).2.2.2.2.2.2.2.1) ((g_X3_tell q0 q1 q2 q3 q4 q5 q6 q7 q8 now told rf lf ff sz bf gf ef y1 y2 y3 y4 y5).2.2.2.2.2.2.2.2.1) ((g_X3_tell q0 q1 q2 q3 q4 q5 q6 q7 q8 now told rf lf ff sz bf gf ef y1 y2 y3 y4 y5).2.2.2.2.2.2.2.2.2.1) ++ BKw cA aB aR aL aF now ((g_X3_tell q0 q1 q2 q3 q4 q5 q6 q7 q8 now told rf lf ff sz bf gf ef y1 y2 y3 y4 y5).2.2.2.2.2.2.2.2.2.2.1) rf lf ((g_X3_tell q0 q1 q2 q3 q4 q5 q6 q7 q8 now told rf lf ff sz bf gf ef y1 y2 y3 y4 y5).2.2.2.2.2.2.2.2.2.2.2.1) ++ TRw cA aT aU aG aE ((g_X3_tell q0 q1 q2 q3 q4 q5 q6 q7 q8 now told rf lf ff sz bf gf ef y1 y2 y3 y4 y5).2.2.2.2.2.2.2.2.2.2.2.2.1) ((g_X3_tell q0 q1 q2 q3 q4 q5 q6 q7 q8 now told rf lf ff sz bf gf ef y1 y2 y3 y4 y5).2.2.2.2.2.2.2.2.2.2.2.2.2.1) ((g_X3_tell q0 q1 q2 q3 q4 q5 q6 q7 q8 now told rf lf ff sz bf gf ef y1 y2 y3 y4 y5).2.2.2.2.2.2.2.2.2.2.2.2.2.2.1) ((g_X3_tell q0 q1 q2 q3 q4 q5 q6 q7 q8 now told rf lf ff sz bf gf ef y1 y2 y3 y4 y5).2.2.2.2.2.2.2.2.2.2.2.2.2.2.2) ++ BKw cA aB1 aR1 aL1 aF1 now1 told1 rf1 lf1 ff1 ++ BKw cA aB2 aR2 aL2 aF2 now2 told2 rf2 lf2 ff2 ++ MDw cA cZ aM aS aI aK ((g_X4_tell sf m0 m1 m2 m3 m4 y1 y2 y3 y4 y5).2.1) mf kf ((g_X4_tell sf m0 m1 m2 m3 m4 y1 y2 y3 y4 y5).2.2.1) ((g_X4_tell sf m0 m1 m2 m3 m4 y1 y2 y3 y4 y5).2.2.2.1) ((g_X4_tell sf m0 m1 m2 m3 m4 y1 y2 y3 y4 y5).2.2.2.2.1) ((g_X4_tell sf m0 m1 m2 m3 m4 y1 y2 y3 y4 y5).2.2.2.2.2.1) ((g_X4_tell sf m0 m1 m2 m3 m4 y1 y2 y3 y4 y5).2.2.2.2.2.2)) (rV (As := [.int y1, .int y2, .int y3, .int y4, .int y5]) (rest := [.int ((g_X3_tell q0 q1 q2 q3 q4 q5 q6 q7 q8 now told rf lf ff sz bf gf ef y1 y2 y3 y4 y5).1)]) (W0 := MDw cA cZ aM aS aI aK sf mf kf m0 m1 m2 m3 m4) ⟨hx, hb, hml, hown, hts⟩ (c_X4_tell l D cA cZ aM aS aI aK H.size sf mf kf m0 m1 m2 m3 m4 y1 y2 y3 y4 y5 hm hm0) (cwV 5 hts gL_law_X4_tell rfl rfl rfl (by decide +kernel) ⟨Nat.le_of_ble_eq_true rfl, Nat.le_of_ble_eq_true rfl⟩) hP hD hK hN ([18, 19, 20, 21] : List Nat) rfl rfl 4 0 rfl rfl rfl hl.1 rfl (Nat.le_of_ble_eq_true rfl) dL_law_260 ⟨Nat.le_of_ble_eq_true rfl, Nat.le_of_ble_eq_true rfl⟩) hP hD hS hA [18, 19, 20, 21] [0, 1, 2, 3, 4, 5, 6, 7, 8, 9, 10, 11, 12, 13, 14, 15, 16, 17] [0, 1, 2, 3, 4, 5, 6, 7, 8, 9, 10, 11, 12, 13, 14, 15, 16, 17, 18, 19, 20, 21] rfl rfl rfl (by decide) rfl rfl (fun H locs hP hD hS => ?_)
        have hL9 := L_tell hT kp q0 q1 q2 q3 q4 q5 q6 q7 q8 now told rf lf ff sz bf gf ef now1 told1 rf1 lf1 ff1 now2 told2 rf2 lf2 ff2 sf mf kf m0 m1 m2 m3 m4 hSim y1 y2 y3 y4 y5
        refine lv_icmp_eq (tgt := 787) hx hb dL_law_263 (by decide) (fun _ => ?_) (fun c9 => absurd hL9.1 c9)
        refine lv_iinc (v := nI (6 * (k + 1))) (lv' := [(3, .int (nI (6 * (k + 1)))), (0, .ref b), (1, .ref aX), (2, .ref aM)]) hx hb dL_law_787 hl (k := 3) rfl (law_i k) (by decide) rfl (fun ls hl => ?_)
        refine lv_goto (tgt := 18) hx hb dL_law_790 (by decide) ?_
        exact ih (k + 1) kp ((g_X3_tell q0 q1 q2 q3 q4 q5 q6 q7 q8 now told rf lf ff sz bf gf ef y1 y2 y3 y4 y5).2.1) ((g_X3_tell q0 q1 q2 q3 q4 q5 q6 q7 q8 now told rf lf ff sz bf gf ef y1 y2 y3 y4 y5).2.2.1) ((g_X3_tell q0 q1 q2 q3 q4 q5 q6 q7 q8 now told rf lf ff sz bf gf ef y1 y2 y3 y4 y5).2.2.2.1) ((g_X3_tell q0 q1 q2 q3 q4 q5 q6 q7 q8 now told rf lf ff sz bf gf ef y1 y2 y3 y4 y5).2.2.2.2.1) ((g_X3_tell q0 q1 q2 q3 q4 q5 q6 q7 q8 now told rf lf ff sz bf gf ef y1 y2 y3 y4 y5).2.2.2.2.2.1) ((g_X3_tell q0 q1 q2 q3 q4 q5 q6 q7 q8 now told rf lf ff sz bf gf ef y1 y2 y3 y4 y5).2.2.2.2.2.2.1) ((g_X3_tell q0 q1 q2 q3 q4 q5 q6 q7 q8 now told rf lf ff sz bf gf ef y1 y2 y3 y4 y5).2.2.2.2.2.2.2.1) ((g_X3_tell q0 q1 q2 q3 q4 q5 q6 q7 q8 now told rf lf ff sz bf gf ef y1 y2 y3 y4 y5).2.2.2.2.2.2.2.2.1) ((g_X3_tell q0 q1 q2 q3 q4 q5 q6 q7 q8 now told rf lf ff sz bf gf ef y1 y2 y3 y4 y5).2.2.2.2.2.2.2.2.2.1) now ((g_X3_tell q0 q1 q2 q3 q4 q5 q6 q7 q8 now told rf lf ff sz bf gf ef y1 y2 y3 y4 y5).2.2.2.2.2.2.2.2.2.2.1) rf lf ((g_X3_tell q0 q1 q2 q3 q4 q5 q6 q7 q8 now told rf lf ff sz bf gf ef y1 y2 y3 y4 y5).2.2.2.2.2.2.2.2.2.2.2.1) ((g_X3_tell q0 q1 q2 q3 q4 q5 q6 q7 q8 now told rf lf ff sz bf gf ef y1 y2 y3 y4 y5).2.2.2.2.2.2.2.2.2.2.2.2.1) ((g_X3_tell q0 q1 q2 q3 q4 q5 q6 q7 q8 now told rf lf ff sz bf gf ef y1 y2 y3 y4 y5).2.2.2.2.2.2.2.2.2.2.2.2.2.1) ((g_X3_tell q0 q1 q2 q3 q4 q5 q6 q7 q8 now told rf lf ff sz bf gf ef y1 y2 y3 y4 y5).2.2.2.2.2.2.2.2.2.2.2.2.2.2.1) ((g_X3_tell q0 q1 q2 q3 q4 q5 q6 q7 q8 now told rf lf ff sz bf gf ef y1 y2 y3 y4 y5).2.2.2.2.2.2.2.2.2.2.2.2.2.2.2) now1 told1 rf1 lf1 ff1 now2 told2 rf2 lf2 ff2 ((g_X4_tell sf m0 m1 m2 m3 m4 y1 y2 y3 y4 y5).2.1) mf kf ((g_X4_tell sf m0 m1 m2 m3 m4 y1 y2 y3 y4 y5).2.2.1) ((g_X4_tell sf m0 m1 m2 m3 m4 y1 y2 y3 y4 y5).2.2.2.1) ((g_X4_tell sf m0 m1 m2 m3 m4 y1 y2 y3 y4 y5).2.2.2.2.1) ((g_X4_tell sf m0 m1 m2 m3 m4 y1 y2 y3 y4 y5).2.2.2.2.2.1) ((g_X4_tell sf m0 m1 m2 m3 m4 y1 y2 y3 y4 y5).2.2.2.2.2.2) H locs ls hk1 (by omega) (law_T hL9.2) hP hD hS (lv_sub hl [1, 2, 3, 0] rfl)
      rcases Decidable.em (sw = 4) with c_5 | c_5
      · refine lv_tableIn (off := 235) (tgt := 268) hx hb dL_law_33 (by rw [c_5]; decide) (by rw [c_5]; decide) (by rw [c_5]; rfl) (by decide) ?_
        refine lv_aload_n hx hb dL_law_268 rfl (lv_at hl 1 rfl) ?_
        refine lv_aload_n hx hb dL_law_269 rfl (lv_at hl 0 rfl) ?_
        refine lv_iload_n hx hb dL_law_270 rfl (lv_at hl 3 rfl) ?_
        refine lv_iconst (v := 1) hx hb dL_law_271 (by decide) ?_
        refine lv_iadd hx hb dL_law_272 ?_
        refine va_sld hx hb hX hbl hbA hS h_1 dL_law_273 ?_
        refine lv_eqi y1 e_1.symm ?_
        refine lv_aload_n hx hb dL_law_274 rfl (lv_at hl 0 rfl) ?_
        refine lv_iload_n hx hb dL_law_275 rfl (lv_at hl 3 rfl) ?_
        refine lv_iconst (v := 2) hx hb dL_law_276 (by decide) ?_
        refine lv_iadd hx hb dL_law_277 ?_
        refine va_sld hx hb hX hbl hbA hS h_2 dL_law_278 ?_
        refine lv_eqi y2 e_2.symm ?_
        refine lv_aload_n hx hb dL_law_279 rfl (lv_at hl 0 rfl) ?_
        refine lv_iload_n hx hb dL_law_280 rfl (lv_at hl 3 rfl) ?_
        refine lv_iconst (v := 3) hx hb dL_law_281 (by decide) ?_
        refine lv_iadd hx hb dL_law_282 ?_
        refine va_sld hx hb hX hbl hbA hS h_3 dL_law_283 ?_
        refine lv_eqi y3 e_3.symm ?_
        refine lv_aload_n hx hb dL_law_284 rfl (lv_at hl 0 rfl) ?_
        refine lv_iload_n hx hb dL_law_285 rfl (lv_at hl 3 rfl) ?_
        refine lv_iconst (v := 4) hx hb dL_law_286 (by decide) ?_
        refine lv_iadd hx hb dL_law_287 ?_
        refine va_sld hx hb hX hbl hbA hS h_4 dL_law_288 ?_
        refine lv_eqi y4 e_4.symm ?_
        refine lv_aload_n hx hb dL_law_289 rfl (lv_at hl 0 rfl) ?_
        refine lv_iload_n hx hb dL_law_290 rfl (lv_at hl 3 rfl) ?_
        refine lv_iconst (v := 5) hx hb dL_law_291 (by decide) ?_
        refine lv_iadd hx hb dL_law_292 ?_
        refine va_sld hx hb hX hbl hbA hS h_5 dL_law_293 ?_
        refine lv_eqi y5 e_5.symm ?_
        refine kI (wr := BKw cA aB1 aR1 aL1 aF1 now1 told1 rf1 lf1 ff1 ++ BKw cA aB2 aR2 aL2 aF2 now2 told2 rf2 lf2 ff2 ++ MDw cA cZ aM aS aI aK sf mf kf m0 m1 m2 m3 m4) (W1 := LBw aX aB aB1 aB2 aT aP kp ++ PLw aP aB aT ((g_X3_would q0 q1 q2 q3 q4 q5 q6 q7 q8 now told rf lf ff sz bf gf ef y1 y2 y3 y4 y5).2.1) ((g_X3_would q0 q1 q2 q3 q4 q5 q6 q7 q8 now told rf lf ff sz bf gf ef y1 y2 y3 y4 y5).2.2.1) ((g_X3_would q0 q1 q2 q3 q4 q5 q6 q7 q8 now told rf lf ff sz bf gf ef y1 y2 y3 y4 y5).2.2.2.1) ((g_X3_would q0 q1 q2 q3 q4 q5 q6 q7 q8 now told rf lf ff sz bf gf ef y1 y2 y3 y4 y5).2.2.2.2.1) ((g_X3_would q0 q1 q2 q3 q4 q5 q6 q7 q8 now told rf lf ff sz bf gf ef y1 y2 y3 y4 y5).2.2.2.2.2.1) ((g_X3_would q0 q1 q2 q3 q4 q5 q6 q7 q8 now told rf lf ff sz bf gf ef y1 y2 y3 y4 y5).2.2.2.2.2.2.1) ((g_X3_would q0 q1 q2 q3 q4 q5 q6 q7 q8 now told rf lf ff sz bf gf ef y1 y2 y3 y4 y5).2.2.2.2.2.2.2.1) ((g_X3_would q0 q1 q2 q3 q4 q5 q6 q7 q8 now told rf lf ff sz bf gf ef y1 y2 y3 y4 y5).2.2.2.2.2.2.2.2.1) ((g_X3_would q0 q1 q2 q3 q4 q5 q6 q7 q8 now told rf lf ff sz bf gf ef y1 y2 y3 y4 y5).2.2.2.2.2.2.2.2.2.1) ++ BKw cA aB aR aL aF now told rf lf ff ++ TRw cA aT aU aG aE ((g_X3_would q0 q1 q2 q3 q4 q5 q6 q7 q8 now told rf lf ff sz bf gf ef y1 y2 y3 y4 y5).2.2.2.2.2.2.2.2.2.2.1) ((g_X3_would q0 q1 q2 q3 q4 q5 q6 q7 q8 now told rf lf ff sz bf gf ef y1 y2 y3 y4 y5).2.2.2.2.2.2.2.2.2.2.2.1) ((g_X3_would q0 q1 q2 q3 q4 q5 q6 q7 q8 now told rf lf ff sz bf gf ef y1 y2 y3 y4 y5).2.2.2.2.2.2.2.2.2.2.2.2.1) ((g_X3_would q0 q1 q2 q3 q4 q5 q6 q7 q8 now told rf lf ff sz bf gf ef y1 y2 y3 y4 y5).2.2.2.2.2.2.2.2.2.2.2.2.2)) (wsN := LBw aX aB aB1 aB2 aT aP kp ++ PLw aP aB aT ((g_X3_would q0 q1 q2 q3 q4 q5 q6 q7 q8 now told rf lf ff sz bf gf ef y1 y2 y3 y4 y5).2.1) ((g_X3_would q0 q1 q2 q3 q4 q5 q6 q7 q8 now told rf lf ff sz bf gf ef y1 y2 y3 y4 y5).2.2.1) ((g_X3_would q0 q1 q2 q3 q4 q5 q6 q7 q8 now told rf lf ff sz bf gf ef y1 y2 y3 y4 y5).2.2.2.1) ((g_X3_would q0 q1 q2 q3 q4 q5 q6 q7 q8 now told rf lf ff sz bf gf ef y1 y2 y3 y4 y5).2.2.2.2.1) ((g_X3_would q0 q1 q2 q3 q4 q5 q6 q7 q8 now told rf lf ff sz bf gf ef y1 y2 y3 y4 y5).2.2.2.2.2.1) ((g_X3_would q0 q1 q2 q3 q4 q5 q6 q7 q8 now told rf lf ff sz bf gf ef y1 y2 y3 y4 y5).2.2.2.2.2.2.1) ((g_X3_would q0 q1 q2 q3 q4 q5 q6 q7 q8 now told rf lf ff sz bf gf ef y1 y2 y3 y4 y5).2.2.2.2.2.2.2.1) ((g_X3_would q0 q1 q2 q3 q4 q5 q6 q7 q8 now told rf lf ff sz bf gf ef y1 y2 y3 y4 y5).2.2.2.2.2.2.2.2.1) ((g_X3_would q0 q1 q2 q3 q4 q5 q6 q7 q8 now told rf lf ff sz bf gf ef y1 y2 y3 y4 y5).2.2.2.2.2.2.2.2.2.1) ++ BKw cA aB aR aL aF now told rf lf ff ++ TRw cA aT aU aG aE ((g_X3_would q0 q1 q2 q3 q4 q5 q6 q7 q8 now told rf lf ff sz bf gf ef y1 y2 y3 y4 y5).2.2.2.2.2.2.2.2.2.2.1) ((g_X3_would q0 q1 q2 q3 q4 q5 q6 q7 q8 now told rf lf ff sz bf gf ef y1 y2 y3 y4 y5).2.2.2.2.2.2.2.2.2.2.2.1) ((g_X3_would q0 q1 q2 q3 q4 q5 q6 q7 q8 now told rf lf ff sz bf gf ef y1 y2 y3 y4 y5).2.2.2.2.2.2.2.2.2.2.2.2.1) ((g_X3_would q0 q1 q2 q3 q4 q5 q6 q7 q8 now told rf lf ff sz bf gf ef y1 y2 y3 y4 y5).2.2.2.2.2.2.2.2.2.2.2.2.2) ++ BKw cA aB1 aR1 aL1 aF1 now1 told1 rf1 lf1 ff1 ++ BKw cA aB2 aR2 aL2 aF2 now2 told2 rf2 lf2 ff2 ++ MDw cA cZ aM aS aI aK sf mf kf m0 m1 m2 m3 m4) (rV (As := [.int y1, .int y2, .int y3, .int y4, .int y5]) (rest := []) (W0 := LBw aX aB aB1 aB2 aT aP kp ++ PLw aP aB aT q0 q1 q2 q3 q4 q5 q6 q7 q8 ++ BKw cA aB aR aL aF now told rf lf ff ++ TRw cA aT aU aG aE sz bf gf ef) ⟨hx, hb, hml, hown, hts⟩ (c_X3_would l D cA cZ aX aB aB1 aB2 aT aP aR aL aF aU aG aE H.size kp q0 q1 q2 q3 q4 q5 q6 q7 q8 now told rf lf ff sz bf gf ef y1 y2 y3 y4 y5) (cwV 5 hts gL_law_X3_would rfl rfl rfl (by decide +kernel) ⟨Nat.le_of_ble_eq_true rfl, Nat.le_of_ble_eq_true rfl⟩) hP hD hK hN ([0, 1, 2, 3, 4, 5, 6, 7, 8, 9] : List Nat) rfl rfl 3 0 rfl rfl rfl hl.1 rfl (Nat.le_of_ble_eq_true rfl) dL_law_294 ⟨Nat.le_of_ble_eq_true rfl, Nat.le_of_ble_eq_true rfl⟩) hP hD hS hA [0, 1, 2, 3, 4, 5, 6, 7, 8, 9] [10, 11, 12, 13, 14, 15, 16, 17, 18, 19, 20, 21] [12, 13, 14, 15, 16, 17, 18, 19, 20, 21, 0, 1, 2, 3, 4, 5, 6, 7, 8, 9, 10, 11] rfl rfl rfl (by decide) rfl rfl (fun H locs hP hD hS => ?_)
        refine lv_aload_n hx hb dL_law_297 rfl (lv_at hl 2 rfl) ?_
        refine lv_aload_n hx hb dL_law_298 rfl (lv_at hl 0 rfl) ?_
        refine lv_iload_n hx hb dL_law_299 rfl (lv_at hl 3 rfl) ?_
        refine lv_iconst (v := 1) hx hb dL_law_300 (by decide) ?_
        refine lv_iadd hx hb dL_law_301 ?_
        refine va_sld hx hb hX hbl hbA hS h_1 dL_law_302 ?_
        refine lv_eqi y1 e_1.symm ?_
        refine lv_aload_n hx hb dL_law_303 rfl (lv_at hl 0 rfl) ?_
        refine lv_iload_n hx hb dL_law_304 rfl (lv_at hl 3 rfl) ?_
        refine lv_iconst (v := 2) hx hb dL_law_305 (by decide) ?_
        refine lv_iadd hx hb dL_law_306 ?_
        refine va_sld hx hb hX hbl hbA hS h_2 dL_law_307 ?_
        refine lv_eqi y2 e_2.symm ?_
        refine lv_aload_n hx hb dL_law_308 rfl (lv_at hl 0 rfl) ?_
        refine lv_iload_n hx hb dL_law_309 rfl (lv_at hl 3 rfl) ?_
        refine lv_iconst (v := 3) hx hb dL_law_310 (by decide) ?_
        refine lv_iadd hx hb dL_law_311 ?_
        refine va_sld hx hb hX hbl hbA hS h_3 dL_law_312 ?_
        refine lv_eqi y3 e_3.symm ?_
        refine lv_aload_n hx hb dL_law_313 rfl (lv_at hl 0 rfl) ?_
        refine lv_iload_n hx hb dL_law_314 rfl (lv_at hl 3 rfl) ?_
        refine lv_iconst (v := 4) hx hb dL_law_315 (by decide) ?_
        refine lv_iadd hx hb dL_law_316 ?_
        refine va_sld hx hb hX hbl hbA hS h_4 dL_law_317 ?_
        refine lv_eqi y4 e_4.symm ?_
        refine lv_aload_n hx hb dL_law_318 rfl (lv_at hl 0 rfl) ?_
        refine lv_iload_n hx hb dL_law_319 rfl (lv_at hl 3 rfl) ?_
        refine lv_iconst (v := 5) hx hb dL_law_320 (by decide) ?_
        refine lv_iadd hx hb dL_law_321 ?_
        refine va_sld hx hb hX hbl hbA hS h_5 dL_law_322 ?_
        refine lv_eqi y5 e_5.symm ?_
        refine kI (wr := LBw aX aB aB1 aB2 aT aP kp ++ PLw aP aB aT ((g_X3_would q0 q1 q2 q3 q4 q5 q6 q7 q8 now told rf lf ff sz bf gf ef y1 y2 y3 y4 y5).2.1) ((g_X3_would q0 q1 q2 q3 q4 q5 q6 q7 q8 now told rf lf ff sz bf gf ef y1 y2 y3 y4 y5).2.2.1) ((g_X3_would q0 q1 q2 q3 q4 q5 q6 q7 q8 now told rf lf ff sz bf gf ef y1 y2 y3 y4 y5).2.2.2.1) ((g_X3_would q0 q1 q2 q3 q4 q5 q6 q7 q8 now told rf lf ff sz bf gf ef y1 y2 y3 y4 y5).2.2.2.2.1) ((g_X3_would q0 q1 q2 q3 q4 q5 q6 q7 q8 now told rf lf ff sz bf gf ef y1 y2 y3 y4 y5).2.2.2.2.2.1) ((g_X3_would q0 q1 q2 q3 q4 q5 q6 q7 q8 now told rf lf ff sz bf gf ef y1 y2 y3 y4 y5).2.2.2.2.2.2.1) ((g_X3_would q0 q1 q2 q3 q4 q5 q6 q7 q8 now told rf lf ff sz bf gf ef y1 y2 y3 y4 y5).2.2.2.2.2.2.2.1) ((g_X3_would q0 q1 q2 q3 q4 q5 q6 q7 q8 now told rf lf ff sz bf gf ef y1 y2 y3 y4 y5).2.2.2.2.2.2.2.2.1) ((g_X3_would q0 q1 q2 q3 q4 q5 q6 q7 q8 now told rf lf ff sz bf gf ef y1 y2 y3 y4 y5).2.2.2.2.2.2.2.2.2.1) ++ BKw cA aB aR aL aF now told rf lf ff ++ TRw cA aT aU aG aE ((g_X3_would q0 q1 q2 q3 q4 q5 q6 q7 q8 now told rf lf ff sz bf gf ef y1 y2 y3 y4 y5).2.2.2.2.2.2.2.2.2.2.1) ((g_X3_would q0 q1 q2 q3 q4 q5 q6 q7 q8 now told rf lf ff sz bf gf ef y1 y2 y3 y4 y5).2.2.2.2.2.2.2.2.2.2.2.1) ((g_X3_would q0 q1 q2 q3 q4 q5 q6 q7 q8 now told rf lf ff sz bf gf ef y1 y2 y3 y4 y5).2.2.2.2.2.2.2.2.2.2.2.2.1) ((g_X3_would q0 q1 q2 q3 q4 q5 q6 q7 q8 now told rf lf ff sz bf gf ef y1 y2 y3 y4 y5).2.2.2.2.2.2.2.2.2.2.2.2.2) ++ BKw cA aB1 aR1 aL1 aF1 now1 told1 rf1 lf1 ff1 ++ BKw cA aB2 aR2 aL2 aF2 now2 told2 rf2 lf2 ff2) (W1 := MDw cA cZ aM aS aI aK sf mf kf ((g_X4_would sf m0 m1 m2 m3 m4 y1 y2 y3 y4 y5).2.1) ((g_X4_would sf m0 m1 m2 m3 m4 y1 y2 y3 y4 y5).2.2.1) ((g_X4_would sf m0 m1 m2 m3 m4 y1 y2 y3 y4 y5).2.2.2.1) ((g_X4_would sf m0 m1 m2 m3 m4 y1 y2 y3 y4 y5).2.2.2.2.1) ((g_X4_would sf m0 m1 m2 m3 m4 y1 y2 y3 y4 y5).2.2.2.2.2)) (wsN := LBw aX aB aB1 aB2 aT aP kp ++ PLw aP aB aT ((g_X3_would q0 q1 q2 q3 q4 q5 q6 q7 q8 now told rf lf ff sz bf gf ef y1 y2 y3 y4 y5).2.1) ((g_X3_would q0 q1 q2 q3 q4 q5 q6 q7 q8 now told rf lf ff sz bf gf ef y1 y2 y3 y4 y5).2.2.1) ((g_X3_would q0 q1 q2 q3 q4 q5 q6 q7 q8 now told rf lf ff sz bf gf ef y1 y2 y3 y4 y5).2.2.2.1) ((g_X3_would q0 q1 q2 q3 q4 q5 q6 q7 q8 now told rf lf ff sz bf gf ef y1 y2 y3 y4 y5).2.2.2.2.1) ((g_X3_would q0 q1 q2 q3 q4 q5 q6 q7 q8 now told rf lf ff sz bf gf ef y1 y2 y3 y4 y5).2.2.2.2.2.1) ((g_X3_would q0 q1 q2 q3 q4 q5 q6 q7 q8 now told rf lf ff sz bf gf ef y1 y2 y3 y4 y5).2.2.2.2.2.2.1) ((g_X3_would q0 q1 q2 q3 q4 q5 q6 q7 q8 now told rf lf ff sz bf gf ef y1 y2 y3 y4 y5).2.2.2.2.2.2.2.1) ((g_X3_would q0 q1 q2 q3 q4 q5 q6 q7 q8 now told rf lf ff sz bf gf ef y1 y2 y3 y4 y5).2.2.2.2.2.2.2.2.1) ((g_X3_would q0 q1 q2 q3 q4 q5 q6 q7 q8 now told rf lf ff sz bf gf ef y1 y2 y3 y4 y5).2.2.2.2.2.2.2.2.2.1) ++ BKw cA aB aR aL aF now told rf lf ff ++ TRw cA aT aU aG aE ((g_X3_would q0 q1 q2 q3 q4 q5 q6 q7 q8 now told rf lf ff sz bf gf ef y1 y2 y3 y4 y5).2.2.2.2.2.2.2.2.2.2.1) ((g_X3_would q0 q1 q2 q3 q4 q5 q6 q7 q8 now told rf lf ff sz bf gf ef y1 y2 y3 y4 y5).2.2.2.2.2.2.2.2.2.2.2.1) ((g_X3_would q0 q1 q2 q3 q4 q5 q6 q7 q8 now told rf lf ff sz bf gf ef y1 y2 y3 y4 y5).2.2.2.2.2.2.2.2.2.2.2.2.1) ((g_X3_would q0 q1 q2 q3 q4 q5 q6 q7 q8 now told rf lf ff sz bf gf ef y1 y2 y3 y4 y5).2.2.2.2.2.2.2.2.2.2.2.2.2) ++ BKw cA aB1 aR1 aL1 aF1 now1 told1 rf1 lf1 ff1 ++ BKw cA aB2 aR2 aL2 aF2 now2 told2 rf2 lf2 ff2 ++ MDw cA cZ aM aS aI aK sf mf kf ((g_X4_would sf m0 m1 m2 m3 m4 y1 y2 y3 y4 y5).2.1) ((g_X4_would sf m0 m1 m2 m3 m4 y1 y2 y3 y4 y5).2.2.1) ((g_X4_would sf m0 m1 m2 m3 m4 y1 y2 y3 y4 y5).2.2.2.1) ((g_X4_would sf m0 m1 m2 m3 m4 y1 y2 y3 y4 y5).2.2.2.2.1) ((g_X4_would sf m0 m1 m2 m3 m4 y1 y2 y3 y4 y5).2.2.2.2.2)) (rV (As := [.int y1, .int y2, .int y3, .int y4, .int y5]) (rest := [.int ((g_X3_would q0 q1 q2 q3 q4 q5 q6 q7 q8 now told rf lf ff sz bf gf ef y1 y2 y3 y4 y5).1)]) (W0 := MDw cA cZ aM aS aI aK sf mf kf m0 m1 m2 m3 m4) ⟨hx, hb, hml, hown, hts⟩ (c_X4_would l D cA cZ aM aS aI aK H.size sf mf kf m0 m1 m2 m3 m4 y1 y2 y3 y4 y5 hm) (cwV 5 hts gL_law_X4_would rfl rfl rfl (by decide +kernel) ⟨Nat.le_of_ble_eq_true rfl, Nat.le_of_ble_eq_true rfl⟩) hP hD hK hN ([18, 19, 20, 21] : List Nat) rfl rfl 4 0 rfl rfl rfl hl.1 rfl (Nat.le_of_ble_eq_true rfl) dL_law_323 ⟨Nat.le_of_ble_eq_true rfl, Nat.le_of_ble_eq_true rfl⟩) hP hD hS hA [18, 19, 20, 21] [0, 1, 2, 3, 4, 5, 6, 7, 8, 9, 10, 11, 12, 13, 14, 15, 16, 17] [0, 1, 2, 3, 4, 5, 6, 7, 8, 9, 10, 11, 12, 13, 14, 15, 16, 17, 18, 19, 20, 21] rfl rfl rfl (by decide) rfl rfl (fun H locs hP hD hS => ?_)
        have hL9 := L_would hT kp q0 q1 q2 q3 q4 q5 q6 q7 q8 now told rf lf ff sz bf gf ef now1 told1 rf1 lf1 ff1 now2 told2 rf2 lf2 ff2 sf mf kf m0 m1 m2 m3 m4 hSim y1 y2 y3 y4 y5
        refine lv_icmp_eq (tgt := 787) hx hb dL_law_326 (by decide) (fun _ => ?_) (fun c9 => absurd hL9.1 c9)
        refine lv_iinc (v := nI (6 * (k + 1))) (lv' := [(3, .int (nI (6 * (k + 1)))), (0, .ref b), (1, .ref aX), (2, .ref aM)]) hx hb dL_law_787 hl (k := 3) rfl (law_i k) (by decide) rfl (fun ls hl => ?_)
        refine lv_goto (tgt := 18) hx hb dL_law_790 (by decide) ?_
        exact ih (k + 1) kp ((g_X3_would q0 q1 q2 q3 q4 q5 q6 q7 q8 now told rf lf ff sz bf gf ef y1 y2 y3 y4 y5).2.1) ((g_X3_would q0 q1 q2 q3 q4 q5 q6 q7 q8 now told rf lf ff sz bf gf ef y1 y2 y3 y4 y5).2.2.1) ((g_X3_would q0 q1 q2 q3 q4 q5 q6 q7 q8 now told rf lf ff sz bf gf ef y1 y2 y3 y4 y5).2.2.2.1) ((g_X3_would q0 q1 q2 q3 q4 q5 q6 q7 q8 now told rf lf ff sz bf gf ef y1 y2 y3 y4 y5).2.2.2.2.1) ((g_X3_would q0 q1 q2 q3 q4 q5 q6 q7 q8 now told rf lf ff sz bf gf ef y1 y2 y3 y4 y5).2.2.2.2.2.1) ((g_X3_would q0 q1 q2 q3 q4 q5 q6 q7 q8 now told rf lf ff sz bf gf ef y1 y2 y3 y4 y5).2.2.2.2.2.2.1) ((g_X3_would q0 q1 q2 q3 q4 q5 q6 q7 q8 now told rf lf ff sz bf gf ef y1 y2 y3 y4 y5).2.2.2.2.2.2.2.1) ((g_X3_would q0 q1 q2 q3 q4 q5 q6 q7 q8 now told rf lf ff sz bf gf ef y1 y2 y3 y4 y5).2.2.2.2.2.2.2.2.1) ((g_X3_would q0 q1 q2 q3 q4 q5 q6 q7 q8 now told rf lf ff sz bf gf ef y1 y2 y3 y4 y5).2.2.2.2.2.2.2.2.2.1) now told rf lf ff ((g_X3_would q0 q1 q2 q3 q4 q5 q6 q7 q8 now told rf lf ff sz bf gf ef y1 y2 y3 y4 y5).2.2.2.2.2.2.2.2.2.2.1) ((g_X3_would q0 q1 q2 q3 q4 q5 q6 q7 q8 now told rf lf ff sz bf gf ef y1 y2 y3 y4 y5).2.2.2.2.2.2.2.2.2.2.2.1) ((g_X3_would q0 q1 q2 q3 q4 q5 q6 q7 q8 now told rf lf ff sz bf gf ef y1 y2 y3 y4 y5).2.2.2.2.2.2.2.2.2.2.2.2.1) ((g_X3_would q0 q1 q2 q3 q4 q5 q6 q7 q8 now told rf lf ff sz bf gf ef y1 y2 y3 y4 y5).2.2.2.2.2.2.2.2.2.2.2.2.2) now1 told1 rf1 lf1 ff1 now2 told2 rf2 lf2 ff2 sf mf kf ((g_X4_would sf m0 m1 m2 m3 m4 y1 y2 y3 y4 y5).2.1) ((g_X4_would sf m0 m1 m2 m3 m4 y1 y2 y3 y4 y5).2.2.1) ((g_X4_would sf m0 m1 m2 m3 m4 y1 y2 y3 y4 y5).2.2.2.1) ((g_X4_would sf m0 m1 m2 m3 m4 y1 y2 y3 y4 y5).2.2.2.2.1) ((g_X4_would sf m0 m1 m2 m3 m4 y1 y2 y3 y4 y5).2.2.2.2.2) H locs ls hk1 (by omega) (law_T hL9.2) hP hD hS (lv_sub hl [1, 2, 3, 0] rfl)
      rcases Decidable.em (sw = 5) with c_6 | c_6
      · refine lv_tableIn (off := 298) (tgt := 331) hx hb dL_law_33 (by rw [c_6]; decide) (by rw [c_6]; decide) (by rw [c_6]; rfl) (by decide) ?_
        refine lv_aload_n hx hb dL_law_331 rfl (lv_at hl 1 rfl) ?_
        refine lv_aload_n hx hb dL_law_332 rfl (lv_at hl 0 rfl) ?_
        refine lv_iload_n hx hb dL_law_333 rfl (lv_at hl 3 rfl) ?_
        refine lv_iconst (v := 1) hx hb dL_law_334 (by decide) ?_
        refine lv_iadd hx hb dL_law_335 ?_
        refine va_sld hx hb hX hbl hbA hS h_1 dL_law_336 ?_
        refine lv_eqi y1 e_1.symm ?_
        refine kI (wr := PLw aP aB aT q0 q1 q2 q3 q4 q5 q6 q7 q8 ++ TRw cA aT aU aG aE sz bf gf ef ++ BKw cA aB1 aR1 aL1 aF1 now1 told1 rf1 lf1 ff1 ++ BKw cA aB2 aR2 aL2 aF2 now2 told2 rf2 lf2 ff2 ++ MDw cA cZ aM aS aI aK sf mf kf m0 m1 m2 m3 m4) (W1 := LBw aX aB aB1 aB2 aT aP kp ++ BKw cA aB aR aL aF now told rf lf ((g_X3_back now told ff y1).2)) (wsN := LBw aX aB aB1 aB2 aT aP kp ++ PLw aP aB aT q0 q1 q2 q3 q4 q5 q6 q7 q8 ++ BKw cA aB aR aL aF now told rf lf ((g_X3_back now told ff y1).2) ++ TRw cA aT aU aG aE sz bf gf ef ++ BKw cA aB1 aR1 aL1 aF1 now1 told1 rf1 lf1 ff1 ++ BKw cA aB2 aR2 aL2 aF2 now2 told2 rf2 lf2 ff2 ++ MDw cA cZ aM aS aI aK sf mf kf m0 m1 m2 m3 m4) (rV (As := [.int y1]) (rest := []) (W0 := LBw aX aB aB1 aB2 aT aP kp ++ BKw cA aB aR aL aF now told rf lf ff) ⟨hx, hb, hml, hown, hts⟩ (c_X3_back l D cA cZ aX aB aB1 aB2 aT aP aR aL aF H.size kp now told rf lf ff y1) (cwV 1 hts gL_law_X3_back rfl rfl rfl (by decide +kernel) ⟨Nat.le_of_ble_eq_true rfl, Nat.le_of_ble_eq_true rfl⟩) hP hD hK hN ([0, 2, 3, 4, 5] : List Nat) rfl rfl 3 0 rfl rfl rfl hl.1 rfl (Nat.le_of_ble_eq_true rfl) dL_law_337 ⟨Nat.le_of_ble_eq_true rfl, Nat.le_of_ble_eq_true rfl⟩) hP hD hS hA [0, 2, 3, 4, 5] [1, 6, 7, 8, 9, 10, 11, 12, 13, 14, 15, 16, 17, 18, 19, 20, 21] [17, 0, 18, 19, 20, 21, 1, 2, 3, 4, 5, 6, 7, 8, 9, 10, 11, 12, 13, 14, 15, 16] rfl rfl rfl (by decide) rfl rfl (fun H locs hP hD hS => ?_)
        refine lv_aload_n hx hb dL_law_340 rfl (lv_at hl 2 rfl) ?_
        refine lv_aload_n hx hb dL_law_341 rfl (lv_at hl 0 rfl) ?_
        refine lv_iload_n hx hb dL_law_342 rfl (lv_at hl 3 rfl) ?_
        refine lv_iconst (v := 1) hx hb dL_law_343 (by decide) ?_
        refine lv_iadd hx hb dL_law_344 ?_
        refine va_sld hx hb hX hbl hbA hS h_1 dL_law_345 ?_
        refine lv_eqi y1 e_1.symm ?_
        refine kI (wr := LBw aX aB aB1 aB2 aT aP kp ++ PLw aP aB aT q0 q1 q2 q3 q4 q5 q6 q7 q8 ++ BKw cA aB aR aL aF now told rf lf ((g_X3_back now told ff y1).2) ++ TRw cA aT aU aG aE sz bf gf ef ++ BKw cA aB1 aR1 aL1 aF1 now1 told1 rf1 lf1 ff1 ++ BKw cA aB2 aR2 aL2 aF2 now2 told2 rf2 lf2 ff2) (W1 := MDw cA cZ aM aS aI aK ((g_X4_back sf y1).2) mf kf m0 m1 m2 m3 m4) (wsN := LBw aX aB aB1 aB2 aT aP kp ++ PLw aP aB aT q0 q1 q2 q3 q4 q5 q6 q7 q8 ++ BKw cA aB aR aL aF now told rf lf ((g_X3_back now told ff y1).2) ++ TRw cA aT aU aG aE sz bf gf ef ++ BKw cA aB1 aR1 aL1 aF1 now1 told1 rf1 lf1 ff1 ++ BKw cA aB2 aR2 aL2 aF2 now2 told2 rf2 lf2 ff2 ++ MDw cA cZ aM aS aI aK ((g_X4_back sf y1).2) mf kf m0 m1 m2 m3 m4) (rV (As := [.int y1]) (rest := [.int ((g_X3_back now told ff y1).1)]) (W0 := MDw cA cZ aM aS aI aK sf mf kf m0 m1 m2 m3 m4) ⟨hx, hb, hml, hown, hts⟩ (c_X4_back l D cA cZ aM aS aI aK H.size sf mf kf m0 m1 m2 m3 m4 y1 hm hm0) (cwV 1 hts gL_law_X4_back rfl rfl rfl (by decide +kernel) ⟨Nat.le_of_ble_eq_true rfl, Nat.le_of_ble_eq_true rfl⟩) hP hD hK hN ([18, 19, 20, 21] : List Nat) rfl rfl 4 0 rfl rfl rfl hl.1 rfl (Nat.le_of_ble_eq_true rfl) dL_law_346 ⟨Nat.le_of_ble_eq_true rfl, Nat.le_of_ble_eq_true rfl⟩) hP hD hS hA [18, 19, 20, 21] [0, 1, 2, 3, 4, 5, 6, 7, 8, 9, 10, 11, 12, 13, 14, 15, 16, 17] [0, 1, 2, 3, 4, 5, 6, 7, 8, 9, 10, 11, 12, 13, 14, 15, 16, 17, 18, 19, 20, 21] rfl rfl rfl (by decide) rfl rfl (fun H locs hP hD hS => ?_)
        have hL9 := L_back hT kp q0 q1 q2 q3 q4 q5 q6 q7 q8 now told rf lf ff sz bf gf ef now1 told1 rf1 lf1 ff1 now2 told2 rf2 lf2 ff2 sf mf kf m0 m1 m2 m3 m4 hSim y1
        refine lv_icmp_eq (tgt := 787) hx hb dL_law_349 (by decide) (fun _ => ?_) (fun c9 => absurd hL9.1 c9)
        refine lv_iinc (v := nI (6 * (k + 1))) (lv' := [(3, .int (nI (6 * (k + 1)))), (0, .ref b), (1, .ref aX), (2, .ref aM)]) hx hb dL_law_787 hl (k := 3) rfl (law_i k) (by decide) rfl (fun ls hl => ?_)
        refine lv_goto (tgt := 18) hx hb dL_law_790 (by decide) ?_
        exact ih (k + 1) kp q0 q1 q2 q3 q4 q5 q6 q7 q8 now told rf lf ((g_X3_back now told ff y1).2) sz bf gf ef now1 told1 rf1 lf1 ff1 now2 told2 rf2 lf2 ff2 ((g_X4_back sf y1).2) mf kf m0 m1 m2 m3 m4 H locs ls hk1 (by omega) (law_T hL9.2) hP hD hS (lv_sub hl [1, 2, 3, 0] rfl)
      rcases Decidable.em (sw = 6) with c_7 | c_7
      · refine lv_tableIn (off := 321) (tgt := 354) hx hb dL_law_33 (by rw [c_7]; decide) (by rw [c_7]; decide) (by rw [c_7]; rfl) (by decide) ?_
        refine lv_aload_n hx hb dL_law_354 rfl (lv_at hl 1 rfl) ?_
        refine lv_aload_n hx hb dL_law_355 rfl (lv_at hl 0 rfl) ?_
        refine lv_iload_n hx hb dL_law_356 rfl (lv_at hl 3 rfl) ?_
        refine lv_iconst (v := 1) hx hb dL_law_357 (by decide) ?_
        refine lv_iadd hx hb dL_law_358 ?_
        refine va_sld hx hb hX hbl hbA hS h_1 dL_law_359 ?_
        refine lv_eqi y1 e_1.symm ?_
        refine lv_aload_n hx hb dL_law_360 rfl (lv_at hl 0 rfl) ?_
        refine lv_iload_n hx hb dL_law_361 rfl (lv_at hl 3 rfl) ?_
        refine lv_iconst (v := 2) hx hb dL_law_362 (by decide) ?_
        refine lv_iadd hx hb dL_law_363 ?_
        refine va_sld hx hb hX hbl hbA hS h_2 dL_law_364 ?_
        refine lv_eqi y2 e_2.symm ?_
        refine kI (wr := PLw aP aB aT q0 q1 q2 q3 q4 q5 q6 q7 q8 ++ TRw cA aT aU aG aE sz bf gf ef ++ BKw cA aB1 aR1 aL1 aF1 now1 told1 rf1 lf1 ff1 ++ BKw cA aB2 aR2 aL2 aF2 now2 told2 rf2 lf2 ff2 ++ MDw cA cZ aM aS aI aK sf mf kf m0 m1 m2 m3 m4) (W1 := LBw aX aB aB1 aB2 aT aP kp ++ BKw cA aB aR aL aF now told rf lf ff) (wsN := LBw aX aB aB1 aB2 aT aP kp ++ PLw aP aB aT q0 q1 q2 q3 q4 q5 q6 q7 q8 ++ BKw cA aB aR aL aF now told rf lf ff ++ TRw cA aT aU aG aE sz bf gf ef ++ BKw cA aB1 aR1 aL1 aF1 now1 told1 rf1 lf1 ff1 ++ BKw cA aB2 aR2 aL2 aF2 now2 told2 rf2 lf2 ff2 ++ MDw cA cZ aM aS aI aK sf mf kf m0 m1 m2 m3 m4) (rV (As := [.int y1, .int y2]) (rest := []) (W0 := LBw aX aB aB1 aB2 aT aP kp ++ BKw cA aB aR aL aF now told rf lf ff) ⟨hx, hb, hml, hown, hts⟩ (c_X3_burst l D cA cZ aX aB aB1 aB2 aT aP aR aL aF H.size kp now told rf lf ff y1 y2) (cwV 2 hts gL_law_X3_burst rfl rfl rfl (by decide +kernel) ⟨Nat.le_of_ble_eq_true rfl, Nat.le_of_ble_eq_true rfl⟩) hP hD hK hN ([0, 2, 3, 4, 5] : List Nat) rfl rfl 3 0 rfl rfl rfl hl.1 rfl (Nat.le_of_ble_eq_true rfl) dL_law_365 ⟨Nat.le_of_ble_eq_true rfl, Nat.le_of_ble_eq_true rfl⟩) hP hD hS hA [0, 2, 3, 4, 5] [1, 6, 7, 8, 9, 10, 11, 12, 13, 14, 15, 16, 17, 18, 19, 20, 21] [17, 0, 18, 19, 20, 21, 1, 2, 3, 4, 5, 6, 7, 8, 9, 10, 11, 12, 13, 14, 15, 16] rfl rfl rfl (by decide) rfl rfl (fun H locs hP hD hS => ?_)
        refine lv_aload_n hx hb dL_law_368 rfl (lv_at hl 2 rfl) ?_
        refine lv_aload_n hx hb dL_law_369 rfl (lv_at hl 0 rfl) ?_
        refine lv_iload_n hx hb dL_law_370 rfl (lv_at hl 3 rfl) ?_
        refine lv_iconst (v := 1) hx hb dL_law_371 (by decide) ?_
        refine lv_iadd hx hb dL_law_372 ?_
        refine va_sld hx hb hX hbl hbA hS h_1 dL_law_373 ?_
        refine lv_eqi y1 e_1.symm ?_
        refine lv_aload_n hx hb dL_law_374 rfl (lv_at hl 0 rfl) ?_
        refine lv_iload_n hx hb dL_law_375 rfl (lv_at hl 3 rfl) ?_
        refine lv_iconst (v := 2) hx hb dL_law_376 (by decide) ?_
        refine lv_iadd hx hb dL_law_377 ?_
        refine va_sld hx hb hX hbl hbA hS h_2 dL_law_378 ?_
        refine lv_eqi y2 e_2.symm ?_
        refine kI (wr := LBw aX aB aB1 aB2 aT aP kp ++ PLw aP aB aT q0 q1 q2 q3 q4 q5 q6 q7 q8 ++ BKw cA aB aR aL aF now told rf lf ff ++ TRw cA aT aU aG aE sz bf gf ef ++ BKw cA aB1 aR1 aL1 aF1 now1 told1 rf1 lf1 ff1 ++ BKw cA aB2 aR2 aL2 aF2 now2 told2 rf2 lf2 ff2) (W1 := MDw cA cZ aM aS aI aK sf mf kf m0 m1 m2 m3 m4) (wsN := LBw aX aB aB1 aB2 aT aP kp ++ PLw aP aB aT q0 q1 q2 q3 q4 q5 q6 q7 q8 ++ BKw cA aB aR aL aF now told rf lf ff ++ TRw cA aT aU aG aE sz bf gf ef ++ BKw cA aB1 aR1 aL1 aF1 now1 told1 rf1 lf1 ff1 ++ BKw cA aB2 aR2 aL2 aF2 now2 told2 rf2 lf2 ff2 ++ MDw cA cZ aM aS aI aK sf mf kf m0 m1 m2 m3 m4) (rV (As := [.int y1, .int y2]) (rest := [.int (g_X3_burst told ff y1 y2)]) (W0 := MDw cA cZ aM aS aI aK sf mf kf m0 m1 m2 m3 m4) ⟨hx, hb, hml, hown, hts⟩ (c_X4_burst l D cA cZ aM aS aI aK H.size sf mf kf m0 m1 m2 m3 m4 y1 y2 hm hm0) (cwV 2 hts gL_law_X4_burst rfl rfl rfl (by decide +kernel) ⟨Nat.le_of_ble_eq_true rfl, Nat.le_of_ble_eq_true rfl⟩) hP hD hK hN ([18, 19, 20, 21] : List Nat) rfl rfl 4 0 rfl rfl rfl hl.1 rfl (Nat.le_of_ble_eq_true rfl) dL_law_379 ⟨Nat.le_of_ble_eq_true rfl, Nat.le_of_ble_eq_true rfl⟩) hP hD hS hA [18, 19, 20, 21] [0, 1, 2, 3, 4, 5, 6, 7, 8, 9, 10, 11, 12, 13, 14, 15, 16, 17] [0, 1, 2, 3, 4, 5, 6, 7, 8, 9, 10, 11, 12, 13, 14, 15, 16, 17, 18, 19, 20, 21] rfl rfl rfl (by decide) rfl rfl (fun H locs hP hD hS => ?_)
        have hL9 := L_burst hT kp q0 q1 q2 q3 q4 q5 q6 q7 q8 now told rf lf ff sz bf gf ef now1 told1 rf1 lf1 ff1 now2 told2 rf2 lf2 ff2 sf mf kf m0 m1 m2 m3 m4 hSim y1 y2
        refine lv_icmp_eq (tgt := 787) hx hb dL_law_382 (by decide) (fun _ => ?_) (fun c9 => absurd hL9.1 c9)
        refine lv_iinc (v := nI (6 * (k + 1))) (lv' := [(3, .int (nI (6 * (k + 1)))), (0, .ref b), (1, .ref aX), (2, .ref aM)]) hx hb dL_law_787 hl (k := 3) rfl (law_i k) (by decide) rfl (fun ls hl => ?_)
        refine lv_goto (tgt := 18) hx hb dL_law_790 (by decide) ?_
        exact ih (k + 1) kp q0 q1 q2 q3 q4 q5 q6 q7 q8 now told rf lf ff sz bf gf ef now1 told1 rf1 lf1 ff1 now2 told2 rf2 lf2 ff2 sf mf kf m0 m1 m2 m3 m4 H locs ls hk1 (by omega) (law_T hL9.2) hP hD hS (lv_sub hl [1, 2, 3, 0] rfl)
      rcases Decidable.em (sw = 7) with c_8 | c_8
      · refine lv_tableIn (off := 354) (tgt := 387) hx hb dL_law_33 (by rw [c_8]; decide) (by rw [c_8]; decide) (by rw [c_8]; rfl) (by decide) ?_
        refine lv_aload_n hx hb dL_law_387 rfl (lv_at hl 1 rfl) ?_
        refine lv_aload_n hx hb dL_law_388 rfl (lv_at hl 0 rfl) ?_
        refine lv_iload_n hx hb dL_law_389 rfl (lv_at hl 3 rfl) ?_
        refine lv_iconst (v := 1) hx hb dL_law_390 (by decide) ?_
        refine lv_iadd hx hb dL_law_391 ?_
        refine va_sld hx hb hX hbl hbA hS h_1 dL_law_392 ?_
        refine lv_eqi y1 e_1.symm ?_
        refine lv_aload_n hx hb dL_law_393 rfl (lv_at hl 0 rfl) ?_
        refine lv_iload_n hx hb dL_law_394 rfl (lv_at hl 3 rfl) ?_
        refine lv_iconst (v := 2) hx hb dL_law_395 (by decide) ?_
        refine lv_iadd hx hb dL_law_396 ?_
        refine va_sld hx hb hX hbl hbA hS h_2 dL_law_397 ?_
        refine lv_eqi y2 e_2.symm ?_
        refine lv_aload_n hx hb dL_law_398 rfl (lv_at hl 0 rfl) ?_
        refine lv_iload_n hx hb dL_law_399 rfl (lv_at hl 3 rfl) ?_
        refine lv_iconst (v := 3) hx hb dL_law_400 (by decide) ?_
        refine lv_iadd hx hb dL_law_401 ?_
        refine va_sld hx hb hX hbl hbA hS h_3 dL_law_402 ?_
        refine lv_eqi y3 e_3.symm ?_
        refine lv_aload_n hx hb dL_law_403 rfl (lv_at hl 0 rfl) ?_
        refine lv_iload_n hx hb dL_law_404 rfl (lv_at hl 3 rfl) ?_
        refine lv_iconst (v := 4) hx hb dL_law_405 (by decide) ?_
        refine lv_iadd hx hb dL_law_406 ?_
        refine va_sld hx hb hX hbl hbA hS h_4 dL_law_407 ?_
        refine lv_eqi y4 e_4.symm ?_
        refine kI (wr := PLw aP aB aT q0 q1 q2 q3 q4 q5 q6 q7 q8 ++ BKw cA aB1 aR1 aL1 aF1 now1 told1 rf1 lf1 ff1 ++ BKw cA aB2 aR2 aL2 aF2 now2 told2 rf2 lf2 ff2 ++ MDw cA cZ aM aS aI aK sf mf kf m0 m1 m2 m3 m4) (W1 := LBw aX aB aB1 aB2 aT aP kp ++ BKw cA aB aR aL aF now told rf lf ff ++ TRw cA aT aU aG aE ((g_X3_booking told ff sz bf gf ef y1 y2 y3 y4).2.1) ((g_X3_booking told ff sz bf gf ef y1 y2 y3 y4).2.2.1) ((g_X3_booking told ff sz bf gf ef y1 y2 y3 y4).2.2.2.1) ((g_X3_booking told ff sz bf gf ef y1 y2 y3 y4).2.2.2.2)) (wsN := LBw aX aB aB1 aB2 aT aP kp ++ PLw aP aB aT q0 q1 q2 q3 q4 q5 q6 q7 q8 ++ BKw cA aB aR aL aF now told rf lf ff ++ TRw cA aT aU aG aE ((g_X3_booking told ff sz bf gf ef y1 y2 y3 y4).2.1) ((g_X3_booking told ff sz bf gf ef y1 y2 y3 y4).2.2.1) ((g_X3_booking told ff sz bf gf ef y1 y2 y3 y4).2.2.2.1) ((g_X3_booking told ff sz bf gf ef y1 y2 y3 y4).2.2.2.2) ++ BKw cA aB1 aR1 aL1 aF1 now1 told1 rf1 lf1 ff1 ++ BKw cA aB2 aR2 aL2 aF2 now2 told2 rf2 lf2 ff2 ++ MDw cA cZ aM aS aI aK sf mf kf m0 m1 m2 m3 m4) (rV (As := [.int y1, .int y2, .int y3, .int y4]) (rest := []) (W0 := LBw aX aB aB1 aB2 aT aP kp ++ BKw cA aB aR aL aF now told rf lf ff ++ TRw cA aT aU aG aE sz bf gf ef) ⟨hx, hb, hml, hown, hts⟩ (c_X3_booking l D cA cZ aX aB aB1 aB2 aT aP aR aL aF aU aG aE H.size kp now told rf lf ff sz bf gf ef y1 y2 y3 y4) (cwV 4 hts gL_law_X3_booking rfl rfl rfl (by decide +kernel) ⟨Nat.le_of_ble_eq_true rfl, Nat.le_of_ble_eq_true rfl⟩) hP hD hK hN ([0, 2, 3, 4, 5, 6, 7, 8, 9] : List Nat) rfl rfl 3 0 rfl rfl rfl hl.1 rfl (Nat.le_of_ble_eq_true rfl) dL_law_408 ⟨Nat.le_of_ble_eq_true rfl, Nat.le_of_ble_eq_true rfl⟩) hP hD hS hA [0, 2, 3, 4, 5, 6, 7, 8, 9] [1, 10, 11, 12, 13, 14, 15, 16, 17, 18, 19, 20, 21] [13, 0, 14, 15, 16, 17, 18, 19, 20, 21, 1, 2, 3, 4, 5, 6, 7, 8, 9, 10, 11, 12] rfl rfl rfl (by decide) rfl rfl (fun H locs hP hD hS => ?_)
        refine lv_aload_n hx hb dL_law_411 rfl (lv_at hl 2 rfl) ?_
        refine lv_aload_n hx hb dL_law_412 rfl (lv_at hl 0 rfl) ?_
        refine lv_iload_n hx hb dL_law_413 rfl (lv_at hl 3 rfl) ?_
        refine lv_iconst (v := 1) hx hb dL_law_414 (by decide) ?_
        refine lv_iadd hx hb dL_law_415 ?_
        refine va_sld hx hb hX hbl hbA hS h_1 dL_law_416 ?_
        refine lv_eqi y1 e_1.symm ?_
        refine lv_aload_n hx hb dL_law_417 rfl (lv_at hl 0 rfl) ?_
        refine lv_iload_n hx hb dL_law_418 rfl (lv_at hl 3 rfl) ?_
        refine lv_iconst (v := 2) hx hb dL_law_419 (by decide) ?_
        refine lv_iadd hx hb dL_law_420 ?_
        refine va_sld hx hb hX hbl hbA hS h_2 dL_law_421 ?_
        refine lv_eqi y2 e_2.symm ?_
        refine lv_aload_n hx hb dL_law_422 rfl (lv_at hl 0 rfl) ?_
        refine lv_iload_n hx hb dL_law_423 rfl (lv_at hl 3 rfl) ?_
        refine lv_iconst (v := 3) hx hb dL_law_424 (by decide) ?_
        refine lv_iadd hx hb dL_law_425 ?_
        refine va_sld hx hb hX hbl hbA hS h_3 dL_law_426 ?_
        refine lv_eqi y3 e_3.symm ?_
        refine lv_aload_n hx hb dL_law_427 rfl (lv_at hl 0 rfl) ?_
        refine lv_iload_n hx hb dL_law_428 rfl (lv_at hl 3 rfl) ?_
        refine lv_iconst (v := 4) hx hb dL_law_429 (by decide) ?_
        refine lv_iadd hx hb dL_law_430 ?_
        refine va_sld hx hb hX hbl hbA hS h_4 dL_law_431 ?_
        refine lv_eqi y4 e_4.symm ?_
        refine kI (wr := LBw aX aB aB1 aB2 aT aP kp ++ PLw aP aB aT q0 q1 q2 q3 q4 q5 q6 q7 q8 ++ BKw cA aB aR aL aF now told rf lf ff ++ TRw cA aT aU aG aE ((g_X3_booking told ff sz bf gf ef y1 y2 y3 y4).2.1) ((g_X3_booking told ff sz bf gf ef y1 y2 y3 y4).2.2.1) ((g_X3_booking told ff sz bf gf ef y1 y2 y3 y4).2.2.2.1) ((g_X3_booking told ff sz bf gf ef y1 y2 y3 y4).2.2.2.2) ++ BKw cA aB1 aR1 aL1 aF1 now1 told1 rf1 lf1 ff1 ++ BKw cA aB2 aR2 aL2 aF2 now2 told2 rf2 lf2 ff2) (W1 := MDw cA cZ aM aS aI aK sf mf kf m0 m1 m2 m3 m4) (wsN := LBw aX aB aB1 aB2 aT aP kp ++ PLw aP aB aT q0 q1 q2 q3 q4 q5 q6 q7 q8 ++ BKw cA aB aR aL aF now told rf lf ff ++ TRw cA aT aU aG aE ((g_X3_booking told ff sz bf gf ef y1 y2 y3 y4).2.1) ((g_X3_booking told ff sz bf gf ef y1 y2 y3 y4).2.2.1) ((g_X3_booking told ff sz bf gf ef y1 y2 y3 y4).2.2.2.1) ((g_X3_booking told ff sz bf gf ef y1 y2 y3 y4).2.2.2.2) ++ BKw cA aB1 aR1 aL1 aF1 now1 told1 rf1 lf1 ff1 ++ BKw cA aB2 aR2 aL2 aF2 now2 told2 rf2 lf2 ff2 ++ MDw cA cZ aM aS aI aK sf mf kf m0 m1 m2 m3 m4) (rV (As := [.int y1, .int y2, .int y3, .int y4]) (rest := [.int ((g_X3_booking told ff sz bf gf ef y1 y2 y3 y4).1)]) (W0 := MDw cA cZ aM aS aI aK sf mf kf m0 m1 m2 m3 m4) ⟨hx, hb, hml, hown, hts⟩ (c_X4_booking l D cA cZ aM aS aI aK H.size sf mf kf m0 m1 m2 m3 m4 y1 y2 y3 y4 hm) (cwV 4 hts gL_law_X4_booking rfl rfl rfl (by decide +kernel) ⟨Nat.le_of_ble_eq_true rfl, Nat.le_of_ble_eq_true rfl⟩) hP hD hK hN ([18, 19, 20, 21] : List Nat) rfl rfl 4 0 rfl rfl rfl hl.1 rfl (Nat.le_of_ble_eq_true rfl) dL_law_432 ⟨Nat.le_of_ble_eq_true rfl, Nat.le_of_ble_eq_true rfl⟩) hP hD hS hA [18, 19, 20, 21] [0, 1, 2, 3, 4, 5, 6, 7, 8, 9, 10, 11, 12, 13, 14, 15, 16, 17] [0, 1, 2, 3, 4, 5, 6, 7, 8, 9, 10, 11, 12, 13, 14, 15, 16, 17, 18, 19, 20, 21] rfl rfl rfl (by decide) rfl rfl (fun H locs hP hD hS => ?_)
        have hL9 := L_booking hT kp q0 q1 q2 q3 q4 q5 q6 q7 q8 now told rf lf ff sz bf gf ef now1 told1 rf1 lf1 ff1 now2 told2 rf2 lf2 ff2 sf mf kf m0 m1 m2 m3 m4 hSim y1 y2 y3 y4
        refine lv_icmp_eq (tgt := 787) hx hb dL_law_435 (by decide) (fun _ => ?_) (fun c9 => absurd hL9.1 c9)
        refine lv_iinc (v := nI (6 * (k + 1))) (lv' := [(3, .int (nI (6 * (k + 1)))), (0, .ref b), (1, .ref aX), (2, .ref aM)]) hx hb dL_law_787 hl (k := 3) rfl (law_i k) (by decide) rfl (fun ls hl => ?_)
        refine lv_goto (tgt := 18) hx hb dL_law_790 (by decide) ?_
        exact ih (k + 1) kp q0 q1 q2 q3 q4 q5 q6 q7 q8 now told rf lf ff ((g_X3_booking told ff sz bf gf ef y1 y2 y3 y4).2.1) ((g_X3_booking told ff sz bf gf ef y1 y2 y3 y4).2.2.1) ((g_X3_booking told ff sz bf gf ef y1 y2 y3 y4).2.2.2.1) ((g_X3_booking told ff sz bf gf ef y1 y2 y3 y4).2.2.2.2) now1 told1 rf1 lf1 ff1 now2 told2 rf2 lf2 ff2 sf mf kf m0 m1 m2 m3 m4 H locs ls hk1 (by omega) (law_T hL9.2) hP hD hS (lv_sub hl [1, 2, 3, 0] rfl)
      rcases Decidable.em (sw = 8) with c_9 | c_9
      · refine lv_tableIn (off := 407) (tgt := 440) hx hb dL_law_33 (by rw [c_9]; decide) (by rw [c_9]; decide) (by rw [c_9]; rfl) (by decide) ?_
        refine lv_aload_n hx hb dL_law_440 rfl (lv_at hl 1 rfl) ?_
        refine lv_aload_n hx hb dL_law_441 rfl (lv_at hl 0 rfl) ?_
        refine lv_iload_n hx hb dL_law_442 rfl (lv_at hl 3 rfl) ?_
        refine lv_iconst (v := 1) hx hb dL_law_443 (by decide) ?_
        refine lv_iadd hx hb dL_law_444 ?_
        refine va_sld hx hb hX hbl hbA hS h_1 dL_law_445 ?_
        refine lv_eqi y1 e_1.symm ?_
        refine lv_aload_n hx hb dL_law_446 rfl (lv_at hl 0 rfl) ?_
        refine lv_iload_n hx hb dL_law_447 rfl (lv_at hl 3 rfl) ?_
        refine lv_iconst (v := 2) hx hb dL_law_448 (by decide) ?_
        refine lv_iadd hx hb dL_law_449 ?_
        refine va_sld hx hb hX hbl hbA hS h_2 dL_law_450 ?_
        refine lv_eqi y2 e_2.symm ?_
        refine lv_aload_n hx hb dL_law_451 rfl (lv_at hl 0 rfl) ?_
        refine lv_iload_n hx hb dL_law_452 rfl (lv_at hl 3 rfl) ?_
        refine lv_iconst (v := 3) hx hb dL_law_453 (by decide) ?_
        refine lv_iadd hx hb dL_law_454 ?_
        refine va_sld hx hb hX hbl hbA hS h_3 dL_law_455 ?_
        refine lv_eqi y3 e_3.symm ?_
        refine kI (wr := PLw aP aB aT q0 q1 q2 q3 q4 q5 q6 q7 q8 ++ BKw cA aB1 aR1 aL1 aF1 now1 told1 rf1 lf1 ff1 ++ BKw cA aB2 aR2 aL2 aF2 now2 told2 rf2 lf2 ff2 ++ MDw cA cZ aM aS aI aK sf mf kf m0 m1 m2 m3 m4) (W1 := LBw aX aB aB1 aB2 aT aP kp ++ BKw cA aB aR aL aF now told rf lf ff ++ TRw cA aT aU aG aE ((g_X3_held told ff sz bf gf ef y1 y2 y3).2.1) ((g_X3_held told ff sz bf gf ef y1 y2 y3).2.2.1) ((g_X3_held told ff sz bf gf ef y1 y2 y3).2.2.2.1) ((g_X3_held told ff sz bf gf ef y1 y2 y3).2.2.2.2)) (wsN := LBw aX aB aB1 aB2 aT aP kp ++ PLw aP aB aT q0 q1 q2 q3 q4 q5 q6 q7 q8 ++ BKw cA aB aR aL aF now told rf lf ff ++ TRw cA aT aU aG aE ((g_X3_held told ff sz bf gf ef y1 y2 y3).2.1) ((g_X3_held told ff sz bf gf ef y1 y2 y3).2.2.1) ((g_X3_held told ff sz bf gf ef y1 y2 y3).2.2.2.1) ((g_X3_held told ff sz bf gf ef y1 y2 y3).2.2.2.2) ++ BKw cA aB1 aR1 aL1 aF1 now1 told1 rf1 lf1 ff1 ++ BKw cA aB2 aR2 aL2 aF2 now2 told2 rf2 lf2 ff2 ++ MDw cA cZ aM aS aI aK sf mf kf m0 m1 m2 m3 m4) (rV (As := [.int y1, .int y2, .int y3]) (rest := []) (W0 := LBw aX aB aB1 aB2 aT aP kp ++ BKw cA aB aR aL aF now told rf lf ff ++ TRw cA aT aU aG aE sz bf gf ef) ⟨hx, hb, hml, hown, hts⟩ (c_X3_held l D cA cZ aX aB aB1 aB2 aT aP aR aL aF aU aG aE H.size kp now told rf lf ff sz bf gf ef y1 y2 y3) (cwV 3 hts gL_law_X3_held rfl rfl rfl (by decide +kernel) ⟨Nat.le_of_ble_eq_true rfl, Nat.le_of_ble_eq_true rfl⟩) hP hD hK hN ([0, 2, 3, 4, 5, 6, 7, 8, 9] : List Nat) rfl rfl 3 0 rfl rfl rfl hl.1 rfl (Nat.le_of_ble_eq_true rfl) dL_law_456 ⟨Nat.le_of_ble_eq_true rfl, Nat.le_of_ble_eq_true rfl⟩) hP hD hS hA [0, 2, 3, 4, 5, 6, 7, 8, 9] [1, 10, 11, 12, 13, 14, 15, 16, 17, 18, 19, 20, 21] [13, 0, 14, 15, 16, 17, 18, 19, 20, 21, 1, 2, 3, 4, 5, 6, 7, 8, 9, 10, 11, 12] rfl rfl rfl (by decide) rfl rfl (fun H locs hP hD hS => ?_)
        refine lv_aload_n hx hb dL_law_459 rfl (lv_at hl 2 rfl) ?_
        refine lv_aload_n hx hb dL_law_460 rfl (lv_at hl 0 rfl) ?_
        refine lv_iload_n hx hb dL_law_461 rfl (lv_at hl 3 rfl) ?_
        refine lv_iconst (v := 1) hx hb dL_law_462 (by decide) ?_
        refine lv_iadd hx hb dL_law_463 ?_
        refine va_sld hx hb hX hbl hbA hS h_1 dL_law_464 ?_
        refine lv_eqi y1 e_1.symm ?_
        refine lv_aload_n hx hb dL_law_465 rfl (lv_at hl 0 rfl) ?_
        refine lv_iload_n hx hb dL_law_466 rfl (lv_at hl 3 rfl) ?_
        refine lv_iconst (v := 2) hx hb dL_law_467 (by decide) ?_
        refine lv_iadd hx hb dL_law_468 ?_
        refine va_sld hx hb hX hbl hbA hS h_2 dL_law_469 ?_
        refine lv_eqi y2 e_2.symm ?_
        refine lv_aload_n hx hb dL_law_470 rfl (lv_at hl 0 rfl) ?_
        refine lv_iload_n hx hb dL_law_471 rfl (lv_at hl 3 rfl) ?_
        refine lv_iconst (v := 3) hx hb dL_law_472 (by decide) ?_
        refine lv_iadd hx hb dL_law_473 ?_
        refine va_sld hx hb hX hbl hbA hS h_3 dL_law_474 ?_
        refine lv_eqi y3 e_3.symm ?_
        refine kI (wr := LBw aX aB aB1 aB2 aT aP kp ++ PLw aP aB aT q0 q1 q2 q3 q4 q5 q6 q7 q8 ++ BKw cA aB aR aL aF now told rf lf ff ++ TRw cA aT aU aG aE ((g_X3_held told ff sz bf gf ef y1 y2 y3).2.1) ((g_X3_held told ff sz bf gf ef y1 y2 y3).2.2.1) ((g_X3_held told ff sz bf gf ef y1 y2 y3).2.2.2.1) ((g_X3_held told ff sz bf gf ef y1 y2 y3).2.2.2.2) ++ BKw cA aB1 aR1 aL1 aF1 now1 told1 rf1 lf1 ff1 ++ BKw cA aB2 aR2 aL2 aF2 now2 told2 rf2 lf2 ff2) (W1 := MDw cA cZ aM aS aI aK sf mf kf m0 m1 m2 m3 m4) (wsN := LBw aX aB aB1 aB2 aT aP kp ++ PLw aP aB aT q0 q1 q2 q3 q4 q5 q6 q7 q8 ++ BKw cA aB aR aL aF now told rf lf ff ++ TRw cA aT aU aG aE ((g_X3_held told ff sz bf gf ef y1 y2 y3).2.1) ((g_X3_held told ff sz bf gf ef y1 y2 y3).2.2.1) ((g_X3_held told ff sz bf gf ef y1 y2 y3).2.2.2.1) ((g_X3_held told ff sz bf gf ef y1 y2 y3).2.2.2.2) ++ BKw cA aB1 aR1 aL1 aF1 now1 told1 rf1 lf1 ff1 ++ BKw cA aB2 aR2 aL2 aF2 now2 told2 rf2 lf2 ff2 ++ MDw cA cZ aM aS aI aK sf mf kf m0 m1 m2 m3 m4) (rV (As := [.int y1, .int y2, .int y3]) (rest := [.int ((g_X3_held told ff sz bf gf ef y1 y2 y3).1)]) (W0 := MDw cA cZ aM aS aI aK sf mf kf m0 m1 m2 m3 m4) ⟨hx, hb, hml, hown, hts⟩ (c_X4_held l D cA cZ aM aS aI aK H.size sf mf kf m0 m1 m2 m3 m4 y1 y2 y3 hm) (cwV 3 hts gL_law_X4_held rfl rfl rfl (by decide +kernel) ⟨Nat.le_of_ble_eq_true rfl, Nat.le_of_ble_eq_true rfl⟩) hP hD hK hN ([18, 19, 20, 21] : List Nat) rfl rfl 4 0 rfl rfl rfl hl.1 rfl (Nat.le_of_ble_eq_true rfl) dL_law_475 ⟨Nat.le_of_ble_eq_true rfl, Nat.le_of_ble_eq_true rfl⟩) hP hD hS hA [18, 19, 20, 21] [0, 1, 2, 3, 4, 5, 6, 7, 8, 9, 10, 11, 12, 13, 14, 15, 16, 17] [0, 1, 2, 3, 4, 5, 6, 7, 8, 9, 10, 11, 12, 13, 14, 15, 16, 17, 18, 19, 20, 21] rfl rfl rfl (by decide) rfl rfl (fun H locs hP hD hS => ?_)
        have hL9 := L_held hT kp q0 q1 q2 q3 q4 q5 q6 q7 q8 now told rf lf ff sz bf gf ef now1 told1 rf1 lf1 ff1 now2 told2 rf2 lf2 ff2 sf mf kf m0 m1 m2 m3 m4 hSim y1 y2 y3
        refine lv_icmp_eq (tgt := 787) hx hb dL_law_478 (by decide) (fun _ => ?_) (fun c9 => absurd hL9.1 c9)
        refine lv_iinc (v := nI (6 * (k + 1))) (lv' := [(3, .int (nI (6 * (k + 1)))), (0, .ref b), (1, .ref aX), (2, .ref aM)]) hx hb dL_law_787 hl (k := 3) rfl (law_i k) (by decide) rfl (fun ls hl => ?_)
        refine lv_goto (tgt := 18) hx hb dL_law_790 (by decide) ?_
        exact ih (k + 1) kp q0 q1 q2 q3 q4 q5 q6 q7 q8 now told rf lf ff ((g_X3_held told ff sz bf gf ef y1 y2 y3).2.1) ((g_X3_held told ff sz bf gf ef y1 y2 y3).2.2.1) ((g_X3_held told ff sz bf gf ef y1 y2 y3).2.2.2.1) ((g_X3_held told ff sz bf gf ef y1 y2 y3).2.2.2.2) now1 told1 rf1 lf1 ff1 now2 told2 rf2 lf2 ff2 sf mf kf m0 m1 m2 m3 m4 H locs ls hk1 (by omega) (law_T hL9.2) hP hD hS (lv_sub hl [1, 2, 3, 0] rfl)
      rcases Decidable.em (sw = 9) with c_10 | c_10
      · refine lv_tableIn (off := 450) (tgt := 483) hx hb dL_law_33 (by rw [c_10]; decide) (by rw [c_10]; decide) (by rw [c_10]; rfl) (by decide) ?_
        refine lv_aload_n hx hb dL_law_483 rfl (lv_at hl 1 rfl) ?_
        refine lv_aload_n hx hb dL_law_484 rfl (lv_at hl 0 rfl) ?_
        refine lv_iload_n hx hb dL_law_485 rfl (lv_at hl 3 rfl) ?_
        refine lv_iconst (v := 1) hx hb dL_law_486 (by decide) ?_
        refine lv_iadd hx hb dL_law_487 ?_
        refine va_sld hx hb hX hbl hbA hS h_1 dL_law_488 ?_
        refine lv_eqi y1 e_1.symm ?_
        refine lv_aload_n hx hb dL_law_489 rfl (lv_at hl 0 rfl) ?_
        refine lv_iload_n hx hb dL_law_490 rfl (lv_at hl 3 rfl) ?_
        refine lv_iconst (v := 2) hx hb dL_law_491 (by decide) ?_
        refine lv_iadd hx hb dL_law_492 ?_
        refine va_sld hx hb hX hbl hbA hS h_2 dL_law_493 ?_
        refine lv_eqi y2 e_2.symm ?_
        refine lv_aload_n hx hb dL_law_494 rfl (lv_at hl 0 rfl) ?_
        refine lv_iload_n hx hb dL_law_495 rfl (lv_at hl 3 rfl) ?_
        refine lv_iconst (v := 3) hx hb dL_law_496 (by decide) ?_
        refine lv_iadd hx hb dL_law_497 ?_
        refine va_sld hx hb hX hbl hbA hS h_3 dL_law_498 ?_
        refine lv_eqi y3 e_3.symm ?_
        refine lv_aload_n hx hb dL_law_499 rfl (lv_at hl 0 rfl) ?_
        refine lv_iload_n hx hb dL_law_500 rfl (lv_at hl 3 rfl) ?_
        refine lv_iconst (v := 4) hx hb dL_law_501 (by decide) ?_
        refine lv_iadd hx hb dL_law_502 ?_
        refine va_sld hx hb hX hbl hbA hS h_4 dL_law_503 ?_
        refine lv_eqi y4 e_4.symm ?_
        refine kI (wr := PLw aP aB aT q0 q1 q2 q3 q4 q5 q6 q7 q8 ++ BKw cA aB1 aR1 aL1 aF1 now1 told1 rf1 lf1 ff1 ++ BKw cA aB2 aR2 aL2 aF2 now2 told2 rf2 lf2 ff2 ++ MDw cA cZ aM aS aI aK sf mf kf m0 m1 m2 m3 m4) (W1 := LBw aX aB aB1 aB2 aT aP kp ++ BKw cA aB aR aL aF now told rf lf ff ++ TRw cA aT aU aG aE ((g_X3_busy told ff sz bf gf ef y1 y2 y3 y4).2.1) ((g_X3_busy told ff sz bf gf ef y1 y2 y3 y4).2.2.1) ((g_X3_busy told ff sz bf gf ef y1 y2 y3 y4).2.2.2.1) ((g_X3_busy told ff sz bf gf ef y1 y2 y3 y4).2.2.2.2)) (wsN := LBw aX aB aB1 aB2 aT aP kp ++ PLw aP aB aT q0 q1 q2 q3 q4 q5 q6 q7 q8 ++ BKw cA aB aR aL aF now told rf lf ff ++ TRw cA aT aU aG aE ((g_X3_busy told ff sz bf gf ef y1 y2 y3 y4).2.1) ((g_X3_busy told ff sz bf gf ef y1 y2 y3 y4).2.2.1) ((g_X3_busy told ff sz bf gf ef y1 y2 y3 y4).2.2.2.1) ((g_X3_busy told ff sz bf gf ef y1 y2 y3 y4).2.2.2.2) ++ BKw cA aB1 aR1 aL1 aF1 now1 told1 rf1 lf1 ff1 ++ BKw cA aB2 aR2 aL2 aF2 now2 told2 rf2 lf2 ff2 ++ MDw cA cZ aM aS aI aK sf mf kf m0 m1 m2 m3 m4) (rV (As := [.int y1, .int y2, .int y3, .int y4]) (rest := []) (W0 := LBw aX aB aB1 aB2 aT aP kp ++ BKw cA aB aR aL aF now told rf lf ff ++ TRw cA aT aU aG aE sz bf gf ef) ⟨hx, hb, hml, hown, hts⟩ (c_X3_busy l D cA cZ aX aB aB1 aB2 aT aP aR aL aF aU aG aE H.size kp now told rf lf ff sz bf gf ef y1 y2 y3 y4) (cwV 4 hts gL_law_X3_busy rfl rfl rfl (by decide +kernel) ⟨Nat.le_of_ble_eq_true rfl, Nat.le_of_ble_eq_true rfl⟩) hP hD hK hN ([0, 2, 3, 4, 5, 6, 7, 8, 9] : List Nat) rfl rfl 3 0 rfl rfl rfl hl.1 rfl (Nat.le_of_ble_eq_true rfl) dL_law_504 ⟨Nat.le_of_ble_eq_true rfl, Nat.le_of_ble_eq_true rfl⟩) hP hD hS hA [0, 2, 3, 4, 5, 6, 7, 8, 9] [1, 10, 11, 12, 13, 14, 15, 16, 17, 18, 19, 20, 21] [13, 0, 14, 15, 16, 17, 18, 19, 20, 21, 1, 2, 3, 4, 5, 6, 7, 8, 9, 10, 11, 12] rfl rfl rfl (by decide) rfl rfl (fun H locs hP hD hS => ?_)
        refine lv_aload_n hx hb dL_law_507 rfl (lv_at hl 2 rfl) ?_
        refine lv_aload_n hx hb dL_law_508 rfl (lv_at hl 0 rfl) ?_
        refine lv_iload_n hx hb dL_law_509 rfl (lv_at hl 3 rfl) ?_
        refine lv_iconst (v := 1) hx hb dL_law_510 (by decide) ?_
        refine lv_iadd hx hb dL_law_511 ?_
        refine va_sld hx hb hX hbl hbA hS h_1 dL_law_512 ?_
        refine lv_eqi y1 e_1.symm ?_
        refine lv_aload_n hx hb dL_law_513 rfl (lv_at hl 0 rfl) ?_
        refine lv_iload_n hx hb dL_law_514 rfl (lv_at hl 3 rfl) ?_
        refine lv_iconst (v := 2) hx hb dL_law_515 (by decide) ?_
        refine lv_iadd hx hb dL_law_516 ?_
        refine va_sld hx hb hX hbl hbA hS h_2 dL_law_517 ?_
        refine lv_eqi y2 e_2.symm ?_
        refine lv_aload_n hx hb dL_law_518 rfl (lv_at hl 0 rfl) ?_
        refine lv_iload_n hx hb dL_law_519 rfl (lv_at hl 3 rfl) ?_
        refine lv_iconst (v := 3) hx hb dL_law_520 (by decide) ?_
        refine lv_iadd hx hb dL_law_521 ?_
        refine va_sld hx hb hX hbl hbA hS h_3 dL_law_522 ?_
        refine lv_eqi y3 e_3.symm ?_
        refine lv_aload_n hx hb dL_law_523 rfl (lv_at hl 0 rfl) ?_
        refine lv_iload_n hx hb dL_law_524 rfl (lv_at hl 3 rfl) ?_
        refine lv_iconst (v := 4) hx hb dL_law_525 (by decide) ?_
        refine lv_iadd hx hb dL_law_526 ?_
        refine va_sld hx hb hX hbl hbA hS h_4 dL_law_527 ?_
        refine lv_eqi y4 e_4.symm ?_
        refine kI (wr := LBw aX aB aB1 aB2 aT aP kp ++ PLw aP aB aT q0 q1 q2 q3 q4 q5 q6 q7 q8 ++ BKw cA aB aR aL aF now told rf lf ff ++ TRw cA aT aU aG aE ((g_X3_busy told ff sz bf gf ef y1 y2 y3 y4).2.1) ((g_X3_busy told ff sz bf gf ef y1 y2 y3 y4).2.2.1) ((g_X3_busy told ff sz bf gf ef y1 y2 y3 y4).2.2.2.1) ((g_X3_busy told ff sz bf gf ef y1 y2 y3 y4).2.2.2.2) ++ BKw cA aB1 aR1 aL1 aF1 now1 told1 rf1 lf1 ff1 ++ BKw cA aB2 aR2 aL2 aF2 now2 told2 rf2 lf2 ff2) (W1 := MDw cA cZ aM aS aI aK sf mf kf m0 m1 m2 m3 m4) (wsN := LBw aX aB aB1 aB2 aT aP kp ++ PLw aP aB aT q0 q1 q2 q3 q4 q5 q6 q7 q8 ++ BKw cA aB aR aL aF now told rf lf ff ++ TRw cA aT aU aG aE ((g_X3_busy told ff sz bf gf ef y1 y2 y3 y4).2.1) ((g_X3_busy told ff sz bf gf ef y1 y2 y3 y4).2.2.1) ((g_X3_busy told ff sz bf gf ef y1 y2 y3 y4).2.2.2.1) ((g_X3_busy told ff sz bf gf ef y1 y2 y3 y4).2.2.2.2) ++ BKw cA aB1 aR1 aL1 aF1 now1 told1 rf1 lf1 ff1 ++ BKw cA aB2 aR2 aL2 aF2 now2 told2 rf2 lf2 ff2 ++ MDw cA cZ aM aS aI aK sf mf kf m0 m1 m2 m3 m4) (rV (As := [.int y1, .int y2, .int y3, .int y4]) (rest := [.int ((g_X3_busy told ff sz bf gf ef y1 y2 y3 y4).1)]) (W0 := MDw cA cZ aM aS aI aK sf mf kf m0 m1 m2 m3 m4) ⟨hx, hb, hml, hown, hts⟩ (c_X4_busy l D cA cZ aM aS aI aK H.size sf mf kf m0 m1 m2 m3 m4 y1 y2 y3 y4 hm) (cwV 4 hts gL_law_X4_busy rfl rfl rfl (by decide +kernel) ⟨Nat.le_of_ble_eq_true rfl, Nat.le_of_ble_eq_true rfl⟩) hP hD hK hN ([18, 19, 20, 21] : List Nat) rfl rfl 4 0 rfl rfl rfl hl.1 rfl (Nat.le_of_ble_eq_true rfl) dL_law_528 ⟨Nat.le_of_ble_eq_true rfl, Nat.le_of_ble_eq_true rfl⟩) hP hD hS hA [18, 19, 20, 21] [0, 1, 2, 3, 4, 5, 6, 7, 8, 9, 10, 11, 12, 13, 14, 15, 16, 17] [0, 1, 2, 3, 4, 5, 6, 7, 8, 9, 10, 11, 12, 13, 14, 15, 16, 17, 18, 19, 20, 21] rfl rfl rfl (by decide) rfl rfl (fun H locs hP hD hS => ?_)
        have hL9 := L_busy hT kp q0 q1 q2 q3 q4 q5 q6 q7 q8 now told rf lf ff sz bf gf ef now1 told1 rf1 lf1 ff1 now2 told2 rf2 lf2 ff2 sf mf kf m0 m1 m2 m3 m4 hSim y1 y2 y3 y4
        refine lv_icmp_eq (tgt := 787) hx hb dL_law_531 (by decide) (fun _ => ?_) (fun c9 => absurd hL9.1 c9)
        refine lv_iinc (v := nI (6 * (k + 1))) (lv' := [(3, .int (nI (6 * (k + 1)))), (0, .ref b), (1, .ref aX), (2, .ref aM)]) hx hb dL_law_787 hl (k := 3) rfl (law_i k) (by decide) rfl (fun ls hl => ?_)
        refine lv_goto (tgt := 18) hx hb dL_law_790 (by decide) ?_
        exact ih (k + 1) kp q0 q1 q2 q3 q4 q5 q6 q7 q8 now told rf lf ff ((g_X3_busy told ff sz bf gf ef y1 y2 y3 y4).2.1) ((g_X3_busy told ff sz bf gf ef y1 y2 y3 y4).2.2.1) ((g_X3_busy told ff sz bf gf ef y1 y2 y3 y4).2.2.2.1) ((g_X3_busy told ff sz bf gf ef y1 y2 y3 y4).2.2.2.2) now1 told1 rf1 lf1 ff1 now2 told2 rf2 lf2 ff2 sf mf kf m0 m1 m2 m3 m4 H locs ls hk1 (by omega) (law_T hL9.2) hP hD hS (lv_sub hl [1, 2, 3, 0] rfl)
      rcases Decidable.em (sw = 10) with c_11 | c_11
      · refine lv_tableIn (off := 503) (tgt := 536) hx hb dL_law_33 (by rw [c_11]; decide) (by rw [c_11]; decide) (by rw [c_11]; rfl) (by decide) ?_
        refine lv_aload_n hx hb dL_law_536 rfl (lv_at hl 1 rfl) ?_
        refine lv_aload_n hx hb dL_law_537 rfl (lv_at hl 0 rfl) ?_
        refine lv_iload_n hx hb dL_law_538 rfl (lv_at hl 3 rfl) ?_
        refine lv_iconst (v := 1) hx hb dL_law_539 (by decide) ?_
        refine lv_iadd hx hb dL_law_540 ?_
        refine va_sld hx hb hX hbl hbA hS h_1 dL_law_541 ?_
        refine lv_eqi y1 e_1.symm ?_
        refine lv_aload_n hx hb dL_law_542 rfl (lv_at hl 0 rfl) ?_
        refine lv_iload_n hx hb dL_law_543 rfl (lv_at hl 3 rfl) ?_
        refine lv_iconst (v := 2) hx hb dL_law_544 (by decide) ?_
        refine lv_iadd hx hb dL_law_545 ?_
        refine va_sld hx hb hX hbl hbA hS h_2 dL_law_546 ?_
        refine lv_eqi y2 e_2.symm ?_
        refine lv_aload_n hx hb dL_law_547 rfl (lv_at hl 0 rfl) ?_
        refine lv_iload_n hx hb dL_law_548 rfl (lv_at hl 3 rfl) ?_
        refine lv_iconst (v := 3) hx hb dL_law_549 (by decide) ?_
        refine lv_iadd hx hb dL_law_550 ?_
        refine va_sld hx hb hX hbl hbA hS h_3 dL_law_551 ?_
        refine lv_eqi y3 e_3.symm ?_
        refine kI (wr := PLw aP aB aT q0 q1 q2 q3 q4 q5 q6 q7 q8 ++ BKw cA aB1 aR1 aL1 aF1 now1 told1 rf1 lf1 ff1 ++ BKw cA aB2 aR2 aL2 aF2 now2 told2 rf2 lf2 ff2 ++ MDw cA cZ aM aS aI aK sf mf kf m0 m1 m2 m3 m4) (W1 := LBw aX aB aB1 aB2 aT aP kp ++ BKw cA aB aR aL aF now told rf lf ff ++ TRw cA aT aU aG aE ((g_X3_free told ff sz bf gf ef y1 y2 y3).2.1) ((g_X3_free told ff sz bf gf ef y1 y2 y3).2.2.1) ((g_X3_free told ff sz bf gf ef y1 y2 y3).2.2.2.1) ((g_X3_free told ff sz bf gf ef y1 y2 y3).2.2.2.2)) (wsN := LBw aX aB aB1 aB2 aT aP kp ++ PLw aP aB aT q0 q1 q2 q3 q4 q5 q6 q7 q8 ++ BKw cA aB aR aL aF now told rf lf ff ++ TRw cA aT aU aG aE ((g_X3_free told ff sz bf gf ef y1 y2 y3).2.1) ((g_X3_free told ff sz bf gf ef y1 y2 y3).2.2.1) ((g_X3_free told ff sz bf gf ef y1 y2 y3).2.2.2.1) ((g_X3_free told ff sz bf gf ef y1 y2 y3).2.2.2.2) ++ BKw cA aB1 aR1 aL1 aF1 now1 told1 rf1 lf1 ff1 ++ BKw cA aB2 aR2 aL2 aF2 now2 told2 rf2 lf2 ff2 ++ MDw cA cZ aM aS aI aK sf mf kf m0 m1 m2 m3 m4) (rV (As := [.int y1, .int y2, .int y3]) (rest := []) (W0 := LBw aX aB aB1 aB2 aT aP kp ++ BKw cA aB aR aL aF now told rf lf ff ++ TRw cA aT aU aG aE sz bf gf ef) ⟨hx, hb, hml, hown, hts⟩ (c_X3_free l D cA cZ aX aB aB1 aB2 aT aP aR aL aF aU aG aE H.size kp now told rf lf ff sz bf gf ef y1 y2 y3) (cwV 3 hts gL_law_X3_free rfl rfl rfl (by decide +kernel) ⟨Nat.le_of_ble_eq_true rfl, Nat.le_of_ble_eq_true rfl⟩) hP hD hK hN ([0, 2, 3, 4, 5, 6, 7, 8, 9] : List Nat) rfl rfl 3 0 rfl rfl rfl hl.1 rfl (Nat.le_of_ble_eq_true rfl) dL_law_552 ⟨Nat.le_of_ble_eq_true rfl, Nat.le_of_ble_eq_true rfl⟩) hP hD hS hA [0, 2, 3, 4, 5, 6, 7, 8, 9] [1, 10, 11, 12, 13, 14, 15, 16, 17, 18, 19, 20, 21] [13, 0, 14, 15, 16, 17, 18, 19, 20, 21, 1, 2, 3, 4, 5, 6, 7, 8, 9, 10, 11, 12] rfl rfl rfl (by decide) rfl rfl (fun H locs hP hD hS => ?_)
        refine lv_aload_n hx hb dL_law_555 rfl (lv_at hl 2 rfl) ?_
        refine lv_aload_n hx hb dL_law_556 rfl (lv_at hl 0 rfl) ?_
        refine lv_iload_n hx hb dL_law_557 rfl (lv_at hl 3 rfl) ?_
        refine lv_iconst (v := 1) hx hb dL_law_558 (by decide) ?_
        refine lv_iadd hx hb dL_law_559 ?_
        refine va_sld hx hb hX hbl hbA hS h_1 dL_law_560 ?_
        refine lv_eqi y1 e_1.symm ?_
        refine lv_aload_n hx hb dL_law_561 rfl (lv_at hl 0 rfl) ?_
        refine lv_iload_n hx hb dL_law_562 rfl (lv_at hl 3 rfl) ?_
        refine lv_iconst (v := 2) hx hb dL_law_563 (by decide) ?_
        refine lv_iadd hx hb dL_law_564 ?_
        refine va_sld hx hb hX hbl hbA hS h_2 dL_law_565 ?_
        refine lv_eqi y2 e_2.symm ?_
        refine lv_aload_n hx hb dL_law_566 rfl (lv_at hl 0 rfl) ?_
        refine lv_iload_n hx hb dL_law_567 rfl (lv_at hl 3 rfl) ?_
        refine lv_iconst (v := 3) hx hb dL_law_568 (by decide) ?_
        refine lv_iadd hx hb dL_law_569 ?_
        refine va_sld hx hb hX hbl hbA hS h_3 dL_law_570 ?_
        refine lv_eqi y3 e_3.symm ?_
        refine kI (wr := LBw aX aB aB1 aB2 aT aP kp ++ PLw aP aB aT q0 q1 q2 q3 q4 q5 q6 q7 q8 ++ BKw cA aB aR aL aF now told rf lf ff ++ TRw cA aT aU aG aE ((g_X3_free told ff sz bf gf ef y1 y2 y3).2.1) ((g_X3_free told ff sz bf gf ef y1 y2 y3).2.2.1) ((g_X3_free told ff sz bf gf ef y1 y2 y3).2.2.2.1) ((g_X3_free told ff sz bf gf ef y1 y2 y3).2.2.2.2) ++ BKw cA aB1 aR1 aL1 aF1 now1 told1 rf1 lf1 ff1 ++ BKw cA aB2 aR2 aL2 aF2 now2 told2 rf2 lf2 ff2) (W1 := MDw cA cZ aM aS aI aK sf mf kf m0 m1 m2 m3 m4) (wsN := LBw aX aB aB1 aB2 aT aP kp ++ PLw aP aB aT q0 q1 q2 q3 q4 q5 q6 q7 q8 ++ BKw cA aB aR aL aF now told rf lf ff ++ TRw cA aT aU aG aE ((g_X3_free told ff sz bf gf ef y1 y2 y3).2.1) ((g_X3_free told ff sz bf gf ef y1 y2 y3).2.2.1) ((g_X3_free told ff sz bf gf ef y1 y2 y3).2.2.2.1) ((g_X3_free told ff sz bf gf ef y1 y2 y3).2.2.2.2) ++ BKw cA aB1 aR1 aL1 aF1 now1 told1 rf1 lf1 ff1 ++ BKw cA aB2 aR2 aL2 aF2 now2 told2 rf2 lf2 ff2 ++ MDw cA cZ aM aS aI aK sf mf kf m0 m1 m2 m3 m4) (rV (As := [.int y1, .int y2, .int y3]) (rest := [.int ((g_X3_free told ff sz bf gf ef y1 y2 y3).1)]) (W0 := MDw cA cZ aM aS aI aK sf mf kf m0 m1 m2 m3 m4) ⟨hx, hb, hml, hown, hts⟩ (c_X4_free l D cA cZ aM aS aI aK H.size sf mf kf m0 m1 m2 m3 m4 y1 y2 y3 hm) (cwV 3 hts gL_law_X4_free rfl rfl rfl (by decide +kernel) ⟨Nat.le_of_ble_eq_true rfl, Nat.le_of_ble_eq_true rfl⟩) hP hD hK hN ([18, 19, 20, 21] : List Nat) rfl rfl 4 0 rfl rfl rfl hl.1 rfl (Nat.le_of_ble_eq_true rfl) dL_law_571 ⟨Nat.le_of_ble_eq_true rfl, Nat.le_of_ble_eq_true rfl⟩) hP hD hS hA [18, 19, 20, 21] [0, 1, 2, 3, 4, 5, 6, 7, 8, 9, 10, 11, 12, 13, 14, 15, 16, 17] [0, 1, 2, 3, 4, 5, 6, 7, 8, 9, 10, 11, 12, 13, 14, 15, 16, 17, 18, 19, 20, 21] rfl rfl rfl (by decide) rfl rfl (fun H locs hP hD hS => ?_)
        have hL9 := L_free hT kp q0 q1 q2 q3 q4 q5 q6 q7 q8 now told rf lf ff sz bf gf ef now1 told1 rf1 lf1 ff1 now2 told2 rf2 lf2 ff2 sf mf kf m0 m1 m2 m3 m4 hSim y1 y2 y3
        refine lv_icmp_eq (tgt := 787) hx hb dL_law_574 (by decide) (fun _ => ?_) (fun c9 => absurd hL9.1 c9)
        refine lv_iinc (v := nI (6 * (k + 1))) (lv' := [(3, .int (nI (6 * (k + 1)))), (0, .ref b), (1, .ref aX), (2, .ref aM)]) hx hb dL_law_787 hl (k := 3) rfl (law_i k) (by decide) rfl (fun ls hl => ?_)
        refine lv_goto (tgt := 18) hx hb dL_law_790 (by decide) ?_
        exact ih (k + 1) kp q0 q1 q2 q3 q4 q5 q6 q7 q8 now told rf lf ff ((g_X3_free told ff sz bf gf ef y1 y2 y3).2.1) ((g_X3_free told ff sz bf gf ef y1 y2 y3).2.2.1) ((g_X3_free told ff sz bf gf ef y1 y2 y3).2.2.2.1) ((g_X3_free told ff sz bf gf ef y1 y2 y3).2.2.2.2) now1 told1 rf1 lf1 ff1 now2 told2 rf2 lf2 ff2 sf mf kf m0 m1 m2 m3 m4 H locs ls hk1 (by omega) (law_T hL9.2) hP hD hS (lv_sub hl [1, 2, 3, 0] rfl)
      rcases Decidable.em (sw = 11) with c_12 | c_12
      · refine lv_tableIn (off := 546) (tgt := 579) hx hb dL_law_33 (by rw [c_12]; decide) (by rw [c_12]; decide) (by rw [c_12]; rfl) (by decide) ?_
        refine lv_aload_n hx hb dL_law_579 rfl (lv_at hl 1 rfl) ?_
        refine lv_aload_n hx hb dL_law_580 rfl (lv_at hl 0 rfl) ?_
        refine lv_iload_n hx hb dL_law_581 rfl (lv_at hl 3 rfl) ?_
        refine lv_iconst (v := 1) hx hb dL_law_582 (by decide) ?_
        refine lv_iadd hx hb dL_law_583 ?_
        refine va_sld hx hb hX hbl hbA hS h_1 dL_law_584 ?_
        refine lv_eqi y1 e_1.symm ?_
        refine lv_aload_n hx hb dL_law_585 rfl (lv_at hl 0 rfl) ?_
        refine lv_iload_n hx hb dL_law_586 rfl (lv_at hl 3 rfl) ?_
        refine lv_iconst (v := 2) hx hb dL_law_587 (by decide) ?_
        refine lv_iadd hx hb dL_law_588 ?_
        refine va_sld hx hb hX hbl hbA hS h_2 dL_law_589 ?_
        refine lv_eqi y2 e_2.symm ?_
        refine lv_aload_n hx hb dL_law_590 rfl (lv_at hl 0 rfl) ?_
        refine lv_iload_n hx hb dL_law_591 rfl (lv_at hl 3 rfl) ?_
        refine lv_iconst (v := 3) hx hb dL_law_592 (by decide) ?_
        refine lv_iadd hx hb dL_law_593 ?_
        refine va_sld hx hb hX hbl hbA hS h_3 dL_law_594 ?_
        refine lv_eqi y3 e_3.symm ?_
        refine lv_aload_n hx hb dL_law_595 rfl (lv_at hl 0 rfl) ?_
        refine lv_iload_n hx hb dL_law_596 rfl (lv_at hl 3 rfl) ?_
        refine lv_iconst (v := 4) hx hb dL_law_597 (by decide) ?_
        refine lv_iadd hx hb dL_law_598 ?_
        refine va_sld hx hb hX hbl hbA hS h_4 dL_law_599 ?_
        refine lv_eqi y4 e_4.symm ?_
        refine kI (wr := PLw aP aB aT q0 q1 q2 q3 q4 q5 q6 q7 q8 ++ BKw cA aB1 aR1 aL1 aF1 now1 told1 rf1 lf1 ff1 ++ BKw cA aB2 aR2 aL2 aF2 now2 told2 rf2 lf2 ff2 ++ MDw cA cZ aM aS aI aK sf mf kf m0 m1 m2 m3 m4) (W1 := LBw aX aB aB1 aB2 aT aP kp ++ BKw cA aB aR aL aF now told rf lf ff ++ TRw cA aT aU aG aE ((g_X3_next told ff sz bf gf ef y1 y2 y3 y4).2.1) ((g_X3_next told ff sz bf gf ef y1 y2 y3 y4).2.2.1) ((g_X3_next told ff sz bf gf ef y1 y2 y3 y4).2.2.2.1) ((g_X3_next told ff sz bf gf ef y1 y2 y3 y4).2.2.2.2)) (wsN := LBw aX aB aB1 aB2 aT aP kp ++ PLw aP aB aT q0 q1 q2 q3 q4 q5 q6 q7 q8 ++ BKw cA aB aR aL aF now told rf lf ff ++ TRw cA aT aU aG aE ((g_X3_next told ff sz bf gf ef y1 y2 y3 y4).2.1) ((g_X3_next told ff sz bf gf ef y1 y2 y3 y4).2.2.1) ((g_X3_next told ff sz bf gf ef y1 y2 y3 y4).2.2.2.1) ((g_X3_next told ff sz bf gf ef y1 y2 y3 y4).2.2.2.2) ++ BKw cA aB1 aR1 aL1 aF1 now1 told1 rf1 lf1 ff1 ++ BKw cA aB2 aR2 aL2 aF2 now2 told2 rf2 lf2 ff2 ++ MDw cA cZ aM aS aI aK sf mf kf m0 m1 m2 m3 m4) (rV (As := [.int y1, .int y2, .int y3, .int y4]) (rest := []) (W0 := LBw aX aB aB1 aB2 aT aP kp ++ BKw cA aB aR aL aF now told rf lf ff ++ TRw cA aT aU aG aE sz bf gf ef) ⟨hx, hb, hml, hown, hts⟩ (c_X3_next l D cA cZ aX aB aB1 aB2 aT aP aR aL aF aU aG aE H.size kp now told rf lf ff sz bf gf ef y1 y2 y3 y4) (cwV 4 hts gL_law_X3_next rfl rfl rfl (by decide +kernel) ⟨Nat.le_of_ble_eq_true rfl, Nat.le_of_ble_eq_true rfl⟩) hP hD hK hN ([0, 2, 3, 4, 5, 6, 7, 8, 9] : List Nat) rfl rfl 3 0 rfl rfl rfl hl.1 rfl (Nat.le_of_ble_eq_true rfl) dL_law_600 ⟨Nat.le_of_ble_eq_true rfl, Nat.le_of_ble_eq_true rfl⟩) hP hD hS hA [0, 2, 3, 4, 5, 6, 7, 8, 9] [1, 10, 11, 12, 13, 14, 15, 16, 17, 18, 19, 20, 21] [13, 0, 14, 15, 16, 17, 18, 19, 20, 21, 1, 2, 3, 4, 5, 6, 7, 8, 9, 10, 11, 12] rfl rfl rfl (by decide) rfl rfl (fun H locs hP hD hS => ?_)
        refine lv_aload_n hx hb dL_law_603 rfl (lv_at hl 2 rfl) ?_
        refine lv_aload_n hx hb dL_law_604 rfl (lv_at hl 0 rfl) ?_
        refine lv_iload_n hx hb dL_law_605 rfl (lv_at hl 3 rfl) ?_
        refine lv_iconst (v := 1) hx hb dL_law_606 (by decide) ?_
        refine lv_iadd hx hb dL_law_607 ?_
        refine va_sld hx hb hX hbl hbA hS h_1 dL_law_608 ?_
        refine lv_eqi y1 e_1.symm ?_
        refine lv_aload_n hx hb dL_law_609 rfl (lv_at hl 0 rfl) ?_
        refine lv_iload_n hx hb dL_law_610 rfl (lv_at hl 3 rfl) ?_
        refine lv_iconst (v := 2) hx hb dL_law_611 (by decide) ?_
        refine lv_iadd hx hb dL_law_612 ?_
        refine va_sld hx hb hX hbl hbA hS h_2 dL_law_613 ?_
        refine lv_eqi y2 e_2.symm ?_
        refine lv_aload_n hx hb dL_law_614 rfl (lv_at hl 0 rfl) ?_
        refine lv_iload_n hx hb dL_law_615 rfl (lv_at hl 3 rfl) ?_
        refine lv_iconst (v := 3) hx hb dL_law_616 (by decide) ?_
        refine lv_iadd hx hb dL_law_617 ?_
        refine va_sld hx hb hX hbl hbA hS h_3 dL_law_618 ?_
        refine lv_eqi y3 e_3.symm ?_
        refine lv_aload_n hx hb dL_law_619 rfl (lv_at hl 0 rfl) ?_
        refine lv_iload_n hx hb dL_law_620 rfl (lv_at hl 3 rfl) ?_
        refine lv_iconst (v := 4) hx hb dL_law_621 (by decide) ?_
        refine lv_iadd hx hb dL_law_622 ?_
        refine va_sld hx hb hX hbl hbA hS h_4 dL_law_623 ?_
        refine lv_eqi y4 e_4.symm ?_
        refine kI (wr := LBw aX aB aB1 aB2 aT aP kp ++ PLw aP aB aT q0 q1 q2 q3 q4 q5 q6 q7 q8 ++ BKw cA aB aR aL aF now told rf lf ff ++ TRw cA aT aU aG aE ((g_X3_next told ff sz bf gf ef y1 y2 y3 y4).2.1) ((g_X3_next told ff sz bf gf ef y1 y2 y3 y4).2.2.1) ((g_X3_next told ff sz bf gf ef y1 y2 y3 y4).2.2.2.1) ((g_X3_next told ff sz bf gf ef y1 y2 y3 y4).2.2.2.2) ++ BKw cA aB1 aR1 aL1 aF1 now1 told1 rf1 lf1 ff1 ++ BKw cA aB2 aR2 aL2 aF2 now2 told2 rf2 lf2 ff2) (W1 := MDw cA cZ aM aS aI aK sf mf kf m0 m1 m2 m3 m4) (wsN := LBw aX aB aB1 aB2 aT aP kp ++ PLw aP aB aT q0 q1 q2 q3 q4 q5 q6 q7 q8 ++ BKw cA aB aR aL aF now told rf lf ff ++ TRw cA aT aU aG aE ((g_X3_next told ff sz bf gf ef y1 y2 y3 y4).2.1) ((g_X3_next told ff sz bf gf ef y1 y2 y3 y4).2.2.1) ((g_X3_next told ff sz bf gf ef y1 y2 y3 y4).2.2.2.1) ((g_X3_next told ff sz bf gf ef y1 y2 y3 y4).2.2.2.2) ++ BKw cA aB1 aR1 aL1 aF1 now1 told1 rf1 lf1 ff1 ++ BKw cA aB2 aR2 aL2 aF2 now2 told2 rf2 lf2 ff2 ++ MDw cA cZ aM aS aI aK sf mf kf m0 m1 m2 m3 m4) (rV (As := [.int y1, .int y2, .int y3, .int y4]) (rest := [.int ((g_X3_next told ff sz bf gf ef y1 y2 y3 y4).1)]) (W0 := MDw cA cZ aM aS aI aK sf mf kf m0 m1 m2 m3 m4) ⟨hx, hb, hml, hown, hts⟩ (c_X4_next l D cA cZ aM aS aI aK H.size sf mf kf m0 m1 m2 m3 m4 y1 y2 y3 y4 hm) (cwV 4 hts gL_law_X4_next rfl rfl rfl (by decide +kernel) ⟨Nat.le_of_ble_eq_true rfl, Nat.le_of_ble_eq_true rfl⟩) hP hD hK hN ([18, 19, 20, 21] : List Nat) rfl rfl 4 0 rfl rfl rfl hl.1 rfl (Nat.le_of_ble_eq_true rfl) dL_law_624 ⟨Nat.le_of_ble_eq_true rfl, Nat.le_of_ble_eq_true rfl⟩) hP hD hS hA [18, 19, 20, 21] [0, 1, 2, 3, 4, 5, 6, 7, 8, 9, 10, 11, 12, 13, 14, 15, 16, 17] [0, 1, 2, 3, 4, 5, 6, 7, 8, 9, 10, 11, 12, 13, 14, 15, 16, 17, 18, 19, 20, 21] rfl rfl rfl (by decide) rfl rfl (fun H locs hP hD hS => ?_)
        have hL9 := L_next hT kp q0 q1 q2 q3 q4 q5 q6 q7 q8 now told rf lf ff sz bf gf ef now1 told1 rf1 lf1 ff1 now2 told2 rf2 lf2 ff2 sf mf kf m0 m1 m2 m3 m4 hSim y1 y2 y3 y4
        refine lv_icmp_eq (tgt := 787) hx hb dL_law_627 (by decide) (fun _ => ?_) (fun c9 => absurd hL9.1 c9)
        refine lv_iinc (v := nI (6 * (k + 1))) (lv' := [(3, .int (nI (6 * (k + 1)))), (0, .ref b), (1, .ref aX), (2, .ref aM)]) hx hb dL_law_787 hl (k := 3) rfl (law_i k) (by decide) rfl (fun ls hl => ?_)
        refine lv_goto (tgt := 18) hx hb dL_law_790 (by decide) ?_
        exact ih (k + 1) kp q0 q1 q2 q3 q4 q5 q6 q7 q8 now told rf lf ff ((g_X3_next told ff sz bf gf ef y1 y2 y3 y4).2.1) ((g_X3_next told ff sz bf gf ef y1 y2 y3 y4).2.2.1) ((g_X3_next told ff sz bf gf ef y1 y2 y3 y4).2.2.2.1) ((g_X3_next told ff sz bf gf ef y1 y2 y3 y4).2.2.2.2) now1 told1 rf1 lf1 ff1 now2 told2 rf2 lf2 ff2 sf mf kf m0 m1 m2 m3 m4 H locs ls hk1 (by omega) (law_T hL9.2) hP hD hS (lv_sub hl [1, 2, 3, 0] rfl)
      rcases Decidable.em (sw = 12) with c_13 | c_13
      · refine lv_tableIn (off := 599) (tgt := 632) hx hb dL_law_33 (by rw [c_13]; decide) (by rw [c_13]; decide) (by rw [c_13]; rfl) (by decide) ?_
        refine lv_aload_n hx hb dL_law_632 rfl (lv_at hl 1 rfl) ?_
        refine lv_aload_n hx hb dL_law_633 rfl (lv_at hl 0 rfl) ?_
        refine lv_iload_n hx hb dL_law_634 rfl (lv_at hl 3 rfl) ?_
        refine lv_iconst (v := 1) hx hb dL_law_635 (by decide) ?_
        refine lv_iadd hx hb dL_law_636 ?_
        refine va_sld hx hb hX hbl hbA hS h_1 dL_law_637 ?_
        refine lv_eqi y1 e_1.symm ?_
        refine lv_aload_n hx hb dL_law_638 rfl (lv_at hl 0 rfl) ?_
        refine lv_iload_n hx hb dL_law_639 rfl (lv_at hl 3 rfl) ?_
        refine lv_iconst (v := 2) hx hb dL_law_640 (by decide) ?_
        refine lv_iadd hx hb dL_law_641 ?_
        refine va_sld hx hb hX hbl hbA hS h_2 dL_law_642 ?_
        refine lv_eqi y2 e_2.symm ?_
        refine lv_aload_n hx hb dL_law_643 rfl (lv_at hl 0 rfl) ?_
        refine lv_iload_n hx hb dL_law_644 rfl (lv_at hl 3 rfl) ?_
        refine lv_iconst (v := 3) hx hb dL_law_645 (by decide) ?_
        refine lv_iadd hx hb dL_law_646 ?_
        refine va_sld hx hb hX hbl hbA hS h_3 dL_law_647 ?_
        refine lv_eqi y3 e_3.symm ?_
        refine lv_aload_n hx hb dL_law_648 rfl (lv_at hl 0 rfl) ?_
        refine lv_iload_n hx hb dL_law_649 rfl (lv_at hl 3 rfl) ?_
        refine lv_iconst (v := 4) hx hb dL_law_650 (by decide) ?_
        refine lv_iadd hx hb dL_law_651 ?_
        refine va_sld hx hb hX hbl hbA hS h_4 dL_law_652 ?_
        refine lv_eqi y4 e_4.symm ?_
        refine kI (wr := PLw aP aB aT q0 q1 q2 q3 q4 q5 q6 q7 q8 ++ BKw cA aB1 aR1 aL1 aF1 now1 told1 rf1 lf1 ff1 ++ BKw cA aB2 aR2 aL2 aF2 now2 told2 rf2 lf2 ff2 ++ MDw cA cZ aM aS aI aK sf mf kf m0 m1 m2 m3 m4) (W1 := LBw aX aB aB1 aB2 aT aP kp ++ BKw cA aB aR aL aF now told rf lf ff ++ TRw cA aT aU aG aE ((g_X3_hole now told ff sz bf gf ef y1 y2 y3 y4).2.1) ((g_X3_hole now told ff sz bf gf ef y1 y2 y3 y4).2.2.1) ((g_X3_hole now told ff sz bf gf ef y1 y2 y3 y4).2.2.2.1) ((g_X3_hole now told ff sz bf gf ef y1 y2 y3 y4).2.2.2.2)) (wsN := LBw aX aB aB1 aB2 aT aP kp ++ PLw aP aB aT q0 q1 q2 q3 q4 q5 q6 q7 q8 ++ BKw cA aB aR aL aF now told rf lf ff ++ TRw cA aT aU aG aE ((g_X3_hole now told ff sz bf gf ef y1 y2 y3 y4).2.1) ((g_X3_hole now told ff sz bf gf ef y1 y2 y3 y4).2.2.1) ((g_X3_hole now told ff sz bf gf ef y1 y2 y3 y4).2.2.2.1) ((g_X3_hole now told ff sz bf gf ef y1 y2 y3 y4).2.2.2.2) ++ BKw cA aB1 aR1 aL1 aF1 now1 told1 rf1 lf1 ff1 ++ BKw cA aB2 aR2 aL2 aF2 now2 told2 rf2 lf2 ff2 ++ MDw cA cZ aM aS aI aK sf mf kf m0 m1 m2 m3 m4) (rV (As := [.int y1, .int y2, .int y3, .int y4]) (rest := []) (W0 := LBw aX aB aB1 aB2 aT aP kp ++ BKw cA aB aR aL aF now told rf lf ff ++ TRw cA aT aU aG aE sz bf gf ef) ⟨hx, hb, hml, hown, hts⟩ (c_X3_hole l D cA cZ aX aB aB1 aB2 aT aP aR aL aF aU aG aE H.size kp now told rf lf ff sz bf gf ef y1 y2 y3 y4) (cwV 4 hts gL_law_X3_hole rfl rfl rfl (by decide +kernel) ⟨Nat.le_of_ble_eq_true rfl, Nat.le_of_ble_eq_true rfl⟩) hP hD hK hN ([0, 2, 3, 4, 5, 6, 7, 8, 9] : List Nat) rfl rfl 3 0 rfl rfl rfl hl.1 rfl (Nat.le_of_ble_eq_true rfl) dL_law_653 ⟨Nat.le_of_ble_eq_true rfl, Nat.le_of_ble_eq_true rfl⟩) hP hD hS hA [0, 2, 3, 4, 5, 6, 7, 8, 9] [1, 10, 11, 12, 13, 14, 15, 16, 17, 18, 19, 20, 21] [13, 0, 14, 15, 16, 17, 18, 19, 20, 21, 1, 2, 3, 4, 5, 6, 7, 8, 9, 10, 11, 12] rfl rfl rfl (by decide) rfl rfl (fun H locs hP hD hS => ?_)
        refine lv_aload_n hx hb dL_law_656 rfl (lv_at hl 2 rfl) ?_
        refine lv_aload_n hx hb dL_law_657 rfl (lv_at hl 0 rfl) ?_
        refine lv_iload_n hx hb dL_law_658 rfl (lv_at hl 3 rfl) ?_
        refine lv_iconst (v := 1) hx hb dL_law_659 (by decide) ?_
        refine lv_iadd hx hb dL_law_660 ?_
        refine va_sld hx hb hX hbl hbA hS h_1 dL_law_661 ?_
        refine lv_eqi y1 e_1.symm ?_
        refine lv_aload_n hx hb dL_law_662 rfl (lv_at hl 0 rfl) ?_
        refine lv_iload_n hx hb dL_law_663 rfl (lv_at hl 3 rfl) ?_
        refine lv_iconst (v := 2) hx hb dL_law_664 (by decide) ?_
        refine lv_iadd hx hb dL_law_665 ?_
        refine va_sld hx hb hX hbl hbA hS h_2 dL_law_666 ?_
        refine lv_eqi y2 e_2.symm ?_
        refine lv_aload_n hx hb dL_law_667 rfl (lv_at hl 0 rfl) ?_
        refine lv_iload_n hx hb dL_law_668 rfl (lv_at hl 3 rfl) ?_
        refine lv_iconst (v := 3) hx hb dL_law_669 (by decide) ?_
        refine lv_iadd hx hb dL_law_670 ?_
        refine va_sld hx hb hX hbl hbA hS h_3 dL_law_671 ?_
        refine lv_eqi y3 e_3.symm ?_
        refine lv_aload_n hx hb dL_law_672 rfl (lv_at hl 0 rfl) ?_
        refine lv_iload_n hx hb dL_law_673 rfl (lv_at hl 3 rfl) ?_
        refine lv_iconst (v := 4) hx hb dL_law_674 (by decide) ?_
        refine lv_iadd hx hb dL_law_675 ?_
        refine va_sld hx hb hX hbl hbA hS h_4 dL_law_676 ?_
        refine lv_eqi y4 e_4.symm ?_
        refine kI (wr := LBw aX aB aB1 aB2 aT aP kp ++ PLw aP aB aT q0 q1 q2 q3 q4 q5 q6 q7 q8 ++ BKw cA aB aR aL aF now told rf lf ff ++ TRw cA aT aU aG aE ((g_X3_hole now told ff sz bf gf ef y1 y2 y3 y4).2.1) ((g_X3_hole now told ff sz bf gf ef y1 y2 y3 y4).2.2.1) ((g_X3_hole now told ff sz bf gf ef y1 y2 y3 y4).2.2.2.1) ((g_X3_hole now told ff sz bf gf ef y1 y2 y3 y4).2.2.2.2) ++ BKw cA aB1 aR1 aL1 aF1 now1 told1 rf1 lf1 ff1 ++ BKw cA aB2 aR2 aL2 aF2 now2 told2 rf2 lf2 ff2) (W1 := MDw cA cZ aM aS aI aK sf mf kf m0 m1 m2 m3 m4) (wsN := LBw aX aB aB1 aB2 aT aP kp ++ PLw aP aB aT q0 q1 q2 q3 q4 q5 q6 q7 q8 ++ BKw cA aB aR aL aF now told rf lf ff ++ TRw cA aT aU aG aE ((g_X3_hole now told ff sz bf gf ef y1 y2 y3 y4).2.1) ((g_X3_hole now told ff sz bf gf ef y1 y2 y3 y4).2.2.1) ((g_X3_hole now told ff sz bf gf ef y1 y2 y3 y4).2.2.2.1) ((g_X3_hole now told ff sz bf gf ef y1 y2 y3 y4).2.2.2.2) ++ BKw cA aB1 aR1 aL1 aF1 now1 told1 rf1 lf1 ff1 ++ BKw cA aB2 aR2 aL2 aF2 now2 told2 rf2 lf2 ff2 ++ MDw cA cZ aM aS aI aK sf mf kf m0 m1 m2 m3 m4) (rV (As := [.int y1, .int y2, .int y3, .int y4]) (rest := [.int ((g_X3_hole now told ff sz bf gf ef y1 y2 y3 y4).1)]) (W0 := MDw cA cZ aM aS aI aK sf mf kf m0 m1 m2 m3 m4) ⟨hx, hb, hml, hown, hts⟩ (c_X4_hole l D cA cZ aM aS aI aK H.size sf mf kf m0 m1 m2 m3 m4 y1 y2 y3 y4 hm) (cwV 4 hts gL_law_X4_hole rfl rfl rfl (by decide +kernel) ⟨Nat.le_of_ble_eq_true rfl, Nat.le_of_ble_eq_true rfl⟩) hP hD hK hN ([18, 19, 20, 21] : List Nat) rfl rfl 4 0 rfl rfl rfl hl.1 rfl (Nat.le_of_ble_eq_true rfl) dL_law_677 ⟨Nat.le_of_ble_eq_true rfl, Nat.le_of_ble_eq_true rfl⟩) hP hD hS hA [18, 19, 20, 21] [0, 1, 2, 3, 4, 5, 6, 7, 8, 9, 10, 11, 12, 13, 14, 15, 16, 17] [0, 1, 2, 3, 4, 5, 6, 7, 8, 9, 10, 11, 12, 13, 14, 15, 16, 17, 18, 19, 20, 21] rfl rfl rfl (by decide) rfl rfl (fun H locs hP hD hS => ?_)
        have hL9 := L_hole hT kp q0 q1 q2 q3 q4 q5 q6 q7 q8 now told rf lf ff sz bf gf ef now1 told1 rf1 lf1 ff1 now2 told2 rf2 lf2 ff2 sf mf kf m0 m1 m2 m3 m4 hSim y1 y2 y3 y4
        refine lv_icmp_eq (tgt := 787) hx hb dL_law_680 (by decide) (fun _ => ?_) (fun c9 => absurd hL9.1 c9)
        refine lv_iinc (v := nI (6 * (k + 1))) (lv' := [(3, .int (nI (6 * (k + 1)))), (0, .ref b), (1, .ref aX), (2, .ref aM)]) hx hb dL_law_787 hl (k := 3) rfl (law_i k) (by decide) rfl (fun ls hl => ?_)
        refine lv_goto (tgt := 18) hx hb dL_law_790 (by decide) ?_
        exact ih (k + 1) kp q0 q1 q2 q3 q4 q5 q6 q7 q8 now told rf lf ff ((g_X3_hole now told ff sz bf gf ef y1 y2 y3 y4).2.1) ((g_X3_hole now told ff sz bf gf ef y1 y2 y3 y4).2.2.1) ((g_X3_hole now told ff sz bf gf ef y1 y2 y3 y4).2.2.2.1) ((g_X3_hole now told ff sz bf gf ef y1 y2 y3 y4).2.2.2.2) now1 told1 rf1 lf1 ff1 now2 told2 rf2 lf2 ff2 sf mf kf m0 m1 m2 m3 m4 H locs ls hk1 (by omega) (law_T hL9.2) hP hD hS (lv_sub hl [1, 2, 3, 0] rfl)
      rcases Decidable.em (sw = 13) with c_14 | c_14
      · refine lv_tableIn (off := 652) (tgt := 685) hx hb dL_law_33 (by rw [c_14]; decide) (by rw [c_14]; decide) (by rw [c_14]; rfl) (by decide) ?_
        refine lv_aload_n hx hb dL_law_685 rfl (lv_at hl 1 rfl) ?_
        refine lv_aload_n hx hb dL_law_686 rfl (lv_at hl 0 rfl) ?_
        refine lv_iload_n hx hb dL_law_687 rfl (lv_at hl 3 rfl) ?_
        refine lv_iconst (v := 1) hx hb dL_law_688 (by decide) ?_
        refine lv_iadd hx hb dL_law_689 ?_
        refine va_sld hx hb hX hbl hbA hS h_1 dL_law_690 ?_
        refine lv_eqi y1 e_1.symm ?_
        refine lv_aload_n hx hb dL_law_691 rfl (lv_at hl 0 rfl) ?_
        refine lv_iload_n hx hb dL_law_692 rfl (lv_at hl 3 rfl) ?_
        refine lv_iconst (v := 2) hx hb dL_law_693 (by decide) ?_
        refine lv_iadd hx hb dL_law_694 ?_
        refine va_sld hx hb hX hbl hbA hS h_2 dL_law_695 ?_
        refine lv_eqi y2 e_2.symm ?_
        refine kI (wr := PLw aP aB aT q0 q1 q2 q3 q4 q5 q6 q7 q8 ++ TRw cA aT aU aG aE sz bf gf ef ++ BKw cA aB1 aR1 aL1 aF1 now1 told1 rf1 lf1 ff1 ++ BKw cA aB2 aR2 aL2 aF2 now2 told2 rf2 lf2 ff2 ++ MDw cA cZ aM aS aI aK sf mf kf m0 m1 m2 m3 m4) (W1 := LBw aX aB aB1 aB2 aT aP kp ++ BKw cA aB aR aL aF now told rf lf ff) (wsN := LBw aX aB aB1 aB2 aT aP kp ++ PLw aP aB aT q0 q1 q2 q3 q4 q5 q6 q7 q8 ++ BKw cA aB aR aL aF now told rf lf ff ++ TRw cA aT aU aG aE sz bf gf ef ++ BKw cA aB1 aR1 aL1 aF1 now1 told1 rf1 lf1 ff1 ++ BKw cA aB2 aR2 aL2 aF2 now2 told2 rf2 lf2 ff2 ++ MDw cA cZ aM aS aI aK sf mf kf m0 m1 m2 m3 m4) (rV (As := [.int y1, .int y2]) (rest := []) (W0 := LBw aX aB aB1 aB2 aT aP kp ++ BKw cA aB aR aL aF now told rf lf ff) ⟨hx, hb, hml, hown, hts⟩ (c_X3_tally l D cA cZ aX aB aB1 aB2 aT aP aR aL aF H.size kp now told rf lf ff y1 y2) (cwV 2 hts gL_law_X3_tally rfl rfl rfl (by decide +kernel) ⟨Nat.le_of_ble_eq_true rfl, Nat.le_of_ble_eq_true rfl⟩) hP hD hK hN ([0, 2, 3, 4, 5] : List Nat) rfl rfl 3 0 rfl rfl rfl hl.1 rfl (Nat.le_of_ble_eq_true rfl) dL_law_696 ⟨Nat.le_of_ble_eq_true rfl, Nat.le_of_ble_eq_true rfl⟩) hP hD hS hA [0, 2, 3, 4, 5] [1, 6, 7, 8, 9, 10, 11, 12, 13, 14, 15, 16, 17, 18, 19, 20, 21] [17, 0, 18, 19, 20, 21, 1, 2, 3, 4, 5, 6, 7, 8, 9, 10, 11, 12, 13, 14, 15, 16] rfl rfl rfl (by decide) rfl rfl (fun H locs hP hD hS => ?_)
        refine lv_aload_n hx hb dL_law_699 rfl (lv_at hl 2 rfl) ?_
        refine lv_aload_n hx hb dL_law_700 rfl (lv_at hl 0 rfl) ?_
        refine lv_iload_n hx hb dL_law_701 rfl (lv_at hl 3 rfl) ?_
        refine lv_iconst (v := 1) hx hb dL_law_702 (by decide) ?_
        refine lv_iadd hx hb dL_law_703 ?_
        refine va_sld hx hb hX hbl hbA hS h_1 dL_law_704 ?_
        refine lv_eqi y1 e_1.symm ?_
        refine lv_aload_n hx hb dL_law_705 rfl (lv_at hl 0 rfl) ?_
        refine lv_iload_n hx hb dL_law_706 rfl (lv_at hl 3 rfl) ?_
        refine lv_iconst (v := 2) hx hb dL_law_707 (by decide) ?_
        refine lv_iadd hx hb dL_law_708 ?_
        refine va_sld hx hb hX hbl hbA hS h_2 dL_law_709 ?_
        refine lv_eqi y2 e_2.symm ?_
        refine kI (wr := LBw aX aB aB1 aB2 aT aP kp ++ PLw aP aB aT q0 q1 q2 q3 q4 q5 q6 q7 q8 ++ BKw cA aB aR aL aF now told rf lf ff ++ TRw cA aT aU aG aE sz bf gf ef ++ BKw cA aB1 aR1 aL1 aF1 now1 told1 rf1 lf1 ff1 ++ BKw cA aB2 aR2 aL2 aF2 now2 told2 rf2 lf2 ff2) (W1 := MDw cA cZ aM aS aI aK sf mf kf m0 m1 m2 m3 m4) (wsN := LBw aX aB aB1 aB2 aT aP kp ++ PLw aP aB aT q0 q1 q2 q3 q4 q5 q6 q7 q8 ++ BKw cA aB aR aL aF now told rf lf ff ++ TRw cA aT aU aG aE sz bf gf ef ++ BKw cA aB1 aR1 aL1 aF1 now1 told1 rf1 lf1 ff1 ++ BKw cA aB2 aR2 aL2 aF2 now2 told2 rf2 lf2 ff2 ++ MDw cA cZ aM aS aI aK sf mf kf m0 m1 m2 m3 m4) (rV (As := [.int y1, .int y2]) (rest := [.int (g_X3_tally told ff y1 y2)]) (W0 := MDw cA cZ aM aS aI aK sf mf kf m0 m1 m2 m3 m4) ⟨hx, hb, hml, hown, hts⟩ (c_X4_tally l D cA cZ aM aS aI aK H.size sf mf kf m0 m1 m2 m3 m4 y1 y2 hm) (cwV 2 hts gL_law_X4_tally rfl rfl rfl (by decide +kernel) ⟨Nat.le_of_ble_eq_true rfl, Nat.le_of_ble_eq_true rfl⟩) hP hD hK hN ([18, 19, 20, 21] : List Nat) rfl rfl 4 0 rfl rfl rfl hl.1 rfl (Nat.le_of_ble_eq_true rfl) dL_law_710 ⟨Nat.le_of_ble_eq_true rfl, Nat.le_of_ble_eq_true rfl⟩) hP hD hS hA [18, 19, 20, 21] [0, 1, 2, 3, 4, 5, 6, 7, 8, 9, 10, 11, 12, 13, 14, 15, 16, 17] [0, 1, 2, 3, 4, 5, 6, 7, 8, 9, 10, 11, 12, 13, 14, 15, 16, 17, 18, 19, 20, 21] rfl rfl rfl (by decide) rfl rfl (fun H locs hP hD hS => ?_)
        have hL9 := L_tally hT kp q0 q1 q2 q3 q4 q5 q6 q7 q8 now told rf lf ff sz bf gf ef now1 told1 rf1 lf1 ff1 now2 told2 rf2 lf2 ff2 sf mf kf m0 m1 m2 m3 m4 hSim y1 y2
        refine lv_icmp_eq (tgt := 787) hx hb dL_law_713 (by decide) (fun _ => ?_) (fun c9 => absurd hL9.1 c9)
        refine lv_iinc (v := nI (6 * (k + 1))) (lv' := [(3, .int (nI (6 * (k + 1)))), (0, .ref b), (1, .ref aX), (2, .ref aM)]) hx hb dL_law_787 hl (k := 3) rfl (law_i k) (by decide) rfl (fun ls hl => ?_)
        refine lv_goto (tgt := 18) hx hb dL_law_790 (by decide) ?_
        exact ih (k + 1) kp q0 q1 q2 q3 q4 q5 q6 q7 q8 now told rf lf ff sz bf gf ef now1 told1 rf1 lf1 ff1 now2 told2 rf2 lf2 ff2 sf mf kf m0 m1 m2 m3 m4 H locs ls hk1 (by omega) (law_T hL9.2) hP hD hS (lv_sub hl [1, 2, 3, 0] rfl)
      rcases Decidable.em (sw = 14) with c_15 | c_15
      · refine lv_tableIn (off := 685) (tgt := 718) hx hb dL_law_33 (by rw [c_15]; decide) (by rw [c_15]; decide) (by rw [c_15]; rfl) (by decide) ?_
        refine lv_aload_n hx hb dL_law_718 rfl (lv_at hl 1 rfl) ?_
        refine lv_aload_n hx hb dL_law_719 rfl (lv_at hl 0 rfl) ?_
        refine lv_iload_n hx hb dL_law_720 rfl (lv_at hl 3 rfl) ?_
        refine lv_iconst (v := 1) hx hb dL_law_721 (by decide) ?_
        refine lv_iadd hx hb dL_law_722 ?_
        refine va_sld hx hb hX hbl hbA hS h_1 dL_law_723 ?_
        refine lv_eqi y1 e_1.symm ?_
        refine kI (wr := PLw aP aB aT q0 q1 q2 q3 q4 q5 q6 q7 q8 ++ TRw cA aT aU aG aE sz bf gf ef ++ BKw cA aB1 aR1 aL1 aF1 now1 told1 rf1 lf1 ff1 ++ BKw cA aB2 aR2 aL2 aF2 now2 told2 rf2 lf2 ff2 ++ MDw cA cZ aM aS aI aK sf mf kf m0 m1 m2 m3 m4) (W1 := LBw aX aB aB1 aB2 aT aP kp ++ BKw cA aB aR aL aF now told rf lf ff) (wsN := LBw aX aB aB1 aB2 aT aP kp ++ PLw aP aB aT q0 q1 q2 q3 q4 q5 q6 q7 q8 ++ BKw cA aB aR aL aF now told rf lf ff ++ TRw cA aT aU aG aE sz bf gf ef ++ BKw cA aB1 aR1 aL1 aF1 now1 told1 rf1 lf1 ff1 ++ BKw cA aB2 aR2 aL2 aF2 now2 told2 rf2 lf2 ff2 ++ MDw cA cZ aM aS aI aK sf mf kf m0 m1 m2 m3 m4) (rV (As := [.int y1]) (rest := []) (W0 := LBw aX aB aB1 aB2 aT aP kp ++ BKw cA aB aR aL aF now told rf lf ff) ⟨hx, hb, hml, hown, hts⟩ (c_X3_count l D cA cZ aX aB aB1 aB2 aT aP aR aL aF H.size kp now told rf lf ff y1) (cwV 1 hts gL_law_X3_count rfl rfl rfl (by decide +kernel) ⟨Nat.le_of_ble_eq_true rfl, Nat.le_of_ble_eq_true rfl⟩) hP hD hK hN ([0, 2, 3, 4, 5] : List Nat) rfl rfl 3 0 rfl rfl rfl hl.1 rfl (Nat.le_of_ble_eq_true rfl) dL_law_724 ⟨Nat.le_of_ble_eq_true rfl, Nat.le_of_ble_eq_true rfl⟩) hP hD hS hA [0, 2, 3, 4, 5] [1, 6, 7, 8, 9, 10, 11, 12, 13, 14, 15, 16, 17, 18, 19, 20, 21] [17, 0, 18, 19, 20, 21, 1, 2, 3, 4, 5, 6, 7, 8, 9, 10, 11, 12, 13, 14, 15, 16] rfl rfl rfl (by decide) rfl rfl (fun H locs hP hD hS => ?_)
        refine lv_aload_n hx hb dL_law_727 rfl (lv_at hl 2 rfl) ?_
        refine lv_aload_n hx hb dL_law_728 rfl (lv_at hl 0 rfl) ?_
        refine lv_iload_n hx hb dL_law_729 rfl (lv_at hl 3 rfl) ?_
        refine lv_iconst (v := 1) hx hb dL_law_730 (by decide) ?_
        refine lv_iadd hx hb dL_law_731 ?_
        refine va_sld hx hb hX hbl hbA hS h_1 dL_law_732 ?_
        refine lv_eqi y1 e_1.symm ?_
        refine kI (wr := LBw aX aB aB1 aB2 aT aP kp ++ PLw aP aB aT q0 q1 q2 q3 q4 q5 q6 q7 q8 ++ BKw cA aB aR aL aF now told rf lf ff ++ TRw cA aT aU aG aE sz bf gf ef ++ BKw cA aB1 aR1 aL1 aF1 now1 told1 rf1 lf1 ff1 ++ BKw cA aB2 aR2 aL2 aF2 now2 told2 rf2 lf2 ff2) (W1 := MDw cA cZ aM aS aI aK sf mf kf m0 m1 m2 m3 m4) (wsN := LBw aX aB aB1 aB2 aT aP kp ++ PLw aP aB aT q0 q1 q2 q3 q4 q5 q6 q7 q8 ++ BKw cA aB aR aL aF now told rf lf ff ++ TRw cA aT aU aG aE sz bf gf ef ++ BKw cA aB1 aR1 aL1 aF1 now1 told1 rf1 lf1 ff1 ++ BKw cA aB2 aR2 aL2 aF2 now2 told2 rf2 lf2 ff2 ++ MDw cA cZ aM aS aI aK sf mf kf m0 m1 m2 m3 m4) (rV (As := [.int y1]) (rest := [.int (g_X3_count kp now told rf lf ff y1)]) (W0 := MDw cA cZ aM aS aI aK sf mf kf m0 m1 m2 m3 m4) ⟨hx, hb, hml, hown, hts⟩ (c_X4_count l D cA cZ aM aS aI aK H.size sf mf kf m0 m1 m2 m3 m4 y1 hm) (cwV 1 hts gL_law_X4_count rfl rfl rfl (by decide +kernel) ⟨Nat.le_of_ble_eq_true rfl, Nat.le_of_ble_eq_true rfl⟩) hP hD hK hN ([18, 19, 20, 21] : List Nat) rfl rfl 4 0 rfl rfl rfl hl.1 rfl (Nat.le_of_ble_eq_true rfl) dL_law_733 ⟨Nat.le_of_ble_eq_true rfl, Nat.le_of_ble_eq_true rfl⟩) hP hD hS hA [18, 19, 20, 21] [0, 1, 2, 3, 4, 5, 6, 7, 8, 9, 10, 11, 12, 13, 14, 15, 16, 17] [0, 1, 2, 3, 4, 5, 6, 7, 8, 9, 10, 11, 12, 13, 14, 15, 16, 17, 18, 19, 20, 21] rfl rfl rfl (by decide) rfl rfl (fun H locs hP hD hS => ?_)
        have hL9 := L_count hT kp q0 q1 q2 q3 q4 q5 q6 q7 q8 now told rf lf ff sz bf gf ef now1 told1 rf1 lf1 ff1 now2 told2 rf2 lf2 ff2 sf mf kf m0 m1 m2 m3 m4 hSim y1
        refine lv_icmp_eq (tgt := 787) hx hb dL_law_736 (by decide) (fun _ => ?_) (fun c9 => absurd hL9.1 c9)
        refine lv_iinc (v := nI (6 * (k + 1))) (lv' := [(3, .int (nI (6 * (k + 1)))), (0, .ref b), (1, .ref aX), (2, .ref aM)]) hx hb dL_law_787 hl (k := 3) rfl (law_i k) (by decide) rfl (fun ls hl => ?_)
        refine lv_goto (tgt := 18) hx hb dL_law_790 (by decide) ?_
        exact ih (k + 1) kp q0 q1 q2 q3 q4 q5 q6 q7 q8 now told rf lf ff sz bf gf ef now1 told1 rf1 lf1 ff1 now2 told2 rf2 lf2 ff2 sf mf kf m0 m1 m2 m3 m4 H locs ls hk1 (by omega) (law_T hL9.2) hP hD hS (lv_sub hl [1, 2, 3, 0] rfl)
      rcases Decidable.em (sw = 15) with c_16 | c_16
      · refine lv_tableIn (off := 708) (tgt := 741) hx hb dL_law_33 (by rw [c_16]; decide) (by rw [c_16]; decide) (by rw [c_16]; rfl) (by decide) ?_
        refine lv_aload_n hx hb dL_law_741 rfl (lv_at hl 1 rfl) ?_
        refine lv_aload_n hx hb dL_law_742 rfl (lv_at hl 0 rfl) ?_
        refine lv_iload_n hx hb dL_law_743 rfl (lv_at hl 3 rfl) ?_
        refine lv_iconst (v := 1) hx hb dL_law_744 (by decide) ?_
        refine lv_iadd hx hb dL_law_745 ?_
        refine va_sld hx hb hX hbl hbA hS h_1 dL_law_746 ?_
        refine lv_eqi y1 e_1.symm ?_
        refine kI (wr := PLw aP aB aT q0 q1 q2 q3 q4 q5 q6 q7 q8 ++ TRw cA aT aU aG aE sz bf gf ef ++ MDw cA cZ aM aS aI aK sf mf kf m0 m1 m2 m3 m4) (W1 := LBw aX aB aB1 aB2 aT aP ((g_X3_image kp now told rf lf ff now1 told1 rf1 lf1 ff1 now2 told2 rf2 lf2 ff2 y1).2.1) ++ BKw cA aB aR aL aF now told rf lf ff ++ BKw cA aB1 aR1 aL1 aF1 ((g_X3_image kp now told rf lf ff now1 told1 rf1 lf1 ff1 now2 told2 rf2 lf2 ff2 y1).2.2.1) ((g_X3_image kp now told rf lf ff now1 told1 rf1 lf1 ff1 now2 told2 rf2 lf2 ff2 y1).2.2.2.1) ((g_X3_image kp now told rf lf ff now1 told1 rf1 lf1 ff1 now2 told2 rf2 lf2 ff2 y1).2.2.2.2.1) ((g_X3_image kp now told rf lf ff now1 told1 rf1 lf1 ff1 now2 told2 rf2 lf2 ff2 y1).2.2.2.2.2.1) ((g_X3_image kp now told rf lf ff now1 told1 rf1 lf1 ff1 now2 told2 rf2 lf2 ff2 y1).2.2.2.2.2.2.1) ++ BKw cA aB2 aR2 aL2 aF2 ((g_X3_image kp now told rf lf ff now1 told1 rf1 lf1 ff1 now2 told2 rf2 lf2 ff2 y1).2.2.2.2.2.2.2.1) ((g_X3_image kp now told rf lf ff now1 told1 rf1 lf1 ff1 now2 told2 rf2 lf2 ff2 y1).2.2.2.2.2.2.2.2.1) ((g_X3_image kp now told rf lf ff now1 told1 rf1 lf1 ff1 now2 told2 rf2 lf2 ff2 y1).2.2.2.2.2.2.2.2.2.1) ((g_X3_image kp now told rf lf ff now1 told1 rf1 lf1 ff1 now2 told2 rf2 lf2 ff2 y1).2.2.2.2.2.2.2.2.2.2.1) ((g_X3_image kp now told rf lf ff now1 told1 rf1 lf1 ff1 now2 told2 rf2 lf2 ff2 y1).2.2.2.2.2.2.2.2.2.2.2)) (wsN := LBw aX aB aB1 aB2 aT aP ((g_X3_image kp now told rf lf ff now1 told1 rf1 lf1 ff1 now2 told2 rf2 lf2 ff2 y1).2.1) ++ PLw aP aB aT q0 q1 q2 q3 q4 q5 q6 q7 q8 ++ BKw cA aB aR aL aF now told rf lf ff ++ TRw cA aT aU aG aE sz bf gf ef ++ BKw cA aB1 aR1 aL1 aF1 ((g_X3_image kp now told rf lf ff now1 told1 rf1 lf1 ff1 now2 told2 rf2 lf2 ff2 y1).2.2.1) ((g_X3_image kp now told rf lf ff now1 told1 rf1 lf1 ff1 now2 told2 rf2 lf2 ff2 y1).2.2.2.1) ((g_X3_image kp now told rf lf ff now1 told1 rf1 lf1 ff1 now2 told2 rf2 lf2 ff2 y1).2.2.2.2.1) ((g_X3_image kp now told rf lf ff now1 told1 rf1 lf1 ff1 now2 told2 rf2 lf2 ff2 y1).2.2.2.2.2.1) ((g_X3_image kp now told rf lf ff now1 told1 rf1 lf1 ff1 now2 told2 rf2 lf2 ff2 y1).2.2.2.2.2.2.1) ++ BKw cA aB2 aR2 aL2 aF2 ((g_X3_image kp now told rf lf ff now1 told1 rf1 lf1 ff1 now2 told2 rf2 lf2 ff2 y1).2.2.2.2.2.2.2.1) ((g_X3_image kp now told rf lf ff now1 told1 rf1 lf1 ff1 now2 told2 rf2 lf2 ff2 y1).2.2.2.2.2.2.2.2.1) ((g_X3_image kp now told rf lf ff now1 told1 rf1 lf1 ff1 now2 told2 rf2 lf2 ff2 y1).2.2.2.2.2.2.2.2.2.1) ((g_X3_image kp now told rf lf ff now1 told1 rf1 lf1 ff1 now2 told2 rf2 lf2 ff2 y1).2.2.2.2.2.2.2.2.2.2.1) ((g_X3_image kp now told rf lf ff now1 told1 rf1 lf1 ff1 now2 told2 rf2 lf2 ff2 y1).2.2.2.2.2.2.2.2.2.2.2) ++ MDw cA cZ aM aS aI aK sf mf kf m0 m1 m2 m3 m4) (rV (As := [.int y1]) (rest := []) (W0 := LBw aX aB aB1 aB2 aT aP kp ++ BKw cA aB aR aL aF now told rf lf ff ++ BKw cA aB1 aR1 aL1 aF1 now1 told1 rf1 lf1 ff1 ++ BKw cA aB2 aR2 aL2 aF2 now2 told2 rf2 lf2 ff2) ⟨hx, hb, hml, hown, hts⟩ (c_X3_image l D cA cZ aX aB aB1 aB2 aT aP aR aL aF aR1 aL1 aF1 aR2 aL2 aF2 H.size kp now told rf lf ff now1 told1 rf1 lf1 ff1 now2 told2 rf2 lf2 ff2 y1) (cwV 1 hts gL_law_X3_image rfl rfl rfl (by decide +kernel) ⟨Nat.le_of_ble_eq_true rfl, Nat.le_of_ble_eq_true rfl⟩) hP hD hK hN ([0, 2, 3, 4, 5, 10, 11, 12, 13, 14, 15, 16, 17] : List Nat) rfl rfl 3 0 rfl rfl rfl hl.1 rfl (Nat.le_of_ble_eq_true rfl) dL_law_747 ⟨Nat.le_of_ble_eq_true rfl, Nat.le_of_ble_eq_true rfl⟩) hP hD hS hA [0, 2, 3, 4, 5, 10, 11, 12, 13, 14, 15, 16, 17] [1, 6, 7, 8, 9, 18, 19, 20, 21] [9, 0, 10, 11, 12, 13, 1, 2, 3, 4, 14, 15, 16, 17, 18, 19, 20, 21, 5, 6, 7, 8] rfl rfl rfl (by decide) rfl rfl (fun H locs hP hD hS => ?_)
        refine lv_aload_n hx hb dL_law_750 rfl (lv_at hl 2 rfl) ?_
        refine lv_aload_n hx hb dL_law_751 rfl (lv_at hl 0 rfl) ?_
        refine lv_iload_n hx hb dL_law_752 rfl (lv_at hl 3 rfl) ?_
        refine lv_iconst (v := 1) hx hb dL_law_753 (by decide) ?_
        refine lv_iadd hx hb dL_law_754 ?_
        refine va_sld hx hb hX hbl hbA hS h_1 dL_law_755 ?_
        refine lv_eqi y1 e_1.symm ?_
        refine kI (wr := LBw aX aB aB1 aB2 aT aP ((g_X3_image kp now told rf lf ff now1 told1 rf1 lf1 ff1 now2 told2 rf2 lf2 ff2 y1).2.1) ++ PLw aP aB aT q0 q1 q2 q3 q4 q5 q6 q7 q8 ++ BKw cA aB aR aL aF now told rf lf ff ++ TRw cA aT aU aG aE sz bf gf ef ++ BKw cA aB1 aR1 aL1 aF1 ((g_X3_image kp now told rf lf ff now1 told1 rf1 lf1 ff1 now2 told2 rf2 lf2 ff2 y1).2.2.1) ((g_X3_image kp now told rf lf ff now1 told1 rf1 lf1 ff1 now2 told2 rf2 lf2 ff2 y1).2.2.2.1) ((g_X3_image kp now told rf lf ff now1 told1 rf1 lf1 ff1 now2 told2 rf2 lf2 ff2 y1).2.2.2.2.1) ((g_X3_image kp now told rf lf ff now1 told1 rf1 lf1 ff1 now2 told2 rf2 lf2 ff2 y1).2.2.2.2.2.1) ((g_X3_image kp now told rf lf ff now1 told1 rf1 lf1 ff1 now2 told2 rf2 lf2 ff2 y1).2.2.2.2.2.2.1) ++ BKw cA aB2 aR2 aL2 aF2 ((g_X3_image kp now told rf lf ff now1 told1 rf1 lf1 ff1 now2 told2 rf2 lf2 ff2 y1).2.2.2.2.2.2.2.1) ((g_X3_image kp now told rf lf ff now1 told1 rf1 lf1 ff1 now2 told2 rf2 lf2 ff2 y1).2.2.2.2.2.2.2.2.1) ((g_X3_image kp now told rf lf ff now1 told1 rf1 lf1 ff1 now2 told2 rf2 lf2 ff2 y1).2.2.2.2.2.2.2.2.2.1) ((g_X3_image kp now told rf lf ff now1 told1 rf1 lf1 ff1 now2 told2 rf2 lf2 ff2 y1).2.2.2.2.2.2.2.2.2.2.1) ((g_X3_image kp now told rf lf ff now1 told1 rf1 lf1 ff1 now2 told2 rf2 lf2 ff2 y1).2.2.2.2.2.2.2.2.2.2.2)) (W1 := MDw cA cZ aM aS aI aK sf ((g_X4_image sf mf kf y1).2.1) ((g_X4_image sf mf kf y1).2.2) m0 m1 m2 m3 m4) (wsN := LBw aX aB aB1 aB2 aT aP ((g_X3_image kp now told rf lf ff now1 told1 rf1 lf1 ff1 now2 told2 rf2 lf2 ff2 y1).2.1) ++ PLw aP aB aT q0 q1 q2 q3 q4 q5 q6 q7 q8 ++ BKw cA aB aR aL aF now told rf lf ff ++ TRw cA aT aU aG aE sz bf gf ef ++ BKw cA aB1 aR1 aL1 aF1 ((g_X3_image kp now told rf lf ff now1 told1 rf1 lf1 ff1 now2 told2 rf2 lf2 ff2 y1).2.2.1) ((g_X3_image kp now told rf lf ff now1 told1 rf1 lf1 ff1 now2 told2 rf2 lf2 ff2 y1).2.2.2.1) ((g_X3_image kp now told rf lf ff now1 told1 rf1 lf1 ff1 now2 told2 rf2 lf2 ff2 y1).2.2.2.2.1) ((g_X3_image kp now told rf lf ff now1 told1 rf1 lf1 ff1 now2 told2 rf2 lf2 ff2 y1).2.2.2.2.2.1) ((g_X3_image kp now told rf lf ff now1 told1 rf1 lf1 ff1 now2 told2 rf2 lf2 ff2 y1).2.2.2.2.2.2.1) ++ BKw cA aB2 aR2 aL2 aF2 ((g_X3_image kp now told rf lf ff now1 told1 rf1 lf1 ff1 now2 told2 rf2 lf2 ff2 y1).2.2.2.2.2.2.2.1) ((g_X3_image kp now told rf lf ff now1 told1 rf1 lf1 ff1 now2 told2 rf2 lf2 ff2 y1).2.2.2.2.2.2.2.2.1) ((g_X3_image kp now told rf lf ff now1 told1 rf1 lf1 ff1 now2 told2 rf2 lf2 ff2 y1).2.2.2.2.2.2.2.2.2.1) ((g_X3_image kp now told rf lf ff now1 told1 rf1 lf1 ff1 now2 told2 rf2 lf2 ff2 y1).2.2.2.2.2.2.2.2.2.2.1) ((g_X3_image kp now told rf lf ff now1 told1 rf1 lf1 ff1 now2 told2 rf2 lf2 ff2 y1).2.2.2.2.2.2.2.2.2.2.2) ++ MDw cA cZ aM aS aI aK sf ((g_X4_image sf mf kf y1).2.1) ((g_X4_image sf mf kf y1).2.2) m0 m1 m2 m3 m4) (rV (As := [.int y1]) (rest := [.int ((g_X3_image kp now told rf lf ff now1 told1 rf1 lf1 ff1 now2 told2 rf2 lf2 ff2 y1).1)]) (W0 := MDw cA cZ aM aS aI aK sf mf kf m0 m1 m2 m3 m4) ⟨hx, hb, hml, hown, hts⟩ (c_X4_image l D cA cZ aM aS aI aK H.size sf mf kf m0 m1 m2 m3 m4 y1) (cwV 1 hts gL_law_X4_image rfl rfl rfl (by decide +kernel) ⟨Nat.le_of_ble_eq_true rfl, Nat.le_of_ble_eq_true rfl⟩) hP hD hK hN ([18, 19, 20, 21] : List Nat) rfl rfl 4 0 rfl rfl rfl hl.1 rfl (Nat.le_of_ble_eq_true rfl) dL_law_756 ⟨Nat.le_of_ble_eq_true rfl, Nat.le_of_ble_eq_true rfl⟩) hP hD hS hA [18, 19, 20, 21] [0, 1, 2, 3, 4, 5, 6, 7, 8, 9, 10, 11, 12, 13, 14, 15, 16, 17] [0, 1, 2, 3, 4, 5, 6, 7, 8, 9, 10, 11, 12, 13, 14, 15, 16, 17, 18, 19, 20, 21] rfl rfl rfl (by decide) rfl rfl (fun H locs hP hD hS => ?_)
        have hL9 := L_image hT kp q0 q1 q2 q3 q4 q5 q6 q7 q8 now told rf lf ff sz bf gf ef now1 told1 rf1 lf1 ff1 now2 told2 rf2 lf2 ff2 sf mf kf m0 m1 m2 m3 m4 hSim y1
        refine lv_icmp_eq (tgt := 787) hx hb dL_law_759 (by decide) (fun _ => ?_) (fun c9 => absurd hL9.1 c9)
        refine lv_iinc (v := nI (6 * (k + 1))) (lv' := [(3, .int (nI (6 * (k + 1)))), (0, .ref b), (1, .ref aX), (2, .ref aM)]) hx hb dL_law_787 hl (k := 3) rfl (law_i k) (by decide) rfl (fun ls hl => ?_)
        refine lv_goto (tgt := 18) hx hb dL_law_790 (by decide) ?_
        exact ih (k + 1) ((g_X3_image kp now told rf lf ff now1 told1 rf1 lf1 ff1 now2 told2 rf2 lf2 ff2 y1).2.1) q0 q1 q2 q3 q4 q5 q6 q7 q8 now told rf lf ff sz bf gf ef ((g_X3_image kp now told rf lf ff now1 told1 rf1 lf1 ff1 now2 told2 rf2 lf2 ff2 y1).2.2.1) ((g_X3_image kp now told rf lf ff now1 told1 rf1 lf1 ff1 now2 told2 rf2 lf2 ff2 y1).2.2.2.1) ((g_X3_image kp now told rf lf ff now1 told1 rf1 lf1 ff1 now2 told2 rf2 lf2 ff2 y1).2.2.2.2.1) ((g_X3_image kp now told rf lf ff now1 told1 rf1 lf1 ff1 now2 told2 rf2 lf2 ff2 y1).2.2.2.2.2.1) ((g_X3_image kp now told rf lf ff now1 told1 rf1 lf1 ff1 now2 told2 rf2 lf2 ff2 y1).2.2.2.2.2.2.1) ((g_X3_image kp now told rf lf ff now1 told1 rf1 lf1 ff1 now2 told2 rf2 lf2 ff2 y1).2.2.2.2.2.2.2.1) ((g_X3_image kp now told rf lf ff now1 told1 rf1 lf1 ff1 now2 told2 rf2 lf2 ff2 y1).2.2.2.2.2.2.2.2.1) ((g_X3_image kp now told rf lf ff now1 told1 rf1 lf1 ff1 now2 told2 rf2 lf2 ff2 y1).2.2.2.2.2.2.2.2.2.1) ((g_X3_image kp now told rf lf ff now1 told1 rf1 lf1 ff1 now2 told2 rf2 lf2 ff2 y1).2.2.2.2.2.2.2.2.2.2.1) ((g_X3_image kp now told rf lf ff now1 told1 rf1 lf1 ff1 now2 told2 rf2 lf2 ff2 y1).2.2.2.2.2.2.2.2.2.2.2) sf ((g_X4_image sf mf kf y1).2.1) ((g_X4_image sf mf kf y1).2.2) m0 m1 m2 m3 m4 H locs ls hk1 (by omega) (law_T hL9.2) hP hD hS (lv_sub hl [1, 2, 3, 0] rfl)
      rcases Decidable.em (sw = 16) with c_17 | c_17
      · refine lv_tableIn (off := 731) (tgt := 764) hx hb dL_law_33 (by rw [c_17]; decide) (by rw [c_17]; decide) (by rw [c_17]; rfl) (by decide) ?_
        refine lv_aload_n hx hb dL_law_764 rfl (lv_at hl 1 rfl) ?_
        refine lv_aload_n hx hb dL_law_765 rfl (lv_at hl 0 rfl) ?_
        refine lv_iload_n hx hb dL_law_766 rfl (lv_at hl 3 rfl) ?_
        refine lv_iconst (v := 1) hx hb dL_law_767 (by decide) ?_
        refine lv_iadd hx hb dL_law_768 ?_
        refine va_sld hx hb hX hbl hbA hS h_1 dL_law_769 ?_
        refine lv_eqi y1 e_1.symm ?_
        refine kI (wr := PLw aP aB aT q0 q1 q2 q3 q4 q5 q6 q7 q8 ++ TRw cA aT aU aG aE sz bf gf ef ++ MDw cA cZ aM aS aI aK sf mf kf m0 m1 m2 m3 m4) (W1 := LBw aX aB aB1 aB2 aT aP kp ++ BKw cA aB aR aL aF ((g_X3_restore kp now told rf lf ff now1 told1 rf1 lf1 ff1 now2 told2 rf2 lf2 ff2 y1).2.1) ((g_X3_restore kp now told rf lf ff now1 told1 rf1 lf1 ff1 now2 told2 rf2 lf2 ff2 y1).2.2.1) ((g_X3_restore kp now told rf lf ff now1 told1 rf1 lf1 ff1 now2 told2 rf2 lf2 ff2 y1).2.2.2.1) ((g_X3_restore kp now told rf lf ff now1 told1 rf1 lf1 ff1 now2 told2 rf2 lf2 ff2 y1).2.2.2.2.1) ((g_X3_restore kp now told rf lf ff now1 told1 rf1 lf1 ff1 now2 told2 rf2 lf2 ff2 y1).2.2.2.2.2) ++ BKw cA aB1 aR1 aL1 aF1 now1 told1 rf1 lf1 ff1 ++ BKw cA aB2 aR2 aL2 aF2 now2 told2 rf2 lf2 ff2) (wsN := LBw aX aB aB1 aB2 aT aP kp ++ PLw aP aB aT q0 q1 q2 q3 q4 q5 q6 q7 q8 ++ BKw cA aB aR aL aF ((g_X3_restore kp now told rf lf ff now1 told1 rf1 lf1 ff1 now2 told2 rf2 lf2 ff2 y1).2.1) ((g_X3_restore kp now told rf lf ff now1 told1 rf1 lf1 ff1 now2 told2 rf2 lf2 ff2 y1).2.2.1) ((g_X3_restore kp now told rf lf ff now1 told1 rf1 lf1 ff1 now2 told2 rf2 lf2 ff2 y1).2.2.2.1) ((g_X3_restore kp now told rf lf ff now1 told1 rf1 lf1 ff1 now2 told2 rf2 lf2 ff2 y1).2.2.2.2.1) ((g_X3_restore kp now told rf lf ff now1 told1 rf1 lf1 ff1 now2 told2 rf2 lf2 ff2 y1).2.2.2.2.2) ++ TRw cA aT aU aG aE sz bf gf ef ++ BKw cA aB1 aR1 aL1 aF1 now1 told1 rf1 lf1 ff1 ++ BKw cA aB2 aR2 aL2 aF2 now2 told2 rf2 lf2 ff2 ++ MDw cA cZ aM aS aI aK sf mf kf m0 m1 m2 m3 m4) (rV (As := [.int y1]) (rest := []) (W0 := LBw aX aB aB1 aB2 aT aP kp ++ BKw cA aB aR aL aF now told rf lf ff ++ BKw cA aB1 aR1 aL1 aF1 now1 told1 rf1 lf1 ff1 ++ BKw cA aB2 aR2 aL2 aF2 now2 told2 rf2 lf2 ff2) ⟨hx, hb, hml, hown, hts⟩ (c_X3_restore l D cA cZ aX aB aB1 aB2 aT aP aR aL aF aR1 aL1 aF1 aR2 aL2 aF2 H.size kp now told rf lf ff now1 told1 rf1 lf1 ff1 now2 told2 rf2 lf2 ff2 y1) (cwV 1 hts gL_law_X3_restore rfl rfl rfl (by decide +kernel) ⟨Nat.le_of_ble_eq_true rfl, Nat.le_of_ble_eq_true rfl⟩) hP hD hK hN ([0, 2, 3, 4, 5, 10, 11, 12, 13, 14, 15, 16, 17] : List Nat) rfl rfl 3 0 rfl rfl rfl hl.1 rfl (Nat.le_of_ble_eq_true rfl) dL_law_770 ⟨Nat.le_of_ble_eq_true rfl, Nat.le_of_ble_eq_true rfl⟩) hP hD hS hA [0, 2, 3, 4, 5, 10, 11, 12, 13, 14, 15, 16, 17] [1, 6, 7, 8, 9, 18, 19, 20, 21] [9, 0, 10, 11, 12, 13, 1, 2, 3, 4, 14, 15, 16, 17, 18, 19, 20, 21, 5, 6, 7, 8] rfl rfl rfl (by decide) rfl rfl (fun H locs hP hD hS => ?_)
        refine lv_aload_n hx hb dL_law_773 rfl (lv_at hl 2 rfl) ?_
        refine lv_aload_n hx hb dL_law_774 rfl (lv_at hl 0 rfl) ?_
        refine lv_iload_n hx hb dL_law_775 rfl (lv_at hl 3 rfl) ?_
        refine lv_iconst (v := 1) hx hb dL_law_776 (by decide) ?_
        refine lv_iadd hx hb dL_law_777 ?_
        refine va_sld hx hb hX hbl hbA hS h_1 dL_law_778 ?_
        refine lv_eqi y1 e_1.symm ?_
        refine kI (wr := LBw aX aB aB1 aB2 aT aP kp ++ PLw aP aB aT q0 q1 q2 q3 q4 q5 q6 q7 q8 ++ BKw cA aB aR aL aF ((g_X3_restore kp now told rf lf ff now1 told1 rf1 lf1 ff1 now2 told2 rf2 lf2 ff2 y1).2.1) ((g_X3_restore kp now told rf lf ff now1 told1 rf1 lf1 ff1 now2 told2 rf2 lf2 ff2 y1).2.2.1) ((g_X3_restore kp now told rf lf ff now1 told1 rf1 lf1 ff1 now2 told2 rf2 lf2 ff2 y1).2.2.2.1) ((g_X3_restore kp now told rf lf ff now1 told1 rf1 lf1 ff1 now2 told2 rf2 lf2 ff2 y1).2.2.2.2.1) ((g_X3_restore kp now told rf lf ff now1 told1 rf1 lf1 ff1 now2 told2 rf2 lf2 ff2 y1).2.2.2.2.2) ++ TRw cA aT aU aG aE sz bf gf ef ++ BKw cA aB1 aR1 aL1 aF1 now1 told1 rf1 lf1 ff1 ++ BKw cA aB2 aR2 aL2 aF2 now2 told2 rf2 lf2 ff2) (W1 := MDw cA cZ aM aS aI aK ((g_X4_restore sf mf kf y1).2) mf kf m0 m1 m2 m3 m4) (wsN := LBw aX aB aB1 aB2 aT aP kp ++ PLw aP aB aT q0 q1 q2 q3 q4 q5 q6 q7 q8 ++ BKw cA aB aR aL aF ((g_X3_restore kp now told rf lf ff now1 told1 rf1 lf1 ff1 now2 told2 rf2 lf2 ff2 y1).2.1) ((g_X3_restore kp now told rf lf ff now1 told1 rf1 lf1 ff1 now2 told2 rf2 lf2 ff2 y1).2.2.1) ((g_X3_restore kp now told rf lf ff now1 told1 rf1 lf1 ff1 now2 told2 rf2 lf2 ff2 y1).2.2.2.1) ((g_X3_restore kp now told rf lf ff now1 told1 rf1 lf1 ff1 now2 told2 rf2 lf2 ff2 y1).2.2.2.2.1) ((g_X3_restore kp now told rf lf ff now1 told1 rf1 lf1 ff1 now2 told2 rf2 lf2 ff2 y1).2.2.2.2.2) ++ TRw cA aT aU aG aE sz bf gf ef ++ BKw cA aB1 aR1 aL1 aF1 now1 told1 rf1 lf1 ff1 ++ BKw cA aB2 aR2 aL2 aF2 now2 told2 rf2 lf2 ff2 ++ MDw cA cZ aM aS aI aK ((g_X4_restore sf mf kf y1).2) mf kf m0 m1 m2 m3 m4) (rV (As := [.int y1]) (rest := [.int ((g_X3_restore kp now told rf lf ff now1 told1 rf1 lf1 ff1 now2 told2 rf2 lf2 ff2 y1).1)]) (W0 := MDw cA cZ aM aS aI aK sf mf kf m0 m1 m2 m3 m4) ⟨hx, hb, hml, hown, hts⟩ (c_X4_restore l D cA cZ aM aS aI aK H.size sf mf kf m0 m1 m2 m3 m4 y1) (cwV 1 hts gL_law_X4_restore rfl rfl rfl (by decide +kernel) ⟨Nat.le_of_ble_eq_true rfl, Nat.le_of_ble_eq_true rfl⟩) hP hD hK hN ([18, 19, 20, 21] : List Nat) rfl rfl 4 0 rfl rfl rfl hl.1 rfl (Nat.le_of_ble_eq_true rfl) dL_law_779 ⟨Nat.le_of_ble_eq_true rfl, Nat.le_of_ble_eq_true rfl⟩) hP hD hS hA [18, 19, 20, 21] [0, 1, 2, 3, 4, 5, 6, 7, 8, 9, 10, 11, 12, 13, 14, 15, 16, 17] [0, 1, 2, 3, 4, 5, 6, 7, 8, 9, 10, 11, 12, 13, 14, 15, 16, 17, 18, 19, 20, 21] rfl rfl rfl (by decide) rfl rfl (fun H locs hP hD hS => ?_)
        have hL9 := L_restore hT kp q0 q1 q2 q3 q4 q5 q6 q7 q8 now told rf lf ff sz bf gf ef now1 told1 rf1 lf1 ff1 now2 told2 rf2 lf2 ff2 sf mf kf m0 m1 m2 m3 m4 hSim y1
        refine lv_icmp_eq (tgt := 787) hx hb dL_law_782 (by decide) (fun _ => ?_) (fun c9 => absurd hL9.1 c9)
        refine lv_iinc (v := nI (6 * (k + 1))) (lv' := [(3, .int (nI (6 * (k + 1)))), (0, .ref b), (1, .ref aX), (2, .ref aM)]) hx hb dL_law_787 hl (k := 3) rfl (law_i k) (by decide) rfl (fun ls hl => ?_)
        refine lv_goto (tgt := 18) hx hb dL_law_790 (by decide) ?_
        exact ih (k + 1) kp q0 q1 q2 q3 q4 q5 q6 q7 q8 ((g_X3_restore kp now told rf lf ff now1 told1 rf1 lf1 ff1 now2 told2 rf2 lf2 ff2 y1).2.1) ((g_X3_restore kp now told rf lf ff now1 told1 rf1 lf1 ff1 now2 told2 rf2 lf2 ff2 y1).2.2.1) ((g_X3_restore kp now told rf lf ff now1 told1 rf1 lf1 ff1 now2 told2 rf2 lf2 ff2 y1).2.2.2.1) ((g_X3_restore kp now told rf lf ff now1 told1 rf1 lf1 ff1 now2 told2 rf2 lf2 ff2 y1).2.2.2.2.1) ((g_X3_restore kp now told rf lf ff now1 told1 rf1 lf1 ff1 now2 told2 rf2 lf2 ff2 y1).2.2.2.2.2) sz bf gf ef now1 told1 rf1 lf1 ff1 now2 told2 rf2 lf2 ff2 ((g_X4_restore sf mf kf y1).2) mf kf m0 m1 m2 m3 m4 H locs ls hk1 (by omega) (law_T hL9.2) hP hD hS (lv_sub hl [1, 2, 3, 0] rfl)
      refine lv_tableOut (tgt := 787) hx hb dL_law_33 (sw_out17 c_1 c_2 c_3 c_4 c_5 c_6 c_7 c_8 c_9 c_10 c_11 c_12 c_13 c_14 c_15 c_16 c_17) (by decide) ?_
      refine lv_iinc (v := nI (6 * (k + 1))) (lv' := [(3, .int (nI (6 * (k + 1)))), (0, .ref b), (1, .ref aX), (2, .ref aM)]) hx hb dL_law_787 hl (k := 3) rfl (law_i k) (by decide) rfl (fun ls hl => ?_)
      refine lv_goto (tgt := 18) hx hb dL_law_790 (by decide) ?_
      exact ih (k + 1) kp q0 q1 q2 q3 q4 q5 q6 q7 q8 now told rf lf ff sz bf gf ef now1 told1 rf1 lf1 ff1 now2 told2 rf2 lf2 ff2 sf mf kf m0 m1 m2 m3 m4 H locs ls hk1 (by omega) (law_T (Sim_mono hSim)) hP hD hS (lv_sub hl [1, 2, 3, 0] rfl)
