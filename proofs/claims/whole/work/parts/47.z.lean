/-! ===== placing ===== -/
def plOk (sf lf : Nat → Int32) (x1 c : Int32) (N : Nat) (fate on frm size byl : Int32) : Prop :=
  (fate = 0 ∧ (0 ≤ on.toInt ∧ on.toInt ≤ 5) ∧ frm = c ∧ size = nI N ∧ byl = -6 ∧ ¬ g_X4_isFree sf x1 on c (nI N) = 0) ∨
  (∃ j, j < 3 ∧ fate = 1 ∧ (0 ≤ on.toInt ∧ on.toInt ≤ 5) ∧ frm = c + lf j ∧ size = nI N ∧ byl = nI j ∧ ¬ g_X4_isFree sf x1 on (c + lf j) (nI N) = 0 ∧ ¬ g_X4_isLineClear sf (nI j) c (nI N) = 0) ∨
  (∃ M A : Nat, 1 ≤ M ∧ A + M ≤ N ∧ fate = 2 ∧ (0 ≤ on.toInt ∧ on.toInt ≤ 5) ∧ frm = c + nI A ∧ size = nI M ∧ byl = -6 ∧ ¬ g_X4_isFree sf x1 on (c + nI A) (nI M) = 0) ∨
  (fate = 3 ∧ on = -6 ∧ frm = -6 ∧ size = 0 ∧ byl = -6)
theorem send_at {T : Nat} (hT : T ≤ 102400) {now : Int32} {z : Nat} (hz : z ≤ 48) {rf lf ff sf : Nat → Int32} (he : eqS now (nI z) rf lf ff sf) (hi : Inv T now (nI z) rf lf ff) {x1 own c n : Int32} (hown : 0 ≤ own.toInt ∧ own.toInt ≤ 5) (hc : 0 ≤ c.toInt ∧ c.toInt ≤ 150000) (hn : 1 ≤ n.toInt ∧ n.toInt ≤ 60) (sz : Int32) (bf gf ef : Nat → Int32) : ∃ s1 s2 s3 s4, g_X1_send x1 own c n 3 (-6) (-6) 0 (-6) now (nI z) rf ff sz bf gf ef = if g_X4_colourFor sf x1 own c n = -6 then (3, -6, -6, 0, -6, s1, s2, s3, s4) else (0, g_X4_colourFor sf x1 own c n, c, n, -6, s1, s2, s3, s4) := by
  have hb := best_at hT hz he hi (x1 := x1) (own := own) (f := c) (n := n) hown (by omega) (by omega) sz bf gf ef
  unfold g_X1_send
  generalize g_X1_bestColour x1 own n now (nI z) rf ff sz bf gf ef c = u at hb ⊢
  refine ⟨u.2.1, u.2.2.1, u.2.2.2.1, u.2.2.2.2, ?_⟩
  unfold g_X1_send_C5
  rw [hb]
  by_cases h : g_X4_colourFor sf x1 own c n = -6
  · rw [if_pos h, if_pos h]
  · rw [if_neg h, if_neg h]
    rfl
theorem place_both {T : Nat} (hT : T ≤ 102400) {now : Int32} {z : Nat} (hz : z ≤ 48) {rf lf ff sf : Nat → Int32} (he : eqS now (nI z) rf lf ff sf) (hi : Inv T now (nI z) rf lf ff) {x1 own c : Int32} (hown : 0 ≤ own.toInt ∧ own.toInt ≤ 5) (hc : 0 ≤ c.toInt ∧ c.toInt ≤ 150000) {N : Nat} (hN : 1 ≤ N ∧ N ≤ 60) (sz : Int32) (bf gf ef : Nat → Int32) : ∃ fate on frm size byl s1 s2 s3 s4, g_X4_place sf x1 own c (nI N) = (fate, on, frm, size, byl) ∧ g_X1_place now (nI z) rf lf ff sz bf gf ef x1 own c (nI N) = (x1, own, c, nI N, fate, on, frm, size, byl, s1, s2, s3, s4) ∧ plOk sf lf x1 c N fate on frm size byl := by
  have e0 : (0 : Int32).toInt = 0 := rfl
  have hn : 1 ≤ (nI N).toInt ∧ (nI N).toInt ≤ 60 := by rw [tI N (by omega)]; omega
  obtain ⟨s1, s2, s3, s4, hsend⟩ := send_at hT hz he hi (x1 := x1) hown hc hn sz bf gf ef
  obtain ⟨r4, rs4⟩ := rl_at he (j := 4) (by omega)
  have r4' : g_X0_ruleNow rf 4 = rf 4 := r4
  have hcl : g_X1_place now (nI z) rf lf ff sz bf gf ef x1 own c (nI N) = g_X1_place_C34 (g_X1_send x1 own c (nI N) 3 (-6) (-6) 0 (-6) now (nI z) rf ff sz bf gf ef) now (nI z) rf lf ff x1 own c (nI N) := rfl
  rw [hcl, hsend]
  by_cases h1 : g_X4_colourFor sf x1 own c (nI N) = -6
  · rw [if_pos h1]
    have hneg : g_X4_colourFor sf x1 own c (nI N) < 0 := by rw [h1]; decide
    have hcl2 : g_X1_place_C34 (3, -6, -6, 0, -6, s1, s2, s3, s4) now (nI z) rf lf ff x1 own c (nI N) = g_X1_place_C46 (g_X1_delay x1 own c (nI N) 3 (-6) (-6) 0 (-6) now (nI z) rf lf ff s1 s2 s3 s4) (nI z) rf ff x1 own c (nI N) := by
      unfold g_X1_place_C34
      rw [if_pos rfl]
    rw [hcl2]
    obtain ⟨t1, t2, t3, t4, hd⟩ := delay_L hT hz he hi (x1 := x1) hown hc hn 3 (-6) (-6) 0 (-6) 3 0 (((3 : Int32).toInt - ((0 : Int32)).toInt).toNat + 1) (-6) (-6) 61 (-6) s1 s2 s3 s4 (by omega) (by decide) (Or.inl ⟨rfl, rfl, rfl⟩)
    rcases hd with ⟨d1, d2⟩ | ⟨j, j1, j2, j3, j4, j5⟩
    · have d1' : g_X4_lineFor sf x1 own c (nI N) = -6 := d1
      have d2' : g_X1_delay x1 own c (nI N) 3 (-6) (-6) 0 (-6) now (nI z) rf lf ff s1 s2 s3 s4 = (3, -6, -6, 0, -6, t1, t2, t3, t4) := d2
      have hln : g_X4_lineFor sf x1 own c (nI N) < 0 := by rw [d1']; decide
      rw [d2']
      by_cases h4 : rf 4 = 1
      · have hcl3 : g_X1_place_C46 (3, -6, -6, 0, -6, t1, t2, t3, t4) (nI z) rf ff x1 own c (nI N) = g_X1_place_C70 (g_X1_cut x1 own c (nI N) 3 (-6) (-6) 0 (-6) (nI z) rf ff t1 t2 t3 t4) x1 own c (nI N) := by
          unfold g_X1_place_C46
          rw [if_pos rfl, r4', if_pos h4]
        have hpl : g_X4_place sf x1 own c (nI N) = g_X4_cut sf 3 (-6) (-6) 0 (-6) x1 own c (nI N) := by
          unfold g_X4_place
          rw [if_pos hneg, if_pos hln, rs4, if_pos h4]
          rfl
        obtain ⟨y1, y2, y3, y4, hcut⟩ := cut_L hT hz he hi (x1 := x1) hown hc hN 3 (-6) (-6) 0 (-6) 6 0 (((6 : Int32).toInt - ((0 : Int32)).toInt).toNat + 1) (-6) (-6) 0 (-6) 0 t1 t2 t3 t4 (by omega) (by decide) (Or.inl ⟨rfl, rfl, rfl, Or.inl rfl⟩)
        rw [hcl3, hpl]
        rcases hcut with ⟨a1, a2⟩ | ⟨w, M, A, m1, m2, m3, m4, m5, m6⟩
        · have a1' : g_X4_cut sf 3 (-6) (-6) 0 (-6) x1 own c (nI N) = _ := a1
          have a2' : g_X1_cut x1 own c (nI N) 3 (-6) (-6) 0 (-6) (nI z) rf ff t1 t2 t3 t4 = _ := a2
          rw [a1', a2']
          exact ⟨3, -6, -6, 0, -6, y1, y2, y3, y4, rfl, rfl, Or.inr (Or.inr (Or.inr ⟨rfl, rfl, rfl, rfl, rfl⟩))⟩
        · have a1' : g_X4_cut sf 3 (-6) (-6) 0 (-6) x1 own c (nI N) = _ := m5
          have a2' : g_X1_cut x1 own c (nI N) 3 (-6) (-6) 0 (-6) (nI z) rf ff t1 t2 t3 t4 = _ := m6
          rw [a1', a2']
          exact ⟨2, w, c + nI A, nI M, -6, y1, y2, y3, y4, rfl, rfl, Or.inr (Or.inr (Or.inl ⟨M, A, m1, m2, rfl, m3, rfl, rfl, rfl, m4⟩))⟩
      · have hcl3 : g_X1_place_C46 (3, -6, -6, 0, -6, t1, t2, t3, t4) (nI z) rf ff x1 own c (nI N) = (x1, own, c, nI N, 3, -6, -6, 0, -6, t1, t2, t3, t4) := by
          unfold g_X1_place_C46
          rw [if_pos rfl, r4', if_neg h4]
        have hpl : g_X4_place sf x1 own c (nI N) = (3, -6, -6, 0, -6) := by
          unfold g_X4_place
          rw [if_pos hneg, if_pos hln, rs4, if_neg h4]
          rfl
        rw [hcl3, hpl]
        exact ⟨3, -6, -6, 0, -6, t1, t2, t3, t4, rfl, rfl, Or.inr (Or.inr (Or.inr ⟨rfl, rfl, rfl, rfl, rfl⟩))⟩
    · have j2' : g_X4_lineFor sf x1 own c (nI N) = nI j := j2
      have j3' : g_X1_delay x1 own c (nI N) 3 (-6) (-6) 0 (-6) now (nI z) rf lf ff s1 s2 s3 s4 = (1, g_X4_colourFor sf x1 own (c + lf j) (nI N), c + lf j, nI N, nI j, t1, t2, t3, t4) := j3
      have hln : ¬ g_X4_lineFor sf x1 own c (nI N) < 0 := by rw [j2', Int32.lt_iff_toInt_lt, tI j (by omega), e0]; omega
      have hcl3 : g_X1_place_C46 (1, g_X4_colourFor sf x1 own (c + lf j) (nI N), c + lf j, nI N, nI j, t1, t2, t3, t4) (nI z) rf ff x1 own c (nI N) = (x1, own, c, nI N, 1, g_X4_colourFor sf x1 own (c + lf j) (nI N), c + lf j, nI N, nI j, t1, t2, t3, t4) := by
        unfold g_X1_place_C46
        exact if_neg (show ¬ (1 : Int32) = 3 by decide)
      have hpl : g_X4_place sf x1 own c (nI N) = (1, g_X4_colourFor sf x1 own (c + lf j) (nI N), c + lf j, nI N, nI j) := by
        unfold g_X4_place
        rw [if_pos hneg, if_neg hln, j2', (ln_at he j1).2]
        rfl
      rw [j3', hcl3, hpl]
      rcases colour_ok (sf := sf) (x1 := x1) (own := own) (f := c + lf j) (n := nI N) with h | h
      · exact absurd (show g_X4_colourFor sf x1 own (c + lf j) (nI N) < 0 by rw [h]; decide) j5
      · exact ⟨1, _, _, _, _, t1, t2, t3, t4, rfl, rfl, Or.inr (Or.inl ⟨j, j1, rfl, h.1, rfl, rfl, rfl, h.2, j4⟩)⟩
  · rw [if_neg h1]
    rcases colour_ok (sf := sf) (x1 := x1) (own := own) (f := c) (n := nI N) with h | h
    · exact absurd h h1
    · have hneg : ¬ g_X4_colourFor sf x1 own c (nI N) < 0 := by rw [Int32.lt_iff_toInt_lt, e0]; omega
      have hcl2 : g_X1_place_C34 (0, g_X4_colourFor sf x1 own c (nI N), c, nI N, -6, s1, s2, s3, s4) now (nI z) rf lf ff x1 own c (nI N) = (x1, own, c, nI N, 0, g_X4_colourFor sf x1 own c (nI N), c, nI N, -6, s1, s2, s3, s4) := by
        unfold g_X1_place_C34
        exact if_neg (show ¬ (0 : Int32) = 3 by decide)
      have hpl : g_X4_place sf x1 own c (nI N) = (0, g_X4_colourFor sf x1 own c (nI N), c, nI N, -6) := by
        unfold g_X4_place
        rw [if_neg hneg]
        rfl
      rw [hcl2, hpl]
      exact ⟨0, _, _, _, _, s1, s2, s3, s4, rfl, rfl, Or.inl ⟨rfl, h.1, rfl, rfl, rfl, h.2⟩⟩
theorem refusal_eq (x1 x2 x3 x4 x5 : Int32) : g_X3_refusalOfBurst x1 x2 x3 x4 x5 = g_X4_refusal x1 x2 x3 x4 x5 ∧ (g_X4_refusal x1 x2 x3 x4 x5 = 0 → (0 ≤ x1.toInt ∧ x1.toInt ≤ 1) ∧ (0 ≤ x2.toInt ∧ x2.toInt ≤ 5) ∧ (0 ≤ x3.toInt ∧ x3.toInt ≤ 2) ∧ (1 ≤ x4.toInt ∧ x4.toInt ≤ 5) ∧ 1 ≤ x5.toInt ∧ x5.toInt ≤ 60) := by
  have e0 : (0 : Int32).toInt = 0 := rfl
  have e1 : (1 : Int32).toInt = 1 := rfl
  have e2 : (2 : Int32).toInt = 2 := rfl
  have e3 : (3 : Int32).toInt = 3 := rfl
  have e5 : (5 : Int32).toInt = 5 := rfl
  have e60 : (60 : Int32).toInt = 60 := rfl
  unfold g_X3_refusalOfBurst g_X4_refusal
  rcases col_split x1 x2 with ⟨c1, c2⟩ | ⟨c1, c2, c3, c4, c5, c6⟩
  · rw [if_pos c1]
    rcases c2 with c2 | ⟨c2, c3⟩
    · rw [if_pos c2]; exact ⟨rfl, fun h => absurd h (by decide)⟩
    · rw [if_neg c2, if_pos c3]; exact ⟨rfl, fun h => absurd h (by decide)⟩
  · rw [if_neg c1, if_neg c2, if_neg c3]
    by_cases d1 : 0 ≤ x3.toInt ∧ x3.toInt ≤ 2
    · rw [if_neg (below_iff.mpr (by omega)), if_neg (in_iff.mpr (by omega))]
      by_cases d2 : 1 ≤ x4.toInt ∧ x4.toInt ≤ 5
      · rw [if_neg (within_iff.mpr (by omega)), if_neg (in_iff.mpr (by omega))]
        by_cases d3 : 1 ≤ x5.toInt ∧ x5.toInt ≤ 60
        · rw [if_neg (within_iff.mpr (by omega)), if_neg (in_iff.mpr (by omega))]
          exact ⟨rfl, fun _ => ⟨c4, ⟨c5, c6⟩, d1, d2, d3⟩⟩
        · rw [if_pos (within_no (by omega)), if_pos (in_no (by omega))]; exact ⟨rfl, fun h => absurd h (by decide)⟩
      · rw [if_pos (within_no (by omega)), if_pos (in_no (by omega))]; exact ⟨rfl, fun h => absurd h (by decide)⟩
    · rw [if_pos (below_no (by omega)), if_pos (in_no (by omega))]; exact ⟨rfl, fun h => absurd h (by decide)⟩
theorem comes_at {T : Nat} (hT : T ≤ 102400) {now told : Int32} {rf lf ff sf : Nat → Int32} (he : eqS now told rf lf ff sf) (hi : Inv T now told rf lf ff) {x3 x4 : Int32} (h3 : 0 ≤ x3.toInt ∧ x3.toInt ≤ 2) (h4 : 1 ≤ x4.toInt ∧ x4.toInt ≤ 5) : g_X0_comingTick now rf x3 x4 = g_X4_comes sf x3 x4 ∧ 0 ≤ (g_X4_comes sf x3 x4).toInt ∧ (g_X4_comes sf x3 x4).toInt ≤ T + 140 := by
  obtain ⟨a1, b1⟩ := rl_at he (j := 1) (by omega)
  obtain ⟨a2, b2⟩ := rl_at he (j := 2) (by omega)
  have a1' : g_X0_ruleNow rf 1 = rf 1 := a1
  have a2' : g_X0_ruleNow rf 2 = rf 2 := a2
  have h9 : sf 9 = now := he.2.2.1
  have hnow := hi.1
  have hr := hi.2.2.1
  have hr1 := hr.2.1
  have hr2 := hr.2.2.1
  unfold g_X0_comingTick g_X4_comes
  rw [a1', a2', b1, b2, h9]
  have m1 : 0 ≤ (rf 1).toInt * x4.toInt ∧ (rf 1).toInt * x4.toInt ≤ 100 := by
    constructor
    · exact Int.mul_nonneg (by omega) (by omega)
    · calc (rf 1).toInt * x4.toInt ≤ 20 * x4.toInt := Int.mul_le_mul_of_nonneg_right (by omega) (by omega)
        _ ≤ 100 := by omega
  have m2 : 0 ≤ (rf 2).toInt * x3.toInt ∧ (rf 2).toInt * x3.toInt ≤ 40 := by
    constructor
    · exact Int.mul_nonneg (by omega) (by omega)
    · calc (rf 2).toInt * x3.toInt ≤ 20 * x3.toInt := Int.mul_le_mul_of_nonneg_right (by omega) (by omega)
        _ ≤ 40 := by omega
  have p1 : (rf 1 * x4).toInt = (rf 1).toInt * x4.toInt := i32_mul (by omega) (by omega)
  have p2 : (rf 2 * x3).toInt = (rf 2).toInt * x3.toInt := i32_mul (by omega) (by omega)
  have s1 : (now + rf 1 * x4).toInt = now.toInt + (rf 1).toInt * x4.toInt := by rw [i32_add (by omega) (by omega), p1]
  have s2 : (now + rf 1 * x4 + rf 2 * x3).toInt = now.toInt + (rf 1).toInt * x4.toInt + (rf 2).toInt * x3.toInt := by rw [i32_add (by omega) (by omega), s1, p2]
  exact ⟨rfl, by omega, by omega⟩
theorem core_would {T : Nat} (hT : T ≤ 102400) {now told : Int32} {rf lf ff sf : Nat → Int32} (he : eqS now told rf lf ff sf) (hi : Inv T now told rf lf ff) (q0 q1 q2 q3 q4 q5 q6 q7 q8 sz : Int32) (bf gf ef : Nat → Int32) (m0 m1 m2 m3 m4 x1 x2 x3 x4 x5 : Int32) : (g_X3_would q0 q1 q2 q3 q4 q5 q6 q7 q8 now told rf lf ff sz bf gf ef x1 x2 x3 x4 x5).1 = (g_X4_would sf m0 m1 m2 m3 m4 x1 x2 x3 x4 x5).1 := by
  obtain ⟨z, hz, ez, -⟩ := told_nat hi
  subst ez
  obtain ⟨r1, r2⟩ := refusal_eq x1 x2 x3 x4 x5
  unfold g_X3_would g_X4_would
  rw [r1]
  by_cases c : g_X4_refusal x1 x2 x3 x4 x5 = 0
  · rw [if_pos c, if_pos c]
    obtain ⟨-, h2, h3, h4, h5⟩ := r2 c
    obtain ⟨k1, k2, k3⟩ := comes_at hT he hi h3 h4
    obtain ⟨N, hN, rfl⟩ := nat_of (x := x5) (n := 61) (by omega) (by omega)
    rw [tI N (by omega)] at h5
    rw [k1]
    obtain ⟨fate, on, frm, size, byl, s1, s2, s3, s4, e1, e2, -⟩ := place_both hT hz he hi (x1 := x1) (c := g_X4_comes sf x3 x4) h2 (by omega) (N := N) (by omega) sz bf gf ef
    rw [e1, e2]
    rfl
  · rw [if_neg c, if_neg c]
