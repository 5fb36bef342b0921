/-! ===== placing: the best colour ===== -/
theorem rl_at {now told : Int32} {rf lf ff sf : Nat → Int32} (he : eqS now told rf lf ff sf) {j : Nat} (hj : j < 6) : g_X0_ruleNow rf (nI j) = rf j ∧ sf j = rf j := by
  refine ⟨?_, he.1 j hj⟩
  unfold g_X0_ruleNow
  rw [if_neg (below_iff.mpr (by rw [tI j (by omega), show (6 : Int32).toInt = 6 from rfl]; omega)), clmp_of (tI j (by omega))]
theorem away_at {a b : Int32} (ha : 0 ≤ a.toInt ∧ a.toInt ≤ 5) (hb : 0 ≤ b.toInt ∧ b.toInt ≤ 5) : g_X1_awayFrom b a = g_X4_away a b := by
  have e0 : (0 : Int32).toInt = 0 := rfl
  have s1 : (a - b).toInt = a.toInt - b.toInt := i32_sub (by omega) (by omega)
  have s2 : (b - a).toInt = b.toInt - a.toInt := i32_sub (by omega) (by omega)
  have s3 : (0 - (a - b)).toInt = 0 - (a.toInt - b.toInt) := by rw [i32_sub (by omega) (by omega), e0, s1]
  unfold g_X1_awayFrom g_X4_away
  by_cases c : b ≤ a
  · rw [if_pos c, if_pos (by rw [Int32.le_iff_toInt_le, s1, e0]; rw [Int32.le_iff_toInt_le] at c; omega)]
  · rw [if_neg c, if_neg (by rw [Int32.le_iff_toInt_le, s1, e0]; rw [Int32.le_iff_toInt_le] at c; omega)]
    rw [← Int32.toInt_inj, s3, s2]; omega
theorem voids_01 (rf : Nat → Int32) : g_X1_fillsVoids rf = 0 ∨ g_X1_fillsVoids rf = 1 := by
  unfold g_X1_fillsVoids; split
  · exact Or.inr rfl
  · exact Or.inl rfl
theorem voids_iff {now told : Int32} {rf lf ff sf : Nat → Int32} (he : eqS now told rf lf ff sf) : g_X1_fillsVoids rf = 0 ↔ ¬ sf 5 = 1 := by
  obtain ⟨a, b⟩ := rl_at he (j := 5) (by omega)
  have a' : g_X0_ruleNow rf 5 = rf 5 := a
  unfold g_X1_fillsVoids
  rw [a', b]
  by_cases c : rf 5 = 1
  · rw [if_pos c]; exact ⟨fun h => absurd h (by decide), fun h => absurd c h⟩
  · rw [if_neg c]; exact ⟨fun _ => c, fun _ => rfl⟩
/-- what free means, on a track -/
def frT (m : Nat) (gf ef : Nat → Int32) (iv : Int32) (f n : Int) : Prop := ∀ j, j < m → gI ef j ≤ f ∨ (¬ iv = 0 ∧ f + n ≤ gI gf j)
theorem frM {T : Nat} (hT : T ≤ 102400) {now : Int32} {z : Nat} (hz : z ≤ 48) {rf lf ff sf : Nat → Int32} (he : eqS now (nI z) rf lf ff sf) (hi : Inv T now (nI z) rf lf ff) {x1 x2 f n : Int32} (hx : 0 ≤ x2.toInt) (hf : 0 ≤ f.toInt ∧ f.toInt ≤ 200000) (hn : 1 ≤ n.toInt ∧ n.toInt ≤ 3000) {m : Nat} {bf gf ef : Nat → Int32} (h : TrS z (onC ff x1 x2) ff 8 9 m bf gf ef) : ¬ g_X4_isFree sf x1 x2 f n = 0 ↔ frT m gf ef (g_X1_fillsVoids rf) f.toInt n.toInt := by
  have hc := isClear_tr hT hz he hi (x1 := x1) hx (f := f) (n := n) (by omega) (by omega) h
  have hl := Iff.trans (isLast_b hT hz he hi (x1 := x1) (f := f) hx) (tr_all hz h (fun _ e => e.toInt ≤ f.toInt)).symm
  have hv := voids_iff he
  have hod := odC hT hz hi hx h
  unfold g_X4_isFree frT
  by_cases c1 : g_X4_isClear sf x1 x2 f n = 0
  · rw [if_pos c1]
    refine ⟨fun hh => absurd rfl hh, fun hh => ?_⟩
    exact absurd c1 (hc.mpr (fun k hk => (hh k hk).elim Or.inl (fun a => Or.inr a.2)))
  · rw [if_neg c1]
    have hc1 := hc.mp c1
    by_cases c2 : sf 5 = 1
    · rw [if_pos c2]
      have hv1 : ¬ g_X1_fillsVoids rf = 0 := fun hh => (hv.mp hh) c2
      exact ⟨fun _ j hj => (hc1 j hj).elim Or.inl (fun a => Or.inr ⟨hv1, a⟩), fun _ => by decide⟩
    · rw [if_neg c2]
      have hv1 : g_X1_fillsVoids rf = 0 := hv.mpr c2
      by_cases c3 : g_X4_isLast sf x1 x2 f = 0
      · rw [if_pos c3]
        refine ⟨fun hh => absurd rfl hh, fun hh => ?_⟩
        exact absurd c3 (hl.mpr (fun k hk => (hh k hk).elim id (fun a => absurd hv1 a.1)))
      · rw [if_neg c3]
        exact ⟨fun _ j hj => Or.inl (hl.mp c3 j hj), fun _ => by decide⟩
theorem frC {m : Nat} (hm : m ≤ 48) {gf ef : Nat → Int32} (ho : OD m gf ef) {f n iv : Int32} (hf : 0 ≤ f.toInt ∧ f.toInt ≤ 200000) (hn : 1 ≤ n.toInt ∧ n.toInt ≤ 3000) : ¬ g_X2_isFree (nI m) gf ef f (f + n) iv = 0 ↔ frT m gf ef iv f.toInt n.toInt := by
  have es : (f + n).toInt = f.toInt + n.toInt := i32_add (by omega) (by omega)
  rw [isFree_iff hm ho (x3 := iv) (by omega) (by omega) (by omega), es]
  unfold frT xX
  constructor
  · intro h j hj
    by_cases c : gI ef j ≤ f.toInt
    · exact Or.inl c
    · have := h j hj (by omega)
      by_cases c2 : iv = 0
      · rw [if_pos c2] at this; omega
      · rw [if_neg c2] at this; exact Or.inr ⟨c2, this⟩
  · intro h j hj hc
    rcases h j hj with h | ⟨h1, h2⟩
    · omega
    · rw [if_neg h1]; exact h2
theorem gap_bd {T : Nat} (hT : T ≤ 102400) {now : Int32} {z : Nat} (hz : z ≤ 48) {rf lf ff sf : Nat → Int32} (he : eqS now (nI z) rf lf ff sf) (hi : Inv T now (nI z) rf lf ff) {x1 x2 f : Int32} (hx : 0 ≤ x2.toInt) (hf : 0 ≤ f.toInt ∧ f.toInt ≤ 200000) : -300000 ≤ (g_X4_gap sf x1 x2 f).toInt ∧ (g_X4_gap sf x1 x2 f).toInt ≤ 300000 := by
  obtain ⟨m, B, G, E, -, hTr⟩ := showC hz ff (fun _ => 0) (fun _ => 0) (fun _ => 0) x1 x2
  have hm : m ≤ 48 := by have := hTr.1; omega
  have hod := odC hT hz hi hx hTr
  have hnow := hi.1
  rw [gap_eq hz he hi hx hTr]
  obtain ⟨w1, -, w3⟩ := last_at hm E f now
  have hL : 0 ≤ (g_X2_lastEndUpTo (nI m) E f now).toInt ∧ (g_X2_lastEndUpTo (nI m) E f now).toInt ≤ 200000 := by
    rcases w3 with w3 | ⟨j, j1, j2, j3⟩
    · rw [w3]; omega
    · rw [j3]
      have := hod.2 j j1
      unfold gI at this
      omega
  rw [i32_sub (by omega) (by omega)]
  omega
theorem best_L {T : Nat} (hT : T ≤ 102400) {now : Int32} {z : Nat} (hz : z ≤ 48) {rf lf ff sf : Nat → Int32} (he : eqS now (nI z) rf lf ff sf) (hi : Inv T now (nI z) rf lf ff) {x1 own f n : Int32} (hown : 0 ≤ own.toInt ∧ own.toInt ≤ 5) (hf : 0 ≤ f.toInt ∧ f.toInt ≤ 200000) (hn : 1 ≤ n.toInt ∧ n.toInt ≤ 3000) : ∀ (r k q : Nat) (v2 v3 sz : Int32) (bf gf ef : Nat → Int32), k + r = 6 → r < q → (v2 = -6 ∨ (0 ≤ v2.toInt ∧ v2.toInt ≤ 5 ∧ v3 = g_X4_gap sf x1 v2 f)) → (g_X1_bestColour_L8 x1 own n now (nI z) rf ff f q v2 v3 (nI k) sz bf gf ef).1 = g_X4_colourFor_L7 sf x1 own f n q v2 (nI k) := by
  have e0 : (0 : Int32).toInt = 0 := rfl
  obtain ⟨rr, rs⟩ := rl_at he (j := 0) (by omega)
  have rr' : g_X0_ruleNow rf 0 = rf 0 := rr
  intro r
  induction r with
  | zero =>
    intro k q v2 v3 sz bf gf ef hk hq hv
    obtain ⟨q, rfl⟩ : ∃ j, q = j + 1 := ⟨q - 1, by omega⟩
    have c : (6 : Int32) ≤ nI k := nI_le (a := 6) (by omega) (by omega)
    rw [g_X1_bestColour_L8, if_pos c, g_X4_colourFor_L7, if_pos c]
  | succ r ih =>
    intro k q v2 v3 sz bf gf ef hk hq hv
    obtain ⟨q, rfl⟩ : ∃ j, q = j + 1 := ⟨q - 1, by omega⟩
    have c : ¬ (6 : Int32) ≤ nI k := nI_nle' (b := 6) (by omega) (by omega)
    have hk0 : 0 ≤ (nI k).toInt ∧ (nI k).toInt ≤ 5 := by rw [tI k (by omega)]; omega
    have haw := away_at hk0 hown
    obtain ⟨m, B, G, E, e, hTr⟩ := showC hz ff bf gf ef x1 (nI k)
    have hm : m ≤ 48 := by have := hTr.1; omega
    have hod := odC hT hz hi hk0.1 hTr
    have hfr : ¬ g_X2_isFree (nI m) G E f (f + n) (g_X1_fillsVoids rf) = 0 ↔ ¬ g_X4_isFree sf x1 (nI k) f n = 0 := Iff.trans (frC hm hod hf hn) (frM hT hz he hi hk0.1 hf hn hTr).symm
    have hg := gap_eq hz he hi (x3 := f) hk0.1 hTr
    have gb := gap_bd hT hz he hi (x1 := x1) hk0.1 hf
    rw [g_X1_bestColour_L8, if_neg c, g_X4_colourFor_L7, if_neg c, e, rr', rs, haw, nI_1, ← hg]
    by_cases c1 : rf 0 < g_X4_away (nI k) own
    · rw [if_pos c1, if_pos c1]
      exact ih (k + 1) q v2 v3 _ _ _ _ (by omega) (by omega) hv
    · rw [if_neg c1, if_neg c1]
      by_cases c2 : g_X4_isFree sf x1 (nI k) f n = 0
      · rw [if_pos c2, if_pos (Decidable.byContradiction fun hh => (hfr.mp hh) c2)]
        exact ih (k + 1) q v2 v3 _ _ _ _ (by omega) (by omega) hv
      · rw [if_neg c2, if_neg (hfr.mpr c2)]
        have take := fun s1 s2 s3 s4 => ih (k + 1) q (nI k) (g_X4_gap sf x1 (nI k) f) s1 s2 s3 s4 (by omega) (by omega) (Or.inr ⟨hk0.1, hk0.2, rfl⟩)
        have keep := fun s1 s2 s3 s4 => ih (k + 1) q v2 v3 s1 s2 s3 s4 (by omega) (by omega) hv
        rcases hv with hv | ⟨hv1, hv2, hv3⟩
        · rw [if_pos hv, if_neg (by rw [hv]; decide)]
          exact take _ _ _ _
        · have hne : ¬ v2 = -6 := fun hh => by rw [hh, show (-6 : Int32).toInt = -6 from rfl] at hv1; omega
          have gb2 := gap_bd hT hz he hi (x1 := x1) hv1 hf
          have es : (g_X4_gap sf x1 (nI k) f - g_X4_gap sf x1 v2 f).toInt = (g_X4_gap sf x1 (nI k) f).toInt - (g_X4_gap sf x1 v2 f).toInt := i32_sub (by omega) (by omega)
          have haw2 := away_at ⟨hv1, hv2⟩ hown
          rw [if_neg hne, if_pos (show (0 : Int32) ≤ v2 by rw [Int32.le_iff_toInt_le, e0]; exact hv1), hv3]
          by_cases d1 : g_X4_gap sf x1 (nI k) f < g_X4_gap sf x1 v2 f
          · have p1 : g_X4_gap sf x1 (nI k) f - g_X4_gap sf x1 v2 f < 0 := by rw [Int32.lt_iff_toInt_lt, es, e0]; rw [Int32.lt_iff_toInt_lt] at d1; omega
            rw [if_pos d1, if_pos p1]
            exact take _ _ _ _
          · have p1 : ¬ g_X4_gap sf x1 (nI k) f - g_X4_gap sf x1 v2 f < 0 := by rw [Int32.lt_iff_toInt_lt, es, e0]; rw [Int32.lt_iff_toInt_lt] at d1; omega
            rw [if_neg d1, if_neg p1]
            by_cases d2 : g_X4_gap sf x1 (nI k) f = g_X4_gap sf x1 v2 f
            · have p2 : g_X4_gap sf x1 (nI k) f - g_X4_gap sf x1 v2 f = 0 := by rw [i_eq (k := 0) rfl, es, d2]; omega
              have hnr : g_X1_isNearer own (nI k) v2 = 0 ↔ g_X4_away v2 own ≤ g_X4_away (nI k) own := by
                unfold g_X1_isNearer
                rw [haw, haw2]
                by_cases d3 : g_X4_away v2 own ≤ g_X4_away (nI k) own
                · rw [if_pos d3]; exact ⟨fun _ => d3, fun _ => rfl⟩
                · rw [if_neg d3]; exact ⟨fun h => absurd h (by decide), fun h => absurd h d3⟩
              rw [if_pos d2, if_pos p2]
              by_cases d3 : g_X4_away v2 own ≤ g_X4_away (nI k) own
              · rw [if_pos d3, if_pos (hnr.mpr d3), ← hv3]
                exact keep _ _ _ _
              · rw [if_neg d3, if_neg (fun hh => d3 (hnr.mp hh))]
                exact take _ _ _ _
            · have p2 : ¬ g_X4_gap sf x1 (nI k) f - g_X4_gap sf x1 v2 f = 0 := by
                rw [i_eq (k := 0) rfl, es]; intro hh; exact d2 (Int32.toInt_inj.mp (by omega))
              rw [if_neg d2, if_neg p2, ← hv3]
              exact keep _ _ _ _
theorem best_at {T : Nat} (hT : T ≤ 102400) {now : Int32} {z : Nat} (hz : z ≤ 48) {rf lf ff sf : Nat → Int32} (he : eqS now (nI z) rf lf ff sf) (hi : Inv T now (nI z) rf lf ff) {x1 own f n : Int32} (hown : 0 ≤ own.toInt ∧ own.toInt ≤ 5) (hf : 0 ≤ f.toInt ∧ f.toInt ≤ 200000) (hn : 1 ≤ n.toInt ∧ n.toInt ≤ 3000) (sz : Int32) (bf gf ef : Nat → Int32) : (g_X1_bestColour x1 own n now (nI z) rf ff sz bf gf ef f).1 = g_X4_colourFor sf x1 own f n := by
  unfold g_X1_bestColour g_X4_colourFor
  exact best_L hT hz he hi hown hf hn 6 0 _ (-6) 0 sz bf gf ef (by omega) (by decide) (Or.inl rfl)
theorem colour_L {sf : Nat → Int32} {x1 own f n : Int32} : ∀ (r k q : Nat) (v : Int32), k + r = 6 → r < q → (v = -6 ∨ ((0 ≤ v.toInt ∧ v.toInt ≤ 5) ∧ ¬ g_X4_isFree sf x1 v f n = 0)) → (g_X4_colourFor_L7 sf x1 own f n q v (nI k) = -6 ∨ ((0 ≤ (g_X4_colourFor_L7 sf x1 own f n q v (nI k)).toInt ∧ (g_X4_colourFor_L7 sf x1 own f n q v (nI k)).toInt ≤ 5) ∧ ¬ g_X4_isFree sf x1 (g_X4_colourFor_L7 sf x1 own f n q v (nI k)) f n = 0)) := by
  intro r
  induction r with
  | zero =>
    intro k q v hk hq hv
    obtain ⟨q, rfl⟩ : ∃ j, q = j + 1 := ⟨q - 1, by omega⟩
    have c : (6 : Int32) ≤ nI k := nI_le (a := 6) (by omega) (by omega)
    rw [g_X4_colourFor_L7, if_pos c]
    exact hv
  | succ r ih =>
    intro k q v hk hq hv
    obtain ⟨q, rfl⟩ : ∃ j, q = j + 1 := ⟨q - 1, by omega⟩
    have c : ¬ (6 : Int32) ≤ nI k := nI_nle' (b := 6) (by omega) (by omega)
    have hk0 : 0 ≤ (nI k).toInt ∧ (nI k).toInt ≤ 5 := by rw [tI k (by omega)]; omega
    rw [g_X4_colourFor_L7, if_neg c, nI_1]
    have keep := ih (k + 1) q v (by omega) (by omega) hv
    by_cases c1 : sf 0 < g_X4_away (nI k) own
    · rw [if_pos c1]; exact keep
    · rw [if_neg c1]
      by_cases c2 : g_X4_isFree sf x1 (nI k) f n = 0
      · rw [if_pos c2]; exact keep
      · rw [if_neg c2]
        have take := ih (k + 1) q (nI k) (by omega) (by omega) (Or.inr ⟨hk0, c2⟩)
        repeat' split
        all_goals first | exact keep | exact take
theorem colour_ok {sf : Nat → Int32} {x1 own f n : Int32} : g_X4_colourFor sf x1 own f n = -6 ∨ ((0 ≤ (g_X4_colourFor sf x1 own f n).toInt ∧ (g_X4_colourFor sf x1 own f n).toInt ≤ 5) ∧ ¬ g_X4_isFree sf x1 (g_X4_colourFor sf x1 own f n) f n = 0) := by
  unfold g_X4_colourFor
  exact colour_L 6 0 _ (-6) (by omega) (by decide) (Or.inl rfl)
