/-! ===== free, line, busy, next ===== -/
theorem isClear_tr {T : Nat} (hT : T ≤ 102400) {now : Int32} {z : Nat} (hz : z ≤ 48) {rf lf ff sf : Nat → Int32} (he : eqS now (nI z) rf lf ff sf) (hi : Inv T now (nI z) rf lf ff) {x1 x2 f n : Int32} (hx : 0 ≤ x2.toInt) (hf : 0 ≤ f.toInt ∧ f.toInt ≤ 300000) (hn : 0 ≤ n.toInt ∧ n.toInt ≤ 3000) {m : Nat} {bf gf ef : Nat → Int32} (h : TrS z (onC ff x1 x2) ff 8 9 m bf gf ef) : ¬ g_X4_isClear sf x1 x2 f n = 0 ↔ ∀ k, k < m → gI ef k ≤ f.toInt ∨ f.toInt + n.toInt ≤ gI gf k :=
  Iff.trans (isClear_b hT hz he hi hx hf hn) (tr_all hz h (fun g e => e.toInt ≤ f.toInt ∨ f.toInt + n.toInt ≤ g.toInt)).symm
theorem span_iff (x y : Int32) : (¬ g_X3_isSpan x y = 0 ↔ (0 ≤ x.toInt ∧ x.toInt ≤ 20000) ∧ 1 ≤ y.toInt ∧ y.toInt ≤ 2000) ∧ (¬ g_X4_isSpan x y = 0 ↔ (0 ≤ x.toInt ∧ x.toInt ≤ 20000) ∧ 1 ≤ y.toInt ∧ y.toInt ≤ 2000) := by
  have e0 : (0 : Int32).toInt = 0 := rfl
  have e1 : (1 : Int32).toInt = 1 := rfl
  have e2 : (20000 : Int32).toInt = 20000 := rfl
  have e3 : (2000 : Int32).toInt = 2000 := rfl
  have w1 := within_iff (a := x) (b := 0) (c := 20000)
  have w2 := within_iff (a := y) (b := 1) (c := 2000)
  have i1 := in_iff (a := x) (b := 0) (c := 20000)
  have i2 := in_iff (a := y) (b := 1) (c := 2000)
  rw [e0, e2] at w1 i1
  rw [e1, e3] at w2 i2
  unfold g_X3_isSpan g_X4_isSpan
  constructor
  · by_cases c1 : g_X3_isWithin x 0 20000 = 0
    · rw [if_pos c1]; exact ⟨fun h => absurd rfl h, fun h => absurd c1 (w1.mpr h.1)⟩
    · rw [if_neg c1]
      by_cases c2 : g_X3_isWithin y 1 2000 = 0
      · rw [if_pos c2]; exact ⟨fun h => absurd rfl h, fun h => absurd c2 (w2.mpr h.2)⟩
      · rw [if_neg c2]; exact ⟨fun _ => ⟨w1.mp c1, w2.mp c2⟩, fun _ => by decide⟩
  · by_cases c1 : g_X4_in x 0 20000 = 0
    · rw [if_pos c1]; exact ⟨fun h => absurd rfl h, fun h => absurd c1 (i1.mpr h.1)⟩
    · rw [if_neg c1]
      by_cases c2 : g_X4_in y 1 2000 = 0
      · rw [if_pos c2]; exact ⟨fun h => absurd rfl h, fun h => absurd c2 (i2.mpr h.2)⟩
      · rw [if_neg c2]; exact ⟨fun _ => ⟨i1.mp c1, i2.mp c2⟩, fun _ => by decide⟩
/-- out and colour, refused alike -/
theorem col_split (x1 x2 : Int32) : (g_X3_isColour x1 x2 = 0 ∧ (g_X4_isOut x1 = 0 ∨ (¬ g_X4_isOut x1 = 0 ∧ g_X4_isColour x2 = 0))) ∨ (¬ g_X3_isColour x1 x2 = 0 ∧ ¬ g_X4_isOut x1 = 0 ∧ ¬ g_X4_isColour x2 = 0 ∧ (0 ≤ x1.toInt ∧ x1.toInt ≤ 1) ∧ 0 ≤ x2.toInt ∧ x2.toInt ≤ 5) := by
  have e0 : (0 : Int32).toInt = 0 := rfl
  have e1 : (1 : Int32).toInt = 1 := rfl
  have e2 : (2 : Int32).toInt = 2 := rfl
  have e5 : (5 : Int32).toInt = 5 := rfl
  have e6 : (6 : Int32).toInt = 6 := rfl
  unfold g_X3_isColour g_X4_isOut g_X4_isColour
  by_cases c1 : 0 ≤ x1.toInt ∧ x1.toInt ≤ 1
  · have a1 : ¬ g_X3_isBelow x1 2 = 0 := below_iff.mpr (by omega)
    have a2 : ¬ g_X4_in x1 0 1 = 0 := in_iff.mpr (by omega)
    by_cases c2 : 0 ≤ x2.toInt ∧ x2.toInt ≤ 5
    · have b1 : ¬ g_X3_isBelow x2 6 = 0 := below_iff.mpr (by omega)
      have b2 : ¬ g_X4_in x2 0 5 = 0 := in_iff.mpr (by omega)
      rw [if_neg a1, if_neg b1]
      exact Or.inr ⟨by decide, a2, b2, c1, c2⟩
    · have b1 : g_X3_isBelow x2 6 = 0 := below_no (by omega)
      have b2 : g_X4_in x2 0 5 = 0 := in_no (by omega)
      rw [if_neg a1, if_pos b1]
      exact Or.inl ⟨rfl, Or.inr ⟨a2, b2⟩⟩
  · have a1 : g_X3_isBelow x1 2 = 0 := below_no (by omega)
    have a2 : g_X4_in x1 0 1 = 0 := in_no (by omega)
    rw [if_pos a1]
    exact Or.inl ⟨rfl, Or.inl a2⟩
theorem free_L {T : Nat} (hT : T ≤ 102400) {now : Int32} {z : Nat} (hz : z ≤ 48) {rf lf ff sf : Nat → Int32} (he : eqS now (nI z) rf lf ff sf) (hi : Inv T now (nI z) rf lf ff) {x1 f n : Int32} (hf : 0 ≤ f.toInt ∧ f.toInt ≤ 20000) (hn : 1 ≤ n.toInt ∧ n.toInt ≤ 2000) : ∀ (r k q : Nat) (v sz : Int32) (bf gf ef : Nat → Int32), k + r = 6 → r < q → (g_X3_free_L27 (nI z) ff x1 f n q v (nI k) sz bf gf ef).1 = g_X4_free_L26 sf x1 f n q v (nI k) := by
  have es : (f + n).toInt = f.toInt + n.toInt := i32_add (by omega) (by omega)
  intro r
  induction r with
  | zero =>
    intro k q v sz bf gf ef hk hq
    obtain ⟨q, rfl⟩ : ∃ j, q = j + 1 := ⟨q - 1, by omega⟩
    have c : (6 : Int32) ≤ nI k := nI_le (a := 6) (by omega) (by omega)
    rw [g_X3_free_L27, if_pos c, g_X4_free_L26, if_pos c]
  | succ r ih =>
    intro k q v sz bf gf ef hk hq
    obtain ⟨q, rfl⟩ : ∃ j, q = j + 1 := ⟨q - 1, by omega⟩
    have c : ¬ (6 : Int32) ≤ nI k := nI_nle' (b := 6) (by omega) (by omega)
    obtain ⟨m, B, G, E, e, hTr⟩ := showC hz ff bf gf ef x1 (nI k)
    have hk0 : 0 ≤ (nI k).toInt := by rw [tI k (by omega)]; omega
    have hm : m ≤ 48 := by have := hTr.1; omega
    have hod := odC hT hz hi hk0 hTr
    have h1 := isFree_iff hm hod (x1 := f) (x2 := f + n) (x3 := 1) (by omega) (by omega) (by omega)
    have h2 := isClear_tr hT hz he hi (x1 := x1) hk0 (f := f) (n := n) (by omega) (by omega) hTr
    have h3 : ¬ g_X2_isFree (nI m) G E f (f + n) 1 = 0 ↔ ¬ g_X4_isClear sf x1 (nI k) f n = 0 := by
      rw [h1, h2]
      have hx : ∀ j, xX f 1 G j = G j := fun j => by unfold xX; rw [if_neg (by decide)]
      constructor
      · intro h j hj
        by_cases hc : f.toInt < gI E j
        · have := h j hj hc; rw [hx] at this; right; unfold gI; omega
        · left; omega
      · intro h j hj hc
        rw [hx]
        rcases h j hj with h | h
        · omega
        · unfold gI at h; omega
    rw [g_X3_free_L27, if_neg c, g_X4_free_L26, if_neg c, e, nI_1, Int32.or_zero]
    by_cases c2 : g_X4_isClear sf x1 (nI k) f n = 0
    · rw [if_pos c2, if_pos (Decidable.byContradiction fun hh => (h3.mp hh) c2)]
      exact ih (k + 1) q v _ _ _ _ (by omega) (by omega)
    · rw [if_neg c2, if_neg (h3.mpr c2)]
      exact ih (k + 1) q _ _ _ _ _ (by omega) (by omega)
theorem core_free {T : Nat} (hT : T ≤ 102400) {now told : Int32} {rf lf ff sf : Nat → Int32} (he : eqS now told rf lf ff sf) (hi : Inv T now told rf lf ff) (sz : Int32) (bf gf ef : Nat → Int32) (x1 x2 x3 : Int32) : (g_X3_free told ff sz bf gf ef x1 x2 x3).1 = g_X4_free sf x1 x2 x3 := by
  obtain ⟨z, hz, ez, -⟩ := told_nat hi
  subst ez
  have e0 : (0 : Int32).toInt = 0 := rfl
  have e1 : (1 : Int32).toInt = 1 := rfl
  have e2 : (2 : Int32).toInt = 2 := rfl
  obtain ⟨s1, s2⟩ := span_iff x2 x3
  unfold g_X3_free g_X4_free g_X4_isOut
  by_cases c1 : 0 ≤ x1.toInt ∧ x1.toInt ≤ 1
  · rw [if_neg (below_iff.mpr (by omega)), if_neg (in_iff.mpr (by omega))]
    by_cases c2 : (0 ≤ x2.toInt ∧ x2.toInt ≤ 20000) ∧ 1 ≤ x3.toInt ∧ x3.toInt ≤ 2000
    · rw [if_neg (s1.mpr c2), if_neg (s2.mpr c2)]
      exact free_L hT hz he hi c2.1 c2.2 6 0 _ 0 sz bf gf ef (by omega) (by decide)
    · rw [if_pos (Decidable.byContradiction fun hh => c2 (s1.mp hh)), if_pos (Decidable.byContradiction fun hh => c2 (s2.mp hh))]
  · rw [if_pos (below_no (by omega)), if_pos (in_no (by omega))]
theorem line_L {T : Nat} {now : Int32} {z : Nat} (hz : z ≤ 48) {rf lf ff sf : Nat → Int32} (he : eqS now (nI z) rf lf ff sf) (hi : Inv T now (nI z) rf lf ff) {x1 x2 : Int32} (hx : 0 ≤ x1.toInt) : ∀ (r k q : Nat), k + r = z → r < q → ((∀ b, k ≤ b → b < z → onL ff x1 b → (ff (11 * b + 5) + ff (11 * b + 4)).toInt ≤ now.toInt) → g_X4_line_L26 sf x1 x2 q (nI k) = ((sf (6 + x1).toNatClampNeg), (upd sf (6 + x1).toNatClampNeg x2))) ∧ (¬ (∀ b, k ≤ b → b < z → onL ff x1 b → (ff (11 * b + 5) + ff (11 * b + 4)).toInt ≤ now.toInt) → g_X4_line_L26 sf x1 x2 q (nI k) = ((-5), sf)) := by
  have h10 : sf 10 = nI z := he.2.2.2.1
  have h9 : sf 9 = now := he.2.2.1
  intro r
  induction r with
  | zero =>
    intro k q hk hq
    obtain ⟨q, rfl⟩ : ∃ j, q = j + 1 := ⟨q - 1, by omega⟩
    refine ⟨fun _ => by rw [g_X4_line_L26, h10, if_pos (nI_le (by omega) (by omega))], fun h => absurd (fun b h1 h2 => by omega) h⟩
  | succ r ih =>
    intro k q hk hq
    obtain ⟨q, rfl⟩ : ∃ j, q = j + 1 := ⟨q - 1, by omega⟩
    have o5 : g_X4_of sf (nI k) 5 = ff (11 * k + 5) := of_at (w := 5) he (by omega) (by omega)
    have o4 : g_X4_of sf (nI k) 4 = ff (11 * k + 4) := of_at (w := 4) he (by omega) (by omega)
    have ho := isOnLine_iff hz he hi hx (b := k) (by omega)
    rw [g_X4_line_L26, h10, if_neg (nI_nle' (by omega) (by omega)), o5, o4, nI_1, h9]
    obtain ⟨i1, i2⟩ := ih (k + 1) q (by omega) (by omega)
    have skip : (onL ff x1 k → (ff (11 * k + 5) + ff (11 * k + 4)).toInt ≤ now.toInt) → ((∀ b, k ≤ b → b < z → onL ff x1 b → (ff (11 * b + 5) + ff (11 * b + 4)).toInt ≤ now.toInt) ↔ ∀ b, k + 1 ≤ b → b < z → onL ff x1 b → (ff (11 * b + 5) + ff (11 * b + 4)).toInt ≤ now.toInt) := fun hk' => by
      refine ⟨fun h b h1 h2 h3 => h b (by omega) h2 h3, fun h b h1 h2 h3 => ?_⟩
      by_cases hb : b = k
      · subst hb; exact hk' h3
      · exact h b (by omega) h2 h3
    by_cases c1 : onL ff x1 k
    · rw [if_neg (ho.mpr c1)]
      by_cases c2 : ff (11 * k + 5) + ff (11 * k + 4) ≤ now
      · rw [if_pos c2]; rw [Int32.le_iff_toInt_le] at c2
        rw [skip (fun _ => c2)]
        exact ⟨i1, i2⟩
      · rw [if_neg c2]; rw [Int32.le_iff_toInt_le] at c2
        exact ⟨fun h => absurd (h k (by omega) (by omega) c1) c2, fun _ => rfl⟩
    · rw [if_pos (Decidable.byContradiction fun hh => c1 (ho.mp hh)), skip (fun h => absurd h c1)]
      exact ⟨i1, i2⟩
theorem core_line {T : Nat} (hT : T ≤ 102400) {now told : Int32} {rf lf ff sf : Nat → Int32} (he : eqS now told rf lf ff sf) (hi : Inv T now told rf lf ff) (sz : Int32) (bf gf ef : Nat → Int32) (x1 x2 : Int32) : (g_X3_line now told lf ff sz bf gf ef x1 x2).1 = (g_X4_line sf x1 x2).1 ∧ eqS now told rf (g_X3_line now told lf ff sz bf gf ef x1 x2).2.1 ff (g_X4_line sf x1 x2).2 ∧ Inv T now told rf (g_X3_line now told lf ff sz bf gf ef x1 x2).2.1 ff := by
  obtain ⟨z, hz, ez, -⟩ := told_nat hi
  subst ez
  have e0 : (0 : Int32).toInt = 0 := rfl
  have e1 : (1 : Int32).toInt = 1 := rfl
  have e2 : (2 : Int32).toInt = 2 := rfl
  have e3 : (3 : Int32).toInt = 3 := rfl
  have e60 : (60 : Int32).toInt = 60 := rfl
  have hnow := hi.1
  have h10 : sf 10 = nI z := he.2.2.2.1
  unfold g_X3_line g_X4_line
  by_cases c1 : 0 ≤ x1.toInt ∧ x1.toInt < 3
  · rw [if_neg (below_iff.mpr (by omega)), if_neg (in_iff.mpr (by omega))]
    by_cases c2 : 0 ≤ x2.toInt ∧ x2.toInt ≤ 60
    · rw [if_neg (within_iff.mpr (by omega)), if_neg (in_iff.mpr (by omega))]
      obtain ⟨m, B, G, E, e, hTr⟩ := showL hz ff bf gf ef x1
      have hm : m ≤ 48 := by have := hTr.1; omega
      have hod := odL hT hz hi c1.1 hTr
      have hall := tr_all hz hTr (fun _ e => e.toInt ≤ now.toInt)
      obtain ⟨l1, l2⟩ := line_L hz he hi (x2 := x2) c1.1 z 0 (((sf 10).toInt - ((0 : Int32)).toInt).toNat + 1) (by omega) (by rw [h10, tI z (by omega), e0]; omega)
      have l1' : _ → g_X4_line_L26 sf x1 x2 (((sf 10).toInt - ((0 : Int32)).toInt).toNat + 1) 0 = _ := l1
      have l2' : _ → g_X4_line_L26 sf x1 x2 (((sf 10).toInt - ((0 : Int32)).toInt).toNat + 1) 0 = _ := l2
      have hlast : g_X2_lastEnd (nI m) E ≤ now ↔ ∀ k, k < m → (E k).toInt ≤ now.toInt := by
        unfold g_X2_lastEnd g_X2_has
        by_cases hm0 : m = 0
        · subst hm0
          rw [if_pos (below_no (by rw [show (nI 0 - 1).toInt = -1 from rfl]; omega)), Int32.le_iff_toInt_le, show (-6 : Int32).toInt = -6 from rfl]
          exact ⟨fun _ k hk => by omega, fun _ => by omega⟩
        · obtain ⟨p, rfl⟩ : ∃ p, m = p + 1 := ⟨m - 1, by omega⟩
          rw [nI_pred, if_neg (below_iff.mpr (by rw [tI p (by omega), tI (p + 1) (by omega)]; omega)), kcl (by omega), Int32.le_iff_toInt_le]
          refine ⟨fun h k hk => ?_, fun h => h p (by omega)⟩
          by_cases hkp : k = p
          · rw [hkp]; exact h
          · have a := hod.1 k p (by omega) (by omega)
            have b := (hod.2 p (by omega)).2.1
            unfold gI at a b
            omega
      rw [e]
      obtain ⟨j, hj, rfl⟩ := nat_of (x := x1) (n := 3) c1.1 (by omega)
      have e6 : (6 + nI j).toNatClampNeg = 6 + j := by rw [show (6 : Int32) = nI 6 from rfl, nI_add]; exact clmp_of (tI _ (by omega))
      by_cases c3 : g_X2_lastEnd (nI m) E ≤ now
      · rw [if_pos c3, l1' (fun b _ hb ho => (hall.mp (hlast.mp c3)) b hb ho), e6, clmp_of (tI j (by omega))]
        refine ⟨(he.2.1 j hj).symm, eqS_l he hj x2, hi.1, hi.2.1, hi.2.2.1, fun i hi' => ?_, hi.2.2.2.2⟩
        show 0 ≤ (upd lf j x2 i).toInt ∧ (upd lf j x2 i).toInt ≤ 60
        rw [up_def]
        split
        · exact c2
        · exact hi.2.2.2.1 i hi'
      · rw [if_neg c3, l2' (fun h => c3 (hlast.mpr (hall.mpr (fun b hb ho => h b (by omega) hb ho))))]
        exact ⟨rfl, he, hi⟩
    · rw [if_pos (within_no (by omega)), if_pos (in_no (by omega))]
      exact ⟨rfl, he, hi⟩
  · rw [if_pos (below_no (by omega)), if_pos (in_no (by omega))]
    exact ⟨rfl, he, hi⟩
