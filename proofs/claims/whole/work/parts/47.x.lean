/-! ===== placing: lines, pieces ===== -/
theorem ln_at {now told : Int32} {rf lf ff sf : Nat → Int32} (he : eqS now told rf lf ff sf) {j : Nat} (hj : j < 3) : g_X0_lengthNow lf (nI j) = lf j ∧ sf (6 + nI j).toNatClampNeg = lf j := by
  constructor
  · unfold g_X0_lengthNow
    rw [if_neg (below_iff.mpr (by rw [tI j (by omega), show (3 : Int32).toInt = 3 from rfl]; omega)), clmp_of (tI j (by omega))]
  · rw [show (6 : Int32) = nI 6 from rfl, nI_add, clmp_of (tI _ (by omega))]
    exact he.2.1 j hj
theorem lineEq {T : Nat} (hT : T ≤ 102400) {now : Int32} {z : Nat} (hz : z ≤ 48) {rf lf ff sf : Nat → Int32} (he : eqS now (nI z) rf lf ff sf) (hi : Inv T now (nI z) rf lf ff) {x f n : Int32} (hx : 0 ≤ x.toInt) (hf : 0 ≤ f.toInt ∧ f.toInt ≤ 200000) (hn : 1 ≤ n.toInt ∧ n.toInt ≤ 60) (bf gf ef : Nat → Int32) : (g_X1_isLineFree f n (nI z) ff bf gf ef x).1 = 0 ↔ g_X4_isLineClear sf x f n = 0 := by
  obtain ⟨m, B, G, E, e, hTr⟩ := showL hz ff bf gf ef x
  have hm : m ≤ 48 := by have := hTr.1; omega
  have hod := odL hT hz hi hx hTr
  have h1 := frC hm hod (f := f) (n := n) (iv := 1) (by omega) (by omega)
  have h2 := Iff.trans (isLineClear_b hT hz he hi hx (f := f) (n := n) (by omega) (by omega)) (tr_all hz hTr (fun g e => e.toInt ≤ f.toInt ∨ f.toInt + n.toInt ≤ g.toInt)).symm
  have h3 : frT m G E 1 f.toInt n.toInt ↔ ∀ k, k < m → (E k).toInt ≤ f.toInt ∨ f.toInt + n.toInt ≤ (G k).toInt := by
    unfold frT
    exact ⟨fun h k hk => (h k hk).elim Or.inl (fun a => Or.inr a.2), fun h k hk => (h k hk).elim Or.inl (fun a => Or.inr ⟨by decide, a⟩)⟩
  unfold g_X1_isLineFree
  rw [e]
  show g_X2_isFree (nI m) G E f (f + n) 1 = 0 ↔ _
  have h4 : ¬ g_X2_isFree (nI m) G E f (f + n) 1 = 0 ↔ ¬ g_X4_isLineClear sf x f n = 0 := by rw [h1, h3, h2]
  exact ⟨fun a => Decidable.byContradiction fun b => (h4.mpr b) a, fun a => Decidable.byContradiction fun b => (h4.mp b) a⟩
theorem delay_L {T : Nat} (hT : T ≤ 102400) {now : Int32} {z : Nat} (hz : z ≤ 48) {rf lf ff sf : Nat → Int32} (he : eqS now (nI z) rf lf ff sf) (hi : Inv T now (nI z) rf lf ff) {x1 own c n : Int32} (hown : 0 ≤ own.toInt ∧ own.toInt ≤ 5) (hc : 0 ≤ c.toInt ∧ c.toInt ≤ 150000) (hn : 1 ≤ n.toInt ∧ n.toInt ≤ 60) (q4 q5 q6 q7 q8 : Int32) : ∀ (r k q : Nat) (v1 v2 v3 v5 sz : Int32) (bf gf ef : Nat → Int32), k + r = 3 → r < q → ((v1 = -6 ∧ v5 = -6 ∧ v3 = 61) ∨ ∃ j, j < 3 ∧ v1 = nI j ∧ v5 = nI j ∧ v3 = lf j ∧ v2 = g_X4_colourFor sf x1 own (c + lf j) n ∧ ¬ g_X4_isLineClear sf (nI j) c n = 0 ∧ ¬ g_X4_colourFor sf x1 own (c + lf j) n < 0) → ∃ s1 s2 s3 s4, (g_X4_lineFor_L7 sf x1 own c n q v5 (nI k) = -6 ∧ g_X1_delay_L12 x1 own c n q4 q5 q6 q7 q8 now (nI z) rf lf ff q v1 v2 v3 (nI k) sz bf gf ef = (q4, q5, q6, q7, q8, s1, s2, s3, s4)) ∨ (∃ j, j < 3 ∧ g_X4_lineFor_L7 sf x1 own c n q v5 (nI k) = nI j ∧ g_X1_delay_L12 x1 own c n q4 q5 q6 q7 q8 now (nI z) rf lf ff q v1 v2 v3 (nI k) sz bf gf ef = (1, g_X4_colourFor sf x1 own (c + lf j) n, c + lf j, n, nI j, s1, s2, s3, s4) ∧ ¬ g_X4_isLineClear sf (nI j) c n = 0 ∧ ¬ g_X4_colourFor sf x1 own (c + lf j) n < 0) := by
  have e0 : (0 : Int32).toInt = 0 := rfl
  have hln := hi.2.2.2.1
  intro r
  induction r with
  | zero =>
    intro k q v1 v2 v3 v5 sz bf gf ef hk hq hv
    obtain ⟨q, rfl⟩ : ∃ j, q = j + 1 := ⟨q - 1, by omega⟩
    have cc : (3 : Int32) ≤ nI k := nI_le (a := 3) (by omega) (by omega)
    refine ⟨sz, bf, gf, ef, ?_⟩
    rw [g_X4_lineFor_L7, if_pos cc, g_X1_delay_L12, if_pos cc]
    rcases hv with ⟨a1, a2, a3⟩ | ⟨j, j1, j2, j3, j4, j5, j6, j7⟩
    · rw [if_pos a1]
      exact Or.inl ⟨a2, rfl⟩
    · have hne : ¬ v1 = -6 := fun hh => by
        have := congrArg Int32.toInt (j2.symm.trans hh)
        rw [tI j (by omega), show (-6 : Int32).toInt = -6 from rfl] at this
        omega
      rw [if_neg hne]
      refine Or.inr ⟨j, j1, j3, ?_, j6, j7⟩
      rw [j2, j4, j5]
      rfl
  | succ r ih =>
    intro k q v1 v2 v3 v5 sz bf gf ef hk hq hv
    obtain ⟨q, rfl⟩ : ∃ j, q = j + 1 := ⟨q - 1, by omega⟩
    have cc : ¬ (3 : Int32) ≤ nI k := nI_nle' (b := 3) (by omega) (by omega)
    obtain ⟨l1, l2⟩ := ln_at he (j := k) (by omega)
    have hlk := hln k (by omega)
    rw [g_X4_lineFor_L7, if_neg cc, g_X1_delay_L12, if_neg cc, l1, l2, nI_1]
    have keep := fun s1 s2 s3 s4 => ih (k + 1) q v1 v2 v3 v5 s1 s2 s3 s4 (by omega) (by omega) hv
    by_cases c1 : lf k ≤ 0
    · rw [if_pos c1, if_pos c1]; exact keep _ _ _ _
    · rw [if_neg c1, if_neg c1]
      have c1' : 0 < (lf k).toInt := by have := lt_of_nle c1; omega
      have es : (c + lf k).toInt = c.toInt + (lf k).toInt := i32_add (by omega) (by omega)
      have hbest := fun s1 s2 s3 s4 => best_at hT hz he hi (x1 := x1) (own := own) (f := c + lf k) (n := n) hown (by omega) (by omega) s1 s2 s3 s4
      have hle := lineEq hT hz he hi (x := nI k) (f := c) (n := n) (by rw [tI k (by omega)]; omega) (by omega) hn
      have hneg : g_X4_colourFor sf x1 own (c + lf k) n = -6 ↔ g_X4_colourFor sf x1 own (c + lf k) n < 0 := by
        constructor
        · intro hh; rw [hh]; decide
        · intro hh
          rcases colour_ok (sf := sf) (x1 := x1) (own := own) (f := c + lf k) (n := n) with h | h
          · exact h
          · rw [Int32.lt_iff_toInt_lt, e0] at hh; omega
      by_cases c2 : v3 ≤ lf k
      · rw [if_pos c2]
        -- the class skips; the reference keeps what it has
        have hsk : (if g_X4_isLineClear sf (nI k) c n = 0 then g_X4_lineFor_L7 sf x1 own c n q v5 (nI (k + 1)) else if g_X4_colourFor sf x1 own (c + lf k) n < 0 then g_X4_lineFor_L7 sf x1 own c n q v5 (nI (k + 1)) else if v5 < 0 then g_X4_lineFor_L7 sf x1 own c n q (nI k) (nI (k + 1)) else if sf (6 + v5).toNatClampNeg ≤ lf k then g_X4_lineFor_L7 sf x1 own c n q v5 (nI (k + 1)) else g_X4_lineFor_L7 sf x1 own c n q (nI k) (nI (k + 1))) = g_X4_lineFor_L7 sf x1 own c n q v5 (nI (k + 1)) := by
          rcases hv with ⟨a1, a2, a3⟩ | ⟨j, j1, j2, j3, j4, j5, j6, j7⟩
          · rw [a3, Int32.le_iff_toInt_le, show (61 : Int32).toInt = 61 from rfl] at c2
            omega
          · have hnn : ¬ v5 < 0 := by rw [j3, Int32.lt_iff_toInt_lt, tI j (by omega), e0]; omega
            have hle2 : sf (6 + v5).toNatClampNeg ≤ lf k := by rw [j3, (ln_at he j1).2, ← j4]; exact c2
            rw [if_neg hnn, if_pos hle2]
            repeat' split
            all_goals rfl
        rw [hsk]
        exact keep _ _ _ _
      · rw [if_neg c2]
        by_cases c3 : g_X4_isLineClear sf (nI k) c n = 0
        · rw [if_pos c3, if_pos ((hle bf gf ef).mpr c3)]
          exact keep _ _ _ _
        · rw [if_neg c3, if_neg (fun hh => c3 ((hle bf gf ef).mp hh)), hbest]
          by_cases c4 : g_X4_colourFor sf x1 own (c + lf k) n < 0
          · rw [if_pos c4, if_pos (hneg.mpr c4)]
            exact keep _ _ _ _
          · rw [if_neg c4, if_neg (fun hh => c4 (hneg.mp hh))]
            have take := fun s1 s2 s3 s4 => ih (k + 1) q (nI k) (g_X4_colourFor sf x1 own (c + lf k) n) (lf k) (nI k) s1 s2 s3 s4 (by omega) (by omega) (Or.inr ⟨k, by omega, rfl, rfl, rfl, rfl, c3, c4⟩)
            have htk : (if v5 < 0 then g_X4_lineFor_L7 sf x1 own c n q (nI k) (nI (k + 1)) else if sf (6 + v5).toNatClampNeg ≤ lf k then g_X4_lineFor_L7 sf x1 own c n q v5 (nI (k + 1)) else g_X4_lineFor_L7 sf x1 own c n q (nI k) (nI (k + 1))) = g_X4_lineFor_L7 sf x1 own c n q (nI k) (nI (k + 1)) := by
              rcases hv with ⟨a1, a2, a3⟩ | ⟨j, j1, j2, j3, j4, j5, j6, j7⟩
              · rw [if_pos (by rw [a2]; decide)]
              · have hnn : ¬ v5 < 0 := by rw [j3, Int32.lt_iff_toInt_lt, tI j (by omega), e0]; omega
                have hle2 : ¬ sf (6 + v5).toNatClampNeg ≤ lf k := by rw [j3, (ln_at he j1).2, ← j4]; exact c2
                rw [if_neg hnn, if_neg hle2]
            rw [htk]
            exact take _ _ _ _
theorem rm_le {m : Nat} (hm : m ≤ 48) {gf ef : Nat → Int32} (ho : OD m gf ef) {s e iv : Int32} (hs : 0 ≤ s.toInt ∧ s.toInt ≤ 200000) (he : 0 ≤ e.toInt ∧ e.toInt ≤ 200000) : 0 ≤ (g_X2_room (nI m) gf ef s e iv).toInt ∧ ∀ l : Int, 1 ≤ l → (l ≤ (g_X2_room (nI m) gf ef s e iv).toInt ↔ s.toInt + l ≤ e.toInt ∧ frT m gf ef iv s.toInt l) := by
  obtain ⟨U, ⟨r1, r2⟩, u1, u2, u3⟩ := room_I hm ho (x1 := s) (x2 := e) (x3 := iv) (by omega) (by omega)
  refine ⟨?_, fun l hl => ⟨fun h => ?_, fun h => ?_⟩⟩
  · by_cases hu : 0 < U - s.toInt
    · rw [r1 hu]; omega
    · rw [r2 hu]; omega
  · have hu : 0 < U - s.toInt := Classical.byContradiction fun hn => by rw [r2 hn] at h; omega
    rw [r1 hu] at h
    refine ⟨by omega, fun j hj => ?_⟩
    by_cases c : gI ef j ≤ s.toInt
    · exact Or.inl c
    · have := u2 j hj (by omega)
      unfold xX at this
      by_cases c2 : iv = 0
      · rw [if_pos c2] at this; omega
      · rw [if_neg c2] at this; exact Or.inr ⟨c2, by unfold gI; omega⟩
  · have hU : s.toInt + l ≤ U := by
      rcases u3 with u3 | ⟨j, j1, j2, j3⟩
      · omega
      · rcases h.2 j j1 with a | ⟨a1, a2⟩
        · omega
        · unfold xX at j3; rw [if_neg a1] at j3; unfold gI at a2; omega
    rw [r1 (by omega)]
    omega
/-- a start: the span's first tick, or an end within it -/
def cand (m : Nat) (ef : Nat → Int32) (c : Int32) (s : Int32) : Prop := s = c ∨ ∃ j, j < m ∧ c.toInt < gI ef j ∧ s = ef j
theorem cand_max (m : Nat) (ef : Nat → Int32) (c : Int32) {s : Int} (hs : c.toInt ≤ s) : ∀ k, k ≤ m → ∃ s', cand m ef c s' ∧ s'.toInt ≤ s ∧ c.toInt ≤ s'.toInt ∧ ∀ j, j < k → c.toInt < gI ef j → gI ef j ≤ s → gI ef j ≤ s'.toInt := by
  intro k
  induction k with
  | zero => intro _; exact ⟨c, Or.inl rfl, hs, Int.le_refl _, fun j hj => by omega⟩
  | succ k ih =>
    intro hk
    obtain ⟨s', a1, a2, a3, a4⟩ := ih (by omega)
    by_cases h : c.toInt < gI ef k ∧ gI ef k ≤ s ∧ s'.toInt < gI ef k
    · refine ⟨ef k, Or.inr ⟨k, by omega, h.1, rfl⟩, h.2.1, by have := h.1; unfold gI at this; omega, fun j hj h1 h2 => ?_⟩
      by_cases hjk : j = k
      · subst hjk; exact Int.le_refl _
      · have := a4 j (by omega) h1 h2
        have := h.2.2
        unfold gI at *
        omega
    · refine ⟨s', a1, a2, a3, fun j hj h1 h2 => ?_⟩
      by_cases hjk : j = k
      · subst hjk; omega
      · exact a4 j (by omega) h1 h2
theorem cand_bd {m : Nat} {gf ef : Nat → Int32} (ho : OD m gf ef) {c s : Int32} (hc : 0 ≤ c.toInt ∧ c.toInt ≤ 200000) (h : cand m ef c s) : 0 ≤ s.toInt ∧ s.toInt ≤ 200000 := by
  rcases h with h | ⟨j, j1, j2, j3⟩
  · rw [h]; exact hc
  · rw [j3]
    have := ho.2 j j1
    unfold gI at *
    omega
/-- from every start the room is no greater than from a start of those -/
theorem rm_proj {m : Nat} (hm : m ≤ 48) {gf ef : Nat → Int32} (ho : OD m gf ef) {c s e iv : Int32} (hc : 0 ≤ c.toInt ∧ c.toInt ≤ 200000) (he : 0 ≤ e.toInt ∧ e.toInt ≤ 200000) (hs : c.toInt ≤ s.toInt ∧ s.toInt ≤ 200000) (h1 : 1 ≤ (g_X2_room (nI m) gf ef s e iv).toInt) : ∃ s', cand m ef c s' ∧ s'.toInt ≤ s.toInt ∧ (g_X2_room (nI m) gf ef s e iv).toInt ≤ (g_X2_room (nI m) gf ef s' e iv).toInt := by
  obtain ⟨s', a1, a2, a3, a4⟩ := cand_max m ef c hs.1 m (Nat.le_refl _)
  have hb := cand_bd ho hc a1
  obtain ⟨-, r1⟩ := rm_le hm ho (s := s) (e := e) (iv := iv) (by omega) he
  obtain ⟨-, r2⟩ := rm_le hm ho (s := s') (e := e) (iv := iv) hb he
  generalize (g_X2_room (nI m) gf ef s e iv).toInt = l at *
  obtain ⟨b1, b2⟩ := (r1 l h1).mp (Int.le_refl _)
  refine ⟨s', a1, a2, ?_⟩
  have : l + (s.toInt - s'.toInt) ≤ (g_X2_room (nI m) gf ef s' e iv).toInt := by
    refine (r2 _ (by omega)).mpr ⟨by omega, fun j hj => ?_⟩
    by_cases d1 : gI ef j ≤ s'.toInt
    · exact Or.inl d1
    · by_cases d2 : gI ef j ≤ s.toInt
      · have := a4 j hj (by omega) d2
        omega
      · rcases b2 j hj with b | ⟨b3, b4⟩
        · omega
        · exact Or.inr ⟨b3, by omega⟩
  omega
/-- where the class lets the piece begin -/
theorem piece_L {m : Nat} (hm : m ≤ 48) {gf ef : Nat → Int32} (ho : OD m gf ef) {c e iv : Int32} (hc : 0 ≤ c.toInt ∧ c.toInt ≤ 200000) (he : 0 ≤ e.toInt ∧ e.toInt ≤ 200000) : ∀ (r k q : Nat) (v4 v5 : Int32), k + r = m → r < q → v5 = g_X2_room (nI m) gf ef v4 e iv → cand m ef c v4 → (∀ s, (s = c ∨ ∃ j, j < k ∧ c.toInt < gI ef j ∧ s = ef j) → (g_X2_room (nI m) gf ef s e iv).toInt ≤ v5.toInt ∧ (s.toInt < v4.toInt → (g_X2_room (nI m) gf ef s e iv).toInt < v5.toInt)) → (v4 = c ∨ ∃ j, j < k ∧ v4 = ef j) → ∃ b, g_X2_pieceBegin_L15 (nI m) gf ef c e iv q v4 v5 (nI k) = b ∧ cand m ef c b ∧ ∀ s, cand m ef c s → (g_X2_room (nI m) gf ef s e iv).toInt ≤ (g_X2_room (nI m) gf ef b e iv).toInt ∧ (s.toInt < b.toInt → (g_X2_room (nI m) gf ef s e iv).toInt < (g_X2_room (nI m) gf ef b e iv).toInt) := by
  have e0 : (0 : Int32).toInt = 0 := rfl
  intro r
  induction r with
  | zero =>
    intro k q v4 v5 hk hq h1 h2 h3 h4
    obtain ⟨q, rfl⟩ : ∃ j, q = j + 1 := ⟨q - 1, by omega⟩
    refine ⟨v4, by rw [g_X2_pieceBegin_L15, if_pos (nI_le (by omega) (by omega))], h2, fun s hs => ?_⟩
    rw [← h1]
    refine h3 s ?_
    rcases hs with hs | ⟨j, j1, j2, j3⟩
    · exact Or.inl hs
    · exact Or.inr ⟨j, by omega, j2, j3⟩
  | succ r ih =>
    intro k q v4 v5 hk hq h1 h2 h3 h4
    obtain ⟨q, rfl⟩ : ∃ j, q = j + 1 := ⟨q - 1, by omega⟩
    have hb := cand_bd ho hc h2
    have hpos := (rm_le hm ho (s := v4) (e := e) (iv := iv) hb he).1
    have hlt : ∀ j, j < k → gI ef j < gI ef k := fun j hj => by
      have a := ho.1 j k hj (by omega)
      have b := (ho.2 k (by omega)).2.1
      omega
    rw [g_X2_pieceBegin_L15, if_neg (nI_nle' (by omega) (by omega)), kcl (by omega), nI_1]
    by_cases c1 : ef k ≤ c
    · rw [if_pos c1, if_pos (by rw [Int32.le_iff_toInt_le, h1, e0]; exact hpos)]
      rw [Int32.le_iff_toInt_le] at c1
      refine ih (k + 1) q v4 v5 (by omega) (by omega) h1 h2 (fun s hs => h3 s ?_) (h4.elim Or.inl (fun ⟨j, a, b⟩ => Or.inr ⟨j, by omega, b⟩))
      rcases hs with hs | ⟨j, j1, j2, j3⟩
      · exact Or.inl hs
      · by_cases hjk : j = k
        · subst hjk; unfold gI at j2; omega
        · exact Or.inr ⟨j, by omega, j2, j3⟩
    · rw [if_neg c1]
      have c1' := lt_of_nle c1
      have hv4k : v4.toInt < (ef k).toInt := by
        rcases h4 with h4 | ⟨j, j1, j2⟩
        · rw [h4]; exact c1'
        · rw [j2]; exact hlt j j1
      by_cases c2 : g_X2_room (nI m) gf ef (ef k) e iv ≤ v5
      · rw [if_pos c2]
        rw [Int32.le_iff_toInt_le] at c2
        refine ih (k + 1) q v4 v5 (by omega) (by omega) h1 h2 (fun s hs => ?_) (h4.elim Or.inl (fun ⟨j, a, b⟩ => Or.inr ⟨j, by omega, b⟩))
        rcases hs with hs | ⟨j, j1, j2, j3⟩
        · exact h3 s (Or.inl hs)
        · by_cases hjk : j = k
          · subst hjk; rw [j3]; exact ⟨c2, fun hh => by omega⟩
          · exact h3 s (Or.inr ⟨j, by omega, j2, j3⟩)
      · rw [if_neg c2]
        have c2' := lt_of_nle c2
        refine ih (k + 1) q (ef k) _ (by omega) (by omega) rfl (Or.inr ⟨k, by omega, c1', rfl⟩) (fun s hs => ?_) (Or.inr ⟨k, by omega, rfl⟩)
        rcases hs with hs | ⟨j, j1, j2, j3⟩
        · have := (h3 s (Or.inl hs)).1
          exact ⟨by omega, fun _ => by omega⟩
        · by_cases hjk : j = k
          · subst hjk; rw [j3]; exact ⟨Int.le_refl _, fun hh => by omega⟩
          · have := (h3 s (Or.inr ⟨j, by omega, j2, j3⟩)).1
            exact ⟨by omega, fun _ => by omega⟩
theorem piece_at {m : Nat} (hm : m ≤ 48) {gf ef : Nat → Int32} (ho : OD m gf ef) {c e iv : Int32} (hc : 0 ≤ c.toInt ∧ c.toInt ≤ 200000) (he : 0 ≤ e.toInt ∧ e.toInt ≤ 200000) : ∃ b, g_X2_pieceBegin (nI m) gf ef c e iv = b ∧ c.toInt ≤ b.toInt ∧ b.toInt ≤ 200000 ∧ ∀ s : Int32, c.toInt ≤ s.toInt → s.toInt ≤ 200000 → (g_X2_room (nI m) gf ef s e iv).toInt ≤ (g_X2_room (nI m) gf ef b e iv).toInt ∧ (s.toInt < b.toInt → 1 ≤ (g_X2_room (nI m) gf ef b e iv).toInt → (g_X2_room (nI m) gf ef s e iv).toInt < (g_X2_room (nI m) gf ef b e iv).toInt) := by
  obtain ⟨b, b1, b2, b3⟩ := piece_L hm ho (iv := iv) hc he m 0 (((nI m).toInt - ((0 : Int32)).toInt).toNat + 1) c (g_X2_room (nI m) gf ef c e iv) (by omega) (by rw [tI m (by omega), show (0 : Int32).toInt = 0 from rfl]; omega) rfl (Or.inl rfl) (fun s hs => by
    rcases hs with hs | ⟨j, j1, -⟩
    · subst hs; exact ⟨Int.le_refl _, fun hh => by omega⟩
    · omega) (Or.inl rfl)
  have hbb := cand_bd ho hc b2
  have hcb : c.toInt ≤ b.toInt := by
    rcases b2 with h | ⟨j, j1, j2, j3⟩
    · rw [h]; exact Int.le_refl _
    · rw [j3]; unfold gI at j2; omega
  refine ⟨b, b1, hcb, hbb.2, fun s h1 h2 => ?_⟩
  have hp := (rm_le hm ho (s := b) (e := e) (iv := iv) hbb he).1
  have hps := (rm_le hm ho (s := s) (e := e) (iv := iv) (by omega) he).1
  by_cases hz : 1 ≤ (g_X2_room (nI m) gf ef s e iv).toInt
  · obtain ⟨s', a1, a2, a3⟩ := rm_proj hm ho (iv := iv) hc he ⟨h1, h2⟩ hz
    obtain ⟨d1, d2⟩ := b3 s' a1
    exact ⟨by omega, fun hh _ => by have := d2 (by omega); omega⟩
  · exact ⟨by omega, fun _ hh => by omega⟩
