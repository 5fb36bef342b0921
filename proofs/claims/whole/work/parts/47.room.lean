/-! ===== the class's looks at a track ===== -/
theorem kcl {k : Nat} (h : k < 48) : (nI k).toNatClampNeg = k := clmp_of (tI k (by omega))
abbrev xX (x1 x3 : Int32) (gf : Nat → Int32) (j : Nat) : Int32 := if x3 = 0 then x1 else gf j
theorem room_L {m : Nat} (hm : m ≤ 48) (gf ef : Nat → Int32) (x1 x3 : Int32) : ∀ (r k n : Nat) (v : Int32), k + r = m → r < n → ∃ U : Int32, g_X2_room_L6 (nI m) gf ef x1 x3 n v (nI k) = (if 0 < (U - x1) then (U - x1) else 0) ∧ U.toInt ≤ v.toInt ∧ (∀ j, k ≤ j → j < m → x1.toInt < gI ef j → U.toInt ≤ (xX x1 x3 gf j).toInt) ∧ (U = v ∨ ∃ j, k ≤ j ∧ j < m ∧ x1.toInt < gI ef j ∧ U = xX x1 x3 gf j) := by
  intro r
  induction r with
  | zero =>
    intro k n v hk hn
    obtain ⟨n, rfl⟩ : ∃ j, n = j + 1 := ⟨n - 1, by omega⟩
    exact ⟨v, by rw [g_X2_room_L6, if_pos (nI_le (by omega) (by omega))], Int.le_refl _, fun j h1 h2 => by omega, Or.inl rfl⟩
  | succ r ih =>
    intro k n v hk hn
    obtain ⟨n, rfl⟩ : ∃ j, n = j + 1 := ⟨n - 1, by omega⟩
    rw [g_X2_room_L6, if_neg (nI_nle' (by omega) (by omega)), kcl (by omega), nI_1]
    by_cases c1 : ef k ≤ x1
    · rw [if_pos c1]
      rw [Int32.le_iff_toInt_le] at c1
      obtain ⟨U, e, u1, u2, u3⟩ := ih (k + 1) n v (by omega) (by omega)
      refine ⟨U, e, u1, fun j h1 h2 h3 => ?_, ?_⟩
      · by_cases hj : j = k
        · subst hj; unfold gI at h3; omega
        · exact u2 j (by omega) h2 h3
      · rcases u3 with u3 | ⟨j, j1, j2, j3, j4⟩
        · exact Or.inl u3
        · exact Or.inr ⟨j, by omega, j2, j3, j4⟩
    · rw [if_neg c1]
      have c1' := lt_of_nle c1
      have key : (if x3 = 0 then g_X2_room_L6 (nI m) gf ef x1 x3 n (if x1 < v then x1 else v) (nI (k + 1)) else g_X2_room_L6 (nI m) gf ef x1 x3 n (if gf k < v then gf k else v) (nI (k + 1))) = g_X2_room_L6 (nI m) gf ef x1 x3 n (if xX x1 x3 gf k < v then xX x1 x3 gf k else v) (nI (k + 1)) := by
        unfold xX
        by_cases h : x3 = 0
        · rw [if_pos h, if_pos h]
        · rw [if_neg h, if_neg h]
      rw [key]
      generalize hX : xX x1 x3 gf k = X
      obtain ⟨U, e, u1, u2, u3⟩ := ih (k + 1) n (if X < v then X else v) (by omega) (by omega)
      refine ⟨U, e, ?_, fun j h1 h2 h3 => ?_, ?_⟩
      · by_cases c2 : X < v
        · rw [if_pos c2] at u1; rw [Int32.lt_iff_toInt_lt] at c2; omega
        · rw [if_neg c2] at u1; exact u1
      · by_cases hj : j = k
        · subst hj
          rw [hX]
          by_cases c2 : X < v
          · rw [if_pos c2] at u1; exact u1
          · rw [if_neg c2] at u1; rw [Int32.lt_iff_toInt_lt] at c2; omega
        · exact u2 j (by omega) h2 h3
      · rcases u3 with u3 | ⟨j, j1, j2, j3, j4⟩
        · by_cases c2 : X < v
          · rw [if_pos c2] at u3; exact Or.inr ⟨k, by omega, by omega, c1', by rw [hX]; exact u3⟩
          · rw [if_neg c2] at u3; exact Or.inl u3
        · exact Or.inr ⟨j, by omega, j2, j3, j4⟩
/-- room: from x1 on up to the least of x2 and what lies ahead -/
theorem room_at {m : Nat} (hm : m ≤ 48) (gf ef : Nat → Int32) (x1 x2 x3 : Int32) : ∃ U : Int32, g_X2_room (nI m) gf ef x1 x2 x3 = (if 0 < (U - x1) then (U - x1) else 0) ∧ U.toInt ≤ x2.toInt ∧ (∀ j, j < m → x1.toInt < gI ef j → U.toInt ≤ (xX x1 x3 gf j).toInt) ∧ (U = x2 ∨ ∃ j, j < m ∧ x1.toInt < gI ef j ∧ U = xX x1 x3 gf j) := by
  unfold g_X2_room
  obtain ⟨U, e, u1, u2, u3⟩ := room_L hm gf ef x1 x3 m 0 (((nI m).toInt - ((0 : Int32)).toInt).toNat + 1) x2 (by omega) (by rw [tI m (by omega), show (0 : Int32).toInt = 0 from rfl]; omega)
  refine ⟨U, e, u1, fun j h1 h2 => u2 j (by omega) h1 h2, ?_⟩
  rcases u3 with u3 | ⟨j, j1, j2, j3, j4⟩
  · exact Or.inl u3
  · exact Or.inr ⟨j, j2, j3, j4⟩
theorem room_I {m : Nat} (hm : m ≤ 48) {gf ef : Nat → Int32} (ho : OD m gf ef) {x1 x2 x3 : Int32} (h1 : 0 ≤ x1.toInt ∧ x1.toInt ≤ 300000) (h2 : 0 ≤ x2.toInt ∧ x2.toInt ≤ 300000) : ∃ U : Int, ((0 < U - x1.toInt → (g_X2_room (nI m) gf ef x1 x2 x3).toInt = U - x1.toInt) ∧ (¬ 0 < U - x1.toInt → (g_X2_room (nI m) gf ef x1 x2 x3).toInt = 0)) ∧ U ≤ x2.toInt ∧ (∀ j, j < m → x1.toInt < gI ef j → U ≤ (xX x1 x3 gf j).toInt) ∧ (U = x2.toInt ∨ ∃ j, j < m ∧ x1.toInt < gI ef j ∧ U = (xX x1 x3 gf j).toInt) := by
  obtain ⟨U, e, u1, u2, u3⟩ := room_at hm gf ef x1 x2 x3
  have hU : 0 ≤ U.toInt := by
    rcases u3 with u3 | ⟨j, j1, j2, j3⟩
    · rw [u3]; omega
    · rw [j3]; unfold xX
      split
      · omega
      · exact (ho.2 j j1).1
  have es : (U - x1).toInt = U.toInt - x1.toInt := i32_sub (by omega) (by omega)
  have e0 : (0 : Int32).toInt = 0 := rfl
  refine ⟨U.toInt, ⟨fun h => ?_, fun h => ?_⟩, u1, u2, ?_⟩
  · rw [e, if_pos (by rw [Int32.lt_iff_toInt_lt, es]; omega), es]
  · rw [e, if_neg (by rw [Int32.lt_iff_toInt_lt, es]; omega), e0]
  · rcases u3 with u3 | ⟨j, j1, j2, j3⟩
    · exact Or.inl (by rw [u3])
    · exact Or.inr ⟨j, j1, j2, by rw [j3]⟩
theorem isFree_iff {m : Nat} (hm : m ≤ 48) {gf ef : Nat → Int32} (ho : OD m gf ef) {x1 x2 x3 : Int32} (h1 : 0 ≤ x1.toInt ∧ x1.toInt ≤ 300000) (h2 : 0 ≤ x2.toInt ∧ x2.toInt ≤ 300000) (h12 : x1.toInt < x2.toInt) : ¬ g_X2_isFree (nI m) gf ef x1 x2 x3 = 0 ↔ ∀ j, j < m → x1.toInt < gI ef j → x2.toInt ≤ (xX x1 x3 gf j).toInt := by
  obtain ⟨U, ⟨r1, r2⟩, u1, u2, u3⟩ := room_I hm ho (x1 := x1) (x2 := x2) (x3 := x3) h1 h2
  have es : (x2 - x1).toInt = x2.toInt - x1.toInt := i32_sub (by omega) (by omega)
  have hiff : ¬ g_X2_isFree (nI m) gf ef x1 x2 x3 = 0 ↔ U = x2.toInt := by
    unfold g_X2_isFree
    by_cases c : g_X2_room (nI m) gf ef x1 x2 x3 = x2 - x1
    · rw [if_pos c]
      refine ⟨fun _ => ?_, fun _ => by decide⟩
      rw [← Int32.toInt_inj, es] at c
      by_cases hu : 0 < U - x1.toInt
      · rw [r1 hu] at c; omega
      · rw [r2 hu] at c; omega
    · rw [if_neg c]
      refine ⟨fun h => absurd rfl h, fun h => ?_⟩
      exfalso
      apply c
      rw [← Int32.toInt_inj, es, r1 (by omega)]
      omega
  rw [hiff]
  refine ⟨fun h j j1 j2 => by rw [← h]; exact u2 j j1 j2, fun h => ?_⟩
  rcases u3 with u3 | ⟨j, j1, j2, j3⟩
  · exact u3
  · have := h j j1 j2
    omega
theorem last_L {m : Nat} (hm : m ≤ 48) (ef : Nat → Int32) (x1 : Int32) : ∀ (r k n : Nat) (v : Int32), k + r = m → r < n → v.toInt ≤ (g_X2_lastEndUpTo_L5 (nI m) ef x1 n v (nI k)).toInt ∧ (∀ j, k ≤ j → j < m → gI ef j ≤ x1.toInt → gI ef j ≤ (g_X2_lastEndUpTo_L5 (nI m) ef x1 n v (nI k)).toInt) ∧ (g_X2_lastEndUpTo_L5 (nI m) ef x1 n v (nI k) = v ∨ ∃ j, j < m ∧ gI ef j ≤ x1.toInt ∧ g_X2_lastEndUpTo_L5 (nI m) ef x1 n v (nI k) = ef j) := by
  intro r
  induction r with
  | zero =>
    intro k n v hk hn
    obtain ⟨n, rfl⟩ : ∃ j, n = j + 1 := ⟨n - 1, by omega⟩
    rw [g_X2_lastEndUpTo_L5, if_pos (nI_le (by omega) (by omega))]
    exact ⟨Int.le_refl _, fun j h1 h2 => by omega, Or.inl rfl⟩
  | succ r ih =>
    intro k n v hk hn
    obtain ⟨n, rfl⟩ : ∃ j, n = j + 1 := ⟨n - 1, by omega⟩
    rw [g_X2_lastEndUpTo_L5, if_neg (nI_nle' (by omega) (by omega)), kcl (by omega), nI_1]
    by_cases c1 : x1 < ef k
    · rw [if_pos c1]
      rw [Int32.lt_iff_toInt_lt] at c1
      obtain ⟨u1, u2, u3⟩ := ih (k + 1) n v (by omega) (by omega)
      refine ⟨u1, fun j h1 h2 h3 => ?_, u3⟩
      by_cases hj : j = k
      · subst hj; unfold gI at h3; omega
      · exact u2 j (by omega) h2 h3
    · rw [if_neg c1]
      rw [Int32.lt_iff_toInt_lt] at c1
      obtain ⟨u1, u2, u3⟩ := ih (k + 1) n (if v < ef k then ef k else v) (by omega) (by omega)
      by_cases c2 : v < ef k
      · rw [if_pos c2] at u1 u2 u3 ⊢
        rw [Int32.lt_iff_toInt_lt] at c2
        refine ⟨by omega, fun j h1 h2 h3 => ?_, ?_⟩
        · by_cases hj : j = k
          · subst hj; exact u1
          · exact u2 j (by omega) h2 h3
        · rcases u3 with u3 | u3
          · exact Or.inr ⟨k, by omega, by unfold gI; omega, u3⟩
          · exact Or.inr u3
      · rw [if_neg c2] at u1 u2 u3 ⊢
        rw [Int32.lt_iff_toInt_lt] at c2
        refine ⟨u1, fun j h1 h2 h3 => ?_, u3⟩
        by_cases hj : j = k
        · subst hj; unfold gI; omega
        · exact u2 j (by omega) h2 h3
/-- the greatest of x2 and of all ends up to x1 -/
theorem last_at {m : Nat} (hm : m ≤ 48) (ef : Nat → Int32) (x1 x2 : Int32) : x2.toInt ≤ (g_X2_lastEndUpTo (nI m) ef x1 x2).toInt ∧ (∀ j, j < m → gI ef j ≤ x1.toInt → gI ef j ≤ (g_X2_lastEndUpTo (nI m) ef x1 x2).toInt) ∧ (g_X2_lastEndUpTo (nI m) ef x1 x2 = x2 ∨ ∃ j, j < m ∧ gI ef j ≤ x1.toInt ∧ g_X2_lastEndUpTo (nI m) ef x1 x2 = ef j) := by
  unfold g_X2_lastEndUpTo
  obtain ⟨u1, u2, u3⟩ := last_L hm ef x1 m 0 (((nI m).toInt - ((0 : Int32)).toInt).toNat + 1) x2 (by omega) (by rw [tI m (by omega), show (0 : Int32).toInt = 0 from rfl]; omega)
  exact ⟨u1, fun j h1 h2 => u2 j (by omega) h1 h2, u3⟩
/-- the reference's gap: the same greatest end -/
theorem gap_L {T : Nat} {now : Int32} {z : Nat} (hz : z ≤ 48) {rf lf ff sf : Nat → Int32} (he : eqS now (nI z) rf lf ff sf) (hi : Inv T now (nI z) rf lf ff) {x1 x2 x3 : Int32} (hx : 0 ≤ x2.toInt) : ∀ (r k n : Nat) (v : Int32), k + r = z → r < n → ∃ E : Int32, g_X4_gap_L12 sf x1 x2 x3 n v (nI k) = x3 - E ∧ v.toInt ≤ E.toInt ∧ (∀ b, k ≤ b → b < z → onC ff x1 x2 b → (ff (11 * b + 8) + ff (11 * b + 9)).toInt ≤ x3.toInt → (ff (11 * b + 8) + ff (11 * b + 9)).toInt ≤ E.toInt) ∧ (E = v ∨ ∃ b, b < z ∧ onC ff x1 x2 b ∧ (ff (11 * b + 8) + ff (11 * b + 9)).toInt ≤ x3.toInt ∧ E = ff (11 * b + 8) + ff (11 * b + 9)) := by
  have h10 : sf 10 = nI z := he.2.2.2.1
  intro r
  induction r with
  | zero =>
    intro k n v hk hn
    obtain ⟨n, rfl⟩ : ∃ j, n = j + 1 := ⟨n - 1, by omega⟩
    exact ⟨v, by rw [g_X4_gap_L12, h10, if_pos (nI_le (by omega) (by omega))], Int.le_refl _, fun b h1 h2 => by omega, Or.inl rfl⟩
  | succ r ih =>
    intro k n v hk hn
    obtain ⟨n, rfl⟩ : ∃ j, n = j + 1 := ⟨n - 1, by omega⟩
    have o8 : g_X4_of sf (nI k) 8 = ff (11 * k + 8) := of_at (w := 8) he (by omega) (by omega)
    have o9 : g_X4_of sf (nI k) 9 = ff (11 * k + 9) := of_at (w := 9) he (by omega) (by omega)
    have ho := isOn_iff hz he hi (x1 := x1) hx (b := k) (by omega)
    rw [g_X4_gap_L12, h10, if_neg (nI_nle' (by omega) (by omega)), o8, o9, nI_1]
    have skip : ∀ v' : Int32, v.toInt ≤ v'.toInt → (onC ff x1 x2 k → (ff (11 * k + 8) + ff (11 * k + 9)).toInt ≤ x3.toInt → (ff (11 * k + 8) + ff (11 * k + 9)).toInt ≤ v'.toInt) → (v' = v ∨ (onC ff x1 x2 k ∧ (ff (11 * k + 8) + ff (11 * k + 9)).toInt ≤ x3.toInt ∧ v' = ff (11 * k + 8) + ff (11 * k + 9))) → ∃ E : Int32, g_X4_gap_L12 sf x1 x2 x3 n v' (nI (k + 1)) = x3 - E ∧ v.toInt ≤ E.toInt ∧ (∀ b, k ≤ b → b < z → onC ff x1 x2 b → (ff (11 * b + 8) + ff (11 * b + 9)).toInt ≤ x3.toInt → (ff (11 * b + 8) + ff (11 * b + 9)).toInt ≤ E.toInt) ∧ (E = v ∨ ∃ b, b < z ∧ onC ff x1 x2 b ∧ (ff (11 * b + 8) + ff (11 * b + 9)).toInt ≤ x3.toInt ∧ E = ff (11 * b + 8) + ff (11 * b + 9)) := by
      intro v' hv hk2 hv2
      obtain ⟨E, e, u1, u2, u3⟩ := ih (k + 1) n v' (by omega) (by omega)
      refine ⟨E, e, by omega, fun b h1 h2 h3 h4 => ?_, ?_⟩
      · by_cases hb : b = k
        · subst hb; have := hk2 h3 h4; omega
        · exact u2 b (by omega) h2 h3 h4
      · rcases u3 with u3 | u3
        · rcases hv2 with hv2 | ⟨a1, a2, a3⟩
          · exact Or.inl (u3.trans hv2)
          · exact Or.inr ⟨k, by omega, a1, a2, u3.trans a3⟩
        · exact Or.inr u3
    by_cases c1 : onC ff x1 x2 k
    · rw [if_neg (ho.mpr c1)]
      by_cases c2 : x3 < ff (11 * k + 8) + ff (11 * k + 9)
      · rw [if_pos c2]; rw [Int32.lt_iff_toInt_lt] at c2
        exact skip v (Int.le_refl _) (fun _ h => by omega) (Or.inl rfl)
      · rw [if_neg c2]; rw [Int32.lt_iff_toInt_lt] at c2
        by_cases c3 : ff (11 * k + 8) + ff (11 * k + 9) ≤ v
        · rw [if_pos c3]; rw [Int32.le_iff_toInt_le] at c3
          exact skip v (Int.le_refl _) (fun _ _ => c3) (Or.inl rfl)
        · rw [if_neg c3]
          have c3' := lt_of_nle c3
          exact skip _ (by omega) (fun _ _ => Int.le_refl _) (Or.inr ⟨c1, by omega, rfl⟩)
    · rw [if_pos (Decidable.byContradiction fun hh => c1 (ho.mp hh))]
      exact skip v (Int.le_refl _) (fun h => absurd h c1) (Or.inl rfl)
theorem gap_eq {T : Nat} {now : Int32} {z : Nat} (hz : z ≤ 48) {rf lf ff sf : Nat → Int32} (he : eqS now (nI z) rf lf ff sf) (hi : Inv T now (nI z) rf lf ff) {x1 x2 x3 : Int32} (hx : 0 ≤ x2.toInt) {m : Nat} {bf gf ef : Nat → Int32} (h : TrS z (onC ff x1 x2) ff 8 9 m bf gf ef) : g_X4_gap sf x1 x2 x3 = x3 - g_X2_lastEndUpTo (nI m) ef x3 now := by
  have hm : m ≤ 48 := by have := h.1; omega
  have h10 : sf 10 = nI z := he.2.2.2.1
  have h9 : sf 9 = now := he.2.2.1
  unfold g_X4_gap
  obtain ⟨E, e, u1, u2, u3⟩ := gap_L hz he hi (x1 := x1) (x3 := x3) hx z 0 (((sf 10).toInt - ((0 : Int32)).toInt).toNat + 1) (sf 9) (by omega) (by rw [h10, tI z (by omega), show (0 : Int32).toInt = 0 from rfl]; omega)
  obtain ⟨w1, w2, w3⟩ := last_at hm ef x3 now
  have e' : g_X4_gap_L12 sf x1 x2 x3 (((sf 10).toInt - ((0 : Int32)).toInt).toNat + 1) (sf 9) 0 = x3 - E := e
  rw [e']
  congr 1
  rw [← Int32.toInt_inj]
  rw [h9] at u1 u3
  have ha := tr_all hz h (fun _ b => b.toInt ≤ x3.toInt → b.toInt ≤ E.toInt)
  have hb := tr_ex hz h (fun _ b => b.toInt ≤ x3.toInt ∧ b = E)
  have q1 := ha.mpr (fun b hb ho => u2 b (by omega) hb ho)
  apply Int.le_antisymm
  · rcases u3 with u3 | u3
    · rw [u3]; exact w1
    · obtain ⟨b, b1, b2, b3, b4⟩ := u3
      obtain ⟨k, k1, k2, k3⟩ := hb.mpr ⟨b, b1, b2, b3, b4.symm⟩
      have := w2 k k1 k2
      unfold gI at this
      rw [k3] at this
      exact this
  · rcases w3 with w3 | ⟨j, j1, j2, j3⟩
    · rw [w3]; exact u1
    · rw [j3]; exact q1 j j1 j2
