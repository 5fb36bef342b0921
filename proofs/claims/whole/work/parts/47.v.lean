/-! ===== hole ===== -/
def hend (now : Int32) (ef : Nat → Int32) (k : Nat) : Int32 := if k = 0 then now else ef (k - 1)
theorem void_at {m : Nat} (hm : m ≤ 48) (ef : Nat → Int32) (now : Int32) {k : Nat} (hk : k < m) : g_X2_voidBefore (nI m) ef (nI k) now = if hend now ef k ≤ now then now else hend now ef k := by
  unfold g_X2_voidBefore g_X2_has hend
  by_cases h0 : k = 0
  · subst h0
    rw [if_pos (below_no (by rw [show (nI 0 - 1).toInt = -1 from rfl]; omega)), if_pos rfl]
    split <;> rfl
  · obtain ⟨p, rfl⟩ : ∃ p, k = p + 1 := ⟨k - 1, by omega⟩
    rw [nI_pred, if_neg (below_iff.mpr (by rw [tI p (by omega), tI m (by omega)]; omega)), kcl (by omega), if_neg (show ¬ p + 1 = 0 by omega), Nat.add_sub_cancel]
    by_cases c : now < ef p
    · rw [if_pos c, if_neg (by rw [Int32.le_iff_toInt_le]; rw [Int32.lt_iff_toInt_lt] at c; omega)]
    · rw [if_neg c, if_pos (by rw [Int32.le_iff_toInt_le]; rw [Int32.lt_iff_toInt_lt] at c; omega)]
def hres (m : Nat) (gf ef : Nat → Int32) (now x4 c : Int32) : Int32 := if c = (-6) then (-6) else (if x4 = 0 then (g_X2_voidBefore (nI m) ef c now) else ((g_X2_begin (nI m) gf c) - (g_X2_voidBefore (nI m) ef c now)))
theorem hole_L {T : Nat} (hT : T ≤ 102400) {now : Int32} {z : Nat} (hz : z ≤ 48) {rf lf ff sf : Nat → Int32} (he : eqS now (nI z) rf lf ff sf) (hi : Inv T now (nI z) rf lf ff) {x1 x2 x3 x4 : Int32} (h1 : 0 ≤ x1.toInt) (hx : 0 ≤ x2.toInt) {m : Nat} {bf gf ef : Nat → Int32} (h : TrS z (onC ff x1 x2) ff 8 9 m bf gf ef) : ∀ (r k n n' : Nat) (v : Int32), k + r = m → r < n → z - k < n' → g_X4_hole_L44 sf x1 x2 x3 x4 n' v (hend now ef k) (nI k) = hres m gf ef now x4 (g_X2_closingOfVoid_L5 (nI m) gf ef x3 now n v (nI k)) := by
  have hmz := h.1
  have hm : m ≤ 48 := by omega
  have h10 : sf 10 = nI z := he.2.2.2.1
  have h9 : sf 9 = now := he.2.2.1
  have hod := odC hT hz hi hx h
  have C := ctxC hz he hi h1 hx
  intro r
  induction r with
  | zero =>
    intro k n n' v hk hn hn'
    obtain ⟨n, rfl⟩ : ∃ j, n = j + 1 := ⟨n - 1, by omega⟩
    obtain ⟨n', rfl⟩ : ∃ j, n' = j + 1 := ⟨n' - 1, by omega⟩
    have hb := (bookingAt_at hz C h hod (nI k)).2 (below_no (by rw [tI k (by omega), tI m (by omega)]; omega))
    rw [g_X2_closingOfVoid_L5, if_pos (nI_le (by omega) (by omega)), g_X4_hole_L44, hb]
    unfold hres
    rw [if_pos rfl, if_neg (show ¬ (0 : Int32) ≤ -6 by decide)]
    split <;> rfl
  | succ r ih =>
    intro k n n' v hk hn hn'
    obtain ⟨n, rfl⟩ : ∃ j, n = j + 1 := ⟨n - 1, by omega⟩
    obtain ⟨n', rfl⟩ : ∃ j, n' = j + 1 := ⟨n' - 1, by omega⟩
    have hb := (bookingAt_at hz C h hod (nI k)).1 (below_iff.mpr (by rw [tI k (by omega), tI m (by omega)]; omega))
    rw [kcl (by omega)] at hb
    obtain ⟨b, hbz, -, eb, eg, ee⟩ := tr_entry h (k := k) (by omega)
    have o8 : g_X4_of sf (nI b) 8 = gf k := by rw [eg]; exact of_at (w := 8) he (by omega) (by omega)
    have o9 : g_X4_of sf (nI b) 9 = ff (11 * b + 9) := of_at (w := 9) he (by omega) (by omega)
    have es : gf k + ff (11 * b + 9) = ef k := by rw [ee, eg]
    have hne : ¬ nI k = -6 := fun hh => by
      have := congrArg Int32.toInt hh
      rw [tI k (by omega), show (-6 : Int32).toInt = -6 from rfl] at this
      omega
    have hbeg : g_X2_begin (nI m) gf (nI k) = gf k := by
      unfold g_X2_begin g_X2_has
      rw [if_neg (below_iff.mpr (by rw [tI k (by omega), tI m (by omega)]; omega)), kcl (by omega)]
    have hV := void_at hm ef now (k := k) (by omega)
    have hE : ef k = hend now ef (k + 1) := by unfold hend; rw [if_neg (by omega)]; congr 1
    rw [g_X4_hole_L44, h10, h9, if_neg (nI_nle' (by omega) (by omega)), hb, eb, if_pos (show (0 : Int32) ≤ nI b from nI_pos' (by omega)), o8, o9, es, nI_1, hE]
    rw [g_X2_closingOfVoid_L5, if_neg (nI_nle' (by omega) (by omega)), kcl (by omega), nI_1, hV]
    have fin : ∀ V : Int32, g_X2_voidBefore (nI m) ef (nI k) now = V → hres m gf ef now x4 (nI k) = if x4 = 0 then V else gf k - V := fun V hV => by
      unfold hres
      rw [if_neg hne, hV, hbeg]
    have r0 := ih (k + 1) n n' v (by omega) (by omega) (by omega)
    have r1 := ih (k + 1) n n' (v + 1) (by omega) (by omega) (by omega)
    by_cases c1 : hend now ef k ≤ now
    · rw [if_pos c1] at hV ⊢
      rw [if_pos c1]
      by_cases c2 : gf k ≤ now
      · rw [if_pos c2, if_pos c2]; exact r0
      · rw [if_neg c2, if_neg c2]
        by_cases c3 : v = x3
        · rw [if_pos c3, if_pos c3, fin _ hV]
        · rw [if_neg c3, if_neg c3]; exact r1
    · rw [if_neg c1] at hV ⊢
      rw [if_neg c1]
      by_cases c2 : gf k ≤ now
      · have c2' : gf k ≤ hend now ef k := by
          rw [Int32.le_iff_toInt_le] at c1 c2 ⊢; omega
        rw [if_pos c2, if_pos c2']; exact r0
      · rw [if_neg c2]
        by_cases c4 : gf k ≤ hend now ef k
        · rw [if_pos c4, if_pos c4]; exact r0
        · rw [if_neg c4, if_neg c4]
          by_cases c3 : v = x3
          · rw [if_pos c3, if_pos c3, fin _ hV]
          · rw [if_neg c3, if_neg c3]; exact r1
theorem core_hole {T : Nat} (hT : T ≤ 102400) {now told : Int32} {rf lf ff sf : Nat → Int32} (he : eqS now told rf lf ff sf) (hi : Inv T now told rf lf ff) (sz : Int32) (bf gf ef : Nat → Int32) (x1 x2 x3 x4 : Int32) : (g_X3_hole now told ff sz bf gf ef x1 x2 x3 x4).1 = g_X4_hole sf x1 x2 x3 x4 := by
  obtain ⟨z, hz, ez, -⟩ := told_nat hi
  subst ez
  have e0 : (0 : Int32).toInt = 0 := rfl
  have e1 : (1 : Int32).toInt = 1 := rfl
  have e2 : (2 : Int32).toInt = 2 := rfl
  have h10 : sf 10 = nI z := he.2.2.2.1
  have h9 : sf 9 = now := he.2.2.1
  unfold g_X3_hole g_X4_hole
  rcases col_split x1 x2 with ⟨c1, c2⟩ | ⟨c1, c2, c3, c5, c4, -⟩
  · rw [if_pos c1]
    rcases c2 with c2 | ⟨c2, c3⟩
    · rw [if_pos c2]
    · rw [if_neg c2, if_pos c3]
  · rw [if_neg c1, if_neg c2, if_neg c3]
    by_cases c6 : 0 ≤ x4.toInt ∧ x4.toInt ≤ 1
    · rw [if_neg (below_iff.mpr (by omega)), if_neg (in_iff.mpr (by omega))]
      obtain ⟨m, B, G, E, e, hTr⟩ := showC hz ff bf gf ef x1 x2
      have hmz := hTr.1
      have hL := hole_L hT hz he hi (x3 := x3) (x4 := x4) c5.1 c4 hTr m 0 (((nI m).toInt - ((0 : Int32)).toInt).toNat + 1) (((sf 10).toInt - ((0 : Int32)).toInt).toNat + 1) 0 (by omega) (by rw [tI m (by omega), e0]; omega) (by rw [h10, tI z (by omega), e0]; omega)
      have hL' : g_X4_hole_L44 sf x1 x2 x3 x4 (((sf 10).toInt - ((0 : Int32)).toInt).toNat + 1) 0 (hend now E 0) 0 = hres m G E now x4 (g_X2_closingOfVoid (nI m) G E x3 now) := hL
      have hh : hend now E 0 = sf 9 := by unfold hend; rw [if_pos rfl, h9]
      rw [hh] at hL'
      rw [hL', e]
      unfold hres
      split
      · rfl
      · split <;> rfl
    · rw [if_pos (below_no (by omega)), if_pos (in_no (by omega))]
