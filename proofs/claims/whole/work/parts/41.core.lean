/-! ===== plain rows: reading and writing the state ===== -/
theorem up_def (f : Nat → Int32) (k : Nat) (x : Int32) (j : Nat) : upd f k x j = if j = k then x else f j := rfl
theorem Sim_set {T : Nat} {kp now told : Int32} {rf lf ff : Nat → Int32} {now1 told1 : Int32} {rf1 lf1 ff1 : Nat → Int32} {now2 told2 : Int32} {rf2 lf2 ff2 sf mf kf : Nat → Int32} (h : Sim T kp now told rf lf ff now1 told1 rf1 lf1 ff1 now2 told2 rf2 lf2 ff2 sf mf kf) {now' told' : Int32} {rf' lf' ff' sf' : Nat → Int32} (he : eqS now' told' rf' lf' ff' sf') (hi : Inv (T + 200) now' told' rf' lf' ff') : Sim (T + 200) kp now' told' rf' lf' ff' now1 told1 rf1 lf1 ff1 now2 told2 rf2 lf2 ff2 sf' mf kf :=
  ⟨⟨he, hi⟩, h.2.1, fun z => ⟨(h.2.2.1 z).1, Inv_mono (by omega) (h.2.2.1 z).2⟩, fun z => ⟨(h.2.2.2 z).1, Inv_mono (by omega) (h.2.2.2 z).2⟩⟩
theorem below_no {a b : Int32} (h : ¬ (0 ≤ a.toInt ∧ a.toInt < b.toInt)) : g_X3_isBelow a b = 0 := Decidable.byContradiction fun hc => h (below_iff.mp hc)
theorem in_no {a b c : Int32} (h : ¬ (b.toInt ≤ a.toInt ∧ a.toInt ≤ c.toInt)) : g_X4_in a b c = 0 := Decidable.byContradiction fun hc => h (in_iff.mp hc)
theorem within_iff {a b c : Int32} : ¬ g_X3_isWithin a b c = 0 ↔ b.toInt ≤ a.toInt ∧ a.toInt ≤ c.toInt := by
  unfold g_X3_isWithin
  by_cases h1 : a < b
  · rw [if_pos h1]; rw [Int32.lt_iff_toInt_lt] at h1
    exact ⟨fun h => absurd rfl h, fun h => by omega⟩
  · rw [if_neg h1]; rw [Int32.lt_iff_toInt_lt] at h1
    by_cases h2 : c < a
    · rw [if_pos h2]; rw [Int32.lt_iff_toInt_lt] at h2
      exact ⟨fun h => absurd rfl h, fun h => by omega⟩
    · rw [if_neg h2]; rw [Int32.lt_iff_toInt_lt] at h2
      exact ⟨fun _ => ⟨by omega, by omega⟩, fun _ h => absurd h (by decide)⟩
theorem within_no {a b c : Int32} (h : ¬ (b.toInt ≤ a.toInt ∧ a.toInt ≤ c.toInt)) : g_X3_isWithin a b c = 0 := Decidable.byContradiction fun hc => h (within_iff.mp hc)
theorem nat_of {x : Int32} {n : Nat} (h0 : 0 ≤ x.toInt) (h1 : x.toInt < n) : ∃ j : Nat, j < n ∧ x = nI j := by
  have e0 : (0 : Int32).toInt = 0 := rfl
  obtain ⟨j, hj, e⟩ := nI_of (x := x) (by rw [Int32.lt_iff_toInt_lt]; omega)
  refine ⟨j, ?_, e⟩
  rw [e, nI_toInt hj] at h1
  omega
theorem tI (j : Nat) (h : j < 2147483648) : (nI j).toInt = (j : Int) := nI_toInt h
theorem eqS_r {now told : Int32} {rf lf ff sf : Nat → Int32} (he : eqS now told rf lf ff sf) {j : Nat} (hj : j < 6) (x : Int32) : eqS now told (upd rf j x) lf ff (upd sf j x) := by
  obtain ⟨h1, h2, h3, h4, h5⟩ := he
  refine ⟨fun i hi => ?_, fun i hi => ?_, ?_, ?_, fun i hi => ?_⟩ <;> simp only [up_def]
  · split
    · rfl
    · exact h1 i hi
  · rw [if_neg (by omega)]; exact h2 i hi
  · rw [if_neg (by omega)]; exact h3
  · rw [if_neg (by omega)]; exact h4
  · rw [if_neg (by omega)]; exact h5 i hi
theorem eqS_l {now told : Int32} {rf lf ff sf : Nat → Int32} (he : eqS now told rf lf ff sf) {j : Nat} (hj : j < 3) (x : Int32) : eqS now told rf (upd lf j x) ff (upd sf (6 + j) x) := by
  obtain ⟨h1, h2, h3, h4, h5⟩ := he
  refine ⟨fun i hi => ?_, fun i hi => ?_, ?_, ?_, fun i hi => ?_⟩ <;> simp only [up_def]
  · rw [if_neg (by omega)]; exact h1 i hi
  · by_cases hij : i = j
    · rw [if_pos (by omega), if_pos hij]
    · rw [if_neg (by omega), if_neg hij]; exact h2 i hi
  · rw [if_neg (by omega)]; exact h3
  · rw [if_neg (by omega)]; exact h4
  · rw [if_neg (by omega)]; exact h5 i hi
theorem eqS_n {now told : Int32} {rf lf ff sf : Nat → Int32} (he : eqS now told rf lf ff sf) (x : Int32) : eqS x told rf lf ff (upd sf 9 x) := by
  obtain ⟨h1, h2, h3, h4, h5⟩ := he
  refine ⟨fun i hi => ?_, fun i hi => ?_, ?_, ?_, fun i hi => ?_⟩ <;> simp only [up_def]
  · rw [if_neg (by omega)]; exact h1 i hi
  · rw [if_neg (by omega)]; exact h2 i hi
  · rw [if_pos trivial]
  · rw [if_neg (by omega)]; exact h4
  · rw [if_neg (by omega)]; exact h5 i hi
theorem eqS_t {now told : Int32} {rf lf ff sf : Nat → Int32} (he : eqS now told rf lf ff sf) (x : Int32) : eqS now x rf lf ff (upd sf 10 x) := by
  obtain ⟨h1, h2, h3, h4, h5⟩ := he
  refine ⟨fun i hi => ?_, fun i hi => ?_, ?_, ?_, fun i hi => ?_⟩ <;> simp only [up_def]
  · rw [if_neg (by omega)]; exact h1 i hi
  · rw [if_neg (by omega)]; exact h2 i hi
  · rw [if_neg (by omega)]; exact h3
  · rw [if_pos trivial]
  · rw [if_neg (by omega)]; exact h5 i hi
theorem eqS_f {now told : Int32} {rf lf ff sf : Nat → Int32} (he : eqS now told rf lf ff sf) {j : Nat} (hj : j < 528) (x : Int32) : eqS now told rf lf (upd ff j x) (upd sf (11 + j) x) := by
  obtain ⟨h1, h2, h3, h4, h5⟩ := he
  refine ⟨fun i hi => ?_, fun i hi => ?_, ?_, ?_, fun i hi => ?_⟩ <;> simp only [up_def]
  · rw [if_neg (by omega)]; exact h1 i hi
  · rw [if_neg (by omega)]; exact h2 i hi
  · rw [if_neg (by omega)]; exact h3
  · rw [if_neg (by omega)]; exact h4
  · by_cases hij : i = j
    · rw [if_pos (by omega), if_pos hij]
    · rw [if_neg (by omega), if_neg hij]; exact h5 i hi
theorem clmp_of {x : Int32} {j : Nat} (h : x.toInt = (j : Int)) : x.toNatClampNeg = j := by
  have e : x.toNatClampNeg = x.toInt.toNat := rfl
  rw [e, h]; rfl
theorem fact_ix {b w : Nat} (hb : b < 48) (hw : w ≤ 10) : ((nI b * 11) + nI w).toInt = ((11 * b + w : Nat) : Int) := by
  rw [show (11 : Int32) = nI 11 from rfl, pk_mul, nI_add, tI _ (by omega)]
  omega
theorem fact_at {ff : Nat → Int32} {b w : Nat} (hb : b < 48) (hw : w ≤ 10) : g_X0_fact ff (nI b) (nI w) = ff (11 * b + w) := by
  have e := fact_ix hb hw
  unfold g_X0_fact
  rw [if_neg (below_iff.mpr (by rw [e, show (528 : Int32).toInt = 528 from rfl]; omega)), clmp_of e]
theorem setFact_at {ff : Nat → Int32} {b w : Nat} (hb : b < 48) (hw : w ≤ 10) (x : Int32) : g_X0_setFact ff (nI b) (nI w) x = upd ff (11 * b + w) x := by
  have e := fact_ix hb hw
  unfold g_X0_setFact
  rw [if_neg (below_iff.mpr (by rw [e, show (528 : Int32).toInt = 528 from rfl]; omega)), clmp_of e]
theorem at_at {b w : Nat} (hb : b < 48) (hw : w ≤ 10) : (g_X4_at (nI b) (nI w)).toNatClampNeg = 11 + (11 * b + w) := by
  have h1 : bok (nI b) := ⟨by rw [tI b (by omega)]; omega, by rw [tI b (by omega)]; omega⟩
  have h2 : wok (nI w) := ⟨by rw [tI w (by omega)]; omega, by rw [tI w (by omega)]; omega⟩
  refine clmp_of ?_
  rw [at_toInt h1 h2, tI b (by omega), tI w (by omega)]
  omega
theorem of_at {now told : Int32} {rf lf ff sf : Nat → Int32} (he : eqS now told rf lf ff sf) {b w : Nat} (hb : b < 48) (hw : w ≤ 10) : g_X4_of sf (nI b) (nI w) = ff (11 * b + w) := by
  unfold g_X4_of
  rw [at_at hb hw]
  exact he.2.2.2.2 _ (by omega)
/-- the reference reads what the class reads -/
theorem of_fact {now told : Int32} {rf lf ff sf : Nat → Int32} (he : eqS now told rf lf ff sf) {b w : Int32} (hb : bok b) (hw : wok w) : g_X4_of sf b w = g_X0_fact ff b w := by
  obtain ⟨j, hj, rfl⟩ := bok_nI hb
  obtain ⟨i, hi, rfl⟩ := nat_of (n := 11) hw.1 (by have := hw.2; omega)
  rw [of_at he hj (by omega), fact_at hj (by omega)]
theorem fI_up {ff : Nat → Int32} {b w b' w' : Nat} (hw : w ≤ 10) (hw' : w' ≤ 10) (x : Int32) : fI (upd ff (11 * b + w) x) b' w' = if b' = b ∧ w' = w then x.toInt else fI ff b' w' := by
  unfold fI
  rw [up_def]
  by_cases h : b' = b ∧ w' = w
  · rw [if_pos (by omega), if_pos h]
  · rw [if_neg (by omega), if_neg h]
theorem core_rule {T : Nat} {now told : Int32} {rf lf ff sf : Nat → Int32} (he : eqS now told rf lf ff sf) (hi : Inv T now told rf lf ff) (x1 x2 : Int32) : (g_X3_rule rf x1 x2).1 = (g_X4_rule sf x1 x2).1 ∧ eqS now told (g_X3_rule rf x1 x2).2 lf ff (g_X4_rule sf x1 x2).2 ∧ Inv T now told (g_X3_rule rf x1 x2).2 lf ff := by
  have e5 : (5 : Int32).toInt = 5 := rfl
  have e6 : (6 : Int32).toInt = 6 := rfl
  have e0 : (0 : Int32).toInt = 0 := rfl
  by_cases hin : 0 ≤ x1.toInt ∧ x1.toInt < 6
  · obtain ⟨j, hj, rfl⟩ := nat_of (n := 6) hin.1 (by omega)
    have key : ∃ lo hi : Int32, (g_X3_rule rf (nI j) x2 = if x2 < lo then ((-2), rf) else if x2 ≤ hi then (rf j, upd rf j x2) else ((-2), rf)) ∧ (g_X4_rule sf (nI j) x2 = if g_X4_in x2 lo hi = 0 then ((-2), sf) else (sf j, upd sf j x2)) ∧ (lo ≤ x2 → x2 ≤ hi → rlOk rf → rlOk (upd rf j x2)) := by
      rcases (show j = 0 ∨ j = 1 ∨ j = 2 ∨ j = 3 ∨ j = 4 ∨ j = 5 by omega) with rfl | rfl | rfl | rfl | rfl | rfl
      · refine ⟨0, 5, rfl, rfl, fun h1 h2 h3 => ?_⟩
        rw [Int32.le_iff_toInt_le] at h1 h2
        exact ⟨⟨h1, h2⟩, h3.2⟩
      · refine ⟨1, 20, rfl, rfl, fun h1 h2 h3 => ?_⟩
        rw [Int32.le_iff_toInt_le] at h1 h2
        exact ⟨h3.1, ⟨h1, h2⟩, h3.2.2⟩
      · refine ⟨0, 20, rfl, rfl, fun h1 h2 h3 => ?_⟩
        rw [Int32.le_iff_toInt_le] at h1 h2
        exact ⟨h3.1, h3.2.1, ⟨h1, h2⟩, h3.2.2.2⟩
      · refine ⟨1, 60, rfl, rfl, fun h1 h2 h3 => ?_⟩
        rw [Int32.le_iff_toInt_le] at h1 h2
        exact ⟨h3.1, h3.2.1, h3.2.2.1, ⟨h1, h2⟩, h3.2.2.2.2⟩
      · refine ⟨0, 1, rfl, rfl, fun h1 h2 h3 => ?_⟩
        rw [Int32.le_iff_toInt_le] at h1 h2
        exact ⟨h3.1, h3.2.1, h3.2.2.1, h3.2.2.2.1, ⟨h1, h2⟩, h3.2.2.2.2.2⟩
      · refine ⟨0, 1, rfl, rfl, fun h1 h2 h3 => ?_⟩
        rw [Int32.le_iff_toInt_le] at h1 h2
        exact ⟨h3.1, h3.2.1, h3.2.2.1, h3.2.2.2.1, h3.2.2.2.2.1, ⟨h1, h2⟩⟩
    obtain ⟨lo, hi', k1, k2, k3⟩ := key
    rw [k1, k2]
    by_cases c1 : x2 < lo
    · rw [if_pos c1, if_pos (in_no (by rw [Int32.lt_iff_toInt_lt] at c1; omega))]
      exact ⟨rfl, he, hi⟩
    · rw [if_neg c1]
      by_cases c2 : x2 ≤ hi'
      · have c3 : lo ≤ x2 := by rw [Int32.lt_iff_toInt_lt] at c1; rw [Int32.le_iff_toInt_le]; omega
        rw [if_pos c2, if_neg (in_iff.mpr (by rw [Int32.le_iff_toInt_le] at c2 c3; omega))]
        exact ⟨(he.1 j hj).symm, eqS_r he hj x2, hi.1, hi.2.1, k3 c3 c2 hi.2.2.1, hi.2.2.2⟩
      · rw [if_neg c2, if_pos (in_no (by rw [Int32.le_iff_toInt_le] at c2; omega))]
        exact ⟨rfl, he, hi⟩
  · have h1 : g_X3_rule rf x1 x2 = ((-2), rf) := by
      unfold g_X3_rule; rw [if_pos (below_no (by rw [e6]; exact hin))]
    have h2 : g_X4_rule sf x1 x2 = ((-2), sf) := by
      unfold g_X4_rule; rw [if_pos (in_no (by rw [e0, e5]; omega))]
    rw [h1, h2]
    exact ⟨rfl, he, hi⟩
theorem core_pass {T : Nat} (hT : T ≤ 102400) {now told : Int32} {rf lf ff sf : Nat → Int32} (he : eqS now told rf lf ff sf) (hi : Inv T now told rf lf ff) (x1 : Int32) : (g_X3_pass now x1).1 = (g_X4_pass sf x1).1 ∧ eqS (g_X3_pass now x1).2 told rf lf ff (g_X4_pass sf x1).2 ∧ Inv (T + 200) (g_X3_pass now x1).2 told rf lf ff := by
  have e1 : (1 : Int32).toInt = 1 := rfl
  have e2 : (200 : Int32).toInt = 200 := rfl
  unfold g_X3_pass g_X4_pass
  by_cases h : 1 ≤ x1.toInt ∧ x1.toInt ≤ 200
  · rw [if_neg (within_iff.mpr (by rw [e1, e2]; exact h)), if_neg (in_iff.mpr (by rw [e1, e2]; exact h))]
    have h9 : sf 9 = now := he.2.2.1
    rw [h9]
    have h1 := hi.1
    have ea : (now + x1).toInt = now.toInt + x1.toInt := i32_add (by omega) (by omega)
    refine ⟨rfl, eqS_n he _, ⟨?_, ?_⟩, hi.2.1, hi.2.2.1, hi.2.2.2.1, fun b hb => buOk_mono (by omega) (hi.2.2.2.2.1 b hb), hi.2.2.2.2.2⟩
    · show 0 ≤ (now + x1).toInt; omega
    · show (now + x1).toInt ≤ _; omega
  · rw [if_pos (within_no (by rw [e1, e2]; exact h)), if_pos (in_no (by rw [e1, e2]; exact h))]
    exact ⟨rfl, he, Inv_mono (by omega) hi⟩
