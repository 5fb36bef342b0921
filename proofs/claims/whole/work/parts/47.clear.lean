/-! ===== colours and lines: what lies where, on both sides ===== -/
/-- the k-th of a track begins, ends -/
abbrev gI (gf : Nat → Int32) (k : Nat) : Int := (gf k).toInt
def OD (m : Nat) (gf ef : Nat → Int32) : Prop := (∀ i j, i < j → j < m → gI ef i ≤ gI gf j) ∧ ∀ k, k < m → 0 ≤ gI gf k ∧ gI gf k < gI ef k ∧ gI ef k ≤ 200000
theorem onC_ok {T : Nat} {ff : Nat → Int32} {b : Nat} (hb : buOk T ff b) {x1 x2 : Int32} (hx : 0 ≤ x2.toInt) (ho : onC ff x1 x2 b) : fI ff b 6 ≤ 2 ∧ fI ff b 7 = x2.toInt ∧ fI ff b 0 = x1.toInt ∧ (0 ≤ fI ff b 8 ∧ fI ff b 8 ≤ T + 260) ∧ 1 ≤ fI ff b 9 ∧ fI ff b 9 ≤ 60 := by
  obtain ⟨-, -, g2, -, -, g5, g6, -⟩ := hb
  have e7 : fI ff b 7 = x2.toInt := by unfold fI; rw [ho.1]
  have e0 : fI ff b 0 = x1.toInt := by unfold fI; rw [ho.2]
  by_cases h : fI ff b 6 ≤ 2
  · have := g5 h
    exact ⟨h, e7, e0, this.2.1, this.2.2.1, by omega⟩
  · have := (g6 h).1
    omega
theorem onL_ok {T : Nat} {ff : Nat → Int32} {b : Nat} (hb : buOk T ff b) {x : Int32} (hx : 0 ≤ x.toInt) (ho : onL ff x b) : fI ff b 6 = 1 ∧ fI ff b 10 = x.toInt ∧ (0 ≤ fI ff b 5 ∧ fI ff b 5 ≤ T + 140) ∧ 1 ≤ fI ff b 4 ∧ fI ff b 4 ≤ 60 := by
  obtain ⟨-, -, g2, g3, -, -, -, -, g8⟩ := hb
  have e10 : fI ff b 10 = x.toInt := by unfold fI; rw [ho]
  by_cases h : fI ff b 6 = 1
  · exact ⟨h, e10, g3, g2.1, g2.2⟩
  · have := g8 h
    omega
theorem odC {T : Nat} (hT : T ≤ 102400) {now : Int32} {z : Nat} (hz : z ≤ 48) {rf lf ff : Nat → Int32} (hi : Inv T now (nI z) rf lf ff) {x1 x2 : Int32} (hx : 0 ≤ x2.toInt) {m : Nat} {bf gf ef : Nat → Int32} (h : TrS z (onC ff x1 x2) ff 8 9 m bf gf ef) : OD m gf ef := by
  obtain ⟨-, h2, -, h4, h5⟩ := h
  obtain ⟨-, -, -, -, hbu, hap⟩ := hi
  rw [tI z (by omega)] at hbu hap
  have key : ∀ k, k < m → ∃ b, b < z ∧ bf k = nI b ∧ gI gf k = fI ff b 8 ∧ gI ef k = fI ff b 8 + fI ff b 9 ∧ fI ff b 6 ≤ 2 ∧ fI ff b 7 = x2.toInt ∧ fI ff b 0 = x1.toInt ∧ (0 ≤ fI ff b 8 ∧ fI ff b 8 ≤ T + 260) ∧ 1 ≤ fI ff b 9 ∧ fI ff b 9 ≤ 60 := fun k hk => by
    obtain ⟨b, hb, ho, e1, e2, e3⟩ := h2 k hk
    have g := onC_ok (hbu b (by omega)) hx ho
    refine ⟨b, hb, e1, by unfold gI; rw [e2]; rfl, ?_, g⟩
    unfold gI
    rw [e3]
    exact i32_add (by unfold fI at g; omega) (by unfold fI at g; omega)
  refine ⟨fun i j hij hj => ?_, fun k hk => ?_⟩
  · obtain ⟨a, ha, ea, a1, a2, a3, a4, a5, a6, a7, a8⟩ := key i (by omega)
    obtain ⟨b, hb, eb, b1, b2, b3, b4, b5, b6, b7, b8⟩ := key j hj
    have hab : a ≠ b := fun e => by
      rw [e] at ea
      have := h5 i j (by omega) hj (ea.trans eb.symm)
      omega
    have := (hap a b (by omega) (by omega) hab).1 a3 b3 (by omega) (by omega)
    have := h4 i j hij hj
    unfold gI at *
    omega
  · obtain ⟨b, hb, eb, b1, b2, b3, b4, b5, b6, b7, b8⟩ := key k hk
    omega
theorem odL {T : Nat} (hT : T ≤ 102400) {now : Int32} {z : Nat} (hz : z ≤ 48) {rf lf ff : Nat → Int32} (hi : Inv T now (nI z) rf lf ff) {x : Int32} (hx : 0 ≤ x.toInt) {m : Nat} {bf gf ef : Nat → Int32} (h : TrS z (onL ff x) ff 5 4 m bf gf ef) : OD m gf ef := by
  obtain ⟨-, h2, -, h4, h5⟩ := h
  obtain ⟨-, -, -, -, hbu, hap⟩ := hi
  rw [tI z (by omega)] at hbu hap
  have key : ∀ k, k < m → ∃ b, b < z ∧ bf k = nI b ∧ gI gf k = fI ff b 5 ∧ gI ef k = fI ff b 5 + fI ff b 4 ∧ fI ff b 6 = 1 ∧ fI ff b 10 = x.toInt ∧ (0 ≤ fI ff b 5 ∧ fI ff b 5 ≤ T + 140) ∧ 1 ≤ fI ff b 4 ∧ fI ff b 4 ≤ 60 := fun k hk => by
    obtain ⟨b, hb, ho, e1, e2, e3⟩ := h2 k hk
    have g := onL_ok (hbu b (by omega)) hx ho
    refine ⟨b, hb, e1, by unfold gI; rw [e2]; rfl, ?_, g⟩
    unfold gI
    rw [e3]
    exact i32_add (by unfold fI at g; omega) (by unfold fI at g; omega)
  refine ⟨fun i j hij hj => ?_, fun k hk => ?_⟩
  · obtain ⟨a, ha, ea, a1, a2, a3, a4, a5, a6, a7⟩ := key i (by omega)
    obtain ⟨b, hb, eb, b1, b2, b3, b4, b5, b6, b7⟩ := key j hj
    have hab : a ≠ b := fun e => by
      rw [e] at ea
      have := h5 i j (by omega) hj (ea.trans eb.symm)
      omega
    have := (hap a b (by omega) (by omega) hab).2 a3 b3 (by omega)
    have := h4 i j hij hj
    unfold gI at *
    omega
  · obtain ⟨b, hb, eb, b1, b2, b3, b4, b5, b6, b7⟩ := key k hk
    omega
/-- what holds of all in a track holds of all bursts that are on, and the other way round -/
theorem tr_all {z : Nat} (hz : z ≤ 48) {on : Nat → Prop} {ff : Nat → Int32} {wg wt m : Nat} {bf gf ef : Nat → Int32} (h : TrS z on ff wg wt m bf gf ef) (Q : Int32 → Int32 → Prop) : (∀ k, k < m → Q (gf k) (ef k)) ↔ ∀ b, b < z → on b → Q (ff (11 * b + wg)) (ff (11 * b + wg) + ff (11 * b + wt)) := by
  obtain ⟨-, h2, h3, -, -⟩ := h
  refine ⟨fun hq b hb ho => ?_, fun hq k hk => ?_⟩
  · obtain ⟨k, hk, e⟩ := h3 b hb ho
    obtain ⟨b', hb', -, e1, e2, e3⟩ := h2 k hk
    have : b = b' := (nI_eq (by omega) (by omega)).mp (e.symm.trans e1)
    subst this
    have := hq k hk
    rw [e2, e3] at this
    exact this
  · obtain ⟨b, hb, ho, e1, e2, e3⟩ := h2 k hk
    rw [e2, e3]
    exact hq b hb ho
theorem tr_ex {z : Nat} (hz : z ≤ 48) {on : Nat → Prop} {ff : Nat → Int32} {wg wt m : Nat} {bf gf ef : Nat → Int32} (h : TrS z on ff wg wt m bf gf ef) (Q : Int32 → Int32 → Prop) : (∃ k, k < m ∧ Q (gf k) (ef k)) ↔ ∃ b, b < z ∧ on b ∧ Q (ff (11 * b + wg)) (ff (11 * b + wg) + ff (11 * b + wt)) := by
  have := tr_all hz h (fun a b => ¬ Q a b)
  constructor
  · intro ⟨k, hk, q⟩
    refine Classical.byContradiction fun hn => ?_
    exact this.mpr (fun b hb ho q' => hn ⟨b, hb, ho, q'⟩) k hk q
  · intro ⟨b, hb, ho, q⟩
    refine Classical.byContradiction fun hn => ?_
    exact this.mp (fun k hk q' => hn ⟨k, hk, q'⟩) b hb ho q
theorem isOn_iff {T : Nat} {now : Int32} {z : Nat} (hz : z ≤ 48) {rf lf ff sf : Nat → Int32} (he : eqS now (nI z) rf lf ff sf) (hi : Inv T now (nI z) rf lf ff) {x1 x2 : Int32} (hx : 0 ≤ x2.toInt) {b : Nat} (hb : b < z) : ¬ g_X4_isOn sf (nI b) x1 x2 = 0 ↔ onC ff x1 x2 b := by
  have hbu := hi.2.2.2.2.1 b (by rw [tI z (by omega)]; omega)
  have o0 : g_X4_of sf (nI b) 0 = ff (11 * b + 0) := of_at (w := 0) he (by omega) (by omega)
  have o7 : g_X4_of sf (nI b) 7 = ff (11 * b + 7) := of_at (w := 7) he (by omega) (by omega)
  have o9 : g_X4_of sf (nI b) 9 = ff (11 * b + 9) := of_at (w := 9) he (by omega) (by omega)
  have e0 : (0 : Int32).toInt = 0 := rfl
  unfold g_X4_isOn
  rw [o0, o7, o9]
  constructor
  · intro h
    by_cases c1 : ff (11 * b + 0) = x1
    · rw [if_pos c1] at h
      by_cases c2 : ff (11 * b + 9) ≤ 0
      · rw [if_pos c2] at h; exact absurd rfl h
      · rw [if_neg c2] at h
        by_cases c3 : ff (11 * b + 7) = x2
        · exact ⟨c3, c1⟩
        · rw [if_neg c3] at h; exact absurd rfl h
    · rw [if_neg c1] at h; exact absurd rfl h
  · intro ho
    have g := onC_ok hbu hx ho
    rw [if_pos ho.2, if_neg (by rw [Int32.le_iff_toInt_le]; unfold fI at g; omega), if_pos ho.1]
    decide
theorem isOnLine_iff {T : Nat} {now : Int32} {z : Nat} (hz : z ≤ 48) {rf lf ff sf : Nat → Int32} (he : eqS now (nI z) rf lf ff sf) (hi : Inv T now (nI z) rf lf ff) {x : Int32} (hx : 0 ≤ x.toInt) {b : Nat} (hb : b < z) : ¬ g_X4_isOnLine sf (nI b) x = 0 ↔ onL ff x b := by
  have hbu := hi.2.2.2.2.1 b (by rw [tI z (by omega)]; omega)
  have o6 : g_X4_of sf (nI b) 6 = ff (11 * b + 6) := of_at (w := 6) he (by omega) (by omega)
  have o10 : g_X4_of sf (nI b) 10 = ff (11 * b + 10) := of_at (w := 10) he (by omega) (by omega)
  unfold g_X4_isOnLine
  rw [o6, o10]
  constructor
  · intro h
    by_cases c1 : ff (11 * b + 6) = 1
    · rw [if_pos c1] at h
      by_cases c2 : ff (11 * b + 10) = x
      · exact c2
      · rw [if_neg c2] at h; exact absurd rfl h
    · rw [if_neg c1] at h; exact absurd rfl h
  · intro ho
    have g := onL_ok hbu hx ho
    have c1 : ff (11 * b + 6) = 1 := (i_eq (k := 1) rfl).mpr g.1
    rw [if_pos c1, if_pos ho]
    decide
theorem clash_iff {f n o t : Int32} (hf : 0 ≤ f.toInt ∧ f.toInt ≤ 300000) (hn : 0 ≤ n.toInt ∧ n.toInt ≤ 3000) (ho : 0 ≤ o.toInt ∧ o.toInt ≤ 300000) (ht : 0 ≤ t.toInt ∧ t.toInt ≤ 3000) : g_X4_clash f n o t = 0 ↔ (o + t).toInt ≤ f.toInt ∨ f.toInt + n.toInt ≤ o.toInt := by
  have e : (f + n).toInt = f.toInt + n.toInt := i32_add (by omega) (by omega)
  unfold g_X4_clash
  by_cases c1 : o + t ≤ f
  · rw [if_pos c1]; rw [Int32.le_iff_toInt_le] at c1
    exact ⟨fun _ => Or.inl c1, fun _ => rfl⟩
  · rw [if_neg c1]; rw [Int32.le_iff_toInt_le] at c1
    by_cases c2 : f + n ≤ o
    · rw [if_pos c2]; rw [Int32.le_iff_toInt_le] at c2
      exact ⟨fun _ => Or.inr (by omega), fun _ => rfl⟩
    · rw [if_neg c2]; rw [Int32.le_iff_toInt_le] at c2
      exact ⟨fun h => absurd h (by decide), fun h => by omega⟩
/-- a loop over all bursts that asks whether none does -/
theorem all_L {z : Nat} (hz : z ≤ 48) {many : Int32} (hmany : many = nI z) (L : Nat → Int32 → Int32) (no : Nat → Prop) (hL : ∀ n k, k < z → (L (n + 1) (nI k) = 0 ↔ no k ∨ L n (nI (k + 1)) = 0) ) (hE : ∀ n, L (n + 1) (nI z) = 1) : ∀ (r k n : Nat), k + r = z → r < n → (¬ L n (nI k) = 0 ↔ ∀ b, k ≤ b → b < z → ¬ no b) := by
  intro r
  induction r with
  | zero =>
    intro k n hk hn
    obtain ⟨n, rfl⟩ : ∃ j, n = j + 1 := ⟨n - 1, by omega⟩
    obtain rfl : k = z := by omega
    rw [hE]
    exact ⟨fun _ b h1 h2 => by omega, fun _ => by decide⟩
  | succ r ih =>
    intro k n hk hn
    obtain ⟨n, rfl⟩ : ∃ j, n = j + 1 := ⟨n - 1, by omega⟩
    rw [hL n k (by omega)]
    have h := ih (k + 1) n (by omega) (by omega)
    constructor
    · intro hc b h1 h2 hb
      by_cases hbk : b = k
      · subst hbk; exact hc (Or.inl hb)
      · exact h.mp (fun h0 => hc (Or.inr h0)) b (by omega) h2 hb
    · intro hall hc
      rcases hc with hc | hc
      · exact hall k (by omega) (by omega) hc
      · exact h.mpr (fun b h1 h2 => hall b (by omega) h2) hc
theorem isClear_b {T : Nat} (hT : T ≤ 102400) {now : Int32} {z : Nat} (hz : z ≤ 48) {rf lf ff sf : Nat → Int32} (he : eqS now (nI z) rf lf ff sf) (hi : Inv T now (nI z) rf lf ff) {x1 x2 f n : Int32} (hx : 0 ≤ x2.toInt) (hf : 0 ≤ f.toInt ∧ f.toInt ≤ 300000) (hn : 0 ≤ n.toInt ∧ n.toInt ≤ 3000) : ¬ g_X4_isClear sf x1 x2 f n = 0 ↔ ∀ b, b < z → onC ff x1 x2 b → (ff (11 * b + 8) + ff (11 * b + 9)).toInt ≤ f.toInt ∨ f.toInt + n.toInt ≤ (ff (11 * b + 8)).toInt := by
  have h10 : sf 10 = nI z := he.2.2.2.1
  have h := all_L hz h10 (g_X4_isClear_L3 sf x1 x2 f n) (fun b => onC ff x1 x2 b ∧ ¬ ((ff (11 * b + 8) + ff (11 * b + 9)).toInt ≤ f.toInt ∨ f.toInt + n.toInt ≤ (ff (11 * b + 8)).toInt)) (fun q k hk => by
    have o8 : g_X4_of sf (nI k) 8 = ff (11 * k + 8) := of_at (w := 8) he (by omega) (by omega)
    have o9 : g_X4_of sf (nI k) 9 = ff (11 * k + 9) := of_at (w := 9) he (by omega) (by omega)
    have ho := isOn_iff hz he hi (x1 := x1) hx hk
    rw [g_X4_isClear_L3, h10, if_neg (nI_nle' (by omega) (by omega)), o8, o9, nI_1]
    by_cases c1 : onC ff x1 x2 k
    · have g := onC_ok (hi.2.2.2.2.1 k (by rw [tI z (by omega)]; omega)) hx c1
      unfold fI at g
      have hc := clash_iff hf hn (o := ff (11 * k + 8)) (t := ff (11 * k + 9)) (by omega) (by omega)
      rw [if_neg (ho.mpr c1)]
      by_cases c2 : g_X4_clash f n (ff (11 * k + 8)) (ff (11 * k + 9)) = 0
      · rw [if_pos c2]
        exact ⟨fun h => Or.inr h, fun h => h.resolve_left (fun hh => hh.2 (hc.mp c2))⟩
      · rw [if_neg c2]
        exact ⟨fun _ => Or.inl ⟨c1, fun hh => c2 (hc.mpr hh)⟩, fun _ => rfl⟩
    · rw [if_pos (Decidable.byContradiction fun hh => c1 (ho.mp hh))]
      exact ⟨fun h => Or.inr h, fun h => h.resolve_left (fun hh => c1 hh.1)⟩)
    (fun q => by rw [g_X4_isClear_L3, h10, if_pos (nI_le (Nat.le_refl _) (by omega))]) z 0 (((sf 10).toInt - ((0 : Int32)).toInt).toNat + 1) (by omega) (by rw [h10, tI z (by omega), show (0 : Int32).toInt = 0 from rfl]; omega)
  unfold g_X4_isClear
  refine Iff.trans h ⟨fun hh b hb ho => ?_, fun hh b _ hb hno => hno.2 (hh b hb hno.1)⟩
  exact Classical.byContradiction fun hc => hh b (by omega) hb ⟨ho, hc⟩
theorem isLast_b {T : Nat} (hT : T ≤ 102400) {now : Int32} {z : Nat} (hz : z ≤ 48) {rf lf ff sf : Nat → Int32} (he : eqS now (nI z) rf lf ff sf) (hi : Inv T now (nI z) rf lf ff) {x1 x2 f : Int32} (hx : 0 ≤ x2.toInt) : ¬ g_X4_isLast sf x1 x2 f = 0 ↔ ∀ b, b < z → onC ff x1 x2 b → (ff (11 * b + 8) + ff (11 * b + 9)).toInt ≤ f.toInt := by
  have h10 : sf 10 = nI z := he.2.2.2.1
  have h := all_L hz h10 (g_X4_isLast_L3 sf x1 x2 f) (fun b => onC ff x1 x2 b ∧ ¬ (ff (11 * b + 8) + ff (11 * b + 9)).toInt ≤ f.toInt) (fun q k hk => by
    have o8 : g_X4_of sf (nI k) 8 = ff (11 * k + 8) := of_at (w := 8) he (by omega) (by omega)
    have o9 : g_X4_of sf (nI k) 9 = ff (11 * k + 9) := of_at (w := 9) he (by omega) (by omega)
    have ho := isOn_iff hz he hi (x1 := x1) hx hk
    rw [g_X4_isLast_L3, h10, if_neg (nI_nle' (by omega) (by omega)), o8, o9, nI_1]
    by_cases c1 : onC ff x1 x2 k
    · rw [if_neg (ho.mpr c1)]
      by_cases c2 : ff (11 * k + 8) + ff (11 * k + 9) ≤ f
      · rw [if_pos c2]; rw [Int32.le_iff_toInt_le] at c2
        exact ⟨fun h => Or.inr h, fun h => h.resolve_left (fun hh => hh.2 c2)⟩
      · rw [if_neg c2]; rw [Int32.le_iff_toInt_le] at c2
        exact ⟨fun _ => Or.inl ⟨c1, c2⟩, fun _ => rfl⟩
    · rw [if_pos (Decidable.byContradiction fun hh => c1 (ho.mp hh))]
      exact ⟨fun h => Or.inr h, fun h => h.resolve_left (fun hh => c1 hh.1)⟩)
    (fun q => by rw [g_X4_isLast_L3, h10, if_pos (nI_le (Nat.le_refl _) (by omega))]) z 0 (((sf 10).toInt - ((0 : Int32)).toInt).toNat + 1) (by omega) (by rw [h10, tI z (by omega), show (0 : Int32).toInt = 0 from rfl]; omega)
  unfold g_X4_isLast
  refine Iff.trans h ⟨fun hh b hb ho => ?_, fun hh b _ hb hno => hno.2 (hh b hb hno.1)⟩
  exact Classical.byContradiction fun hc => hh b (by omega) hb ⟨ho, hc⟩
theorem isLineClear_b {T : Nat} (hT : T ≤ 102400) {now : Int32} {z : Nat} (hz : z ≤ 48) {rf lf ff sf : Nat → Int32} (he : eqS now (nI z) rf lf ff sf) (hi : Inv T now (nI z) rf lf ff) {x f n : Int32} (hx : 0 ≤ x.toInt) (hf : 0 ≤ f.toInt ∧ f.toInt ≤ 300000) (hn : 0 ≤ n.toInt ∧ n.toInt ≤ 3000) : ¬ g_X4_isLineClear sf x f n = 0 ↔ ∀ b, b < z → onL ff x b → (ff (11 * b + 5) + ff (11 * b + 4)).toInt ≤ f.toInt ∨ f.toInt + n.toInt ≤ (ff (11 * b + 5)).toInt := by
  have h10 : sf 10 = nI z := he.2.2.2.1
  have h := all_L hz h10 (g_X4_isLineClear_L3 sf x f n) (fun b => onL ff x b ∧ ¬ ((ff (11 * b + 5) + ff (11 * b + 4)).toInt ≤ f.toInt ∨ f.toInt + n.toInt ≤ (ff (11 * b + 5)).toInt)) (fun q k hk => by
    have o5 : g_X4_of sf (nI k) 5 = ff (11 * k + 5) := of_at (w := 5) he (by omega) (by omega)
    have o4 : g_X4_of sf (nI k) 4 = ff (11 * k + 4) := of_at (w := 4) he (by omega) (by omega)
    have ho := isOnLine_iff hz he hi hx hk
    rw [g_X4_isLineClear_L3, h10, if_neg (nI_nle' (by omega) (by omega)), o5, o4, nI_1]
    by_cases c1 : onL ff x k
    · have g := onL_ok (hi.2.2.2.2.1 k (by rw [tI z (by omega)]; omega)) hx c1
      unfold fI at g
      have hc := clash_iff hf hn (o := ff (11 * k + 5)) (t := ff (11 * k + 4)) (by omega) (by omega)
      rw [if_neg (ho.mpr c1)]
      by_cases c2 : g_X4_clash f n (ff (11 * k + 5)) (ff (11 * k + 4)) = 0
      · rw [if_pos c2]
        exact ⟨fun h => Or.inr h, fun h => h.resolve_left (fun hh => hh.2 (hc.mp c2))⟩
      · rw [if_neg c2]
        exact ⟨fun _ => Or.inl ⟨c1, fun hh => c2 (hc.mpr hh)⟩, fun _ => rfl⟩
    · rw [if_pos (Decidable.byContradiction fun hh => c1 (ho.mp hh))]
      exact ⟨fun h => Or.inr h, fun h => h.resolve_left (fun hh => c1 hh.1)⟩)
    (fun q => by rw [g_X4_isLineClear_L3, h10, if_pos (nI_le (Nat.le_refl _) (by omega))]) z 0 (((sf 10).toInt - ((0 : Int32)).toInt).toNat + 1) (by omega) (by rw [h10, tI z (by omega), show (0 : Int32).toInt = 0 from rfl]; omega)
  unfold g_X4_isLineClear
  refine Iff.trans h ⟨fun hh b hb ho => ?_, fun hh b _ hb hno => hno.2 (hh b hb hno.1)⟩
  exact Classical.byContradiction fun hc => hh b (by omega) hb ⟨ho, hc⟩
