/-! ===== what a track holds ===== -/
def ins (q : Nat) (f : Nat → Int32) (x : Int32) : Nat → Int32 := fun k => if k < q then f k else if k = q then x else f (k - 1)
theorem ins_lt {q k : Nat} {f : Nat → Int32} {x : Int32} (h : k < q) : ins q f x k = f k := by unfold ins; rw [if_pos h]
theorem ins_eq {q : Nat} {f : Nat → Int32} {x : Int32} : ins q f x q = x := by unfold ins; rw [if_neg (by omega), if_pos rfl]
theorem ins_gt {q k : Nat} {f : Nat → Int32} {x : Int32} (h : q < k) : ins q f x k = f (k - 1) := by unfold ins; rw [if_neg (by omega), if_neg (by omega)]
theorem add_L {sz x1 x2 x3 : Int32} {m : Nat} (hm : m < 48) {bf gf ef : Nat → Int32} : ∀ (p n : Nat) (wb wg we : Nat → Int32), p ≤ m → p < n → (∀ k, k < p → wb k = bf k ∧ wg k = gf k ∧ we k = ef k) → (∀ k, p < k → k ≤ m → wb k = bf (k - 1) ∧ wg k = gf (k - 1) ∧ we k = ef (k - 1)) → (∀ k, p ≤ k → k < m → x2.toInt < (gf k).toInt) →
    ∃ q, q ≤ m ∧ (q = 0 ∨ (gf (q - 1)).toInt ≤ x2.toInt) ∧ (∀ k, q ≤ k → k < m → x2.toInt < (gf k).toInt) ∧ ∃ B G E, g_X2_add_L19 sz x1 x2 x3 n (nI p) wb wg we = (sz + 1, B, G, E) ∧ ∀ k, k ≤ m → B k = ins q bf x1 k ∧ G k = ins q gf x2 k ∧ E k = ins q ef (x2 + x3) k := by
  have e0 : (0 : Int32).toInt = 0 := rfl
  intro p
  induction p with
  | zero =>
    intro n wb wg we hp hn h1 h2 h3
    obtain ⟨n, rfl⟩ : ∃ j, n = j + 1 := ⟨n - 1, by omega⟩
    rw [g_X2_add_L19, if_pos (by rw [Int32.le_iff_toInt_le, tI 0 (by omega)]; omega), clmp_of (tI 0 (by omega))]
    refine ⟨0, by omega, Or.inl rfl, h3, _, _, _, rfl, fun k hk => ?_⟩
    simp only [up_def]
    by_cases hk0 : k = 0
    · subst hk0
      rw [if_pos rfl, if_pos rfl, if_pos rfl, ins_eq, ins_eq, ins_eq]
      exact ⟨rfl, rfl, rfl⟩
    · rw [if_neg hk0, if_neg hk0, if_neg hk0, ins_gt (by omega), ins_gt (by omega), ins_gt (by omega)]
      exact h2 k (by omega) hk
  | succ p ih =>
    intro n wb wg we hp hn h1 h2 h3
    obtain ⟨n, rfl⟩ : ∃ j, n = j + 1 := ⟨n - 1, by omega⟩
    have ep : (nI (p + 1) - 1).toNatClampNeg = p := by rw [nI_pred]; exact clmp_of (tI p (by omega))
    have ep1 : (nI (p + 1)).toNatClampNeg = p + 1 := clmp_of (tI (p + 1) (by omega))
    rw [g_X2_add_L19, if_neg (by rw [Int32.le_iff_toInt_le, tI (p + 1) (by omega)]; omega), ep, ep1, pk_m1]
    by_cases c : wg p ≤ x2
    · rw [if_pos c]
      refine ⟨p + 1, hp, Or.inr ?_, h3, _, _, _, rfl, fun k hk => ?_⟩
      · rw [(h1 p (by omega)).2.1, Int32.le_iff_toInt_le] at c
        exact c
      · simp only [up_def]
        by_cases hk0 : k = p + 1
        · subst hk0
          rw [if_pos rfl, if_pos rfl, if_pos rfl, ins_eq, ins_eq, ins_eq]
          exact ⟨rfl, rfl, rfl⟩
        · rw [if_neg hk0, if_neg hk0, if_neg hk0]
          by_cases hk1 : k < p + 1
          · rw [ins_lt hk1, ins_lt hk1, ins_lt hk1]; exact h1 k hk1
          · rw [ins_gt (by omega), ins_gt (by omega), ins_gt (by omega)]; exact h2 k (by omega) hk
    · rw [if_neg c]
      refine ih n _ _ _ (by omega) (by omega) (fun k hk => ?_) (fun k hk hkm => ?_) (fun k hk hkm => ?_)
      · simp only [up_def]
        rw [if_neg (by omega), if_neg (by omega), if_neg (by omega)]
        exact h1 k (by omega)
      · simp only [up_def]
        by_cases hk0 : k = p + 1
        · subst hk0
          rw [if_pos rfl, if_pos rfl, if_pos rfl]
          exact h1 p (by omega)
        · rw [if_neg hk0, if_neg hk0, if_neg hk0]
          exact h2 k (by omega) hkm
      · by_cases hk0 : k = p
        · subst hk0
          rw [(h1 k (by omega)).2.1] at c
          have := lt_of_nle (b := gf k) (i := x2) c
          exact this
        · exact h3 k (by omega) hkm
theorem add_at {m : Nat} (hm : m < 48) (bf gf ef : Nat → Int32) (x1 x2 x3 : Int32) : ∃ q, q ≤ m ∧ (q = 0 ∨ (gf (q - 1)).toInt ≤ x2.toInt) ∧ (∀ k, q ≤ k → k < m → x2.toInt < (gf k).toInt) ∧ ∃ B G E, g_X2_add (nI m) bf gf ef x1 x2 x3 = (nI (m + 1), B, G, E) ∧ ∀ k, k ≤ m → B k = ins q bf x1 k ∧ G k = ins q gf x2 k ∧ E k = ins q ef (x2 + x3) k := by
  have e48 : (48 : Int32).toInt = 48 := rfl
  unfold g_X2_add
  rw [if_neg (below_iff.mpr (by rw [tI m (by omega)]; omega)), ← nI_1 m]
  exact add_L hm m _ bf gf ef (Nat.le_refl _) (by rw [tI m (by omega)]; omega) (fun _ _ => ⟨rfl, rfl, rfl⟩) (fun k h1 h2 => by omega) (fun k h1 h2 => by omega)
/-- the bursts below z that are 'on', by rising begins -/
def TrS (z : Nat) (on : Nat → Prop) (ff : Nat → Int32) (wg wt m : Nat) (bf gf ef : Nat → Int32) : Prop :=
  m ≤ z ∧ (∀ k, k < m → ∃ b, b < z ∧ on b ∧ bf k = nI b ∧ gf k = ff (11 * b + wg) ∧ ef k = ff (11 * b + wg) + ff (11 * b + wt)) ∧ (∀ b, b < z → on b → ∃ k, k < m ∧ bf k = nI b) ∧ (∀ i j, i < j → j < m → (gf i).toInt ≤ (gf j).toInt) ∧ ∀ i j, i < m → j < m → bf i = bf j → i = j
theorem TrS_skip {z : Nat} {on : Nat → Prop} {ff : Nat → Int32} {wg wt m : Nat} {bf gf ef : Nat → Int32} (h : TrS z on ff wg wt m bf gf ef) (hn : ¬ on z) : TrS (z + 1) on ff wg wt m bf gf ef := by
  obtain ⟨h1, h2, h3, h4, h5⟩ := h
  refine ⟨by omega, fun k hk => ?_, fun b hb ho => ?_, h4, h5⟩
  · obtain ⟨b, hb, r⟩ := h2 k hk
    exact ⟨b, by omega, r⟩
  · by_cases hbz : b = z
    · subst hbz; exact absurd ho hn
    · exact h3 b (by omega) ho
theorem TrS_add {z : Nat} (hz : z < 48) {on : Nat → Prop} {ff : Nat → Int32} {wg wt m : Nat} {bf gf ef : Nat → Int32} (h : TrS z on ff wg wt m bf gf ef) (ho : on z) : ∃ B G E, g_X2_add (nI m) bf gf ef (nI z) (ff (11 * z + wg)) (ff (11 * z + wt)) = (nI (m + 1), B, G, E) ∧ TrS (z + 1) on ff wg wt (m + 1) B G E := by
  obtain ⟨h1, h2, h3, h4, h5⟩ := h
  obtain ⟨q, hq, hq1, hq2, B, G, E, he, hB⟩ := add_at (m := m) (by omega) bf gf ef (nI z) (ff (11 * z + wg)) (ff (11 * z + wt))
  have hne : ∀ k, k < m → bf k ≠ nI z := fun k hk hc => by
    obtain ⟨b, hb, -, e, -⟩ := h2 k hk
    rw [e, nI_eq (by omega) (by omega)] at hc
    omega
  have hlow : ∀ k, k < q → (gf k).toInt ≤ (ff (11 * z + wg)).toInt := fun k hk => by
    rcases hq1 with h0 | h0
    · omega
    · by_cases hkq : k = q - 1
      · rw [hkq]; exact h0
      · exact Int.le_trans (h4 k (q - 1) (by omega) (by omega)) h0
  refine ⟨B, G, E, he, by omega, fun k hk => ?_, fun b hb hob => ?_, fun i j hij hj => ?_, fun i j hi hj hbb => ?_⟩
  · obtain ⟨b1, b2, b3⟩ := hB k (by omega)
    rw [b1, b2, b3]
    by_cases c1 : k < q
    · rw [ins_lt c1, ins_lt c1, ins_lt c1]
      obtain ⟨b, hb, r⟩ := h2 k (by omega)
      exact ⟨b, by omega, r⟩
    · by_cases c2 : k = q
      · subst c2
        rw [ins_eq, ins_eq, ins_eq]
        exact ⟨z, by omega, ho, rfl, rfl, rfl⟩
      · rw [ins_gt (by omega), ins_gt (by omega), ins_gt (by omega)]
        obtain ⟨b, hb, r⟩ := h2 (k - 1) (by omega)
        exact ⟨b, by omega, r⟩
  · by_cases hbz : b = z
    · subst hbz
      exact ⟨q, by omega, by rw [(hB q hq).1, ins_eq]⟩
    · obtain ⟨k, hk, e⟩ := h3 b (by omega) hob
      by_cases c1 : k < q
      · exact ⟨k, by omega, by rw [(hB k (by omega)).1, ins_lt c1]; exact e⟩
      · exact ⟨k + 1, by omega, by rw [(hB (k + 1) (by omega)).1, ins_gt (by omega)]; exact e⟩
  · rw [(hB i (by omega)).2.1, (hB j (by omega)).2.1]
    by_cases c1 : i < q
    · rw [ins_lt c1]
      by_cases c2 : j < q
      · rw [ins_lt c2]; exact h4 i j hij (by omega)
      · by_cases c3 : j = q
        · subst c3; rw [ins_eq]; exact hlow i c1
        · rw [ins_gt (by omega)]
          have := hlow i c1
          have := hq2 (j - 1) (by omega) (by omega)
          omega
    · by_cases c2 : i = q
      · subst c2
        rw [ins_eq, ins_gt (by omega)]
        have := hq2 (j - 1) (by omega) (by omega)
        omega
      · rw [ins_gt (by omega), ins_gt (by omega)]
        exact h4 (i - 1) (j - 1) (by omega) (by omega)
  · rw [(hB i (by omega)).1, (hB j (by omega)).1] at hbb
    rcases Nat.lt_trichotomy i q with c1 | c1 | c1 <;> rcases Nat.lt_trichotomy j q with c2 | c2 | c2
    · rw [ins_lt c1, ins_lt c2] at hbb; exact h5 i j (by omega) (by omega) hbb
    · subst c2; rw [ins_lt c1, ins_eq] at hbb; exact absurd hbb (hne i (by omega))
    · rw [ins_lt c1, ins_gt c2] at hbb; have := h5 i (j - 1) (by omega) (by omega) hbb; omega
    · subst c1; rw [ins_lt c2, ins_eq] at hbb; exact absurd hbb.symm (hne j (by omega))
    · omega
    · subst c1; rw [ins_gt c2, ins_eq] at hbb; exact absurd hbb.symm (hne (j - 1) (by omega))
    · rw [ins_lt c2, ins_gt c1] at hbb; have := h5 (i - 1) j (by omega) (by omega) hbb; omega
    · subst c2; rw [ins_gt c1, ins_eq] at hbb; exact absurd hbb (hne (i - 1) (by omega))
    · rw [ins_gt c1, ins_gt c2] at hbb; have := h5 (i - 1) (j - 1) (by omega) (by omega) hbb; omega
abbrev onC (ff : Nat → Int32) (x1 x2 : Int32) (b : Nat) : Prop := ff (11 * b + 7) = x2 ∧ ff (11 * b + 0) = x1
abbrev onL (ff : Nat → Int32) (x : Int32) (b : Nat) : Prop := ff (11 * b + 10) = x
theorem showC_L {z : Nat} (hz : z ≤ 48) (ff : Nat → Int32) (x1 x2 : Int32) : ∀ (r k n m : Nat) (bf gf ef : Nat → Int32), k + r = z → r < n → TrS k (onC ff x1 x2) ff 8 9 m bf gf ef → ∃ m' B G E, g_X0_showColour_L7 (nI z) ff x1 x2 n (nI k) (nI m) bf gf ef = (nI m', B, G, E) ∧ TrS z (onC ff x1 x2) ff 8 9 m' B G E := by
  intro r
  induction r with
  | zero =>
    intro k n m bf gf ef hk hn h
    obtain ⟨n, rfl⟩ : ∃ j, n = j + 1 := ⟨n - 1, by omega⟩
    obtain rfl : k = z := by omega
    exact ⟨m, bf, gf, ef, by rw [g_X0_showColour_L7, if_pos (nI_le (by omega) (by omega))], h⟩
  | succ r ih =>
    intro k n m bf gf ef hk hn h
    obtain ⟨n, rfl⟩ : ∃ j, n = j + 1 := ⟨n - 1, by omega⟩
    have f7 : g_X0_fact ff (nI k) 7 = ff (11 * k + 7) := fact_at (w := 7) (by omega) (by omega)
    have f0 : g_X0_fact ff (nI k) 0 = ff (11 * k + 0) := fact_at (w := 0) (by omega) (by omega)
    have f8 : g_X0_fact ff (nI k) 8 = ff (11 * k + 8) := fact_at (w := 8) (by omega) (by omega)
    have f9 : g_X0_fact ff (nI k) 9 = ff (11 * k + 9) := fact_at (w := 9) (by omega) (by omega)
    rw [g_X0_showColour_L7, if_neg (nI_nle' (by omega) (by omega)), f7, f0, f8, f9, nI_1]
    by_cases c1 : ff (11 * k + 7) = x2
    · by_cases c2 : ff (11 * k + 0) = x1
      · obtain ⟨B, G, E, e, hT⟩ := TrS_add (by omega) h (And.intro c1 c2)
        rw [if_pos c1, if_pos c2, e]
        exact ih (k + 1) n (m + 1) B G E (by omega) (by omega) hT
      · rw [if_pos c1, if_neg c2]
        exact ih (k + 1) n m bf gf ef (by omega) (by omega) (TrS_skip h (fun hh => c2 hh.2))
    · rw [if_neg c1]
      exact ih (k + 1) n m bf gf ef (by omega) (by omega) (TrS_skip h (fun hh => c1 hh.1))
theorem showL_L {z : Nat} (hz : z ≤ 48) (ff : Nat → Int32) (x1 : Int32) : ∀ (r k n m : Nat) (bf gf ef : Nat → Int32), k + r = z → r < n → TrS k (onL ff x1) ff 5 4 m bf gf ef → ∃ m' B G E, g_X0_showLine_L6 (nI z) ff x1 n (nI k) (nI m) bf gf ef = (nI m', B, G, E) ∧ TrS z (onL ff x1) ff 5 4 m' B G E := by
  intro r
  induction r with
  | zero =>
    intro k n m bf gf ef hk hn h
    obtain ⟨n, rfl⟩ : ∃ j, n = j + 1 := ⟨n - 1, by omega⟩
    obtain rfl : k = z := by omega
    exact ⟨m, bf, gf, ef, by rw [g_X0_showLine_L6, if_pos (nI_le (by omega) (by omega))], h⟩
  | succ r ih =>
    intro k n m bf gf ef hk hn h
    obtain ⟨n, rfl⟩ : ∃ j, n = j + 1 := ⟨n - 1, by omega⟩
    have f10 : g_X0_fact ff (nI k) 10 = ff (11 * k + 10) := fact_at (w := 10) (by omega) (by omega)
    have f5 : g_X0_fact ff (nI k) 5 = ff (11 * k + 5) := fact_at (w := 5) (by omega) (by omega)
    have f4 : g_X0_fact ff (nI k) 4 = ff (11 * k + 4) := fact_at (w := 4) (by omega) (by omega)
    rw [g_X0_showLine_L6, if_neg (nI_nle' (by omega) (by omega)), f10, f5, f4, nI_1]
    by_cases c1 : ff (11 * k + 10) = x1
    · obtain ⟨B, G, E, e, hT⟩ := TrS_add (by omega) h c1
      rw [if_pos c1, e]
      exact ih (k + 1) n (m + 1) B G E (by omega) (by omega) hT
    · rw [if_neg c1]
      exact ih (k + 1) n m bf gf ef (by omega) (by omega) (TrS_skip h c1)
theorem TrS_0 {on : Nat → Prop} {ff : Nat → Int32} {wg wt : Nat} {bf gf ef : Nat → Int32} : TrS 0 on ff wg wt 0 bf gf ef := ⟨by omega, fun k hk => by omega, fun b hb => by omega, fun i j _ hj => by omega, fun i j hi => by omega⟩
theorem showC {z : Nat} (hz : z ≤ 48) (ff bf gf ef : Nat → Int32) (x1 x2 : Int32) : ∃ m B G E, g_X0_showColour (nI z) ff bf gf ef x1 x2 = (nI m, B, G, E) ∧ TrS z (onC ff x1 x2) ff 8 9 m B G E := by
  unfold g_X0_showColour
  exact showC_L hz ff x1 x2 z 0 _ 0 bf gf ef (by omega) (by rw [tI z (by omega), show (0 : Int32).toInt = 0 from rfl]; omega) TrS_0
theorem showL {z : Nat} (hz : z ≤ 48) (ff bf gf ef : Nat → Int32) (x1 : Int32) : ∃ m B G E, g_X0_showLine (nI z) ff bf gf ef x1 = (nI m, B, G, E) ∧ TrS z (onL ff x1) ff 5 4 m B G E := by
  unfold g_X0_showLine
  exact showL_L hz ff x1 z 0 _ 0 bf gf ef (by omega) (by rw [tI z (by omega), show (0 : Int32).toInt = 0 from rfl]; omega) TrS_0
