/-! ===== tally ===== -/
theorem gcd_step {a b : Nat} (hb : 0 < b) (hr : 0 < a % b) {s : Nat} (h : b < 2 ^ (s + 1)) : b % (a % b) < 2 ^ s := by
  have h1 : a % b < b := Nat.mod_lt a hb
  have h2 : b % (a % b) < a % b := Nat.mod_lt b hr
  have h3 := Nat.div_add_mod b (a % b)
  have h4 : 1 ≤ b / (a % b) := (Nat.one_le_div_iff hr).mpr (Nat.le_of_lt h1)
  have h5 : a % b ≤ (a % b) * (b / (a % b)) := Nat.le_mul_of_pos_right _ h4
  rw [Nat.pow_succ] at h
  omega
theorem gcdC {lim : Int32} (f : Nat → Int32 → Int32 → Int32 → Int32) (hf : ∀ n x y k, f (n + 1) x y k = if lim ≤ k then x else (if y = 0 then x else f n y (x - x / y * y) (k + 1))) (hlim : lim.toInt < 1000) : ∀ (s a b k n : Nat), b < 2 ^ s → a < 100000 → b < 100000 → ((k + (2 * s + 1) : Nat) : Int) ≤ lim.toInt → 2 * s + 1 < n → f n (nI a) (nI b) (nI k) = nI (Nat.gcd a b) := by
  intro s
  induction s with
  | zero =>
    intro a b k n hb ha hb2 hk hn
    obtain rfl : b = 0 := by simpa using hb
    obtain ⟨n, rfl⟩ : ∃ j, n = j + 1 := ⟨n - 1, by omega⟩
    rw [hf, if_neg (by rw [Int32.le_iff_toInt_le, tI k (by omega)]; omega), if_pos nI_0, Nat.gcd_zero_right]
  | succ s ih =>
    intro a b k n hb ha hb2 hk hn
    obtain ⟨n, rfl⟩ : ∃ j, n = j + 1 := ⟨n - 1, by omega⟩
    rw [hf, if_neg (by rw [Int32.le_iff_toInt_le, tI k (by omega)]; omega)]
    by_cases h0 : b = 0
    · subst h0
      rw [if_pos nI_0, Nat.gcd_zero_right]
    · rw [if_neg (nI_ne0 (by omega) (by omega)), pk_rem (by omega) (by omega) (by omega), nI_1]
      have hgb : Nat.gcd a b = Nat.gcd b (a % b) := by rw [Nat.gcd_comm a b, Nat.gcd_rec b a, Nat.gcd_comm]
      have hlt : a % b < b := Nat.mod_lt a (by omega)
      obtain ⟨n, rfl⟩ : ∃ j, n = j + 1 := ⟨n - 1, by omega⟩
      rw [hgb, hf, if_neg (by rw [Int32.le_iff_toInt_le, tI (k + 1) (by omega)]; omega)]
      by_cases h1 : a % b = 0
      · rw [h1, if_pos nI_0, Nat.gcd_zero_right]
      · rw [if_neg (nI_ne0 (by omega) (by omega)), pk_rem (by omega) (by omega) (by omega), nI_1]
        have hgb2 : Nat.gcd b (a % b) = Nat.gcd (a % b) (b % (a % b)) := by rw [Nat.gcd_comm b (a % b), Nat.gcd_rec (a % b) b, Nat.gcd_comm]
        have hlt2 : b % (a % b) < a % b := Nat.mod_lt b (by omega)
        rw [hgb2]
        exact ih (a % b) (b % (a % b)) (k + 1 + 1) n (gcd_step (by omega) (by omega) hb) (by omega) (by omega) (by omega) (by omega)
theorem cd_at {a b : Nat} (ha : a < 4096) (hb : b < 4096) : g_X3_commonDivisor (nI a) (nI b) = nI (Nat.gcd a b) := by
  unfold g_X3_commonDivisor
  exact gcdC (lim := 64) g_X3_commonDivisor_L7 (fun n x y k => by rw [g_X3_commonDivisor_L7]) (by decide) 12 a b 0 _ hb (by omega) (by omega) (by decide) (by decide)
theorem cm_at {a b : Nat} (ha : a < 4096) (hb : b < 4096) : g_X4_common (nI a) (nI b) = nI (Nat.gcd a b) := by
  unfold g_X4_common
  exact gcdC (lim := 100) g_X4_common_L7 (fun n x y k => by rw [g_X4_common_L7]) (by decide) 12 a b 0 _ hb (by omega) (by omega) (by decide) (by decide)
/-- the sum of field w over the tallied of k, k + 1, .. (m of them) -/
def sm (ff : Nat → Int32) (x : Int32) (w : Nat) : Nat → Nat → Int
  | _, 0 => 0
  | k, m + 1 => (if ff (11 * k + 2) = x ∧ ¬ ff (11 * k + 6) = 4 then (ff (11 * k + w)).toInt else 0) + sm ff x w (k + 1) m
theorem sm_le {ff : Nat → Int32} {T : Nat} (x : Int32) : ∀ (m k : Nat), (∀ b, k ≤ b → b < k + m → buOk T ff b) → 0 ≤ sm ff x 9 k m ∧ sm ff x 9 k m ≤ sm ff x 4 k m ∧ sm ff x 4 k m ≤ 60 * m := by
  intro m
  induction m with
  | zero => intros; simp [sm]
  | succ m ih =>
    intro k h
    have h1 := ih (k + 1) (fun b h1 h2 => h b (by omega) (by omega))
    obtain ⟨-, -, g2, -, g4, g5, g6, -⟩ := h k (by omega) (by omega)
    unfold fI at g2 g4 g5 g6
    simp only [sm]
    by_cases h2 : (ff (11 * k + 6)).toInt ≤ 2
    · have := (g5 h2).2.2
      split <;> omega
    · have := (g6 h2).2.2
      split <;> omega
theorem tallied_at {ff : Nat → Int32} {k : Nat} (hk : k < 48) (x : Int32) : g_X0_isTallied ff (nI k) x = if ff (11 * k + 2) = x ∧ ¬ ff (11 * k + 6) = 4 then 1 else 0 := by
  have e2 : g_X0_fact ff (nI k) 2 = ff (11 * k + 2) := fact_at (w := 2) hk (by omega)
  have e6 : g_X0_fact ff (nI k) 6 = ff (11 * k + 6) := fact_at (w := 6) hk (by omega)
  unfold g_X0_isTallied
  rw [e2, e6]
  by_cases h1 : ff (11 * k + 2) = x
  · rw [if_pos h1]
    by_cases h2 : ff (11 * k + 6) = 4
    · rw [if_pos h2, if_neg (by simp [h2])]
    · rw [if_neg h2, if_pos ⟨h1, h2⟩]
  · rw [if_neg h1, if_neg (by simp [h1])]
theorem sum_L {z : Nat} (hz : z ≤ 48) {ff : Nat → Int32} {T : Nat} (hbu : ∀ b, b < z → buOk T ff b) (x : Int32) {w : Nat} (hw : w = 4 ∨ w = 9) : ∀ (m k n : Nat) (a : Int32), k + m = z → m < n → 0 ≤ a.toInt → a.toInt ≤ 60 * k → (g_X0_sumOfClass_L5 (nI z) ff x (nI w) n a (nI k)).toInt = a.toInt + sm ff x w k m := by
  intro m
  induction m with
  | zero =>
    intro k n a hk hn h1 h2
    obtain ⟨n, rfl⟩ : ∃ j, n = j + 1 := ⟨n - 1, by omega⟩
    rw [g_X0_sumOfClass_L5, if_pos (nI_le (by omega) (by omega))]
    simp [sm]
  | succ m ih =>
    intro k n a hk hn h1 h2
    obtain ⟨n, rfl⟩ : ∃ j, n = j + 1 := ⟨n - 1, by omega⟩
    have ew : g_X0_fact ff (nI k) (nI w) = ff (11 * k + w) := fact_at (by omega) (by omega)
    rw [g_X0_sumOfClass_L5, if_neg (nI_nle' (by omega) (by omega)), ew, nI_1, tallied_at (by omega)]
    have hb := hbu k (by omega)
    obtain ⟨-, -, g2, -, g4, g5, g6, -⟩ := hb
    unfold fI at g2 g4 g5 g6
    have hv : 0 ≤ (ff (11 * k + w)).toInt ∧ (ff (11 * k + w)).toInt ≤ 60 := by
      rcases hw with rfl | rfl
      · omega
      · by_cases h2 : (ff (11 * k + 6)).toInt ≤ 2
        · have := (g5 h2).2.2; omega
        · have := (g6 h2).2.2; omega
    by_cases c : ff (11 * k + 2) = x ∧ ¬ ff (11 * k + 6) = 4
    · simp only [sm]
      rw [if_pos c, if_neg (by decide), if_pos c]
      have ea : (a + ff (11 * k + w)).toInt = a.toInt + (ff (11 * k + w)).toInt := i32_add (by omega) (by omega)
      rw [ih (k + 1) n _ (by omega) (by omega) (by omega) (by omega), ea]
      omega
    · simp only [sm]
      rw [if_neg c, if_pos rfl, if_neg c, ih (k + 1) n a (by omega) (by omega) h1 (by omega)]
      omega
theorem sum_at {z : Nat} (hz : z ≤ 48) {ff : Nat → Int32} {T : Nat} (hbu : ∀ b, b < z → buOk T ff b) (x : Int32) {w : Nat} (hw : w = 4 ∨ w = 9) : (g_X0_sumOfClass (nI z) ff x (nI w)).toInt = sm ff x w 0 z := by
  unfold g_X0_sumOfClass
  have h := sum_L hz hbu x hw z 0 (((nI z).toInt - ((0 : Int32)).toInt).toNat + 1) 0 (by omega) (by rw [tI z (by omega), show (0 : Int32).toInt = 0 from rfl]; omega) (by decide) (by decide)
  rw [show (0 : Int32).toInt = 0 from rfl, Int.zero_add] at h
  exact h
def tfin (x2 a b c d : Int32) : Int32 := (if 4 ≤ x2 then (if b = 0 then (-6) else (if x2 = 4 then ((b - c) / (g_X4_common (b - c) b)) else (b / (g_X4_common (b - c) b)))) else (if x2 = 0 then a else (if x2 = 1 then b else (if x2 = 2 then c else d))))
theorem tally_L {now : Int32} {rf lf ff sf : Nat → Int32} {z : Nat} (hz : z ≤ 48) (he : eqS now (nI z) rf lf ff sf) (x1 x2 : Int32) : ∀ (m k n : Nat) (v3 v4 v5 v6 : Int32), k + m = z → m < n → g_X4_tally_L37 sf x1 x2 n v3 v4 v5 v6 (nI k) = tfin x2 (g_X0_burstsOfClass_L4 (nI z) ff x1 n v3 (nI k)) (g_X0_sumOfClass_L5 (nI z) ff x1 4 n v4 (nI k)) (g_X0_sumOfClass_L5 (nI z) ff x1 9 n v5 (nI k)) (g_X0_lostOfClass_L4 (nI z) ff x1 n v6 (nI k)) := by
  have h10 : sf 10 = nI z := he.2.2.2.1
  intro m
  induction m with
  | zero =>
    intro k n v3 v4 v5 v6 hk hn
    obtain ⟨n, rfl⟩ : ∃ j, n = j + 1 := ⟨n - 1, by omega⟩
    have c := nI_le (a := z) (b := k) (by omega) (by omega)
    rw [g_X4_tally_L37, h10, if_pos c, g_X0_burstsOfClass_L4, if_pos c, g_X0_sumOfClass_L5, if_pos c, g_X0_sumOfClass_L5, if_pos c, g_X0_lostOfClass_L4, if_pos c]
    rfl
  | succ m ih =>
    intro k n v3 v4 v5 v6 hk hn
    obtain ⟨n, rfl⟩ : ∃ j, n = j + 1 := ⟨n - 1, by omega⟩
    have c := nI_nle' (a := k) (b := z) (by omega) (by omega)
    have o2 : g_X4_of sf (nI k) 2 = ff (11 * k + 2) := of_at (w := 2) he (by omega) (by omega)
    have o4 : g_X4_of sf (nI k) 4 = ff (11 * k + 4) := of_at (w := 4) he (by omega) (by omega)
    have o6 : g_X4_of sf (nI k) 6 = ff (11 * k + 6) := of_at (w := 6) he (by omega) (by omega)
    have o9 : g_X4_of sf (nI k) 9 = ff (11 * k + 9) := of_at (w := 9) he (by omega) (by omega)
    have f2 : g_X0_fact ff (nI k) 2 = ff (11 * k + 2) := fact_at (w := 2) (by omega) (by omega)
    have f4 : g_X0_fact ff (nI k) 4 = ff (11 * k + 4) := fact_at (w := 4) (by omega) (by omega)
    have f6 : g_X0_fact ff (nI k) 6 = ff (11 * k + 6) := fact_at (w := 6) (by omega) (by omega)
    have f9 : g_X0_fact ff (nI k) 9 = ff (11 * k + 9) := fact_at (w := 9) (by omega) (by omega)
    rw [g_X4_tally_L37, h10, if_neg c, g_X0_burstsOfClass_L4, if_neg c, g_X0_sumOfClass_L5, if_neg c, g_X0_sumOfClass_L5, if_neg c, g_X0_lostOfClass_L4, if_neg c, o2, o4, o6, o9, f2, f4, f6, f9, nI_1, Int32.add_zero]
    have ht := tallied_at (ff := ff) (k := k) (by omega) x1
    by_cases a1 : ff (11 * k + 2) = x1
    · by_cases a2 : ff (11 * k + 6) = 4
      · have a3 : ¬ ff (11 * k + 6) = 3 := by rw [a2]; decide
        rw [if_neg (fun h => h.2 a2)] at ht
        rw [if_pos a1, if_pos a2, if_pos ht, if_pos ht, if_pos ht, if_pos a1, if_neg a3]
        exact ih (k + 1) n v3 v4 v5 v6 (by omega) (by omega)
      · rw [if_pos (And.intro a1 a2)] at ht
        have hn0 : ¬ g_X0_isTallied ff (nI k) x1 = 0 := by rw [ht]; decide
        rw [if_pos a1, if_neg a2, if_neg hn0, if_neg hn0, if_neg hn0, if_pos a1]
        by_cases a3 : ff (11 * k + 6) = 3
        · rw [if_pos a3, if_pos a3]
          exact ih (k + 1) n _ _ _ _ (by omega) (by omega)
        · rw [if_neg a3, if_neg a3]
          exact ih (k + 1) n _ _ _ _ (by omega) (by omega)
    · rw [if_neg (fun h => a1 h.1)] at ht
      rw [if_neg a1, if_pos ht, if_pos ht, if_pos ht, if_neg a1]
      exact ih (k + 1) n v3 v4 v5 v6 (by omega) (by omega)
theorem tally_at {now : Int32} {rf lf ff sf : Nat → Int32} {z : Nat} (hz : z ≤ 48) (he : eqS now (nI z) rf lf ff sf) (x1 x2 : Int32) : g_X4_tally_L37 sf x1 x2 ((((sf 10)).toInt - ((0 : Int32)).toInt).toNat + 1) 0 0 0 0 0 = tfin x2 (g_X0_burstsOfClass (nI z) ff x1) (g_X0_sumOfClass (nI z) ff x1 4) (g_X0_sumOfClass (nI z) ff x1 9) (g_X0_lostOfClass (nI z) ff x1) := by
  have h10 : sf 10 = nI z := he.2.2.2.1
  unfold g_X0_burstsOfClass g_X0_sumOfClass g_X0_lostOfClass
  rw [h10]
  exact tally_L hz he x1 x2 z 0 _ 0 0 0 0 (by omega) (by rw [tI z (by omega), show (0 : Int32).toInt = 0 from rfl]; omega)
theorem core_tally {T : Nat} {now told : Int32} {rf lf ff sf : Nat → Int32} (he : eqS now told rf lf ff sf) (hi : Inv T now told rf lf ff) (x1 x2 : Int32) : g_X3_tally told ff x1 x2 = g_X4_tally sf x1 x2 := by
  obtain ⟨z, hz, ez, -⟩ := told_nat hi
  have hbu := hi.2.2.2.2.1
  subst ez
  rw [tI z (by omega)] at hbu
  have hbu' : ∀ b, b < z → buOk T ff b := fun b hb => hbu b (by omega)
  have e0 : (0 : Int32).toInt = 0 := rfl
  have e2 : (2 : Int32).toInt = 2 := rfl
  have e3 : (3 : Int32).toInt = 3 := rfl
  have e5 : (5 : Int32).toInt = 5 := rfl
  have h10 : sf 10 = nI z := he.2.2.2.1
  unfold g_X3_tally g_X4_tally
  by_cases c1 : 0 ≤ x1.toInt ∧ x1.toInt < 3
  · rw [if_neg (below_iff.mpr (by omega)), if_neg (in_iff.mpr (by omega))]
    by_cases c2 : 0 ≤ x2.toInt ∧ x2.toInt ≤ 5
    · rw [if_neg (in_iff.mpr (by omega)), tally_at hz he]
      have s4 : (g_X0_sumOfClass (nI z) ff x1 4).toInt = sm ff x1 4 0 z := sum_at hz hbu' x1 (w := 4) (Or.inl rfl)
      have s9 : (g_X0_sumOfClass (nI z) ff x1 9).toInt = sm ff x1 9 0 z := sum_at hz hbu' x1 (w := 9) (Or.inr rfl)
      have hle := sm_le (T := T) (ff := ff) x1 z 0 (fun b _ hb => hbu' b (by omega))
      have part : ∀ y : Int32, g_X3_partLost (nI z) ff x1 y = if g_X0_sumOfClass (nI z) ff x1 4 = 0 then (-6) else (if y = 0 then g_X0_sumOfClass (nI z) ff x1 4 / g_X4_common (g_X0_sumOfClass (nI z) ff x1 4 - g_X0_sumOfClass (nI z) ff x1 9) (g_X0_sumOfClass (nI z) ff x1 4) else (g_X0_sumOfClass (nI z) ff x1 4 - g_X0_sumOfClass (nI z) ff x1 9) / g_X4_common (g_X0_sumOfClass (nI z) ff x1 4 - g_X0_sumOfClass (nI z) ff x1 9) (g_X0_sumOfClass (nI z) ff x1 4)) := by
        intro y
        obtain ⟨a, ha, ea⟩ := nat_of (x := g_X0_sumOfClass (nI z) ff x1 4) (n := 4000) (by omega) (by omega)
        obtain ⟨b, hb, eb⟩ := nat_of (x := g_X0_sumOfClass (nI z) ff x1 9) (n := 4000) (by omega) (by omega)
        have hba : b ≤ a := by
          rw [ea, tI a (by omega)] at s4
          rw [eb, tI b (by omega)] at s9
          omega
        unfold g_X3_partLost
        rw [ea, eb, pk_sub hba, cd_at (by omega) (by omega), cm_at (by omega) (by omega), Nat.gcd_comm (a - b) a]
        by_cases h0 : a = 0
        · subst h0
          rw [if_pos nI_0, if_pos nI_0]
        · have hg : Nat.gcd a (a - b) ≠ 0 := by
            intro h; rw [Nat.gcd_eq_zero_iff] at h; omega
          have hgle : Nat.gcd a (a - b) ≤ a := Nat.gcd_le_left _ (by omega)
          rw [if_neg (nI_ne0 (by omega) (by omega)), if_neg (nI_ne0 (by omega) (by omega)), if_neg (nI_ne0 (by omega) (by omega))]
      unfold tfin
      have hx : x2 = 0 ∨ x2 = 1 ∨ x2 = 2 ∨ x2 = 3 ∨ x2 = 4 ∨ x2 = 5 := by
        obtain ⟨j, hj, rfl⟩ := nat_of (x := x2) (n := 6) (by omega) (by omega)
        rcases (show j = 0 ∨ j = 1 ∨ j = 2 ∨ j = 3 ∨ j = 4 ∨ j = 5 by omega) with rfl | rfl | rfl | rfl | rfl | rfl
        · exact Or.inl rfl
        · exact Or.inr (Or.inl rfl)
        · exact Or.inr (Or.inr (Or.inl rfl))
        · exact Or.inr (Or.inr (Or.inr (Or.inl rfl)))
        · exact Or.inr (Or.inr (Or.inr (Or.inr (Or.inl rfl))))
        · exact Or.inr (Or.inr (Or.inr (Or.inr (Or.inr rfl))))
      have d1 : ¬ (4 : Int32) ≤ 0 := by decide
      have d2 : ¬ (4 : Int32) ≤ 1 := by decide
      have d3 : ¬ (4 : Int32) ≤ 2 := by decide
      have d4 : ¬ (4 : Int32) ≤ 3 := by decide
      have d5 : (4 : Int32) ≤ 4 := by decide
      have d6 : (4 : Int32) ≤ 5 := by decide
      have q1 : ¬ (1 : Int32) = 0 := by decide
      have q2 : ¬ (2 : Int32) = 0 := by decide
      have q3 : ¬ (2 : Int32) = 1 := by decide
      have q4 : ¬ (3 : Int32) = 0 := by decide
      have q5 : ¬ (3 : Int32) = 1 := by decide
      have q6 : ¬ (3 : Int32) = 2 := by decide
      have q7 : ¬ (4 : Int32) = 0 := by decide
      have q8 : ¬ (4 : Int32) = 1 := by decide
      have q9 : ¬ (4 : Int32) = 2 := by decide
      have q10 : ¬ (4 : Int32) = 3 := by decide
      have q11 : ¬ (5 : Int32) = 0 := by decide
      have q12 : ¬ (5 : Int32) = 1 := by decide
      have q13 : ¬ (5 : Int32) = 2 := by decide
      have q14 : ¬ (5 : Int32) = 3 := by decide
      have q15 : ¬ (5 : Int32) = 4 := by decide
      have t0 : (0 : Int32) = 0 := rfl
      rcases hx with rfl | rfl | rfl | rfl | rfl | rfl
      · rw [if_neg d1, if_pos t0, if_pos t0]
      · rw [if_neg d2, if_neg q1, if_pos (rfl : (1 : Int32) = 1), if_neg q1, if_pos (rfl : (1 : Int32) = 1)]
      · rw [if_neg d3, if_neg q2, if_neg q3, if_pos (rfl : (2 : Int32) = 2), if_neg q2, if_neg q3, if_pos (rfl : (2 : Int32) = 2)]
      · rw [if_neg d4, if_neg q4, if_neg q5, if_neg q6, if_pos (rfl : (3 : Int32) = 3), if_neg q4, if_neg q5, if_neg q6]
      · rw [if_pos d5, if_neg q7, if_neg q8, if_neg q9, if_neg q10, if_pos (rfl : (4 : Int32) = 4), if_pos (rfl : (4 : Int32) = 4), part 1, if_neg q1]
      · rw [if_pos d6, if_neg q11, if_neg q12, if_neg q13, if_neg q14, if_neg q15, if_pos (rfl : (5 : Int32) = 5), if_neg q15, part 0, if_pos t0]
    · rw [if_pos (in_no (by omega))]
      have n0 : ¬ x2 = 0 := fun h => c2 (by rw [h]; decide)
      have n1 : ¬ x2 = 1 := fun h => c2 (by rw [h]; decide)
      have n2 : ¬ x2 = 2 := fun h => c2 (by rw [h]; decide)
      have n3 : ¬ x2 = 3 := fun h => c2 (by rw [h]; decide)
      have n4 : ¬ x2 = 4 := fun h => c2 (by rw [h]; decide)
      have n5 : ¬ x2 = 5 := fun h => c2 (by rw [h]; decide)
      rw [if_neg n0, if_neg n1, if_neg n2, if_neg n3, if_neg n4, if_neg n5]
  · rw [if_pos (below_no (by omega)), if_pos (in_no (by omega))]
