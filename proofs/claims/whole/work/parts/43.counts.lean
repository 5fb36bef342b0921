/-! ===== counts ===== -/
/-- how many of k, k + 1, .. (m of them) have p -/
def cn (p : Nat → Bool) : Nat → Nat → Nat
  | _, 0 => 0
  | k, m + 1 => (if p k then 1 else 0) + cn p (k + 1) m
theorem cn_le (p : Nat → Bool) : ∀ m k, cn p k m ≤ m := by
  intro m
  induction m with
  | zero => intro k; exact Nat.le_refl _
  | succ m ih => intro k; have := ih (k + 1); simp only [cn]; split <;> omega
theorem told_nat {T : Nat} {now told : Int32} {rf lf ff : Nat → Int32} (hi : Inv T now told rf lf ff) : ∃ z : Nat, z ≤ 48 ∧ told = nI z ∧ told.toInt = (z : Int) := by
  obtain ⟨z, hz, e⟩ := nat_of (n := 49) hi.2.1.1 (by have := hi.2.1.2; omega)
  exact ⟨z, by omega, e, by rw [e, tI z (by omega)]⟩
theorem nI_nle' {a b : Nat} (h : a < b) (hb : b < 2147483648) : ¬ nI b ≤ nI a := nI_ge h hb
theorem where_L {z : Nat} (hz : z ≤ 48) (ff : Nat → Int32) {w : Nat} (hw : w ≤ 10) (x : Int32) : ∀ (m k a n : Nat), k + m = z → m < n → g_X0_burstsWhere_L5 (nI z) ff (nI w) x n (nI a) (nI k) = nI (a + cn (fun b => decide (ff (11 * b + w) = x)) k m) := by
  intro m
  induction m with
  | zero =>
    intro k a n hk hn
    obtain ⟨n, rfl⟩ : ∃ j, n = j + 1 := ⟨n - 1, by omega⟩
    rw [g_X0_burstsWhere_L5, if_pos (nI_le (by omega) (by omega))]
    rfl
  | succ m ih =>
    intro k a n hk hn
    obtain ⟨n, rfl⟩ : ∃ j, n = j + 1 := ⟨n - 1, by omega⟩
    rw [g_X0_burstsWhere_L5, if_neg (nI_nle' (by omega) (by omega)), fact_at (by omega) hw, nI_1, nI_1]
    by_cases h : ff (11 * k + w) = x
    · rw [if_pos h, ih (k + 1) (a + 1) n (by omega) (by omega)]
      simp only [cn, h, decide_true, if_true]
      congr 1; omega
    · rw [if_neg h, ih (k + 1) a n (by omega) (by omega)]
      simp only [cn, h, decide_false]
      congr 1; simp
theorem where_at {z : Nat} (hz : z ≤ 48) (ff : Nat → Int32) {w : Nat} (hw : w ≤ 10) (x : Int32) : g_X0_burstsWhere (nI z) ff (nI w) x = nI (cn (fun b => decide (ff (11 * b + w) = x)) 0 z) := by
  unfold g_X0_burstsWhere
  have h := where_L hz ff hw x z 0 0 (((nI z).toInt - ((0 : Int32)).toInt).toNat + 1) (by omega) (by rw [tI z (by omega), show (0 : Int32).toInt = 0 from rfl]; omega)
  rw [Nat.zero_add] at h
  exact h
theorem ofFate_L {now : Int32} {rf lf ff sf : Nat → Int32} {z : Nat} (hz : z ≤ 48) (he : eqS now (nI z) rf lf ff sf) (x : Int32) : ∀ (m k a n : Nat), k + m = z → m < n → g_X4_ofFate_L4 sf x n (nI a) (nI k) = nI (a + cn (fun b => decide (ff (11 * b + 6) = x)) k m) := by
  have h10 : sf 10 = nI z := he.2.2.2.1
  intro m
  induction m with
  | zero =>
    intro k a n hk hn
    obtain ⟨n, rfl⟩ : ∃ j, n = j + 1 := ⟨n - 1, by omega⟩
    rw [g_X4_ofFate_L4, h10, if_pos (nI_le (by omega) (by omega))]
    rfl
  | succ m ih =>
    intro k a n hk hn
    obtain ⟨n, rfl⟩ : ∃ j, n = j + 1 := ⟨n - 1, by omega⟩
    have e6 : g_X4_of sf (nI k) 6 = ff (11 * k + 6) := of_at (w := 6) he (by omega) (by omega)
    rw [g_X4_ofFate_L4, h10, if_neg (nI_nle' (by omega) (by omega)), e6, nI_1, nI_1, Int32.add_zero]
    by_cases h : ff (11 * k + 6) = x
    · rw [if_pos h, ih (k + 1) (a + 1) n (by omega) (by omega)]
      simp only [cn, h, decide_true, if_true]
      congr 1; omega
    · rw [if_neg h, ih (k + 1) a n (by omega) (by omega)]
      simp only [cn, h, decide_false]
      congr 1; simp
theorem ofFate_at {now : Int32} {rf lf ff sf : Nat → Int32} {z : Nat} (hz : z ≤ 48) (he : eqS now (nI z) rf lf ff sf) (x : Int32) : g_X4_ofFate sf x = nI (cn (fun b => decide (ff (11 * b + 6) = x)) 0 z) := by
  have h10 : sf 10 = nI z := he.2.2.2.1
  unfold g_X4_ofFate
  have h := ofFate_L hz he x z 0 0 (((sf 10).toInt - ((0 : Int32)).toInt).toNat + 1) (by omega) (by rw [h10, tI z (by omega), show (0 : Int32).toInt = 0 from rfl]; omega)
  rw [Nat.zero_add] at h
  exact h
theorem cn_4 {p q r s : Nat → Bool} : ∀ (m k : Nat), (∀ b, k ≤ b → b < k + m → (if p b then 1 else 0) + (if q b then 1 else 0) + (if r b then 1 else 0) + (if s b then 1 else 0) = 1) → cn p k m + cn q k m + cn r k m + cn s k m = m := by
  intro m
  induction m with
  | zero => intros; rfl
  | succ m ih =>
    intro k h
    have h1 := h k (by omega) (by omega)
    have h2 := ih (k + 1) (fun b hb1 hb2 => h b (by omega) (by omega))
    simp only [cn]
    omega
theorem cn_2 {p q : Nat → Bool} : ∀ (m k : Nat), (∀ b, k ≤ b → b < k + m → (if p b then 1 else 0) + (if q b then 1 else 0) = 1) → cn p k m + cn q k m = m := by
  intro m
  induction m with
  | zero => intros; rfl
  | succ m ih =>
    intro k h
    have h1 := h k (by omega) (by omega)
    have h2 := ih (k + 1) (fun b hb1 hb2 => h b (by omega) (by omega))
    simp only [cn]
    omega
theorem i_eq {x : Int32} {k : Int} {y : Int32} (e : y.toInt = k) : x = y ↔ x.toInt = k := by
  rw [← e, Int32.toInt_inj]
theorem core_count {T : Nat} {kp now told : Int32} {rf lf ff sf kf : Nat → Int32} (he : eqS now told rf lf ff sf) (hi : Inv T now told rf lf ff) (hk : kpOk kp kf) (x1 : Int32) : g_X3_count kp now told rf lf ff x1 = g_X4_count sf kf x1 := by
  obtain ⟨z, hz, ez, -⟩ := told_nat hi
  have hbu := hi.2.2.2.2.1
  subst ez
  rw [tI z (by omega)] at hbu
  have e2 : (2 : Int32).toInt = 2 := rfl
  have e6 : (6 : Int32).toInt = 6 := rfl
  have e10 : (10 : Int32).toInt = 10 := rfl
  have e15 : (15 : Int32).toInt = 15 := rfl
  have e20 : (20 : Int32).toInt = 20 := rfl
  have e22 : (22 : Int32).toInt = 22 := rfl
  have h9 : sf 9 = now := he.2.2.1
  have h10 : sf 10 = nI z := he.2.2.2.1
  unfold g_X3_count g_X4_count
  by_cases c1 : 2 ≤ x1.toInt ∧ x1.toInt ≤ 6
  · rw [if_neg (within_iff.mpr (by omega)), if_neg (in_iff.mpr (by omega))]
    unfold g_X0_burstsOfFate
    rw [show (6 : Int32) = nI 6 from rfl, where_at hz ff (by omega), ofFate_at hz he]
  · rw [if_pos (within_no (by omega)), if_pos (in_no (by omega))]
    by_cases c2 : 10 ≤ x1.toInt ∧ x1.toInt ≤ 15
    · rw [if_neg (within_iff.mpr (by omega)), if_neg (in_iff.mpr (by omega))]
      have es : (x1 - 10).toInt = x1.toInt - 10 := by rw [i32_sub (by omega) (by omega), e10]
      obtain ⟨j, hj, ej⟩ := nat_of (x := x1 - 10) (n := 6) (by omega) (by omega)
      unfold g_X0_ruleNow
      rw [ej, if_neg (below_iff.mpr (by rw [tI j (by omega), e6]; omega)), clmp_of (tI j (by omega))]
      exact (he.1 j hj).symm
    · rw [if_pos (within_no (by omega)), if_pos (in_no (by omega))]
      by_cases c3 : 20 ≤ x1.toInt ∧ x1.toInt ≤ 22
      · rw [if_neg (within_iff.mpr (by omega)), if_neg (in_iff.mpr (by omega))]
        have es : (x1 - 20).toInt = x1.toInt - 20 := by rw [i32_sub (by omega) (by omega), e20]
        have ea : (6 + x1).toInt = 6 + x1.toInt := by rw [i32_add (by omega) (by omega), e6]
        have es2 : ((6 + x1) - 20).toInt = 6 + x1.toInt - 20 := by rw [i32_sub (by omega) (by omega), ea, e20]
        obtain ⟨j, hj, ej⟩ := nat_of (x := x1 - 20) (n := 3) (by omega) (by omega)
        have ej2 : (x1 - 20).toInt = (j : Int) := by rw [ej, tI j (by omega)]
        unfold g_X0_lengthNow
        rw [ej, if_neg (below_iff.mpr (by rw [tI j (by omega), show (3 : Int32).toInt = 3 from rfl]; omega)), clmp_of (tI j (by omega)), clmp_of (x := (6 + x1) - 20) (j := 6 + j) (by omega)]
        exact (he.2.1 j hj).symm
      · rw [if_pos (within_no (by omega)), if_pos (in_no (by omega)), h9, h10]
        have k7 : g_X0_burstsWith (nI z) ff 7 = ((g_X4_ofFate sf 0) + (g_X4_ofFate sf 1)) + (g_X4_ofFate sf 2) := by
          unfold g_X0_burstsWith
          rw [show (7 : Int32) = nI 7 from rfl, where_at hz ff (by omega), ofFate_at hz he, ofFate_at hz he, ofFate_at hz he, nI_add, nI_add]
          have hc := cn_4 (p := fun b => decide (ff (11 * b + 7) = -6)) (q := fun b => decide (ff (11 * b + 6) = 0)) (r := fun b => decide (ff (11 * b + 6) = 1)) (s := fun b => decide (ff (11 * b + 6) = 2)) z 0 (fun b _ hb => by
            obtain ⟨-, -, -, -, g4, g5, g6, -⟩ := hbu b (by omega)
            unfold fI at g4 g5 g6
            simp only [i_eq (k := -6) (y := (-6 : Int32)) rfl, i_eq (k := 0) (y := (0 : Int32)) rfl, i_eq (k := 1) (y := (1 : Int32)) rfl, i_eq (k := 2) (y := (2 : Int32)) rfl, decide_eq_true_eq]
            by_cases h2 : (ff (11 * b + 6)).toInt ≤ 2
            · have := (g5 h2).1
              split <;> split <;> split <;> split <;> omega
            · have := (g6 h2).1
              split <;> split <;> split <;> split <;> omega)
          rw [pk_sub (by omega)]
          congr 1; omega
        have k8 : g_X0_burstsWith (nI z) ff 10 = g_X4_ofFate sf 1 := by
          unfold g_X0_burstsWith
          rw [show (10 : Int32) = nI 10 from rfl, where_at hz ff (by omega), ofFate_at hz he]
          have hc := cn_2 (p := fun b => decide (ff (11 * b + 10) = -6)) (q := fun b => decide (ff (11 * b + 6) = 1)) z 0 (fun b _ hb => by
            obtain ⟨-, -, -, -, g4, -, -, g7, g8⟩ := hbu b (by omega)
            unfold fI at g4 g7 g8
            simp only [i_eq (k := -6) (y := (-6 : Int32)) rfl, i_eq (k := 1) (y := (1 : Int32)) rfl, decide_eq_true_eq]
            by_cases h2 : (ff (11 * b + 6)).toInt = 1
            · have := g7 h2
              (repeat' split) <;> omega
            · have := g8 h2
              (repeat' split) <;> omega)
          rw [pk_sub (by omega)]
          congr 1; omega
        rw [k7, k8]
        have k9 : kp = (if (kf 0) = 0 then (if (kf 1) = 0 then (0 + 0) else (0 + 2)) else (if (kf 1) = 0 then (1 + 0) else (1 + 2))) := by
          rcases hk with ⟨a, b, c⟩ | ⟨a, b, c⟩ | ⟨a, b, c⟩ | ⟨a, b, c⟩ <;> rw [a, b, c] <;> decide
        rw [← k9]
