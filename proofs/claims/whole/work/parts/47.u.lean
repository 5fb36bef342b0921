/-! ===== the i-th booking ===== -/
def istep (sf : Nat → Int32) (x1 x2 v4 v6 v7 : Int32) : Int32 := if bk_is sf x1 x2 v7 ∧ (v4 < 0 ∨ ¬ g_X4_beginOf sf x1 v7 ≤ g_X4_beginOf sf x1 v4) ∧ (v6 < 0 ∨ ¬ g_X4_beginOf sf x1 v6 ≤ g_X4_beginOf sf x1 v7) then v7 else v6
theorem inner_step (KK : Int32 → Int32 → Int32) (sf : Nat → Int32) (x1 x2 v4 v5 : Int32) (n : Nat) (v6 v7 : Int32) (hc : ¬ sf 10 ≤ v7) : g_X4_bookingAt_L20 KK sf x1 x2 v4 v5 (n + 1) v6 v7 = g_X4_bookingAt_L20 KK sf x1 x2 v4 v5 n (istep sf x1 x2 v4 v6 v7) (v7 + 1) := by
  rw [g_X4_bookingAt_L20, if_neg hc]
  have fin : ∀ (P : Prop) [Decidable P], bk_is sf x1 x2 v7 → (if v4 < 0 then (if v6 < 0 then (g_X4_bookingAt_L20 KK sf x1 x2 v4 v5 n v7 (v7 + 1)) else (if (g_X4_beginOf sf x1 v6) ≤ (g_X4_beginOf sf x1 v7) then (g_X4_bookingAt_L20 KK sf x1 x2 v4 v5 n v6 (v7 + 1)) else (g_X4_bookingAt_L20 KK sf x1 x2 v4 v5 n v7 (v7 + 1)))) else (if (g_X4_beginOf sf x1 v7) ≤ (g_X4_beginOf sf x1 v4) then (g_X4_bookingAt_L20 KK sf x1 x2 v4 v5 n v6 (v7 + 1)) else (if v6 < 0 then (g_X4_bookingAt_L20 KK sf x1 x2 v4 v5 n v7 (v7 + 1)) else (if (g_X4_beginOf sf x1 v6) ≤ (g_X4_beginOf sf x1 v7) then (g_X4_bookingAt_L20 KK sf x1 x2 v4 v5 n v6 (v7 + 1)) else (g_X4_bookingAt_L20 KK sf x1 x2 v4 v5 n v7 (v7 + 1)))))) = g_X4_bookingAt_L20 KK sf x1 x2 v4 v5 n (istep sf x1 x2 v4 v6 v7) (v7 + 1) := by
    intro P _ hb
    unfold istep
    by_cases a1 : v4 < 0
    · rw [if_pos a1]
      by_cases a2 : v6 < 0
      · rw [if_pos a2, if_pos ⟨hb, Or.inl a1, Or.inl a2⟩]
      · rw [if_neg a2]
        by_cases a3 : g_X4_beginOf sf x1 v6 ≤ g_X4_beginOf sf x1 v7
        · rw [if_pos a3, if_neg (fun h => h.2.2.elim a2 (fun h => h a3))]
        · rw [if_neg a3, if_pos ⟨hb, Or.inl a1, Or.inr a3⟩]
    · rw [if_neg a1]
      by_cases a0 : g_X4_beginOf sf x1 v7 ≤ g_X4_beginOf sf x1 v4
      · rw [if_pos a0, if_neg (fun h => h.2.1.elim a1 (fun h => h a0))]
      · rw [if_neg a0]
        by_cases a2 : v6 < 0
        · rw [if_pos a2, if_pos ⟨hb, Or.inr a0, Or.inl a2⟩]
        · rw [if_neg a2]
          by_cases a3 : g_X4_beginOf sf x1 v6 ≤ g_X4_beginOf sf x1 v7
          · rw [if_pos a3, if_neg (fun h => h.2.2.elim a2 (fun h => h a3))]
          · rw [if_neg a3, if_pos ⟨hb, Or.inr a0, Or.inr a3⟩]
  have no : ¬ bk_is sf x1 x2 v7 → istep sf x1 x2 v4 v6 v7 = v6 := fun h => by unfold istep; rw [if_neg (fun hh => h hh.1)]
  by_cases b1 : 0 ≤ x1
  · rw [if_pos b1]
    by_cases b2 : g_X4_isOn sf v7 x1 x2 = 0
    · rw [if_pos b2, no (fun h => h.elim (fun h => h.2 b2) (fun h => h.1 b1))]
    · rw [if_neg b2]
      exact fin True (Or.inl ⟨b1, b2⟩)
  · rw [if_neg b1]
    by_cases b2 : g_X4_isOnLine sf v7 x2 = 0
    · rw [if_pos b2, no (fun h => h.elim (fun h => b1 h.1) (fun h => h.2 b2))]
    · rw [if_neg b2]
      exact fin True (Or.inr ⟨b1, b2⟩)
/-- what both cases, colours and lines, share -/
def bkCtx (sf ff : Nat → Int32) (x1 x2 : Int32) (z : Nat) (on : Nat → Prop) (wg : Nat) : Prop := sf 10 = nI z ∧ (∀ b, b < z → (bk_is sf x1 x2 (nI b) ↔ on b)) ∧ ∀ b, b < 48 → g_X4_beginOf sf x1 (nI b) = ff (11 * b + wg)
/-- the last that was found, before the i-th -/
def lst (bf : Nat → Int32) (i : Nat) : Int32 := if i = 0 then -6 else bf (i - 1)
theorem tr_entry {z : Nat} {on : Nat → Prop} {ff : Nat → Int32} {wg wt m : Nat} {bf gf ef : Nat → Int32} (h : TrS z on ff wg wt m bf gf ef) {k : Nat} (hk : k < m) : ∃ b, b < z ∧ on b ∧ bf k = nI b ∧ gf k = ff (11 * b + wg) ∧ ef k = ff (11 * b + wg) + ff (11 * b + wt) := h.2.1 k hk
theorem inner_at {sf ff : Nat → Int32} {x1 x2 : Int32} {z : Nat} (hz : z ≤ 48) {on : Nat → Prop} {wg wt m : Nat} (C : bkCtx sf ff x1 x2 z on wg) {bf gf ef : Nat → Int32} (h : TrS z on ff wg wt m bf gf ef) (ho : OD m gf ef) (KK : Int32 → Int32 → Int32) (v5 : Int32) {i : Nat} (hi : i ≤ m) : ∀ (r k n : Nat) (v6 : Int32), k + r = z → r < n → ((v6 = -6 ∧ ∀ j b, i ≤ j → j < m → bf j = nI b → k ≤ b) ∨ (∃ j b, i ≤ j ∧ j < m ∧ bf j = nI b ∧ b < k ∧ v6 = nI b ∧ ∀ j' b', i ≤ j' → j' < m → bf j' = nI b' → b' < k → j ≤ j')) → g_X4_bookingAt_L20 KK sf x1 x2 (lst bf i) v5 n v6 (nI k) = if i < m then KK (bf i) (v5 + 1) else -6 := by
  obtain ⟨h10, his, hbg⟩ := C
  have e0 : (0 : Int32).toInt = 0 := rfl
  have lt_g : ∀ a b, a < b → b < m → gI gf a < gI gf b := fun a b hab hb => by
    have := ho.1 a b hab hb
    have := (ho.2 a (by omega)).2.1
    omega
  have neg : ∀ b : Nat, b < 48 → ¬ nI b < 0 := fun b hb => by rw [Int32.lt_iff_toInt_lt, tI b (by omega), e0]; omega
  intro r
  induction r with
  | zero =>
    intro k n v6 hk hn hv
    obtain ⟨n, rfl⟩ : ∃ j, n = j + 1 := ⟨n - 1, by omega⟩
    rw [g_X4_bookingAt_L20, h10, if_pos (nI_le (by omega) (by omega))]
    rcases hv with ⟨hv, hno⟩ | ⟨j, b, j1, j2, j3, j4, j5, j6⟩
    · have him : ¬ i < m := fun him => by
        obtain ⟨b, hb, -, e, -⟩ := tr_entry h him
        have := hno i b (by omega) him e
        omega
      rw [hv, if_neg (by decide), if_neg him]
    · have him : i < m := by omega
      have hji : j = i := by
        obtain ⟨b', hb', -, e, -⟩ := tr_entry h him
        have := j6 i b' (by omega) him e (by omega)
        omega
      subst hji
      rw [j5, if_pos (by rw [Int32.le_iff_toInt_le, tI b (by omega), e0]; omega), if_pos him, j3]
  | succ r ih =>
    intro k n v6 hk hn hv
    obtain ⟨n, rfl⟩ : ∃ j, n = j + 1 := ⟨n - 1, by omega⟩
    rw [inner_step KK sf x1 x2 _ _ _ _ _ (by rw [h10]; exact nI_nle' (by omega) (by omega)), nI_1]
    refine ih (k + 1) n _ (by omega) (by omega) ?_
    -- is burst k one of those that are left?
    have hcand : (bk_is sf x1 x2 (nI k) ∧ (lst bf i < 0 ∨ ¬ g_X4_beginOf sf x1 (nI k) ≤ g_X4_beginOf sf x1 (lst bf i))) ↔ ∃ j, i ≤ j ∧ j < m ∧ bf j = nI k := by
      rw [his k (by omega)]
      constructor
      · intro ⟨hon, hl⟩
        obtain ⟨j, hj, e⟩ := h.2.2.1 k (by omega) hon
        refine ⟨j, ?_, hj, e⟩
        by_cases hi0 : i = 0
        · omega
        · have hli : lst bf i = bf (i - 1) := by unfold lst; rw [if_neg hi0]
          obtain ⟨c, hc, -, ec, egc, -⟩ := tr_entry h (k := i - 1) (by omega)
          obtain ⟨c', hc', -, ec', egc', -⟩ := tr_entry h hj
          have : c' = k := (nI_eq (by omega) (by omega)).mp (ec'.symm.trans e)
          subst this
          rw [hli, ec] at hl
          rcases hl with hl | hl
          · exact absurd hl (neg c (by omega))
          · rw [hbg c' (by omega), hbg c (by omega), ← egc, ← egc', Int32.le_iff_toInt_le] at hl
            by_cases hij : i ≤ j
            · exact hij
            · by_cases hj1 : j = i - 1
              · subst hj1; unfold gI at *; omega
              · have := lt_g j (i - 1) (by omega) (by omega)
                unfold gI at this
                omega
      · intro ⟨j, j1, j2, j3⟩
        obtain ⟨c', hc', hon, ec', egc', -⟩ := tr_entry h j2
        have : c' = k := (nI_eq (by omega) (by omega)).mp (ec'.symm.trans j3)
        subst this
        refine ⟨hon, ?_⟩
        by_cases hi0 : i = 0
        · left; unfold lst; rw [if_pos hi0]; decide
        · right
          have hli : lst bf i = bf (i - 1) := by unfold lst; rw [if_neg hi0]
          obtain ⟨c, hc, -, ec, egc, -⟩ := tr_entry h (k := i - 1) (by omega)
          rw [hli, ec, hbg c' (by omega), hbg c (by omega), ← egc, ← egc', Int32.le_iff_toInt_le]
          have := lt_g (i - 1) j (by omega) j2
          unfold gI at this
          omega
    have inj : ∀ j b j' , j < m → j' < m → bf j = nI b → bf j' = nI b → j = j' := fun j b j' h1 h2 h3 h4 => h.2.2.2.2 j j' h1 h2 (h3.trans h4.symm)
    unfold istep
    by_cases hcd : ∃ j, i ≤ j ∧ j < m ∧ bf j = nI k
    · obtain ⟨j0, a1, a2, a3⟩ := hcd
      obtain ⟨q1, q2⟩ := hcand.mpr ⟨j0, a1, a2, a3⟩
      rcases hv with ⟨hv, hno⟩ | ⟨j, b, j1, j2, j3, j4, j5, j6⟩
      · rw [if_pos ⟨q1, q2, Or.inl (by rw [hv]; decide)⟩]
        refine Or.inr ⟨j0, k, a1, a2, a3, by omega, rfl, fun j' b' c1 c2 c3 c4 => ?_⟩
        have := hno j' b' c1 c2 c3
        have hbk : b' = k := by omega
        subst hbk
        exact Nat.le_of_eq (inj j0 b' j' a2 c2 a3 c3)
      · by_cases hlt : j0 < j
        · have q3 : ¬ g_X4_beginOf sf x1 v6 ≤ g_X4_beginOf sf x1 (nI k) := by
            obtain ⟨c, hc, -, ec, egc, -⟩ := tr_entry h j2
            have hcb : c = b := (nI_eq (by omega) (by omega)).mp (ec.symm.trans j3)
            obtain ⟨c', hc', -, ec', egc', -⟩ := tr_entry h a2
            have hck : c' = k := (nI_eq (by omega) (by omega)).mp (ec'.symm.trans a3)
            subst hcb hck
            rw [j5, hbg c (by omega), hbg c' (by omega), ← egc, ← egc', Int32.le_iff_toInt_le]
            have := lt_g j0 j hlt j2
            unfold gI at this
            omega
          rw [if_pos ⟨q1, q2, Or.inr q3⟩]
          refine Or.inr ⟨j0, k, a1, a2, a3, by omega, rfl, fun j' b' c1 c2 c3 c4 => ?_⟩
          by_cases hbk : b' = k
          · subst hbk; exact Nat.le_of_eq (inj j0 b' j' a2 c2 a3 c3)
          · have := j6 j' b' c1 c2 c3 (by omega)
            omega
        · rw [if_neg (fun hh => ?_)]
          · refine Or.inr ⟨j, b, j1, j2, j3, by omega, j5, fun j' b' c1 c2 c3 c4 => ?_⟩
            by_cases hbk : b' = k
            · subst hbk
              have := inj j0 b' j' a2 c2 a3 c3
              omega
            · exact j6 j' b' c1 c2 c3 (by omega)
          · have hne : j0 ≠ j := fun e => by
              subst e
              have := (nI_eq (by omega) (by omega)).mp (a3.symm.trans j3)
              omega
            obtain ⟨c, hc, -, ec, egc, -⟩ := tr_entry h j2
            have hcb : c = b := (nI_eq (by omega) (by omega)).mp (ec.symm.trans j3)
            obtain ⟨c', hc', -, ec', egc', -⟩ := tr_entry h a2
            have hck : c' = k := (nI_eq (by omega) (by omega)).mp (ec'.symm.trans a3)
            subst hcb hck
            rcases hh.2.2 with hh | hh
            · rw [j5] at hh; exact neg c (by omega) hh
            · rw [j5, hbg c (by omega), hbg c' (by omega), ← egc, ← egc', Int32.le_iff_toInt_le] at hh
              have := lt_g j j0 (by omega) a2
              unfold gI at this
              omega
    · rw [if_neg (fun hh => hcd (hcand.mp ⟨hh.1, hh.2.1⟩))]
      rcases hv with ⟨hv, hno⟩ | ⟨j, b, j1, j2, j3, j4, j5, j6⟩
      · refine Or.inl ⟨hv, fun j b c1 c2 c3 => ?_⟩
        have := hno j b c1 c2 c3
        by_cases hbk : b = k
        · subst hbk; exact absurd ⟨j, c1, c2, c3⟩ hcd
        · omega
      · refine Or.inr ⟨j, b, j1, j2, j3, by omega, j5, fun j' b' c1 c2 c3 c4 => ?_⟩
        by_cases hbk : b' = k
        · subst hbk; exact absurd ⟨j', c1, c2, c3⟩ hcd
        · exact j6 j' b' c1 c2 c3 (by omega)
theorem outer_at {sf ff : Nat → Int32} {x1 x2 : Int32} {z : Nat} (hz : z ≤ 48) {on : Nat → Prop} {wg wt m : Nat} (C : bkCtx sf ff x1 x2 z on wg) {bf gf ef : Nat → Int32} (h : TrS z on ff wg wt m bf gf ef) (ho : OD m gf ef) {t : Nat} (ht : t < 2147483648) : ∀ (n i : Nat), i ≤ m → i ≤ t + 1 → bk_m sf x1 x2 (lst bf i) < n → g_X4_bookingAt_L7 sf x1 x2 (nI t) n (lst bf i) (nI i) = if t < m then bf t else -6 := by
  have e0 : (0 : Int32).toInt = 0 := rfl
  have hm48 : m ≤ 48 := by have := h.1; omega
  intro n
  induction n with
  | zero => intro i _ _ hh; omega
  | succ n ih =>
    intro i hi hit hbm
    rw [g_X4_bookingAt_L7]
    by_cases c : t < i
    · rw [if_pos (by rw [nI_ltI ht (by omega)]; exact c), if_pos (by omega)]
      unfold lst
      rw [if_neg (by omega)]
      congr 1; omega
    · rw [if_neg (by rw [nI_ltI ht (by omega)]; exact c)]
      have h10 := C.1
      have hin := inner_at hz C h ho (fun z0 z1 => g_X4_bookingAt_L7 sf x1 x2 (nI t) n z0 z1) (nI i) hi z 0 (((sf 10).toInt - ((0 : Int32)).toInt).toNat + 1) (-6) (by omega) (by rw [h10, tI z (by omega), e0]; omega) (Or.inl ⟨rfl, fun j b _ _ _ => by omega⟩)
      have hin' : g_X4_bookingAt_L20 (fun z0 z1 => g_X4_bookingAt_L7 sf x1 x2 (nI t) n z0 z1) sf x1 x2 (lst bf i) (nI i) (((sf 10).toInt - ((0 : Int32)).toInt).toNat + 1) (-6) 0 = _ := hin
      rw [hin']
      by_cases him : i < m
      · rw [if_pos him]
        have hl : lst bf (i + 1) = bf i := by unfold lst; rw [if_neg (by omega)]; congr 1
        obtain ⟨b, hb, hon, e, eg, -⟩ := tr_entry h him
        have hneg : ¬ nI b < 0 := by rw [Int32.lt_iff_toInt_lt, tI b (by omega), e0]; omega
        have hbn : bk_n sf x1 x2 (lst bf i) (nI b) := by
          refine Or.inr ⟨⟨by rw [tI b (by omega)]; omega, by rw [tI b (by omega)]; omega⟩, (C.2.1 b hb).mpr hon, ?_⟩
          by_cases hi0 : i = 0
          · left; unfold lst; rw [if_pos hi0]; decide
          · right
            have hli : lst bf i = bf (i - 1) := by unfold lst; rw [if_neg hi0]
            obtain ⟨c', hc', -, ec, egc, -⟩ := tr_entry h (k := i - 1) (by omega)
            rw [hli, ec, C.2.2 b (by omega), C.2.2 c' (by omega), ← egc, ← eg, Int32.le_iff_toInt_le]
            have a1 := ho.1 (i - 1) i (by omega) him
            have a2 := (ho.2 (i - 1) (by omega)).2.1
            unfold gI at a1 a2
            omega
        have hst := bk_step hbn hneg hbm
        have hr := ih (i + 1) (by omega) (by omega) (by rw [hl, e]; exact hst)
        rw [hl, ← nI_1 i] at hr
        exact hr
      · rw [if_neg him, if_neg (by omega)]
theorem bookingAt_at {sf ff : Nat → Int32} {x1 x2 : Int32} {z : Nat} (hz : z ≤ 48) {on : Nat → Prop} {wg wt m : Nat} (C : bkCtx sf ff x1 x2 z on wg) {bf gf ef : Nat → Int32} (h : TrS z on ff wg wt m bf gf ef) (ho : OD m gf ef) (x3 : Int32) : (¬ g_X2_has (nI m) x3 = 0 → g_X4_bookingAt sf x1 x2 x3 = bf x3.toNatClampNeg) ∧ (g_X2_has (nI m) x3 = 0 → g_X4_bookingAt sf x1 x2 x3 = -6) := by
  have e0 : (0 : Int32).toInt = 0 := rfl
  have hm48 : m ≤ 48 := by have := h.1; omega
  have hb : ¬ g_X2_has (nI m) x3 = 0 ↔ 0 ≤ x3.toInt ∧ x3.toInt < m := by
    unfold g_X2_has; rw [below_iff, tI m (by omega)]
  by_cases c0 : 0 ≤ x3.toInt
  · obtain ⟨t, ht, rfl⟩ := nat_of (x := x3) (n := 2147483648) c0 (i32_hi x3)
    have hmain : g_X4_bookingAt sf x1 x2 (nI t) = if t < m then bf t else -6 := by
      unfold g_X4_bookingAt
      exact outer_at hz C h ho ht (bk_m sf x1 x2 (-6) + 1) 0 (by omega) (by omega) (Nat.lt_succ_self _)
    rw [hmain, clmp_of (tI t ht)]
    rw [tI t ht] at hb
    refine ⟨fun hh => if_pos ?_, fun hh => if_neg (fun h2 => ?_)⟩
    · have := hb.mp hh; omega
    · exact hb.mpr (by omega) hh
  · refine ⟨fun hh => absurd (hb.mp hh).1 c0, fun _ => ?_⟩
    unfold g_X4_bookingAt
    rw [g_X4_bookingAt_L7, if_pos (by rw [Int32.lt_iff_toInt_lt, e0]; omega)]
theorem ctxC {T : Nat} {now : Int32} {z : Nat} (hz : z ≤ 48) {rf lf ff sf : Nat → Int32} (he : eqS now (nI z) rf lf ff sf) (hi : Inv T now (nI z) rf lf ff) {x1 x2 : Int32} (h1 : 0 ≤ x1.toInt) (hx : 0 ≤ x2.toInt) : bkCtx sf ff x1 x2 z (onC ff x1 x2) 8 := by
  have e0 : (0 : Int32).toInt = 0 := rfl
  have hp : (0 : Int32) ≤ x1 := by rw [Int32.le_iff_toInt_le, e0]; exact h1
  refine ⟨he.2.2.2.1, fun b hb => ?_, fun b hb => ?_⟩
  · have := isOn_iff hz he hi (x1 := x1) hx hb
    unfold bk_is
    rw [← this]
    exact ⟨fun h => h.elim (fun h => h.2) (fun h => absurd hp h.1), fun h => Or.inl ⟨hp, h⟩⟩
  · unfold g_X4_beginOf
    rw [if_pos hp]
    exact of_at (w := 8) he hb (by omega)
theorem ctxL {T : Nat} {now : Int32} {z : Nat} (hz : z ≤ 48) {rf lf ff sf : Nat → Int32} (he : eqS now (nI z) rf lf ff sf) (hi : Inv T now (nI z) rf lf ff) {x2 : Int32} (hx : 0 ≤ x2.toInt) : bkCtx sf ff (-6) x2 z (onL ff x2) 5 := by
  have hp : ¬ (0 : Int32) ≤ -6 := by decide
  refine ⟨he.2.2.2.1, fun b hb => ?_, fun b hb => ?_⟩
  · have := isOnLine_iff hz he hi hx hb
    unfold bk_is
    rw [← this]
    exact ⟨fun h => h.elim (fun h => absurd h.1 hp) (fun h => h.2), fun h => Or.inr ⟨hp, h⟩⟩
  · unfold g_X4_beginOf
    rw [if_neg hp]
    exact of_at (w := 5) he hb (by omega)
theorem i32_cancel (a b : Int32) : a + b - a = b := by
  rw [Int32.sub_eq_add_neg, Int32.add_comm a b, Int32.add_assoc, Int32.add_right_neg, Int32.add_zero]
/-- what is asked of the i-th, on both sides -/
theorem ofB_at {T : Nat} {now : Int32} {z : Nat} (hz : z ≤ 48) {rf lf ff sf : Nat → Int32} (he : eqS now (nI z) rf lf ff sf) {x1 x2 : Int32} {on : Nat → Prop} {wg wt m : Nat} (hwg : wg ≤ 10) (hwt : wt ≤ 10) (C : bkCtx sf ff x1 x2 z on wg) {bf gf ef : Nat → Int32} (h : TrS z on ff wg wt m bf gf ef) (ho : OD m gf ef) (i what : Int32) : g_X3_ofBooking (nI m) bf gf ef i what = if g_X4_in what 0 2 = 0 then (-2) else (if 0 ≤ (g_X4_bookingAt sf x1 x2 i) then (if what = 0 then (g_X4_of sf (g_X4_bookingAt sf x1 x2 i) (nI wg)) else (if what = 1 then (g_X4_of sf (g_X4_bookingAt sf x1 x2 i) (nI wt)) else (g_X4_bookingAt sf x1 x2 i))) else (-6)) := by
  have e0 : (0 : Int32).toInt = 0 := rfl
  have e2 : (2 : Int32).toInt = 2 := rfl
  have hm48 : m ≤ 48 := by have := h.1; omega
  obtain ⟨b1, b2⟩ := bookingAt_at hz C h ho i
  unfold g_X3_ofBooking g_X2_begin g_X2_ticks g_X2_burstOf
  by_cases c : 0 ≤ what.toInt ∧ what.toInt ≤ 2
  · rw [if_neg (in_iff.mpr (by omega))]
    by_cases c2 : g_X2_has (nI m) i = 0
    · rw [b2 c2, if_pos c2, if_pos c2, if_pos c2, if_neg (show ¬ (0 : Int32) ≤ -6 by decide)]
      have hw : what = 0 ∨ what = 1 ∨ what = 2 := by
        obtain ⟨j, hj, rfl⟩ := nat_of (x := what) (n := 3) (by omega) (by omega)
        rcases (show j = 0 ∨ j = 1 ∨ j = 2 by omega) with rfl | rfl | rfl
        · exact Or.inl rfl
        · exact Or.inr (Or.inl rfl)
        · exact Or.inr (Or.inr rfl)
      rcases hw with rfl | rfl | rfl <;> rfl
    · have hb := below_iff.mp c2
      rw [tI m (by omega)] at hb
      obtain ⟨t, ht, rfl⟩ := nat_of (x := i) (n := m) hb.1 hb.2
      rw [b1 c2, if_neg c2, if_neg c2, if_neg c2, clmp_of (tI t (by omega))]
      obtain ⟨b, hbz, -, e, eg, ee⟩ := tr_entry h ht
      rw [e, if_pos (show (0 : Int32) ≤ nI b from nI_pos' (by omega)), of_at he (by omega) hwg, of_at he (by omega) hwt, ee, eg, i32_cancel]
      by_cases w0 : what = 0
      · rw [if_pos w0, if_pos w0]
      · rw [if_neg w0, if_neg w0]
        by_cases w1 : what = 1
        · rw [if_pos w1, if_pos w1]
        · rw [if_neg w1, if_neg w1]
          have w2 : what = 2 := by
            have a0 := sw_c (k := 0) rfl w0
            have a1 := sw_c (k := 1) rfl w1
            rw [i_eq (k := 2) rfl]; omega
          rw [if_pos w2]
  · rw [if_pos (in_no (by omega))]
    have n0 : ¬ what = 0 := fun h => c (by rw [h]; decide)
    have n1 : ¬ what = 1 := fun h => c (by rw [h]; decide)
    have n2 : ¬ what = 2 := fun h => c (by rw [h]; decide)
    rw [if_neg n0, if_neg n1, if_neg n2]
theorem core_booking {T : Nat} (hT : T ≤ 102400) {now told : Int32} {rf lf ff sf : Nat → Int32} (he : eqS now told rf lf ff sf) (hi : Inv T now told rf lf ff) (sz : Int32) (bf gf ef : Nat → Int32) (x1 x2 x3 x4 : Int32) : (g_X3_booking told ff sz bf gf ef x1 x2 x3 x4).1 = g_X4_booking sf x1 x2 x3 x4 := by
  obtain ⟨z, hz, ez, -⟩ := told_nat hi
  subst ez
  unfold g_X3_booking g_X4_booking
  rcases col_split x1 x2 with ⟨c1, c2⟩ | ⟨c1, c2, c3, c5, c4, -⟩
  · rw [if_pos c1]
    rcases c2 with c2 | ⟨c2, c3⟩
    · rw [if_pos c2]
    · rw [if_neg c2, if_pos c3]
  · rw [if_neg c1, if_neg c2, if_neg c3]
    obtain ⟨m, B, G, E, e, hTr⟩ := showC hz ff bf gf ef x1 x2
    rw [e]
    exact ofB_at (T := T) hz he (by omega) (by omega) (ctxC hz he hi c5.1 c4) hTr (odC hT hz hi c4 hTr) x3 x4
theorem core_held {T : Nat} (hT : T ≤ 102400) {now told : Int32} {rf lf ff sf : Nat → Int32} (he : eqS now told rf lf ff sf) (hi : Inv T now told rf lf ff) (sz : Int32) (bf gf ef : Nat → Int32) (x1 x2 x3 : Int32) : (g_X3_held told ff sz bf gf ef x1 x2 x3).1 = g_X4_held sf x1 x2 x3 := by
  obtain ⟨z, hz, ez, -⟩ := told_nat hi
  subst ez
  have e0 : (0 : Int32).toInt = 0 := rfl
  have e2 : (2 : Int32).toInt = 2 := rfl
  have e3 : (3 : Int32).toInt = 3 := rfl
  unfold g_X3_held g_X4_held
  by_cases c1 : 0 ≤ x1.toInt ∧ x1.toInt < 3
  · rw [if_neg (below_iff.mpr (by omega)), if_neg (in_iff.mpr (by omega))]
    obtain ⟨m, B, G, E, e, hTr⟩ := showL hz ff bf gf ef x1
    rw [e]
    exact ofB_at (T := T) hz he (by omega) (by omega) (ctxL hz he hi c1.1) hTr (odL hT hz hi c1.1 hTr) x2 x3
  · rw [if_pos (below_no (by omega)), if_pos (in_no (by omega))]
