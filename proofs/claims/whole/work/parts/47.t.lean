/-! ===== busy, next ===== -/
def ov (g e f t : Int) : Int := if 0 < (if e < t then e else t) - (if f < g then g else f) then (if e < t then e else t) - (if f < g then g else f) else 0
def sO (gf ef : Nat → Int32) (f t : Int) : Nat → Nat → Int
  | _, 0 => 0
  | k, r + 1 => ov (gI gf k) (gI ef k) f t + sO gf ef f t (k + 1) r
theorem ov_no {g e f t : Int} (hft : f ≤ t) (h : ¬ (g ≤ t ∧ t < e)) : ov g e f (t + 1) = ov g e f t := by
  unfold ov
  repeat' split
  all_goals omega
theorem ov_yes {g e f t : Int} (hft : f ≤ t) (h : g ≤ t ∧ t < e) : ov g e f (t + 1) = ov g e f t + 1 := by
  unfold ov
  repeat' split
  all_goals omega
theorem ov_0 {g e f : Int} (hge : g < e) : ov g e f f = 0 := by
  unfold ov
  repeat' split
  all_goals omega
theorem sO_no {gf ef : Nat → Int32} {f t : Int} (hft : f ≤ t) : ∀ (r k : Nat), (∀ j, k ≤ j → j < k + r → ¬ (gI gf j ≤ t ∧ t < gI ef j)) → sO gf ef f (t + 1) k r = sO gf ef f t k r := by
  intro r
  induction r with
  | zero => intros; rfl
  | succ r ih =>
    intro k h
    simp only [sO]
    rw [ov_no hft (h k (by omega) (by omega)), ih (k + 1) (fun j h1 h2 => h j (by omega) (by omega))]
theorem sO_yes {m : Nat} {gf ef : Nat → Int32} (ho : OD m gf ef) {f t : Int} (hft : f ≤ t) : ∀ (r k : Nat), k + r = m → (∃ j, k ≤ j ∧ j < m ∧ gI gf j ≤ t ∧ t < gI ef j) → sO gf ef f (t + 1) k r = sO gf ef f t k r + 1 := by
  intro r
  induction r with
  | zero => intro k hk h; obtain ⟨j, h1, h2, _⟩ := h; omega
  | succ r ih =>
    intro k hk h
    obtain ⟨j, h1, h2, h3⟩ := h
    simp only [sO]
    by_cases c : gI gf k ≤ t ∧ t < gI ef k
    · rw [ov_yes hft c, sO_no hft r (k + 1) (fun i i1 i2 hc => ?_)]
      · omega
      · have := ho.1 k i (by omega) (by omega)
        omega
    · have hjk : j ≠ k := fun e => c (e ▸ h3)
      rw [ov_no hft c, ih (k + 1) (by omega) ⟨j, by omega, h2, h3⟩]
      omega
theorem sO_0 {m : Nat} {gf ef : Nat → Int32} (ho : OD m gf ef) {f : Int} : ∀ (r k : Nat), k + r = m → sO gf ef f f k r = 0 := by
  intro r
  induction r with
  | zero => intros; rfl
  | succ r ih =>
    intro k hk
    simp only [sO]
    rw [ov_0 (ho.2 k (by omega)).2.1, ih (k + 1) (by omega)]
    rfl
theorem ov_le {g e f t : Int} (hft : f ≤ t) : 0 ≤ ov g e f t ∧ ov g e f t ≤ t - f := by
  unfold ov
  repeat' split
  all_goals omega
theorem ov_at {g e f t : Int32} (hg : 0 ≤ g.toInt ∧ g.toInt ≤ 300000) (he : 0 ≤ e.toInt ∧ e.toInt ≤ 300000) (hf : 0 ≤ f.toInt ∧ f.toInt ≤ 300000) (ht : 0 ≤ t.toInt ∧ t.toInt ≤ 300000) : (if 0 < ((if e < t then e else t) - (if f < g then g else f)) then ((if e < t then e else t) - (if f < g then g else f)) else 0).toInt = ov g.toInt e.toInt f.toInt t.toInt := by
  have e0 : (0 : Int32).toInt = 0 := rfl
  have a1 : (if e < t then e else t).toInt = if e.toInt < t.toInt then e.toInt else t.toInt := by
    by_cases c : e < t
    · rw [if_pos c, if_pos (by rw [Int32.lt_iff_toInt_lt] at c; exact c)]
    · rw [if_neg c, if_neg (by rw [Int32.lt_iff_toInt_lt] at c; exact c)]
  have a2 : (if f < g then g else f).toInt = if f.toInt < g.toInt then g.toInt else f.toInt := by
    by_cases c : f < g
    · rw [if_pos c, if_pos (by rw [Int32.lt_iff_toInt_lt] at c; exact c)]
    · rw [if_neg c, if_neg (by rw [Int32.lt_iff_toInt_lt] at c; exact c)]
  generalize (if e < t then e else t) = A at a1 ⊢
  generalize (if f < g then g else f) = B at a2 ⊢
  have b1 : 0 ≤ A.toInt ∧ A.toInt ≤ 300000 := by rw [a1]; split <;> omega
  have b2 : 0 ≤ B.toInt ∧ B.toInt ≤ 300000 := by rw [a2]; split <;> omega
  have es : (A - B).toInt = A.toInt - B.toInt := i32_sub (by omega) (by omega)
  unfold ov
  rw [← a1, ← a2]
  by_cases c : 0 < A - B
  · rw [if_pos c, if_pos (by rw [Int32.lt_iff_toInt_lt, es] at c; omega), es]
  · rw [if_neg c, if_neg (by rw [Int32.lt_iff_toInt_lt, es] at c; omega), e0]
theorem booked_L {m : Nat} (hm : m ≤ 48) {gf ef : Nat → Int32} (ho : OD m gf ef) {f t : Int32} (hf : 0 ≤ f.toInt ∧ f.toInt ≤ 30000) (ht : f.toInt ≤ t.toInt ∧ t.toInt ≤ f.toInt + 2000) : ∀ (r k n : Nat) (v : Int32), k + r = m → r < n → 0 ≤ v.toInt → v.toInt ≤ 2000 * k → (g_X2_bookedTicks_L5 (nI m) gf ef f t n v (nI k)).toInt = v.toInt + sO gf ef f.toInt t.toInt k r := by
  intro r
  induction r with
  | zero =>
    intro k n v hk hn h1 h2
    obtain ⟨n, rfl⟩ : ∃ j, n = j + 1 := ⟨n - 1, by omega⟩
    rw [g_X2_bookedTicks_L5, if_pos (nI_le (by omega) (by omega))]
    simp [sO]
  | succ r ih =>
    intro k n v hk hn h1 h2
    obtain ⟨n, rfl⟩ : ∃ j, n = j + 1 := ⟨n - 1, by omega⟩
    have hd := ho.2 k (by omega)
    unfold gI at hd
    have ho' := ov_at (g := gf k) (e := ef k) (f := f) (t := t) (by omega) (by omega) (by omega) (by omega)
    have hl := ov_le (g := (gf k).toInt) (e := (ef k).toInt) (f := f.toInt) (t := t.toInt) ht.1
    rw [g_X2_bookedTicks_L5, if_neg (nI_nle' (by omega) (by omega)), kcl (by omega), nI_1]
    generalize (if 0 < ((if ef k < t then ef k else t) - (if f < gf k then gf k else f)) then ((if ef k < t then ef k else t) - (if f < gf k then gf k else f)) else 0) = O at ho' ⊢
    have ea : (v + O).toInt = v.toInt + O.toInt := i32_add (by omega) (by omega)
    rw [ih (k + 1) n _ (by omega) (by omega) (by omega) (by omega), ea, ho']
    simp only [sO, gI]
    omega
theorem busy_L {T : Nat} (hT : T ≤ 102400) {now : Int32} {z : Nat} (hz : z ≤ 48) {rf lf ff sf : Nat → Int32} (he : eqS now (nI z) rf lf ff sf) (hi : Inv T now (nI z) rf lf ff) {x1 x2 x3 x4 : Int32} (hx : 0 ≤ x2.toInt) (hf : 0 ≤ x3.toInt ∧ x3.toInt ≤ 20000) (hn : 1 ≤ x4.toInt ∧ x4.toInt ≤ 2000) {m : Nat} {bf gf ef : Nat → Int32} (h : TrS z (onC ff x1 x2) ff 8 9 m bf gf ef) : ∀ (r n : Nat) (v t : Int32), t.toInt + r = x3.toInt + x4.toInt → x3.toInt ≤ t.toInt → r < n → v.toInt = sO gf ef x3.toInt t.toInt 0 m → 0 ≤ v.toInt → v.toInt ≤ t.toInt - x3.toInt → (g_X4_busy_L34 sf x1 x2 x3 x4 n v t).toInt = sO gf ef x3.toInt (x3.toInt + x4.toInt) 0 m := by
  have hod := odC hT hz hi hx h
  have e1 : (1 : Int32).toInt = 1 := rfl
  have es : (x3 + x4).toInt = x3.toInt + x4.toInt := i32_add (by omega) (by omega)
  intro r
  induction r with
  | zero =>
    intro n v t ht h3 hnn hv h0 h1
    obtain ⟨n, rfl⟩ : ∃ j, n = j + 1 := ⟨n - 1, by omega⟩
    rw [g_X4_busy_L34, if_pos (by rw [Int32.le_iff_toInt_le, es]; omega), hv]
    congr 1; omega
  | succ r ih =>
    intro n v t ht h3 hnn hv h0 h1
    obtain ⟨n, rfl⟩ : ∃ j, n = j + 1 := ⟨n - 1, by omega⟩
    have et : (t + 1).toInt = t.toInt + 1 := by rw [i32_add (by omega) (by omega), e1]
    have ev : (v + 1).toInt = v.toInt + 1 := by rw [i32_add (by omega) (by omega), e1]
    have hc := isClear_tr hT hz he hi (x1 := x1) hx (f := t) (n := 1) (by omega) (by omega) h
    rw [g_X4_busy_L34, if_neg (by rw [Int32.le_iff_toInt_le, es]; omega), Int32.add_zero]
    by_cases c : g_X4_isClear sf x1 x2 t 1 = 0
    · rw [if_pos c]
      have hex : ∃ j, 0 ≤ j ∧ j < m ∧ gI gf j ≤ t.toInt ∧ t.toInt < gI ef j := by
        refine Classical.byContradiction fun hne => (hc.mpr (fun k hk => ?_)) c
        refine Classical.byContradiction fun hk2 => hne ⟨k, by omega, hk, by omega, by omega⟩
      refine ih n _ _ (by omega) (by omega) (by omega) ?_ (by omega) (by omega)
      rw [ev, et, sO_yes hod h3 m 0 (by omega) hex, hv]
    · rw [if_neg c]
      have hall := hc.mp c
      refine ih n _ _ (by omega) (by omega) (by omega) ?_ (by omega) (by omega)
      rw [et, sO_no h3 m 0 (fun j _ hj => ?_), hv]
      have := hall j (by omega)
      omega
theorem core_busy {T : Nat} (hT : T ≤ 102400) {now told : Int32} {rf lf ff sf : Nat → Int32} (he : eqS now told rf lf ff sf) (hi : Inv T now told rf lf ff) (sz : Int32) (bf gf ef : Nat → Int32) (x1 x2 x3 x4 : Int32) : (g_X3_busy told ff sz bf gf ef x1 x2 x3 x4).1 = g_X4_busy sf x1 x2 x3 x4 := by
  obtain ⟨z, hz, ez, -⟩ := told_nat hi
  subst ez
  have e0 : (0 : Int32).toInt = 0 := rfl
  obtain ⟨s1, s2⟩ := span_iff x3 x4
  unfold g_X3_busy g_X4_busy
  rcases col_split x1 x2 with ⟨c1, c2⟩ | ⟨c1, c2, c3, -, c4, -⟩
  · rw [if_pos c1]
    rcases c2 with c2 | ⟨c2, c3⟩
    · rw [if_pos c2]
    · rw [if_neg c2, if_pos c3]
  · rw [if_neg c1, if_neg c2, if_neg c3]
    by_cases c5 : (0 ≤ x3.toInt ∧ x3.toInt ≤ 20000) ∧ 1 ≤ x4.toInt ∧ x4.toInt ≤ 2000
    · rw [if_neg (s1.mpr c5), if_neg (s2.mpr c5)]
      obtain ⟨m, B, G, E, e, hTr⟩ := showC hz ff bf gf ef x1 x2
      have hm : m ≤ 48 := by have := hTr.1; omega
      have hod := odC hT hz hi c4 hTr
      have es : (x3 + x4).toInt = x3.toInt + x4.toInt := i32_add (by omega) (by omega)
      rw [e]
      rw [← Int32.toInt_inj]
      have h1 := booked_L hm hod (f := x3) (t := x3 + x4) (by omega) (by omega) m 0 (((nI m).toInt - ((0 : Int32)).toInt).toNat + 1) 0 (by omega) (by rw [tI m (by omega), e0]; omega) (by decide) (by decide)
      have h2 := busy_L hT hz he hi (x1 := x1) c4 c5.1 c5.2 hTr x4.toInt.toNat ((((x3 + x4)).toInt - (x3).toInt).toNat + 1) 0 x3 (by omega) (by omega) (by omega) (by rw [sO_0 hod m 0 (by omega), e0]) (by decide) (by omega)
      unfold g_X2_bookedTicks
      rw [h2]
      have h1' : (g_X2_bookedTicks_L5 (nI m) G E x3 (x3 + x4) (((nI m).toInt - ((0 : Int32)).toInt).toNat + 1) 0 0).toInt = _ := h1
      rw [h1', e0, es, Int.zero_add]
    · rw [if_pos (Decidable.byContradiction fun hh => c5 (s1.mp hh)), if_pos (Decidable.byContradiction fun hh => c5 (s2.mp hh))]
/-- the first tick, on a track -/
theorem first_L {m : Nat} (hm : m ≤ 48) {gf ef : Nat → Int32} (ho : OD m gf ef) {n f0 : Int32} (hn : 1 ≤ n.toInt ∧ n.toInt ≤ 2000) (hf0 : 0 ≤ f0.toInt) : ∀ (r k q : Nat) (F : Int32), k + r = m → r < q → F.toInt ≤ 300000 → f0.toInt ≤ F.toInt → (∀ j, j < k → gI ef j ≤ F.toInt ∨ F.toInt + n.toInt ≤ gI gf j) → (∀ t : Int, f0.toInt ≤ t → t < F.toInt → ∃ j, j < m ∧ ¬ (gI ef j ≤ t ∨ t + n.toInt ≤ gI gf j)) → (F = f0 ∨ ∃ j, j < m ∧ F = ef j) → ∃ R, g_X2_firstFree_L5 (nI m) gf ef n q F (nI k) = R ∧ f0.toInt ≤ R.toInt ∧ R.toInt ≤ 300000 ∧ (∀ j, j < m → gI ef j ≤ R.toInt ∨ R.toInt + n.toInt ≤ gI gf j) ∧ (∀ t : Int, f0.toInt ≤ t → t < R.toInt → ∃ j, j < m ∧ ¬ (gI ef j ≤ t ∨ t + n.toInt ≤ gI gf j)) ∧ (R = f0 ∨ ∃ j, j < m ∧ R = ef j) := by
  intro r
  induction r with
  | zero =>
    intro k q F hk hq h0 h1 h2 h3 h4
    obtain ⟨q, rfl⟩ : ∃ j, q = j + 1 := ⟨q - 1, by omega⟩
    refine ⟨F, by rw [g_X2_firstFree_L5, if_pos (nI_le (by omega) (by omega))], h1, h0, fun j hj => h2 j (by omega), h3, h4⟩
  | succ r ih =>
    intro k q F hk hq h0 h1 h2 h3 h4
    obtain ⟨q, rfl⟩ : ∃ j, q = j + 1 := ⟨q - 1, by omega⟩
    have es : (F + n).toInt = F.toInt + n.toInt := i32_add (by omega) (by omega)
    have hd := ho.2 k (by omega)
    rw [g_X2_firstFree_L5, if_neg (nI_nle' (by omega) (by omega)), kcl (by omega), nI_1]
    by_cases c1 : F + n ≤ gf k
    · rw [if_pos c1]; rw [Int32.le_iff_toInt_le, es] at c1
      refine ih (k + 1) q F (by omega) (by omega) h0 h1 (fun j hj => ?_) h3 h4
      by_cases hjk : j = k
      · subst hjk; exact Or.inr c1
      · exact h2 j (by omega)
    · rw [if_neg c1]; rw [Int32.le_iff_toInt_le, es] at c1
      by_cases c2 : ef k ≤ F
      · rw [if_pos c2]; rw [Int32.le_iff_toInt_le] at c2
        refine ih (k + 1) q F (by omega) (by omega) h0 h1 (fun j hj => ?_) h3 h4
        by_cases hjk : j = k
        · subst hjk; exact Or.inl c2
        · exact h2 j (by omega)
      · rw [if_neg c2]; rw [Int32.le_iff_toInt_le] at c2
        unfold gI at hd
        refine ih (k + 1) q (ef k) (by omega) (by omega) (by omega) (by omega) (fun j hj => ?_) (fun t t1 t2 => ?_) (Or.inr ⟨k, by omega, rfl⟩)
        · by_cases hjk : j = k
          · subst hjk; exact Or.inl (Int.le_refl _)
          · have := ho.1 j k (by omega) (by omega)
            unfold gI at this ⊢
            left; omega
        · by_cases ht : t < F.toInt
          · exact h3 t t1 ht
          · exact ⟨k, by omega, by unfold gI; omega⟩
/-- one step of the reference's search -/
def nstep (sf : Nat → Int32) (x1 x2 x3 x4 t v : Int32) : Int32 := if t < x3 then v else (if v < 0 then (if (g_X4_isClear sf x1 x2 t x4) = 0 then v else t) else (if v ≤ t then v else (if (g_X4_isClear sf x1 x2 t x4) = 0 then v else t)))
def nInv (C : Int → Prop) (f0 : Int) (v : Int) (S : Int → Prop) : Prop := (v = -6 ∨ (f0 ≤ v ∧ C v)) ∧ ∀ t, S t → f0 ≤ t → C t → 0 ≤ v ∧ v ≤ t
theorem nstep_inv {T : Nat} (hT : T ≤ 102400) {now : Int32} {z : Nat} (hz : z ≤ 48) {rf lf ff sf : Nat → Int32} (he : eqS now (nI z) rf lf ff sf) (hi : Inv T now (nI z) rf lf ff) {x1 x2 x3 x4 : Int32} (hx : 0 ≤ x2.toInt) (hf : 0 ≤ x3.toInt ∧ x3.toInt ≤ 20000) (hn : 1 ≤ x4.toInt ∧ x4.toInt ≤ 2000) {m : Nat} {bf gf ef : Nat → Int32} (h : TrS z (onC ff x1 x2) ff 8 9 m bf gf ef) {v t : Int32} (ht : t.toInt ≤ 300000) {S : Int → Prop} (hv : nInv (fun t => ∀ k, k < m → gI ef k ≤ t ∨ t + x4.toInt ≤ gI gf k) x3.toInt v.toInt S) : nInv (fun t => ∀ k, k < m → gI ef k ≤ t ∨ t + x4.toInt ≤ gI gf k) x3.toInt (nstep sf x1 x2 x3 x4 t v).toInt (fun u => S u ∨ u = t.toInt) := by
  have e0 : (0 : Int32).toInt = 0 := rfl
  obtain ⟨v1, v2⟩ := hv
  unfold nstep
  by_cases c1 : t < x3
  · rw [if_pos c1]; rw [Int32.lt_iff_toInt_lt] at c1
    refine ⟨v1, fun u hu h1 h2 => ?_⟩
    rcases hu with hu | hu
    · exact v2 u hu h1 h2
    · omega
  · rw [if_neg c1]; rw [Int32.lt_iff_toInt_lt] at c1
    have hc := isClear_tr hT hz he hi (x1 := x1) hx (f := t) (n := x4) (by omega) (by omega) h
    by_cases c2 : v < 0
    · rw [if_pos c2]; rw [Int32.lt_iff_toInt_lt, e0] at c2
      by_cases c3 : g_X4_isClear sf x1 x2 t x4 = 0
      · rw [if_pos c3]
        refine ⟨v1, fun u hu h1 h2 => ?_⟩
        rcases hu with hu | hu
        · exact v2 u hu h1 h2
        · subst hu; exact absurd c3 (hc.mpr h2)
      · rw [if_neg c3]
        refine ⟨Or.inr ⟨by omega, hc.mp c3⟩, fun u hu h1 h2 => ?_⟩
        rcases hu with hu | hu
        · have := v2 u hu h1 h2; omega
        · omega
    · rw [if_neg c2]; rw [Int32.lt_iff_toInt_lt, e0] at c2
      by_cases c4 : v ≤ t
      · rw [if_pos c4]; rw [Int32.le_iff_toInt_le] at c4
        refine ⟨v1, fun u hu h1 h2 => ?_⟩
        rcases hu with hu | hu
        · exact v2 u hu h1 h2
        · omega
      · rw [if_neg c4]; rw [Int32.le_iff_toInt_le] at c4
        by_cases c3 : g_X4_isClear sf x1 x2 t x4 = 0
        · rw [if_pos c3]
          refine ⟨v1, fun u hu h1 h2 => ?_⟩
          rcases hu with hu | hu
          · exact v2 u hu h1 h2
          · subst hu; exact absurd c3 (hc.mpr h2)
        · rw [if_neg c3]
          refine ⟨Or.inr ⟨by omega, hc.mp c3⟩, fun u hu h1 h2 => ?_⟩
          rcases hu with hu | hu
          · have := v2 u hu h1 h2; omega
          · omega
theorem nInv_sub {C : Int → Prop} {f0 v : Int} {S S' : Int → Prop} (h : nInv C f0 v S) (hs : ∀ t, S' t → S t) : nInv C f0 v S' := ⟨h.1, fun t ht => h.2 t (hs t ht)⟩
theorem next_L {T : Nat} (hT : T ≤ 102400) {now : Int32} {z : Nat} (hz : z ≤ 48) {rf lf ff sf : Nat → Int32} (he : eqS now (nI z) rf lf ff sf) (hi : Inv T now (nI z) rf lf ff) {x1 x2 x3 x4 : Int32} (hx : 0 ≤ x2.toInt) (hf : 0 ≤ x3.toInt ∧ x3.toInt ≤ 20000) (hn : 1 ≤ x4.toInt ∧ x4.toInt ≤ 2000) {m : Nat} {bf gf ef : Nat → Int32} (h : TrS z (onC ff x1 x2) ff 8 9 m bf gf ef) : ∀ (r k q : Nat) (v : Int32), k + r = z → r < q → nInv (fun t => ∀ k, k < m → gI ef k ≤ t ∨ t + x4.toInt ≤ gI gf k) x3.toInt v.toInt (fun u => u = x3.toInt ∨ ∃ b, b < k ∧ onC ff x1 x2 b ∧ u = (ff (11 * b + 8) + ff (11 * b + 9)).toInt) → nInv (fun t => ∀ k, k < m → gI ef k ≤ t ∨ t + x4.toInt ≤ gI gf k) x3.toInt (g_X4_next_L35 sf x1 x2 x3 x4 q v (nI k)).toInt (fun u => u = x3.toInt ∨ ∃ b, b < z ∧ onC ff x1 x2 b ∧ u = (ff (11 * b + 8) + ff (11 * b + 9)).toInt) := by
  have h10 : sf 10 = nI z := he.2.2.2.1
  intro r
  induction r with
  | zero =>
    intro k q v hk hq hv
    obtain ⟨q, rfl⟩ : ∃ j, q = j + 1 := ⟨q - 1, by omega⟩
    obtain rfl : k = z := by omega
    rw [g_X4_next_L35, h10, if_pos (nI_le (by omega) (by omega))]
    exact hv
  | succ r ih =>
    intro k q v hk hq hv
    obtain ⟨q, rfl⟩ : ∃ j, q = j + 1 := ⟨q - 1, by omega⟩
    have o8 : g_X4_of sf (nI k) 8 = ff (11 * k + 8) := of_at (w := 8) he (by omega) (by omega)
    have o9 : g_X4_of sf (nI k) 9 = ff (11 * k + 9) := of_at (w := 9) he (by omega) (by omega)
    have ho := isOn_iff hz he hi (x1 := x1) hx (b := k) (by omega)
    have hpos : (0 : Int32) ≤ nI k := nI_pos' (by omega)
    by_cases c1 : onC ff x1 x2 k
    · have hs : g_X4_next_L35 sf x1 x2 x3 x4 (q + 1) v (nI k) = g_X4_next_L35 sf x1 x2 x3 x4 q (nstep sf x1 x2 x3 x4 (ff (11 * k + 8) + ff (11 * k + 9)) v) (nI (k + 1)) := by
        rw [g_X4_next_L35, h10, if_neg (nI_nle' (by omega) (by omega)), if_pos hpos, if_neg (ho.mpr c1), o8, o9, nI_1]
        unfold nstep
        repeat' split
        all_goals rfl
      rw [hs]
      have g := onC_ok (hi.2.2.2.2.1 k (by rw [tI z (by omega)]; omega)) hx c1
      unfold fI at g
      have es : (ff (11 * k + 8) + ff (11 * k + 9)).toInt = (ff (11 * k + 8)).toInt + (ff (11 * k + 9)).toInt := i32_add (by omega) (by omega)
      refine ih (k + 1) q _ (by omega) (by omega) (nInv_sub (nstep_inv hT hz he hi hx hf hn h (t := ff (11 * k + 8) + ff (11 * k + 9)) (by omega) hv) (fun t ht => ?_))
      rcases ht with ht | ⟨b, b1, b2, b3⟩
      · exact Or.inl (Or.inl ht)
      · by_cases hb : b = k
        · subst hb; exact Or.inr b3
        · exact Or.inl (Or.inr ⟨b, by omega, b2, b3⟩)
    · have c1' : g_X4_isOn sf (nI k) x1 x2 = 0 := Decidable.byContradiction fun hh => c1 (ho.mp hh)
      have hs : g_X4_next_L35 sf x1 x2 x3 x4 (q + 1) v (nI k) = g_X4_next_L35 sf x1 x2 x3 x4 q (nstep sf x1 x2 x3 x4 x3 v) (nI (k + 1)) := by
        rw [g_X4_next_L35, h10, if_neg (nI_nle' (by omega) (by omega)), if_pos hpos, if_pos c1', nI_1]
        unfold nstep
        repeat' split
        all_goals rfl
      rw [hs]
      refine ih (k + 1) q _ (by omega) (by omega) (nInv_sub (nstep_inv hT hz he hi hx hf hn h (t := x3) (by omega) hv) (fun t ht => ?_))
      rcases ht with ht | ⟨b, b1, b2, b3⟩
      · exact Or.inl (Or.inl ht)
      · by_cases hb : b = k
        · subst hb; exact absurd b2 c1
        · exact Or.inl (Or.inr ⟨b, by omega, b2, b3⟩)
theorem core_next {T : Nat} (hT : T ≤ 102400) {now told : Int32} {rf lf ff sf : Nat → Int32} (he : eqS now told rf lf ff sf) (hi : Inv T now told rf lf ff) (sz : Int32) (bf gf ef : Nat → Int32) (x1 x2 x3 x4 : Int32) : (g_X3_next told ff sz bf gf ef x1 x2 x3 x4).1 = g_X4_next sf x1 x2 x3 x4 := by
  obtain ⟨z, hz, ez, -⟩ := told_nat hi
  subst ez
  have e0 : (0 : Int32).toInt = 0 := rfl
  have h10 : sf 10 = nI z := he.2.2.2.1
  obtain ⟨s1, s2⟩ := span_iff x3 x4
  unfold g_X3_next g_X4_next
  rcases col_split x1 x2 with ⟨c1, c2⟩ | ⟨c1, c2, c3, -, c4, -⟩
  · rw [if_pos c1]
    rcases c2 with c2 | ⟨c2, c3⟩
    · rw [if_pos c2]
    · rw [if_neg c2, if_pos c3]
  · rw [if_neg c1, if_neg c2, if_neg c3]
    by_cases c5 : (0 ≤ x3.toInt ∧ x3.toInt ≤ 20000) ∧ 1 ≤ x4.toInt ∧ x4.toInt ≤ 2000
    · rw [if_neg (s1.mpr c5), if_neg (s2.mpr c5)]
      obtain ⟨m, B, G, E, e, hTr⟩ := showC hz ff bf gf ef x1 x2
      have hm : m ≤ 48 := by have := hTr.1; omega
      have hod := odC hT hz hi c4 hTr
      rw [e]
      obtain ⟨R, r0, r1, r2, r3, r4, r5⟩ := first_L hm hod (n := x4) (f0 := x3) c5.2 c5.1.1 m 0 (((nI m).toInt - ((0 : Int32)).toInt).toNat + 1) x3 (by omega) (by rw [tI m (by omega), e0]; omega) (by omega) (Int.le_refl _) (fun j hj => by omega) (fun t t1 t2 => by omega) (Or.inl rfl)
      have r0' : g_X2_firstFree (nI m) G E x3 x4 = R := r0
      show g_X2_firstFree (nI m) G E x3 x4 = _
      rw [r0', h10, tI z (by omega), show (-1 : Int32).toInt = -1 from rfl, show (((z : Int)) - -1).toNat + 1 = (z + 1) + 1 by omega]
      have hs : g_X4_next_L35 sf x1 x2 x3 x4 ((z + 1) + 1) (-6) (-1) = g_X4_next_L35 sf x1 x2 x3 x4 (z + 1) (nstep sf x1 x2 x3 x4 x3 (-6)) (nI 0) := by
        rw [g_X4_next_L35, h10, if_neg (by rw [Int32.le_iff_toInt_le, tI z (by omega), show (-1 : Int32).toInt = -1 from rfl]; omega), if_neg (by decide)]
        unfold nstep
        repeat' split
        all_goals rfl
      rw [hs]
      have i0 : nInv (fun t => ∀ k, k < m → gI E k ≤ t ∨ t + x4.toInt ≤ gI G k) x3.toInt (-6 : Int32).toInt (fun _ => False) := ⟨Or.inl rfl, fun t ht => absurd ht id⟩
      have i1 := nstep_inv hT hz he hi (x1 := x1) c4 c5.1 c5.2 hTr (t := x3) (by omega) i0
      have i2 := next_L hT hz he hi (x1 := x1) c4 c5.1 c5.2 hTr z 0 (z + 1) _ (by omega) (by omega) (nInv_sub i1 (fun t ht => by
        rcases ht with ht | ⟨b, b1, -⟩
        · exact Or.inr ht
        · omega))
      generalize g_X4_next_L35 sf x1 x2 x3 x4 (z + 1) (nstep sf x1 x2 x3 x4 x3 (-6)) (nI 0) = V at i2 ⊢
      obtain ⟨j1, j2⟩ := i2
      rw [← Int32.toInt_inj]
      have hV : 0 ≤ V.toInt ∧ V.toInt ≤ R.toInt := by
        refine j2 R.toInt ?_ r1 r3
        rcases r5 with r5 | r5
        · exact Or.inl (by rw [r5])
        · obtain ⟨j, jm, je⟩ := r5
          have hb := (tr_ex hz hTr (fun _ e => e = R)).mp ⟨j, jm, je.symm⟩
          obtain ⟨b, b1, b2, b3⟩ := hb
          exact Or.inr ⟨b, b1, b2, by rw [b3]⟩
      rcases j1 with j1 | ⟨j1, j3⟩
      · omega
      · by_cases hlt : V.toInt < R.toInt
        · obtain ⟨j, jm, jc⟩ := r4 V.toInt j1 hlt
          exact absurd (j3 j jm) jc
        · omega
    · rw [if_pos (Decidable.byContradiction fun hh => c5 (s1.mp hh)), if_pos (Decidable.byContradiction fun hh => c5 (s2.mp hh))]
