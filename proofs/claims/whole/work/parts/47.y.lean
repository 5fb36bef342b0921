/-! ===== placing: the piece ===== -/
theorem pin_no {sf : Nat → Int32} {x1 x2 c : Int32} {N l : Nat} (hN : N ≤ 60) (hl : 1 ≤ l) (hlN : l ≤ N) (KK : Int32 → Int32) : ∀ (r a q : Nat), a + r = N + 1 - l → r < q → (∀ a', a ≤ a' → a' + l ≤ N → g_X4_isFree sf x1 x2 (c + nI a') (nI l) = 0) → g_X4_pieceOf_L12 KK sf x1 x2 c (nI N) (nI l) q (nI a) = KK (nI l + (-1)) := by
  intro r
  induction r with
  | zero =>
    intro a q ha hq h
    obtain ⟨q, rfl⟩ : ∃ j, q = j + 1 := ⟨q - 1, by omega⟩
    rw [g_X4_pieceOf_L12, nI_add, if_pos (nI_lt (by omega) (by omega))]
  | succ r ih =>
    intro a q ha hq h
    obtain ⟨q, rfl⟩ : ∃ j, q = j + 1 := ⟨q - 1, by omega⟩
    rw [g_X4_pieceOf_L12, nI_add, if_neg (nI_nlt (by omega) (by omega)), if_pos (h a (by omega) (by omega)), nI_1]
    exact ih (a + 1) q (by omega) (by omega) (fun a' h1 h2 => h a' (by omega) h2)
theorem pin_yes {sf : Nat → Int32} {x1 x2 c : Int32} {N l A : Nat} (hN : N ≤ 60) (hA : A + l ≤ N) (hP : ¬ g_X4_isFree sf x1 x2 (c + nI A) (nI l) = 0) (hno : ∀ a, a < A → g_X4_isFree sf x1 x2 (c + nI a) (nI l) = 0) (KK : Int32 → Int32) : ∀ (d a q : Nat), a + d = A → d < q → g_X4_pieceOf_L12 KK sf x1 x2 c (nI N) (nI l) q (nI a) = nI (100 * l + A) := by
  intro d
  induction d with
  | zero =>
    intro a q ha hq
    obtain ⟨q, rfl⟩ : ∃ j, q = j + 1 := ⟨q - 1, by omega⟩
    obtain rfl : a = A := by omega
    rw [g_X4_pieceOf_L12, nI_add, if_neg (nI_nlt (by omega) (by omega)), if_neg hP, show (100 : Int32) = nI 100 from rfl, pk_mul, nI_add]
  | succ d ih =>
    intro a q ha hq
    obtain ⟨q, rfl⟩ : ∃ j, q = j + 1 := ⟨q - 1, by omega⟩
    rw [g_X4_pieceOf_L12, nI_add, if_neg (nI_nlt (by omega) (by omega)), if_pos (hno a (by omega)), nI_1]
    exact ih (a + 1) q (by omega) (by omega)
theorem pout {sf : Nat → Int32} {x1 x2 c : Int32} {N M A : Nat} (hN : N ≤ 60) (h1 : ∀ l a, M < l → a + l ≤ N → g_X4_isFree sf x1 x2 (c + nI a) (nI l) = 0) (h2 : 1 ≤ M → A + M ≤ N ∧ ¬ g_X4_isFree sf x1 x2 (c + nI A) (nI M) = 0 ∧ ∀ a, a < A → g_X4_isFree sf x1 x2 (c + nI a) (nI M) = 0) : ∀ (d l q : Nat), M + d = l → l ≤ N → l < q → g_X4_pieceOf_L4 sf x1 x2 c (nI N) q (nI l) = if M = 0 then 0 else nI (100 * M + A) := by
  have e0 : (0 : Int32).toInt = 0 := rfl
  intro d
  induction d with
  | zero =>
    intro l q hl hlN hq
    obtain ⟨q, rfl⟩ : ∃ j, q = j + 1 := ⟨q - 1, by omega⟩
    obtain rfl : l = M := by omega
    rw [g_X4_pieceOf_L4]
    by_cases h0 : l = 0
    · subst h0
      rw [if_pos (by rw [Int32.le_iff_toInt_le, tI 0 (by omega), e0]; omega), if_pos rfl]
    · rw [if_neg (by rw [Int32.le_iff_toInt_le, tI l (by omega), e0]; omega), if_neg h0]
      obtain ⟨a1, a2, a3⟩ := h2 (by omega)
      exact pin_yes hN a1 a2 a3 _ A 0 _ (by omega) (by rw [e0]; omega)
  | succ d ih =>
    intro l q hl hlN hq
    obtain ⟨q, rfl⟩ : ∃ j, q = j + 1 := ⟨q - 1, by omega⟩
    obtain ⟨l, rfl⟩ : ∃ j, l = j + 1 := ⟨l - 1, by omega⟩
    rw [g_X4_pieceOf_L4, if_neg (by rw [Int32.le_iff_toInt_le, tI (l + 1) (by omega), e0]; omega)]
    have hin := pin_no (sf := sf) (x1 := x1) (x2 := x2) (c := c) hN (l := l + 1) (by omega) hlN (fun z0 => g_X4_pieceOf_L4 sf x1 x2 c (nI N) q z0) (N + 1 - (l + 1)) 0 ((61 - ((0 : Int32)).toInt).toNat + 1) (by omega) (by rw [e0]; omega) (fun a' _ h => h1 (l + 1) a' (by omega) h)
    have hin' : g_X4_pieceOf_L12 (fun z0 => g_X4_pieceOf_L4 sf x1 x2 c (nI N) q z0) sf x1 x2 c (nI N) (nI (l + 1)) ((61 - ((0 : Int32)).toInt).toNat + 1) 0 = _ := hin
    rw [hin', pk_m1]
    exact ih l q (by omega) (by omega) (by omega)
/-- the piece of a colour, on both sides -/
theorem piece_both {T : Nat} (hT : T ≤ 102400) {now : Int32} {z : Nat} (hz : z ≤ 48) {rf lf ff sf : Nat → Int32} (he : eqS now (nI z) rf lf ff sf) (hi : Inv T now (nI z) rf lf ff) {x1 x2 c : Int32} (hx : 0 ≤ x2.toInt) (hc : 0 ≤ c.toInt ∧ c.toInt ≤ 150000) {N : Nat} (hN : 1 ≤ N ∧ N ≤ 60) {m : Nat} {bf gf ef : Nat → Int32} (h : TrS z (onC ff x1 x2) ff 8 9 m bf gf ef) : ∃ M A : Nat, g_X2_pieceBegin (nI m) gf ef c (c + nI N) (g_X1_fillsVoids rf) = c + nI A ∧ g_X2_room (nI m) gf ef (c + nI A) (c + nI N) (g_X1_fillsVoids rf) = nI M ∧ M ≤ N ∧ g_X4_pieceOf sf x1 x2 c (nI N) = (if M = 0 then 0 else nI (100 * M + A)) ∧ (1 ≤ M → A + M ≤ N ∧ ¬ g_X4_isFree sf x1 x2 (c + nI A) (nI M) = 0) := by
  have hm : m ≤ 48 := by have := h.1; omega
  have hod := odC hT hz hi hx h
  have ee : (c + nI N).toInt = c.toInt + N := by rw [i32_add (by rw [tI N (by omega)]; omega) (by rw [tI N (by omega)]; omega), tI N (by omega)]
  have ea : ∀ a : Nat, a ≤ 40000 → (c + nI a).toInt = c.toInt + a := fun a ha => by rw [i32_add (by rw [tI a (by omega)]; omega) (by rw [tI a (by omega)]; omega), tI a (by omega)]
  obtain ⟨b, b1, b2, b3, b4⟩ := piece_at hm hod (c := c) (e := c + nI N) (iv := g_X1_fillsVoids rf) (by omega) (by omega)
  obtain ⟨p0, p1⟩ := rm_le hm hod (s := b) (e := c + nI N) (iv := g_X1_fillsVoids rf) (by omega) (by omega)
  -- how free, seen as room
  have key : ∀ (a l : Nat), 1 ≤ l → a + l ≤ N → (¬ g_X4_isFree sf x1 x2 (c + nI a) (nI l) = 0 ↔ (l : Int) ≤ (g_X2_room (nI m) gf ef (c + nI a) (c + nI N) (g_X1_fillsVoids rf)).toInt) := fun a l h1 h2 => by
    have e1 := ea a (by omega)
    have hq := (rm_le hm hod (s := c + nI a) (e := c + nI N) (iv := g_X1_fillsVoids rf) (by omega) (by omega)).2 l (by omega)
    rw [frM hT hz he hi hx (f := c + nI a) (n := nI l) (by omega) (by rw [tI l (by omega)]; omega) h, hq, tI l (by omega)]
    exact ⟨fun hh => ⟨by omega, hh⟩, fun hh => hh.2⟩
  have hM60 : (g_X2_room (nI m) gf ef b (c + nI N) (g_X1_fillsVoids rf)).toInt ≤ N := by
    by_cases hh : 1 ≤ (g_X2_room (nI m) gf ef b (c + nI N) (g_X1_fillsVoids rf)).toInt
    · have := ((p1 _ hh).mp (Int.le_refl _)).1
      omega
    · omega
  obtain ⟨M, hM, eM⟩ := nat_of (x := g_X2_room (nI m) gf ef b (c + nI N) (g_X1_fillsVoids rf)) (n := 61) p0 (by omega)
  obtain ⟨A, hA⟩ : ∃ A : Nat, (A : Int) = b.toInt - c.toInt := ⟨(b.toInt - c.toInt).toNat, by omega⟩
  have hAb : ∀ hA40 : A ≤ 40000, c + nI A = b := fun hA40 => Int32.toInt_inj.mp (by rw [ea A hA40]; omega)
  rw [eM, tI M (by omega)] at hM60 p1 b4
  by_cases hM0 : M = 0
  · -- no piece: any place will do for the begin
    have hA200 : A ≤ 200000 := by omega
    have hAb' : c + nI A = b := Int32.toInt_inj.mp (by rw [i32_add (by rw [tI A (by omega)]; omega) (by rw [tI A (by omega)]; omega), tI A (by omega)]; omega)
    refine ⟨0, A, by rw [b1, hAb'], by rw [hAb', eM, hM0], by omega, ?_, fun hh => by omega⟩
    rw [if_pos rfl]
    unfold g_X4_pieceOf
    have := pout (sf := sf) (x1 := x1) (x2 := x2) (c := c) (N := N) (M := 0) (A := 0) hN.2 (fun l a h1 h2 => by
      refine Decidable.byContradiction fun hh => ?_
      have := (key a l (by omega) h2).mp hh
      have := (b4 (c + nI a) (by rw [ea a (by omega)]; omega) (by rw [ea a (by omega)]; omega)).1
      omega) (fun hh => by omega) N N ((nI N).toInt.toNat + 1) (by omega) (Nat.le_refl _) (by rw [tI N (by omega)]; omega)
    rw [this, if_pos rfl]
  · have hbN := ((p1 M (by omega)).mp (Int.le_refl _)).1
    have hA40 : A ≤ 40000 := by omega
    have hAM : A + M ≤ N := by omega
    have hPA : ¬ g_X4_isFree sf x1 x2 (c + nI A) (nI M) = 0 := (key A M (by omega) hAM).mpr (by rw [hAb hA40, eM, tI M (by omega)]; exact Int.le_refl _)
    refine ⟨M, A, by rw [b1, hAb hA40], by rw [hAb hA40, eM], by omega, ?_, fun _ => ⟨hAM, hPA⟩⟩
    unfold g_X4_pieceOf
    exact pout (sf := sf) (x1 := x1) (x2 := x2) (c := c) (N := N) (M := M) (A := A) hN.2 (fun l a h1 h2 => by
      refine Decidable.byContradiction fun hh => ?_
      have := (key a l (by omega) h2).mp hh
      have := (b4 (c + nI a) (by rw [ea a (by omega)]; omega) (by rw [ea a (by omega)]; omega)).1
      omega) (fun _ => ⟨hAM, hPA, fun a ha => by
      refine Decidable.byContradiction fun hh => ?_
      have := (key a M (by omega) (by omega)).mp hh
      have := (b4 (c + nI a) (by rw [ea a (by omega)]; omega) (by rw [ea a (by omega)]; omega)).2 (by rw [ea a (by omega)]; omega) (by omega)
      omega⟩) (N - M) N ((nI N).toInt.toNat + 1) (by omega) (Nat.le_refl _) (by rw [tI N (by omega)]; omega)
theorem d100 {M A : Nat} (hM : M ≤ 60) (hA : A ≤ 60) : nI (100 * M + A) / 100 = nI M ∧ nI (100 * M + A) - nI (100 * M + A) / 100 * 100 = nI A := by
  rw [show (100 : Int32) = nI 100 from rfl, pk_rem (by omega) (by omega) (by omega), pk_div (by omega) (by omega) (by omega)]
  constructor
  · congr 1; omega
  · congr 1; omega
theorem cut_L {T : Nat} (hT : T ≤ 102400) {now : Int32} {z : Nat} (hz : z ≤ 48) {rf lf ff sf : Nat → Int32} (he : eqS now (nI z) rf lf ff sf) (hi : Inv T now (nI z) rf lf ff) {x1 own c : Int32} (hown : 0 ≤ own.toInt ∧ own.toInt ≤ 5) (hc : 0 ≤ c.toInt ∧ c.toInt ≤ 150000) {N : Nat} (hN : 1 ≤ N ∧ N ≤ 60) (q4 q5 q6 q7 q8 : Int32) : ∀ (r k q : Nat) (v2 v3 v4 w5 w6 sz : Int32) (bf gf ef : Nat → Int32), k + r = 6 → r < q → ((v2 = -6 ∧ v4 = 0 ∧ w6 = 0 ∧ (w5 = -6 ∨ (0 ≤ w5.toInt ∧ w5.toInt ≤ 5))) ∨ ∃ M A : Nat, 1 ≤ M ∧ A + M ≤ N ∧ v2 = w5 ∧ (0 ≤ w5.toInt ∧ w5.toInt ≤ 5) ∧ v3 = c + nI A ∧ v4 = nI M ∧ w6 = nI (100 * M + A) ∧ ¬ g_X4_isFree sf x1 w5 (c + nI A) (nI M) = 0) → ∃ s1 s2 s3 s4, (g_X4_cut_L10 sf q4 q5 q6 q7 q8 x1 own c (nI N) q w5 w6 (nI k) = (q4, q5, q6, q7, q8) ∧ g_X1_cut_L22 x1 own c q4 q5 q6 q7 q8 (nI z) rf ff q (c + nI N) v2 v3 v4 (nI k) sz bf gf ef = (q4, q5, q6, q7, q8, s1, s2, s3, s4)) ∨ (∃ (w : Int32) (M A : Nat), 1 ≤ M ∧ A + M ≤ N ∧ (0 ≤ w.toInt ∧ w.toInt ≤ 5) ∧ ¬ g_X4_isFree sf x1 w (c + nI A) (nI M) = 0 ∧ g_X4_cut_L10 sf q4 q5 q6 q7 q8 x1 own c (nI N) q w5 w6 (nI k) = (2, w, c + nI A, nI M, -6) ∧ g_X1_cut_L22 x1 own c q4 q5 q6 q7 q8 (nI z) rf ff q (c + nI N) v2 v3 v4 (nI k) sz bf gf ef = (2, w, c + nI A, nI M, -6, s1, s2, s3, s4)) := by
  have e0 : (0 : Int32).toInt = 0 := rfl
  obtain ⟨rr, rs⟩ := rl_at he (j := 0) (by omega)
  have rr' : g_X0_ruleNow rf 0 = rf 0 := rr
  obtain ⟨r3, rs3⟩ := rl_at he (j := 3) (by omega)
  have r3' : g_X0_ruleNow rf 3 = rf 3 := r3
  have hr3 := hi.2.2.1.2.2.2.1
  have neg6 : ∀ w : Int32, 0 ≤ w.toInt → ¬ w = -6 := fun w hw hh => by rw [hh, show (-6 : Int32).toInt = -6 from rfl] at hw; omega
  have nn : ∀ w : Int32, 0 ≤ w.toInt → ¬ w < 0 := fun w hw => by rw [Int32.lt_iff_toInt_lt, e0]; omega
  intro r
  induction r with
  | zero =>
    intro k q v2 v3 v4 w5 w6 sz bf gf ef hk hq hv
    obtain ⟨q, rfl⟩ : ∃ j, q = j + 1 := ⟨q - 1, by omega⟩
    have cc : (6 : Int32) ≤ nI k := nI_le (a := 6) (by omega) (by omega)
    refine ⟨sz, bf, gf, ef, ?_⟩
    rw [g_X4_cut_L10, if_pos cc, g_X1_cut_L22, if_pos cc, r3', rs3]
    rcases hv with ⟨a1, a2, a3, -⟩ | ⟨M, A, h1, h2, h3, h4, h5, h6, h7, h8⟩
    · have z0 : (0 : Int32) / 100 < rf 3 := by rw [Int32.lt_iff_toInt_lt, show ((0 : Int32) / 100).toInt = 0 from rfl]; omega
      rw [if_pos a1, a3, if_pos z0]
      exact Or.inl ⟨rfl, rfl⟩
    · obtain ⟨d1, d2⟩ := d100 (M := M) (A := A) (by omega) (by omega)
      have v2n : ¬ v2 = -6 := by rw [h3]; exact neg6 w5 h4.1
      rw [h7, d2, d1, if_neg v2n, h6]
      by_cases c3 : nI M < rf 3
      · rw [if_pos c3, if_pos c3]; exact Or.inl ⟨rfl, rfl⟩
      · rw [if_neg c3, if_neg c3]
        exact Or.inr ⟨w5, M, A, h1, h2, h4, h8, rfl, by rw [h3, h5]; rfl⟩
  | succ r ih =>
    intro k q v2 v3 v4 w5 w6 sz bf gf ef hk hq hv
    obtain ⟨q, rfl⟩ : ∃ j, q = j + 1 := ⟨q - 1, by omega⟩
    have cc : ¬ (6 : Int32) ≤ nI k := nI_nle' (b := 6) (by omega) (by omega)
    have hk0 : 0 ≤ (nI k).toInt ∧ (nI k).toInt ≤ 5 := by rw [tI k (by omega)]; omega
    have haw := away_at hk0 hown
    obtain ⟨m, B, G, E, e, hTr⟩ := showC hz ff bf gf ef x1 (nI k)
    obtain ⟨M, A, p1, p2, p3, p4, p5⟩ := piece_both hT hz he hi hk0.1 hc hN hTr
    rw [g_X4_cut_L10, if_neg cc, g_X1_cut_L22, if_neg cc, e, rr', rs, haw, nI_1, p4]
    by_cases c1 : rf 0 < g_X4_away (nI k) own
    · rw [if_pos c1, if_pos c1]
      exact ih (k + 1) q v2 v3 v4 w5 w6 _ _ _ _ (by omega) (by omega) hv
    · rw [if_neg c1, if_neg c1]
      show ∃ s1 s2 s3 s4, _
      simp only [p1, p2]
      have take := fun (hM : 1 ≤ M) s1 s2 s3 s4 => ih (k + 1) q (nI k) (c + nI A) (nI M) (nI k) (nI (100 * M + A)) s1 s2 s3 s4 (by omega) (by omega) (Or.inr ⟨M, A, hM, (p5 hM).1, rfl, hk0, rfl, rfl, rfl, (p5 hM).2⟩)
      have keep := fun s1 s2 s3 s4 => ih (k + 1) q v2 v3 v4 w5 w6 s1 s2 s3 s4 (by omega) (by omega) hv
      rcases hv with ⟨a1, a2, a3, a4⟩ | ⟨M0, A0, h1, h2, h3, h4, h5, h6, h7, h8⟩
      · by_cases hM : M = 0
        · subst hM
          have k0 := fun s1 s2 s3 s4 => ih (k + 1) q v2 v3 v4 (nI k) 0 s1 s2 s3 s4 (by omega) (by omega) (Or.inl ⟨a1, a2, rfl, Or.inr hk0⟩)
          have l1 : ¬ v4 < nI 0 := by rw [a2]; decide
          have l2 : nI 0 = v4 := by rw [a2]; rfl
          rw [if_pos rfl, if_neg l1, if_pos l2, if_pos a1, a3]
          have y1 : ¬ (0 : Int32) / 100 < 0 / 100 := by decide
          rw [a3] at keep
          by_cases b1 : w5 < 0
          · rw [if_pos b1]; exact k0 _ _ _ _
          · rw [if_neg b1, if_neg y1, if_pos rfl]
            split
            · exact keep _ _ _ _
            · exact k0 _ _ _ _
        · have l1 : v4 < nI M := by rw [a2, Int32.lt_iff_toInt_lt, e0, tI M (by omega)]; omega
          obtain ⟨d1, d2⟩ := d100 (M := M) (A := A) (by omega) (by have := (p5 (by omega)).1; omega)
          rw [if_neg hM, if_pos l1, a3, d1]
          have y1 : (0 : Int32) / 100 < nI M := by rw [Int32.lt_iff_toInt_lt, show ((0 : Int32) / 100).toInt = 0 from rfl, tI M (by omega)]; omega
          rw [if_pos y1]
          have tk := take (by omega)
          split
          · exact tk _ _ _ _
          · exact tk _ _ _ _
      · have w5n : ¬ w5 < 0 := nn w5 h4.1
        have v2n : ¬ v2 = -6 := by rw [h3]; exact neg6 w5 h4.1
        obtain ⟨d1, d2⟩ := d100 (M := M0) (A := A0) (by omega) (by omega)
        have haw2 := away_at h4 hown
        have dM : (if M = 0 then (0 : Int32) else nI (100 * M + A)) / 100 = nI M := by
          by_cases hM : M = 0
          · rw [if_pos hM, hM]; rfl
          · rw [if_neg hM]; exact (d100 (by omega) (by have := (p5 (by omega)).1; omega)).1
        rw [dM, h7, d1, if_neg w5n, h6]
        rw [h7, h6] at keep
        by_cases b1 : nI M0 < nI M
        · have hMp : 1 ≤ M := by rw [nI_ltI (by omega) (by omega)] at b1; omega
          rw [if_pos b1, if_pos b1, if_neg (show ¬ M = 0 by omega)]
          exact take hMp _ _ _ _
        · rw [if_neg b1, if_neg b1]
          by_cases b2 : nI M = nI M0
          · have hMM : M = M0 := (nI_eq (by omega) (by omega)).mp b2
            have hnr : g_X1_isNearer own (nI k) v2 = 0 ↔ g_X4_away w5 own ≤ g_X4_away (nI k) own := by
              unfold g_X1_isNearer
              rw [h3, haw, haw2]
              by_cases d3 : g_X4_away w5 own ≤ g_X4_away (nI k) own
              · rw [if_pos d3]; exact ⟨fun _ => d3, fun _ => rfl⟩
              · rw [if_neg d3]; exact ⟨fun h => absurd h (by decide), fun h => absurd h d3⟩
            rw [if_pos b2, if_pos b2, if_neg v2n]
            by_cases d3 : g_X4_away w5 own ≤ g_X4_away (nI k) own
            · rw [if_pos d3, if_pos (hnr.mpr d3)]
              exact keep _ _ _ _
            · rw [if_neg d3, if_neg (fun hh => d3 (hnr.mp hh)), if_neg (show ¬ M = 0 by omega)]
              exact take (by omega) _ _ _ _
          · rw [if_neg b2, if_neg b2]
            exact keep _ _ _ _
