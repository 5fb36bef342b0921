/-! ===== images ===== -/
theorem Inv_congr {T : Nat} {now told : Int32} {rf lf ff rf' lf' ff' : Nat → Int32} (hi : Inv T now told rf lf ff) (hr : ∀ j, j < 6 → rf' j = rf j) (hl : ∀ j, j < 3 → lf' j = lf j) (hf : ∀ j, j < 528 → ff' j = ff j) : Inv T now told rf' lf' ff' := by
  obtain ⟨h0, h1, h2, h3, h4, h5⟩ := hi
  have hfI : ∀ b w : Nat, (b : Int) < told.toInt → w ≤ 10 → fI ff' b w = fI ff b w := fun b w hb hw => by
    unfold fI
    rw [hf _ (by omega)]
  refine ⟨h0, h1, ?_, fun j hj => by rw [hl j hj]; exact h3 j hj, fun b hb => ?_, fun a b ha hb hab => ?_⟩
  · unfold rlOk at h2 ⊢
    rw [hr 0 (by omega), hr 1 (by omega), hr 2 (by omega), hr 3 (by omega), hr 4 (by omega), hr 5 (by omega)]
    exact h2
  · have g := h4 b hb
    unfold buOk at g ⊢
    rw [hfI b 0 hb (by omega), hfI b 2 hb (by omega), hfI b 4 hb (by omega), hfI b 5 hb (by omega), hfI b 6 hb (by omega), hfI b 7 hb (by omega), hfI b 8 hb (by omega), hfI b 9 hb (by omega), hfI b 10 hb (by omega)]
    exact g
  · have g := h5 a b ha hb hab
    unfold apOk at g ⊢
    rw [hfI a 0 ha (by omega), hfI a 4 ha (by omega), hfI a 5 ha (by omega), hfI a 6 ha (by omega), hfI a 7 ha (by omega), hfI a 8 ha (by omega), hfI a 9 ha (by omega), hfI a 10 ha (by omega)]
    rw [hfI b 0 hb (by omega), hfI b 4 hb (by omega), hfI b 5 hb (by omega), hfI b 6 hb (by omega), hfI b 7 hb (by omega), hfI b 8 hb (by omega), hfI b 9 hb (by omega), hfI b 10 hb (by omega)]
    exact g
theorem eqS_congr {now told : Int32} {rf lf ff sf rf' lf' ff' sf' : Nat → Int32} (he : eqS now told rf lf ff sf) (hr : ∀ j, j < 6 → rf' j = rf j) (hl : ∀ j, j < 3 → lf' j = lf j) (hf : ∀ j, j < 528 → ff' j = ff j) (hs : ∀ j, j < 539 → sf' j = sf j) : eqS now told rf' lf' ff' sf' := by
  obtain ⟨h1, h2, h3, h4, h5⟩ := he
  exact ⟨fun j hj => by rw [hs j (by omega), hr j hj, h1 j hj], fun j hj => by rw [hs _ (by omega), hl j hj, h2 j hj], by rw [hs 9 (by omega), h3], by rw [hs 10 (by omega), h4], fun j hj => by rw [hs _ (by omega), hf j hj, h5 j hj]⟩
theorem cpy_at {f g : Nat → Int32} {n j : Nat} (h : j < n) : va_cpy f g 0 0 n j = f j := by
  rw [pk_cpy_in (by omega) (by omega)]
  congr 1; omega
theorem img_ix {k i : Nat} (hk : k < 2) (hi : i < 539) : ((539 * nI k) + nI i).toNatClampNeg = 539 * k + i := by
  rw [show (539 : Int32) = nI 539 from rfl, pk_mul, nI_add]
  exact clmp_of (tI _ (by omega))
theorem image_L {sf kf : Nat → Int32} {k : Nat} (hk : k < 2) : ∀ (m i n : Nat) (w : Nat → Int32), i + m = 539 → m < n → g_X4_image_L14 sf kf (nI k) n (nI i) w = (1, (fun j => if 539 * k + i ≤ j ∧ j < 539 * k + 539 then sf (j - 539 * k) else w j), upd kf k 1) := by
  intro m
  induction m with
  | zero =>
    intro i n w hi hn
    obtain ⟨n, rfl⟩ : ∃ j, n = j + 1 := ⟨n - 1, by omega⟩
    rw [g_X4_image_L14, if_pos (show (539 : Int32) ≤ nI i from nI_le (a := 539) (by omega) (by omega)), clmp_of (tI k (by omega))]
    have e : (fun j => if 539 * k + i ≤ j ∧ j < 539 * k + 539 then sf (j - 539 * k) else w j) = w := by
      funext j; rw [if_neg (by omega)]
    rw [e]
    rfl
  | succ m ih =>
    intro i n w hi hn
    obtain ⟨n, rfl⟩ : ∃ j, n = j + 1 := ⟨n - 1, by omega⟩
    rw [g_X4_image_L14, if_neg (show ¬ (539 : Int32) ≤ nI i from nI_nle' (b := 539) (by omega) (by omega)), nI_1, img_ix hk (by omega), clmp_of (tI i (by omega)), ih (i + 1) n _ (by omega) (by omega)]
    congr 2
    funext j
    by_cases h : 539 * k + (i + 1) ≤ j ∧ j < 539 * k + 539
    · rw [if_pos h, if_pos (by omega)]
    · rw [if_neg h, up_def]
      by_cases h2 : j = 539 * k + i
      · rw [if_pos h2, if_pos (by omega)]; congr 1; omega
      · rw [if_neg h2, if_neg (by omega)]
theorem restore_L {mf : Nat → Int32} {k : Nat} (hk : k < 2) : ∀ (m i n : Nat) (w : Nat → Int32), i + m = 539 → m < n → g_X4_restore_L26 mf (nI k) n (nI i) w = (1, (fun j => if i ≤ j ∧ j < 539 then mf (539 * k + j) else w j)) := by
  intro m
  induction m with
  | zero =>
    intro i n w hi hn
    obtain ⟨n, rfl⟩ : ∃ j, n = j + 1 := ⟨n - 1, by omega⟩
    rw [g_X4_restore_L26, if_pos (show (539 : Int32) ≤ nI i from nI_le (a := 539) (by omega) (by omega))]
    congr 1
    funext j; rw [if_neg (by omega)]
  | succ m ih =>
    intro i n w hi hn
    obtain ⟨n, rfl⟩ : ∃ j, n = j + 1 := ⟨n - 1, by omega⟩
    rw [g_X4_restore_L26, if_neg (show ¬ (539 : Int32) ≤ nI i from nI_nle' (b := 539) (by omega) (by omega)), nI_1, img_ix hk (by omega), clmp_of (tI i (by omega)), ih (i + 1) n _ (by omega) (by omega)]
    congr 1
    funext j
    by_cases h : i + 1 ≤ j ∧ j < 539
    · rw [if_pos h, if_pos (by omega)]
    · rw [if_neg h, up_def]
      by_cases h2 : j = i
      · rw [if_pos h2, if_pos (by omega), h2]
      · rw [if_neg h2, if_neg (by omega)]
theorem kp01 {kp : Int32} {kf : Nat → Int32} (h : kpOk kp kf) : (kf 0 = 0 ∨ kf 0 = 1) ∧ (kf 1 = 0 ∨ kf 1 = 1) := by
  rcases h with ⟨-, b, c⟩ | ⟨-, b, c⟩ | ⟨-, b, c⟩ | ⟨-, b, c⟩
  · exact ⟨Or.inl b, Or.inl c⟩
  · exact ⟨Or.inr b, Or.inl c⟩
  · exact ⟨Or.inl b, Or.inr c⟩
  · exact ⟨Or.inr b, Or.inr c⟩
theorem core_image {T : Nat} {kp now told : Int32} {rf lf ff : Nat → Int32} {now1 told1 : Int32} {rf1 lf1 ff1 : Nat → Int32} {now2 told2 : Int32} {rf2 lf2 ff2 sf mf kf : Nat → Int32} (h : Sim T kp now told rf lf ff now1 told1 rf1 lf1 ff1 now2 told2 rf2 lf2 ff2 sf mf kf) (x : Int32) : ∀ G, G = g_X3_image kp now told rf lf ff now1 told1 rf1 lf1 ff1 now2 told2 rf2 lf2 ff2 x → ∀ K, K = g_X4_image sf mf kf x → G.1 = K.1 ∧ Sim T G.2.1 now told rf lf ff G.2.2.1 G.2.2.2.1 G.2.2.2.2.1 G.2.2.2.2.2.1 G.2.2.2.2.2.2.1 G.2.2.2.2.2.2.2.1 G.2.2.2.2.2.2.2.2.1 G.2.2.2.2.2.2.2.2.2.1 G.2.2.2.2.2.2.2.2.2.2.1 G.2.2.2.2.2.2.2.2.2.2.2 sf K.2.1 K.2.2 := by
  intro G hG K hK
  obtain ⟨⟨he, hi⟩, hk, h1, h2⟩ := h
  unfold g_X3_image at hG
  unfold g_X4_image at hK
  have e2 : (2 : Int32).toInt = 2 := rfl
  have e1 : (1 : Int32).toInt = 1 := rfl
  have e0 : (0 : Int32).toInt = 0 := rfl
  by_cases c : 0 ≤ x.toInt ∧ x.toInt < 2
  · obtain ⟨k, hk2, rfl⟩ := nat_of (n := 2) c.1 (by omega)
    rw [if_neg (below_iff.mpr (by omega))] at hG
    have hL := image_L (sf := sf) (kf := kf) hk2 539 0 (((539 : Int32).toInt - ((0 : Int32)).toInt).toNat + 1) mf (by omega) (by decide)
    have hL' : g_X4_image_L14 sf kf (nI k) (((539 : Int32).toInt - ((0 : Int32)).toInt).toNat + 1) 0 mf = _ := hL
    rw [if_neg (in_iff.mpr (by omega)), hL'] at hK
    rcases (show k = 0 ∨ k = 1 by omega) with rfl | rfl
    · rw [if_pos nI_0] at hG
      subst hG; subst hK
      refine ⟨rfl, ⟨he, hi⟩, ?_, fun _ => ⟨?_, ?_⟩, fun z => ?_⟩
      · rcases hk with ⟨a, b, c⟩ | ⟨a, b, c⟩ | ⟨a, b, c⟩ | ⟨a, b, c⟩ <;> subst a
        · exact Or.inr (Or.inl ⟨(show ((0 : Int32) ||| 1 <<< (nI 0 &&& 31)) = 1 by decide), rfl, c⟩)
        · exact Or.inr (Or.inl ⟨(show ((1 : Int32) ||| 1 <<< (nI 0 &&& 31)) = 1 by decide), rfl, c⟩)
        · exact Or.inr (Or.inr (Or.inr ⟨(show ((2 : Int32) ||| 1 <<< (nI 0 &&& 31)) = 3 by decide), rfl, c⟩))
        · exact Or.inr (Or.inr (Or.inr ⟨(show ((3 : Int32) ||| 1 <<< (nI 0 &&& 31)) = 3 by decide), rfl, c⟩))
      · exact eqS_congr he (fun j hj => cpy_at hj) (fun j hj => cpy_at hj) (fun j hj => cpy_at hj) (fun j hj => by show (if _ then _ else _) = _; rw [if_pos (by omega)]; congr 1)
      · exact Inv_congr hi (fun j hj => cpy_at hj) (fun j hj => cpy_at hj) (fun j hj => cpy_at hj)
      · have z' : kf 1 = 1 := z
        obtain ⟨a, b⟩ := h2 z'
        exact ⟨eqS_congr a (fun j _ => rfl) (fun j _ => rfl) (fun j _ => rfl) (fun j hj => by show (if _ then _ else _) = _; rw [if_neg (by omega)]), b⟩
    · rw [if_neg (nI_ne0 (by omega) (by omega))] at hG
      subst hG; subst hK
      refine ⟨rfl, ⟨he, hi⟩, ?_, fun z => ?_, fun _ => ⟨?_, ?_⟩⟩
      · rcases hk with ⟨a, b, c⟩ | ⟨a, b, c⟩ | ⟨a, b, c⟩ | ⟨a, b, c⟩ <;> subst a
        · exact Or.inr (Or.inr (Or.inl ⟨(show ((0 : Int32) ||| 1 <<< (nI 1 &&& 31)) = 2 by decide), b, rfl⟩))
        · exact Or.inr (Or.inr (Or.inr ⟨(show ((1 : Int32) ||| 1 <<< (nI 1 &&& 31)) = 3 by decide), b, rfl⟩))
        · exact Or.inr (Or.inr (Or.inl ⟨(show ((2 : Int32) ||| 1 <<< (nI 1 &&& 31)) = 2 by decide), b, rfl⟩))
        · exact Or.inr (Or.inr (Or.inr ⟨(show ((3 : Int32) ||| 1 <<< (nI 1 &&& 31)) = 3 by decide), b, rfl⟩))
      · have z' : kf 0 = 1 := z
        obtain ⟨a, b⟩ := h1 z'
        exact ⟨eqS_congr a (fun j _ => rfl) (fun j _ => rfl) (fun j _ => rfl) (fun j hj => by show (if _ then _ else _) = _; rw [if_neg (by omega)]), b⟩
      · exact eqS_congr he (fun j hj => cpy_at hj) (fun j hj => cpy_at hj) (fun j hj => cpy_at hj) (fun j hj => by show (if _ then _ else _) = _; rw [if_pos (by omega), show 539 + j - 539 * 1 = j by omega])
      · exact Inv_congr hi (fun j hj => cpy_at hj) (fun j hj => cpy_at hj) (fun j hj => cpy_at hj)
  · rw [if_pos (below_no (by omega))] at hG
    rw [if_pos (in_no (by omega))] at hK
    subst hG; subst hK
    exact ⟨rfl, ⟨he, hi⟩, hk, h1, h2⟩
theorem core_restore {T : Nat} {kp now told : Int32} {rf lf ff : Nat → Int32} {now1 told1 : Int32} {rf1 lf1 ff1 : Nat → Int32} {now2 told2 : Int32} {rf2 lf2 ff2 sf mf kf : Nat → Int32} (h : Sim T kp now told rf lf ff now1 told1 rf1 lf1 ff1 now2 told2 rf2 lf2 ff2 sf mf kf) (x : Int32) : ∀ G, G = g_X3_restore kp now told rf lf ff now1 told1 rf1 lf1 ff1 now2 told2 rf2 lf2 ff2 x → ∀ K, K = g_X4_restore sf mf kf x → G.1 = K.1 ∧ eqS G.2.1 G.2.2.1 G.2.2.2.1 G.2.2.2.2.1 G.2.2.2.2.2 K.2 ∧ Inv T G.2.1 G.2.2.1 G.2.2.2.1 G.2.2.2.2.1 G.2.2.2.2.2 := by
  intro G hG K hK
  obtain ⟨⟨he, hi⟩, hk, h1, h2⟩ := h
  unfold g_X3_restore at hG
  unfold g_X4_restore at hK
  have e2 : (2 : Int32).toInt = 2 := rfl
  have e1 : (1 : Int32).toInt = 1 := rfl
  have e0 : (0 : Int32).toInt = 0 := rfl
  by_cases c : 0 ≤ x.toInt ∧ x.toInt < 2
  · obtain ⟨k, hk2, rfl⟩ := nat_of (n := 2) c.1 (by omega)
    rw [if_neg (below_iff.mpr (by omega))] at hG
    have hL := restore_L (mf := mf) hk2 539 0 (((539 : Int32).toInt - ((0 : Int32)).toInt).toNat + 1) sf (by omega) (by decide)
    have hL' : g_X4_restore_L26 mf (nI k) (((539 : Int32).toInt - ((0 : Int32)).toInt).toNat + 1) 0 sf = _ := hL
    rw [if_neg (in_iff.mpr (by omega)), clmp_of (tI k (by omega)), hL'] at hK
    have hbit : (kp &&& (1 <<< (nI k &&& 31))) = 0 ↔ kf k = 0 := by
      rcases (show k = 0 ∨ k = 1 by omega) with rfl | rfl <;> rcases hk with ⟨a, b, c⟩ | ⟨a, b, c⟩ | ⟨a, b, c⟩ | ⟨a, b, c⟩ <;> subst a <;> (first | rw [b] | rw [c]) <;> decide
    by_cases c2 : kf k = 0
    · rw [if_pos (hbit.mpr c2)] at hG
      rw [if_pos c2] at hK
      subst hG; subst hK
      exact ⟨rfl, he, hi⟩
    · rw [if_neg (fun h => c2 (hbit.mp h))] at hG
      rw [if_neg c2] at hK
      have hone : kf k = 1 := by
        have h01 := kp01 hk
        rcases (show k = 0 ∨ k = 1 by omega) with rfl | rfl
        · exact h01.1.resolve_left c2
        · exact h01.2.resolve_left c2
      rcases (show k = 0 ∨ k = 1 by omega) with rfl | rfl
      · rw [if_pos nI_0] at hG
        obtain ⟨a, b⟩ := h1 hone
        subst hG; subst hK
        refine ⟨rfl, ?_, ?_⟩
        · exact eqS_congr a (fun j hj => cpy_at hj) (fun j hj => cpy_at hj) (fun j hj => cpy_at hj) (fun j hj => by show (if _ then _ else _) = _; rw [if_pos (by omega), Nat.mul_zero, Nat.zero_add])
        · exact Inv_congr b (fun j hj => cpy_at hj) (fun j hj => cpy_at hj) (fun j hj => cpy_at hj)
      · rw [if_neg (nI_ne0 (by omega) (by omega))] at hG
        obtain ⟨a, b⟩ := h2 hone
        subst hG; subst hK
        refine ⟨rfl, ?_, ?_⟩
        · exact eqS_congr a (fun j hj => cpy_at hj) (fun j hj => cpy_at hj) (fun j hj => cpy_at hj) (fun j hj => by show (if _ then _ else _) = _; rw [if_pos (by omega)])
        · exact Inv_congr b (fun j hj => cpy_at hj) (fun j hj => cpy_at hj) (fun j hj => cpy_at hj)
  · rw [if_pos (below_no (by omega))] at hG
    rw [if_pos (in_no (by omega))] at hK
    subst hG; subst hK
    exact ⟨rfl, he, hi⟩
