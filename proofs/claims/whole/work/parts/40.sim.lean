/-! ===== what ties the class to the reference ===== -/
def eqS (now told : Int32) (rf lf ff sf : Nat → Int32) : Prop := (∀ j, j < 6 → sf j = rf j) ∧ (∀ j, j < 3 → sf (6 + j) = lf j) ∧ sf 9 = now ∧ sf 10 = told ∧ ∀ j, j < 528 → sf (11 + j) = ff j
/-- field w of burst b, as a whole number -/
def fI (ff : Nat → Int32) (b w : Nat) : Int := (ff (11 * b + w)).toInt
def rlOk (rf : Nat → Int32) : Prop := (0 ≤ (rf 0).toInt ∧ (rf 0).toInt ≤ 5) ∧ (1 ≤ (rf 1).toInt ∧ (rf 1).toInt ≤ 20) ∧ (0 ≤ (rf 2).toInt ∧ (rf 2).toInt ≤ 20) ∧ (1 ≤ (rf 3).toInt ∧ (rf 3).toInt ≤ 60) ∧ (0 ≤ (rf 4).toInt ∧ (rf 4).toInt ≤ 1) ∧ (0 ≤ (rf 5).toInt ∧ (rf 5).toInt ≤ 1)
def lnOk (lf : Nat → Int32) : Prop := ∀ j, j < 3 → 0 ≤ (lf j).toInt ∧ (lf j).toInt ≤ 60
/-- one burst -/
def buOk (T : Nat) (ff : Nat → Int32) (b : Nat) : Prop :=
  (0 ≤ fI ff b 0 ∧ fI ff b 0 ≤ 1) ∧ (0 ≤ fI ff b 2 ∧ fI ff b 2 ≤ 2) ∧ (1 ≤ fI ff b 4 ∧ fI ff b 4 ≤ 60) ∧ (0 ≤ fI ff b 5 ∧ fI ff b 5 ≤ T + 140) ∧ (0 ≤ fI ff b 6 ∧ fI ff b 6 ≤ 4) ∧
  (fI ff b 6 ≤ 2 → (0 ≤ fI ff b 7 ∧ fI ff b 7 ≤ 5) ∧ (0 ≤ fI ff b 8 ∧ fI ff b 8 ≤ T + 260) ∧ (1 ≤ fI ff b 9 ∧ fI ff b 9 ≤ fI ff b 4)) ∧
  (¬ fI ff b 6 ≤ 2 → fI ff b 7 = -6 ∧ fI ff b 8 = -6 ∧ fI ff b 9 = 0) ∧
  (fI ff b 6 = 1 → 0 ≤ fI ff b 10 ∧ fI ff b 10 ≤ 2) ∧ (¬ fI ff b 6 = 1 → fI ff b 10 = -6)
/-- two bursts on one colour of one out, or on one line, lie apart -/
def apOk (ff : Nat → Int32) (a b : Nat) : Prop :=
  (fI ff a 6 ≤ 2 → fI ff b 6 ≤ 2 → fI ff a 0 = fI ff b 0 → fI ff a 7 = fI ff b 7 → fI ff a 8 + fI ff a 9 ≤ fI ff b 8 ∨ fI ff b 8 + fI ff b 9 ≤ fI ff a 8) ∧
  (fI ff a 6 = 1 → fI ff b 6 = 1 → fI ff a 10 = fI ff b 10 → fI ff a 5 + fI ff a 4 ≤ fI ff b 5 ∨ fI ff b 5 + fI ff b 4 ≤ fI ff a 5)
def Inv (T : Nat) (now told : Int32) (rf lf ff : Nat → Int32) : Prop :=
  (0 ≤ now.toInt ∧ now.toInt ≤ T) ∧ (0 ≤ told.toInt ∧ told.toInt ≤ 48) ∧ rlOk rf ∧ lnOk lf ∧ (∀ b : Nat, (b : Int) < told.toInt → buOk T ff b) ∧ ∀ a b : Nat, (a : Int) < told.toInt → (b : Int) < told.toInt → a ≠ b → apOk ff a b
def kpOk (kp : Int32) (kf : Nat → Int32) : Prop := (kp = 0 ∧ kf 0 = 0 ∧ kf 1 = 0) ∨ (kp = 1 ∧ kf 0 = 1 ∧ kf 1 = 0) ∨ (kp = 2 ∧ kf 0 = 0 ∧ kf 1 = 1) ∨ (kp = 3 ∧ kf 0 = 1 ∧ kf 1 = 1)
def Sim (T : Nat) (kp now told : Int32) (rf lf ff : Nat → Int32) (now1 told1 : Int32) (rf1 lf1 ff1 : Nat → Int32) (now2 told2 : Int32) (rf2 lf2 ff2 sf mf kf : Nat → Int32) : Prop :=
  (eqS now told rf lf ff sf ∧ Inv T now told rf lf ff) ∧ kpOk kp kf ∧ (kf 0 = 1 → eqS now1 told1 rf1 lf1 ff1 mf ∧ Inv T now1 told1 rf1 lf1 ff1) ∧ (kf 1 = 1 → eqS now2 told2 rf2 lf2 ff2 (fun j => mf (539 + j)) ∧ Inv T now2 told2 rf2 lf2 ff2)
theorem buOk_mono {T U : Nat} (hTU : T ≤ U) {ff : Nat → Int32} {b : Nat} (h : buOk T ff b) : buOk U ff b := by
  obtain ⟨h0, h1, h2, h3, h4, h5, h6, h7, h8⟩ := h
  refine ⟨h0, h1, h2, ⟨h3.1, by omega⟩, h4, fun z => ?_, h6, h7, h8⟩
  obtain ⟨a, b, c⟩ := h5 z
  exact ⟨a, ⟨b.1, by omega⟩, c⟩
theorem Inv_mono {T U : Nat} (hTU : T ≤ U) {now told : Int32} {rf lf ff : Nat → Int32} (h : Inv T now told rf lf ff) : Inv U now told rf lf ff := by
  obtain ⟨h0, h1, h2, h3, h4, h5⟩ := h
  exact ⟨⟨h0.1, by omega⟩, h1, h2, h3, fun b hb => buOk_mono hTU (h4 b hb), h5⟩
theorem Sim_up {T U : Nat} (hTU : T ≤ U) {kp now told : Int32} {rf lf ff : Nat → Int32} {now1 told1 : Int32} {rf1 lf1 ff1 : Nat → Int32} {now2 told2 : Int32} {rf2 lf2 ff2 sf mf kf : Nat → Int32} (h : Sim T kp now told rf lf ff now1 told1 rf1 lf1 ff1 now2 told2 rf2 lf2 ff2 sf mf kf) : Sim U kp now told rf lf ff now1 told1 rf1 lf1 ff1 now2 told2 rf2 lf2 ff2 sf mf kf := by
  obtain ⟨h0, h1, h2, h3⟩ := h
  exact ⟨⟨h0.1, Inv_mono hTU h0.2⟩, h1, fun z => ⟨(h2 z).1, Inv_mono hTU (h2 z).2⟩, fun z => ⟨(h3 z).1, Inv_mono hTU (h3 z).2⟩⟩
theorem Sim_mono {T : Nat} {kp now told : Int32} {rf lf ff : Nat → Int32} {now1 told1 : Int32} {rf1 lf1 ff1 : Nat → Int32} {now2 told2 : Int32} {rf2 lf2 ff2 sf mf kf : Nat → Int32} (h : Sim T kp now told rf lf ff now1 told1 rf1 lf1 ff1 now2 told2 rf2 lf2 ff2 sf mf kf) : Sim (T + 200) kp now told rf lf ff now1 told1 rf1 lf1 ff1 now2 told2 rf2 lf2 ff2 sf mf kf := Sim_up (by omega) h
theorem law_T {k : Nat} {kp now told : Int32} {rf lf ff : Nat → Int32} {now1 told1 : Int32} {rf1 lf1 ff1 : Nat → Int32} {now2 told2 : Int32} {rf2 lf2 ff2 sf mf kf : Nat → Int32} (h : Sim (200 * k + 200) kp now told rf lf ff now1 told1 rf1 lf1 ff1 now2 told2 rf2 lf2 ff2 sf mf kf) : Sim (200 * (k + 1)) kp now told rf lf ff now1 told1 rf1 lf1 ff1 now2 told2 rf2 lf2 ff2 sf mf kf := Sim_up (by omega) h
theorem Sim_many {T : Nat} {kp now told : Int32} {rf lf ff : Nat → Int32} {now1 told1 : Int32} {rf1 lf1 ff1 : Nat → Int32} {now2 told2 : Int32} {rf2 lf2 ff2 sf mf kf : Nat → Int32} (h : Sim T kp now told rf lf ff now1 told1 rf1 lf1 ff1 now2 told2 rf2 lf2 ff2 sf mf kf) : sf 10 ≤ 48 ∧ 0 ≤ (sf 10).toInt := by
  obtain ⟨⟨he, hi⟩, -⟩ := h
  have e : sf 10 = told := he.2.2.2.1
  have e48 : (48 : Int32).toInt = 48 := rfl
  have h1 := hi.2.1
  rw [e, Int32.le_iff_toInt_le]
  omega
theorem law_lt {k L : Nat} (hL : L ≤ 3072) (hk : k ≤ 512) (c : ¬ Int32.ofNat L - 6 < nI (6 * k)) : 6 * k + 6 ≤ L := by
  have e6 : (6 : Int32).toInt = 6 := rfl
  have eL : (Int32.ofNat L).toInt = L := nI_toInt (n := L) (by omega)
  rw [Int32.lt_iff_toInt_lt, i32_sub (by omega) (by omega), eL, e6, nI_toInt (by omega)] at c
  omega
theorem law_in {k L j : Nat} {v : Int32} (e : v = nI j) (h : 6 * k + j < L) (hL : L < 2 ^ 31) : vp_in (nI (6 * k) + v) L := by
  rw [e, nI_add]
  exact vp_in_nI h hL
