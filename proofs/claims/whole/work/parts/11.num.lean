/-! ===== small rows on ints ===== -/
theorem i32_bm {z : Int} (h1 : -2147483648 ≤ z) (h2 : z < 2147483648) : z.bmod (2 ^ 32) = z := Int.bmod_eq_of_le (by omega) (by omega)
theorem i32_add {a b : Int32} (h1 : -2147483648 ≤ a.toInt + b.toInt) (h2 : a.toInt + b.toInt < 2147483648) : (a + b).toInt = a.toInt + b.toInt := by
  rw [Int32.toInt_add, i32_bm h1 h2]
theorem i32_sub {a b : Int32} (h1 : -2147483648 ≤ a.toInt - b.toInt) (h2 : a.toInt - b.toInt < 2147483648) : (a - b).toInt = a.toInt - b.toInt := by
  rw [Int32.toInt_sub, i32_bm h1 h2]
theorem i32_mul {a b : Int32} (h1 : -2147483648 ≤ a.toInt * b.toInt) (h2 : a.toInt * b.toInt < 2147483648) : (a * b).toInt = a.toInt * b.toInt := by
  rw [Int32.toInt_mul, i32_bm h1 h2]
theorem i32_hi (a : Int32) : a.toInt < 2147483648 := Int32.toInt_lt a
theorem i32_lo (a : Int32) : -2147483648 ≤ a.toInt := Int32.le_toInt a
theorem i32_s {i b : Int32} (h : i.toInt < b.toInt) : (i + 1).toInt = i.toInt + 1 := by
  have h1 := i32_hi b
  have h2 := i32_lo i
  have e : (1 : Int32).toInt = 1 := rfl
  rw [i32_add (by rw [e]; omega) (by rw [e]; omega), e]
theorem i32_p {i : Int32} (h : 0 < i) : (i + (-1)).toInt = i.toInt - 1 := by
  have h1 := i32_hi i
  have e : (-1 : Int32).toInt = -1 := rfl
  have e0 : (0 : Int32).toInt = 0 := rfl
  rw [Int32.lt_iff_toInt_lt, e0] at h
  rw [i32_add (by rw [e]; omega) (by rw [e]; omega), e]
  omega
theorem i32_p' {i : Int32} (h : 0 < i) : (i - 1).toInt = i.toInt - 1 := by
  have h1 := i32_hi i
  have e : (1 : Int32).toInt = 1 := rfl
  have e0 : (0 : Int32).toInt = 0 := rfl
  rw [Int32.lt_iff_toInt_lt, e0] at h
  rw [i32_sub (by rw [e]; omega) (by rw [e]; omega), e]
theorem lt_of_nle {b i : Int32} (h : ¬ b ≤ i) : i.toInt < b.toInt := by
  rw [Int32.le_iff_toInt_le] at h; omega
theorem ms_up {i b : Int32} {n : Nat} (hc : ¬ b ≤ i) (h : (b.toInt - i.toInt).toNat < n + 1) : (b.toInt - (i + 1).toInt).toNat < n := by
  have h1 := lt_of_nle hc
  rw [i32_s h1]; omega
theorem up_ge {i b : Int32} (h0 : 0 ≤ i) (hc : ¬ b ≤ i) : 0 ≤ i + 1 := by
  have h1 := lt_of_nle hc
  have e0 : (0 : Int32).toInt = 0 := rfl
  rw [Int32.le_iff_toInt_le, e0] at h0 ⊢
  rw [i32_s h1]; omega
theorem vin_u {i b : Int32} {n : Nat} (h0 : 0 ≤ i) (hc : ¬ b ≤ i) (hb : b.toInt ≤ n) : vp_in i n := by
  have h1 := lt_of_nle hc
  have e0 : (0 : Int32).toInt = 0 := rfl
  rw [Int32.le_iff_toInt_le, e0] at h0
  rw [vp_in_iff]; omega
theorem vin48 {i b : Int32} (h0 : 0 ≤ i) (hc : ¬ b ≤ i) (hb : b ≤ 48) : vp_in i 48 := by
  have e : (48 : Int32).toInt = 48 := rfl
  rw [Int32.le_iff_toInt_le, e] at hb
  exact vin_u h0 hc (by omega)
theorem nb_01 {v : Int32} (h : v = 0 ∨ v = 1) : narrow .boolean (.int v) = .int v := by
  rcases h with rfl | rfl <;> rfl
theorem sw_c {x : Int32} {k : Int} {j : Int32} (e : j.toInt = k) (h : ¬ x = j) : x.toInt ≠ k := fun h2 => h (Int32.toInt_inj.mp (h2.trans e.symm))
theorem sw_out3 {x : Int32} (h0 : ¬ x = 0) (h1 : ¬ x = 1) (h2 : ¬ x = 2) : x.toInt < 0 ∨ 2 < x.toInt := by
  have a0 := sw_c (k := 0) rfl h0; have a1 := sw_c (k := 1) rfl h1; have a2 := sw_c (k := 2) rfl h2
  omega
theorem sw_out6 {x : Int32} (h0 : ¬ x = 0) (h1 : ¬ x = 1) (h2 : ¬ x = 2) (h3 : ¬ x = 3) (h4 : ¬ x = 4) (h5 : ¬ x = 5) : x.toInt < 0 ∨ 5 < x.toInt := by
  have a0 := sw_c (k := 0) rfl h0; have a1 := sw_c (k := 1) rfl h1; have a2 := sw_c (k := 2) rfl h2; have a3 := sw_c (k := 3) rfl h3; have a4 := sw_c (k := 4) rfl h4; have a5 := sw_c (k := 5) rfl h5
  omega
theorem sw_out10 {x : Int32} (h0 : ¬ x = 0) (h1 : ¬ x = 1) (h2 : ¬ x = 2) (h3 : ¬ x = 3) (h4 : ¬ x = 4) (h5 : ¬ x = 5) (h6 : ¬ x = 6) (h7 : ¬ x = 7) (h8 : ¬ x = 8) (h9 : ¬ x = 9) : x.toInt < 0 ∨ 9 < x.toInt := by
  have a0 := sw_c (k := 0) rfl h0; have a1 := sw_c (k := 1) rfl h1; have a2 := sw_c (k := 2) rfl h2; have a3 := sw_c (k := 3) rfl h3; have a4 := sw_c (k := 4) rfl h4; have a5 := sw_c (k := 5) rfl h5
  have a6 := sw_c (k := 6) rfl h6; have a7 := sw_c (k := 7) rfl h7; have a8 := sw_c (k := 8) rfl h8; have a9 := sw_c (k := 9) rfl h9
  omega
