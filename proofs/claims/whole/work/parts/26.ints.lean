-- needs: 06 09
/-! INTS: Int32 as images of whole numbers. -/
def iI (z : Int) : Int32 := Int32.ofInt z
theorem iI_add (a b : Int) : iI a + iI b = iI (a + b) := (Int32.ofInt_add a b).symm
theorem iI_mul (a b : Int) : iI a * iI b = iI (a * b) := (Int32.ofInt_mul a b).symm
theorem iI_neg (a : Int) : -iI a = iI (-a) := (Int32.ofInt_neg a).symm
theorem iI_sub (a b : Int) : iI a - iI b = iI (a - b) := by rw [Int32.sub_eq_add_neg, iI_neg, iI_add, Int.sub_eq_add_neg]
theorem iL (n : Nat) : (OfNat.ofNat n : Int32) = iI (n : Int) := (Int32.ofInt_eq_ofNat).symm
theorem iI_nI (n : Nat) : nI n = iI (n : Int) := (Int32.ofInt_eq_ofNat).symm
theorem iIc {a b : Int} (h : a = b) : iI a = iI b := by rw [h]
theorem iI_toInt {z : Int} (h1 : -2147483648 ≤ z) (h2 : z < 2147483648) : (iI z).toInt = z := Int32.toInt_ofInt_of_le (by omega) (by omega)
theorem iI_lt {a b : Int} (h1 : -2147483648 ≤ a) (h2 : a < 2147483648) (h3 : -2147483648 ≤ b) (h4 : b < 2147483648) : iI a < iI b ↔ a < b := by
  rw [Int32.lt_iff_toInt_lt, iI_toInt h1 h2, iI_toInt h3 h4]
theorem iI_le {a b : Int} (h1 : -2147483648 ≤ a) (h2 : a < 2147483648) (h3 : -2147483648 ≤ b) (h4 : b < 2147483648) : iI a ≤ iI b ↔ a ≤ b := by
  rw [Int32.le_iff_toInt_le, iI_toInt h1 h2, iI_toInt h3 h4]
theorem iI_eq {a b : Int} (h1 : -2147483648 ≤ a) (h2 : a < 2147483648) (h3 : -2147483648 ≤ b) (h4 : b < 2147483648) : iI a = iI b ↔ a = b := by
  rw [← Int32.toInt_inj, iI_toInt h1 h2, iI_toInt h3 h4]
theorem iI_cl {n : Nat} (h : n < 2147483648) : (iI (n : Int)).toNatClampNeg = n := by
  rw [← iI_nI]
  exact nI_clamp (by omega)
theorem iI_clz {z : Int} (h0 : 0 ≤ z) (h : z < 2147483648) : (iI z).toNatClampNeg = z.toNat := by
  obtain ⟨n, rfl⟩ := Int.eq_ofNat_of_zero_le h0
  rw [iI_cl (by omega)]
  rfl
theorem iI_in {z : Int} {n : Nat} (h0 : 0 ≤ z) (h : z < n) (hn : n ≤ 2147483648) : vp_in (iI z) n := by
  rw [vp_in_iff, iI_toInt (by omega) (by omega)]
  exact ⟨h0, h⟩
theorem iI_of (x : Int32) : ∃ z : Int, x = iI z ∧ -2147483648 ≤ z ∧ z < 2147483648 := ⟨x.toInt, (Int32.ofInt_toInt x).symm, by have := Int32.le_toInt x; omega, by have := Int32.toInt_lt x; omega⟩
theorem iI_rem {a b : Int} (h1 : -2147483648 ≤ a) (h2 : a < 2147483648) (h3 : 0 < b) (h4 : b < 2147483648) : aRem (iI a) (iI b) = iI (Int.tmod a b) := by
  have hd : iI a / iI b = iI (Int.tdiv a b) := by
    rw [← Int32.toInt_inj, Int32.toInt_div, iI_toInt h1 h2, iI_toInt (by omega) h4]
    have hq1 : -2147483648 ≤ Int.tdiv a b ∧ Int.tdiv a b < 2147483648 := by
      rcases Int.lt_or_le a 0 with ha | ha
      · have h5 : Int.tdiv a b = -(Int.tdiv (-a) b) := by rw [Int.neg_tdiv]; omega
        have h6 : Int.tdiv (-a) b = (-a) / b := Int.tdiv_eq_ediv_of_nonneg (by omega)
        have h7 : (-a) / b ≤ -a := Int.ediv_le_self _ (by omega)
        have h8 : 0 ≤ (-a) / b := Int.ediv_nonneg (by omega) (by omega)
        omega
      · have h6 : Int.tdiv a b = a / b := Int.tdiv_eq_ediv_of_nonneg ha
        have h7 : a / b ≤ a := Int.ediv_le_self _ ha
        have h8 : 0 ≤ a / b := Int.ediv_nonneg ha (by omega)
        omega
    rw [iI_toInt hq1.1 hq1.2]
    exact Int.bmod_eq_of_le (by have := hq1.1; simp [Int32.size]; omega) (by have := hq1.2; simp [Int32.size]; omega)
  unfold aRem
  rw [hd, iI_mul, iI_sub]
  refine iIc ?_
  have := Int.tdiv_mul_add_tmod a b
  omega
theorem iI_remN {a b : Int} (h1 : 0 ≤ a) (h2 : a < 2147483648) (h3 : 0 < b) (h4 : b < 2147483648) : aRem (iI a) (iI b) = iI (a % b) := by
  rw [iI_rem (by omega) h2 h3 h4, Int.tmod_eq_emod_of_nonneg h1]
/-- x is between a and b -/
theorem iI_ge0 {x : Int32} (h : ¬ x < (0 : Int32)) : ∃ n : Nat, x = iI (n : Int) ∧ n < 2147483648 := by
  obtain ⟨z, rfl, h1, h2⟩ := iI_of x
  rw [iL 0, iI_lt h1 h2 (by omega) (by omega)] at h
  exact ⟨z.toNat, iIc (by omega), by omega⟩
