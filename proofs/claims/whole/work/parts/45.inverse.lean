-- needs: 06 08 09 10 26 27 28 29 30 31 32 33 34
/-! THE INVERSE in a field of p numbers, by computation over all p up to 997. -/
def ptB (n : Nat) : Bool := (List.range 32).all fun d => Nat.blt d 2 || (Nat.blt n (d * d) || !(Nat.beq (n % d) 0))
def ivB (n : Nat) : Bool := (List.range n).all fun v => Nat.beq v 0 || Nat.beq (v ^ (n - 2) * v % n) 1
theorem iv_all : ((List.range 998).all fun n => Nat.blt n 2 || (!(ptB n) || ivB n)) = true := by decide +kernel
theorem isP_ptB {n : Nat} (h : isP (n : Int)) : ptB n = true := by
  unfold ptB
  rw [List.all_eq_true]
  intro d hd
  by_cases h1 : d < 2
  · have : Nat.blt d 2 = true := by simp [Nat.blt_eq, h1]
    rw [this]
    rfl
  by_cases h2 : n < d * d
  · have : Nat.blt n (d * d) = true := by simp [Nat.blt_eq, h2]
    rw [this]
    simp
  have h3 := h d (by omega) (by have : ((d * d : Nat) : Int) ≤ n := by omega
                                rwa [Int.natCast_mul] at this)
  have h4 : n % d ≠ 0 := fun z => h3 (by rw [← Int.natCast_emod, z]; rfl)
  have : Nat.beq (n % d) 0 = false := by
    cases hb : Nat.beq (n % d) 0 with
    | false => rfl
    | true => exact absurd (Nat.eq_of_beq_eq_true hb) h4
  rw [this]
  simp
/-- ivN is the inverse -/
theorem ivN_mul {p v : Int} (hp : 2 ≤ p) (hp' : p ≤ 997) (hP : isP p) (h0 : 0 < v) (h1 : v < p) : (ivN p v * v) % p = 1 := by
  obtain ⟨n, rfl⟩ := Int.eq_ofNat_of_zero_le (show 0 ≤ p by omega)
  obtain ⟨w, rfl⟩ := Int.eq_ofNat_of_zero_le (show 0 ≤ v by omega)
  have h2 := List.all_eq_true.mp iv_all n (List.mem_range.mpr (by omega))
  have hb : Nat.blt n 2 = false := by
    cases hb : Nat.blt n 2 with
    | false => rfl
    | true => have := Nat.blt_eq.mp hb; omega
  rw [hb, isP_ptB hP] at h2
  have h3 := List.all_eq_true.mp (show ivB n = true by simpa using h2) w (List.mem_range.mpr (by omega))
  have hb2 : Nat.beq w 0 = false := by
    cases hb : Nat.beq w 0 with
    | false => rfl
    | true => have := Nat.eq_of_beq_eq_true hb; omega
  rw [hb2] at h3
  have h4 : w ^ (n - 2) * w % n = 1 := Nat.eq_of_beq_eq_true (by simpa using h3)
  unfold ivN
  rw [show ((n : Int) - 2).toNat = n - 2 by omega]
  have h5 : ((w ^ (n - 2) * w % n : Nat) : Int) = 1 := by rw [h4]; rfl
  rw [Int.natCast_emod, Int.natCast_mul, Int.natCast_pow] at h5
  rw [Int.mul_emod, Int.emod_emod_of_dvd _ (Int.dvd_refl _), ← Int.mul_emod]
  exact h5
/-- a prime has no zero divisors -/
theorem cancel {p c e : Int} (hp : 2 ≤ p) (hp' : p ≤ 997) (hP : isP p) (h0 : 0 < e) (h1 : e < p) (h : p ∣ c * e) : p ∣ c := by
  have h2 := ivN_mul hp hp' hP h0 h1
  have h3 : p ∣ ivN p e * e - 1 := by
    have := Int.emod_emod_of_dvd (ivN p e * e) (Int.dvd_refl p)
    exact Int.dvd_of_emod_eq_zero (by rw [Int.sub_emod, h2, Int.emod_eq_of_lt (show (0:Int) ≤ 1 by omega) (by omega)]; simp)
  have h4 : p ∣ c * e * ivN p e := Int.dvd_mul_of_dvd_left h
  have h5 : p ∣ c * (ivN p e * e - 1) := Int.dvd_mul_of_dvd_right h3
  have h6 := Int.dvd_sub h4 h5
  have h7 : c * e * ivN p e - c * (ivN p e * e - 1) = c := by
    rw [Int.mul_sub, Int.mul_one, Int.mul_assoc, Int.mul_comm e (ivN p e)]
    omega
  rwa [h7] at h6
