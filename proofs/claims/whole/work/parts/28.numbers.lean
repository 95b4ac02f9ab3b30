-- needs: 06 08 09 10 11 12 13 26 27
/-! NUMBERS of the field, as the class works with them. -/
theorem xor_ge {x y : Int32} (hy : 0 ≤ y) : 0 ≤ (x ^^^ y) ↔ 0 ≤ x := by
  have key : ∀ z : Int32, 0 ≤ z ↔ z.toBitVec.msb = false := by
    intro z
    rw [Int32.le_iff_toInt_le, BitVec.msb_eq_toInt]
    show (0 : Int) ≤ z.toInt ↔ decide (z.toInt < 0) = false
    simp
  rw [key, key]
  rw [key] at hy
  rw [Int32.toBitVec_xor, BitVec.msb_xor, hy, Bool.xor_false]
theorem S_floorMod {M : bM} {Q : bQ} {x y : Int32} {z p : Int} (hx : x = iI z) (hy : y = iI p) (h1 : -2147483648 ≤ z) (h2 : z < 2147483648) (h3 : 0 < p) (h4 : p < 2147483648) (K : Q (some (cI (iI (z % p)))) M) : bCall 4 [cI x, cI y] M Q := by
  have hr : aRem x y = iI (Int.tmod z p) := by rw [hx, hy]; exact iI_rem h1 h2 h3 h4
  have hy0 : (0 : Int32) ≤ y := by rw [hy, l0, iI_le (by omega) (by omega) (by omega) h4]; omega
  have hmod := Int.emod_nonneg z (by omega : p ≠ 0)
  refine g_J9_floorMod_0 ⟨fun c => ?_, fun c => ?_, fun c => ⟨fun d => ?_, fun d => ?_⟩⟩
  · have := eq_of c hy l0
    omega
  · have hz := le_of ((xor_ge hy0).mp c) l0 hx
    rw [hr, Int.tmod_eq_emod_of_nonneg hz]
    exact K
  · have hz : Int.tmod z p = 0 := by
      have h5 : -p < Int.tmod z p ∧ Int.tmod z p < p := by
        have h6 := Int.emod_lt_of_pos z h3
        rw [Int.tmod_eq_emod]
        split <;> omega
      exact eq_of d hr l0
    have h7 : z % p = 0 := Int.emod_eq_zero_of_dvd (Int.dvd_of_tmod_eq_zero hz)
    rw [hr, hz, ← h7]
    exact K
  · have hz : z < 0 := by
      have h8 : ¬ (0 : Int32) ≤ x := fun q => c ((xor_ge hy0).mpr q)
      exact nle_of h8 l0 hx
    have h9 : Int.tmod z p ≠ 0 := ne_of' d hr l0
    have h10 : Int.tmod z p + p = z % p := by
      have h11 : ¬ p ∣ z := fun q => h9 (Int.tmod_eq_zero_of_dvd q)
      rw [Int.tmod_eq_emod, if_neg (by rintro (q | q); omega; exact h11 q)]
      omega
    rw [hr, hy, iI_add, h10]
    exact K
theorem S_taken {M : bM} {Q : bQ} {x : Int32} {z p : Int} (hp : M 1 0 0 = iI p) (hx : x = iI z) (h1 : -2147483648 ≤ z) (h2 : z < 2147483648) (h3 : 0 < p) (h4 : p ≤ 997) (K : Q (some (cI (iI (z % p)))) M) : bCall 10 [cR 1 0, cI x] M Q := by
  refine g_X2_taken_0 ⟨fun c => ?_, fun c => ?_⟩
  · have := le_of c hp l0
    omega
  · exact S_floorMod hx hp h1 h2 h3 (by omega) K
/-- combine: each place a f + b g, taken -/
theorem S_combine {M0 : bM} {Q : bQ} {j1 j3 j5 : Nat} {x2 x4 : Int32} {p a b : Int} {f g : Nat → Int} (hp : M0 1 0 0 = iI p) (h3 : 0 < p) (h4 : p ≤ 997) (ha : x2 = iI a) (ha1 : -2147483648 ≤ a) (ha2 : a < 2147483648) (hb : x4 = iI b) (hb1 : -2147483648 ≤ b) (hb2 : b < 2147483648) (hf : ∀ i, i < 32 → M0 7 j1 i = iI (f i) ∧ 0 ≤ f i ∧ f i < p) (hg : ∀ i, i < 32 → M0 7 j3 i = iI (g i) ∧ 0 ≤ g i ∧ g i < p)
    (K : ∀ M, Blk M0 M 7 j5 0 32 (fun i => (a % p * f i + b % p * g i) % p) → Q none M) : bCall 28 [cR 1 0, cR 7 j1, cI x2, cR 7 j3, cI x4, cR 7 j5] M0 Q := by
  have hap := Int.emod_nonneg a (by omega : p ≠ 0)
  have hap2 := Int.emod_lt_of_pos a h3
  have hbp := Int.emod_nonneg b (by omega : p ≠ 0)
  have hbp2 := Int.emod_lt_of_pos b h3
  have loop : ∀ (n k : Nat), k + n = 32 → ∀ (M : bM) (x8 : Int32), x8 = iI (k : Int) → Blk M0 M 7 j5 0 k (fun i => (a % p * f i + b % p * g i) % p) → bGo 28 Q 18 [some (cR 1 0), some (cR 7 j1), some (cI x2), some (cR 7 j3), some (cI x4), some (cR 7 j5), some (cI (iI (a % p))), some (cI (iI (b % p))), some (cI x8)] [] M := by
    intro n
    induction n with
    | zero =>
      intro k hk M x8 hx hB
      refine g_X2_combine_18 ⟨fun c => ?_, fun c => ?_⟩
      · have : k = 32 := by omega
        subst this
        exact K M hB
      · have := nle_of c l32 hx
        omega
    | succ n ih =>
      intro k hk M x8 hx hB
      refine g_X2_combine_18 ⟨fun c => ?_, fun c => ?_⟩
      · have := le_of c l32 hx
        omega
      · obtain ⟨hf1, hf2, hf3⟩ := hf k (by omega)
        obtain ⟨hg1, hg2, hg3⟩ := hg k (by omega)
        have m1 := mul_bd hap hap2 hf2 hf3 h4
        have m2 := mul_bd hbp hbp2 hg2 hg3 h4
        refine ⟨vin hx, vin hx, ?_⟩
        rw [cl_of hx]
        refine S_taken (z := a % p * f k + b % p * g k) (p := p) (by rw [hB.row (by omega)]; exact hp) ?_ (by omega) (by omega) h3 h4 ?_
        · rw [hB.keep (by omega), hB.keep (by omega), hf1, hg1, iI_mul, iI_mul, iI_add]
        · exact ⟨vin hx, ih (k + 1) (by omega) _ _ (inN hx) (hB.up (Nat.zero_le _) rfl)⟩
  refine g_X2_combine_0 ?_
  refine S_taken hp ha ha1 ha2 h3 h4 ?_
  refine S_taken hp hb hb1 hb2 h3 h4 ?_
  exact loop 32 0 rfl M0 _ l0 Blk.start
