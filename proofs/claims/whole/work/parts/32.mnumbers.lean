-- needs: 06 08 09 10 11 12 17 18 19 26 27 28 29 30 31
/-! NUMBERS of the field, as the model works with them. -/
def jI (z : Int) : Int64 := Int64.ofInt z
theorem jI_toInt {z : Int} (h1 : -9223372036854775808 ≤ z) (h2 : z < 9223372036854775808) : (jI z).toInt = z := Int64.toInt_ofInt_of_le (by omega) (by omega)
theorem iI_long {x : Int32} {z : Int} (h : x = iI z) (h1 : -2147483648 ≤ z) (h2 : z < 2147483648) : x.toInt64 = jI z := by
  rw [h, ← Int64.toInt_inj, Int32.toInt_toInt64, iI_toInt h1 h2, jI_toInt (by omega) (by omega)]
theorem jI_add (a b : Int) : jI a + jI b = jI (a + b) := (Int64.ofInt_add a b).symm
theorem jI_mul (a b : Int) : jI a * jI b = jI (a * b) := (Int64.ofInt_mul a b).symm
theorem jI_neg (a : Int) : -jI a = jI (-a) := (Int64.ofInt_neg a).symm
theorem jI_sub (a b : Int) : jI a - jI b = jI (a - b) := by rw [Int64.sub_eq_add_neg, jI_neg, jI_add, Int.sub_eq_add_neg]
theorem jI_int {z : Int} : (jI z).toInt32 = iI z := by
  unfold jI iI
  rw [Int64.toInt32_ofInt]
theorem jI_rem {a b : Int} (h1 : -4611686018427387904 ≤ a) (h2 : a < 4611686018427387904) (h3 : 0 < b) (h4 : b < 2147483648) : aLrem (jI a) (jI b) = jI (Int.tmod a b) := by
  have hd : jI a / jI b = jI (Int.tdiv a b) := by
    rw [← Int64.toInt_inj, Int64.toInt_div, jI_toInt (by omega) (by omega), jI_toInt (by omega) (by omega)]
    have hq1 : -4611686018427387904 ≤ Int.tdiv a b ∧ Int.tdiv a b < 4611686018427387904 := by
      rcases Int.lt_or_le a 0 with ha | ha
      · have h5 : Int.tdiv a b = -(Int.tdiv (-a) b) := by rw [Int.neg_tdiv]; omega
        have h6 : Int.tdiv (-a) b = (-a) / b := Int.tdiv_eq_ediv_of_nonneg (by omega)
        have h7 : (-a) / b ≤ -a := Int.ediv_le_self _ (by omega)
        have h8 : 0 ≤ (-a) / b := Int.ediv_nonneg (by omega) (by omega)
        omega
      · have h6 : Int.tdiv a b = a / b := Int.tdiv_eq_ediv_of_nonneg ha
        have h7 : a / b ≤ a := Int.ediv_le_self _ ha
        have h8 : 0 ≤ a / b := Int.ediv_nonneg ha (by omega)
        omega
    rw [jI_toInt (by omega) (by omega)]
    exact Int.bmod_eq_of_le (by have := hq1.1; simp [Int64.size]; omega) (by have := hq1.2; simp [Int64.size]; omega)
  unfold aLrem
  rw [hd, jI_mul, jI_sub]
  congr 1
  have := Int.tdiv_mul_add_tmod a b
  omega
theorem tmod_bd {z p : Int} (h3 : 0 < p) : -p < Int.tmod z p ∧ Int.tmod z p < p ∧ (Int.tmod z p = z % p ∧ 0 ≤ Int.tmod z p ∨ Int.tmod z p + p = z % p ∧ Int.tmod z p < 0) := by
  have h5 := Int.emod_nonneg z (by omega : p ≠ 0)
  have h6 := Int.emod_lt_of_pos z h3
  rw [Int.tmod_eq_emod]
  split
  · omega
  · rename_i h
    have h7 : z % p ≠ 0 := fun q => h (Or.inr (Int.dvd_of_emod_eq_zero q))
    omega
theorem lcmp0 {z : Int} (h1 : -4611686018427387904 ≤ z) (h2 : z < 4611686018427387904) : 0 ≤ lg_cmp (jI z) (0 : Int64) ↔ 0 ≤ z := by
  have e0 : (0 : Int64) = jI 0 := rfl
  have hlt : ∀ a b : Int, -4611686018427387904 ≤ a → a < 4611686018427387904 → -4611686018427387904 ≤ b → b < 4611686018427387904 → (jI a < jI b ↔ a < b) := fun a b q1 q2 q3 q4 => by
    rw [Int64.lt_iff_toInt_lt, jI_toInt (by omega) (by omega), jI_toInt (by omega) (by omega)]
  unfold lg_cmp
  rw [e0]
  rcases Int.lt_trichotomy z 0 with hz | hz | hz
  · have n1 : ¬ jI z > jI 0 := fun q => by have := (hlt 0 z (by omega) (by omega) h1 h2).mp q; omega
    have n2 : ¬ jI z = jI 0 := fun q => by
      have h5 : (jI z).toInt = (jI 0).toInt := by rw [q]
      rw [jI_toInt (by omega) (by omega), jI_toInt (by omega) (by omega)] at h5
      omega
    rw [if_neg n1, if_neg n2]
    constructor
    · intro h; exact absurd h (by decide)
    · intro h; omega
  · subst hz
    rw [if_neg (fun q => by have := (hlt 0 0 (by omega) (by omega) (by omega) (by omega)).mp q; omega), if_pos rfl]
    constructor
    · intro; omega
    · intro; decide
  · rw [if_pos ((hlt 0 z (by omega) (by omega) h1 h2).mpr hz)]
    constructor
    · intro; omega
    · intro; decide
theorem T_mod {M : bM} {Q : bQ} {x : Int64} {z p : Int} (hp : M 26 0 0 = iI p) (hx : x = jI z) (h1 : -4611686018427387904 ≤ z) (h2 : z < 4611686018427387904) (h3 : 0 < p) (h4 : p ≤ 997) (K : Q (some (cI (iI (z % p)))) M) : bCall 118 [cR 26 0, cL x] M Q := by
  have hpl : (M 26 0 0).toInt64 = jI p := iI_long hp (by omega) (by omega)
  have hr : aLrem x ((M 26 0 0).toInt64) = jI (Int.tmod z p) := by rw [hx, hpl]; exact jI_rem h1 h2 h3 (by omega)
  obtain ⟨b1, b2, b3⟩ := tmod_bd (z := z) h3
  refine g_X7_mod_0 ⟨fun c => ?_, fun c => ?_, fun c => ?_⟩
  · rw [hpl] at c
    have h5 : (jI p).toInt = (0 : Int64).toInt := by rw [c]
    rw [jI_toInt (by omega) (by omega)] at h5
    have h6 : (0 : Int64).toInt = 0 := rfl
    omega
  · rw [hr, lcmp0 (by omega) (by omega)] at c
    rw [hr, jI_int]
    rcases b3 with b3 | b3
    · rw [b3.1]; exact K
    · omega
  · rw [hr, lcmp0 (by omega) (by omega)] at c
    rw [hr, hpl, jI_add, jI_int]
    rcases b3 with b3 | b3
    · omega
    · rw [b3.1]; exact K
theorem T_inverseOf {M : bM} {Q : bQ} {x : Int32} {v p : Int} (hp : M 26 0 0 = iI p) (h2 : 2 ≤ p) (h4 : p ≤ 997) (hx : x = iI v) (hv0 : 0 ≤ v) (hv : v < p) (K : Q (some (cI (iI (ivN p v)))) M) : bCall 121 [cR 26 0, cI x] M Q := by
  have hp2 : M 26 0 0 - (2 : Int32) = iI (p - 2) := by rw [hp, iL 2, iI_sub]; rfl
  have loop : ∀ (n k : Nat), (k : Int) + n = p - 2 → ∀ (x2 x3 : Int32), x2 = iI (v ^ k % p) → x3 = iI (k : Int) → bGo 121 Q 4 [some (cR 26 0), some (cI x), some (cI x2), some (cI x3)] [] M := by
    intro n
    induction n with
    | zero =>
      intro k hk x2 x3 e2 e3
      refine g_X7_inverseOf_4 ⟨fun c => ?_, fun c => ?_⟩
      · have : (p - 2).toNat = k := by omega
        unfold ivN at K
        rw [this] at K
        rw [e2]
        exact K
      · have := nle_of c hp2 e3
        omega
    | succ n ih =>
      intro k hk x2 x3 e2 e3
      refine g_X7_inverseOf_4 ⟨fun c => ?_, fun c => ⟨fun q => ?_, ih (k + 1) (by omega) _ _ ?_ (inN e3)⟩⟩
      · have := le_of c hp2 e3
        omega
      · have := eq_of q hp l0
        omega
      · have hm1 := Int.emod_nonneg (v ^ k) (by omega : p ≠ 0)
        have hm2 := Int.emod_lt_of_pos (v ^ k) (by omega : 0 < p)
        have hm := mul_bd hm1 hm2 hv0 hv h4
        rw [e2, hx, hp, iI_mul, iI_remN hm.1 (by omega) (by omega) (by omega)]
        refine iIc ?_
        rw [Int.pow_succ, Int.mul_emod, Int.emod_emod_of_dvd _ (Int.dvd_refl p), ← Int.mul_emod]
  refine g_X7_inverseOf_0 (loop (p - 2).toNat 0 (by omega) _ _ ?_ l0)
  rw [Int.pow_zero, Int.emod_eq_of_lt (by omega) (by omega)]
  exact l1
/-- the place of term k of series s in the model -/
theorem s32 {x y : Int32} {s k : Nat} (hx : x = iI (s : Int)) (hy : y = iI (k : Int)) : (32 : Int32) * x + y = iI ((32 * s + k : Nat) : Int) := by
  rw [hx, hy, l32, iI_mul, iI_add]
  exact iIc (by omega)
theorem T_takes {M0 : bM} {Q : bQ} {j : Nat} {x : Int32} {s : Nat} {f : Nat → Int} (hx : x = iI (s : Int)) (hs : s < 6) (hf : ∀ i, i < 32 → M0 28 0 (32 * s + i) = iI (f i)) (K : ∀ M, Blk M0 M 27 j 0 32 f → Q none M) : bCall 144 [cR 26 0, cI x, cR 27 j] M0 Q := by
  have loop : ∀ (n k : Nat), k + n = 32 → ∀ (M : bM) (x3 : Int32), x3 = iI (k : Int) → Blk M0 M 27 j 0 k f → bGo 144 Q 2 [some (cR 26 0), some (cI x), some (cR 27 j), some (cI x3)] [] M := by
    intro n
    induction n with
    | zero =>
      intro k hk M x3 h3 hB
      refine g_X7_takes_2 ⟨fun c => ?_, fun c => ?_⟩
      · have : k = 32 := by omega
        subst this
        exact K M hB
      · have := nle_of c l32 h3
        omega
    | succ n ih =>
      intro k hk M x3 h3 hB
      refine g_X7_takes_2 ⟨fun c => ?_, fun c => ?_⟩
      · have := le_of c l32 h3
        omega
      · have hsk := s32 hx h3
        refine ⟨vin hsk, vin h3, ?_⟩
        rw [cl_of h3, cl_of hsk]
        exact ih (k + 1) (by omega) _ _ (inN h3) (hB.up (Nat.zero_le _) (by rw [hB.keep (by omega)]; exact hf k (by omega)))
  exact g_X7_takes_0 (loop 32 0 rfl M0 _ l0 Blk.start)
theorem T_puts {M0 : bM} {Q : bQ} {j : Nat} {x : Int32} {s : Nat} {f : Nat → Int} (hx : x = iI (s : Int)) (hs : s < 6) (hf : ∀ i, i < 32 → M0 27 j i = iI (f i)) (K : ∀ M, Blk M0 M 28 0 (32 * s) (32 * s + 32) (fun i => f (i - 32 * s)) → Q (some (cI (1 : Int32))) M) : bCall 127 [cR 26 0, cR 27 j, cI x] M0 Q := by
  have loop : ∀ (n k : Nat), k + n = 32 → ∀ (M : bM) (x3 : Int32), x3 = iI (k : Int) → Blk M0 M 28 0 (32 * s) (32 * s + k) (fun i => f (i - 32 * s)) → bGo 127 Q 2 [some (cR 26 0), some (cR 27 j), some (cI x), some (cI x3)] [] M := by
    intro n
    induction n with
    | zero =>
      intro k hk M x3 h3 hB
      refine g_X7_puts_2 ⟨fun c => ?_, fun c => ?_⟩
      · have : k = 32 := by omega
        subst this
        exact K M hB
      · have := nle_of c l32 h3
        omega
    | succ n ih =>
      intro k hk M x3 h3 hB
      refine g_X7_puts_2 ⟨fun c => ?_, fun c => ?_⟩
      · have := le_of c l32 h3
        omega
      · have hsk := s32 hx h3
        refine ⟨vin h3, vin hsk, ?_⟩
        rw [cl_of h3, cl_of hsk]
        exact ih (k + 1) (by omega) _ _ (inN h3) (hB.up (by omega) (by rw [hB.keep (by omega), show 32 * s + k - 32 * s = k by omega]; exact hf k (by omega)))
  exact g_X7_puts_0 (loop 32 0 rfl M0 _ l0 Blk.start)
theorem T_setsTo {M0 : bM} {Q : bQ} {j : Nat} {x : Int32} {z : Int} (hx : x = iI z) (K : ∀ M, Blk M0 M 27 j 0 32 (cst z) → Q none M) : bCall 111 [cR 26 0, cR 27 j, cI x] M0 Q := by
  have loop : ∀ (n k : Nat), k + n = 32 → ∀ (M : bM) (x3 : Int32), x3 = iI (k : Int) → Blk M0 M 27 j 0 k (fun _ => 0) → bGo 111 Q 2 [some (cR 26 0), some (cR 27 j), some (cI x), some (cI x3)] [] M := by
    intro n
    induction n with
    | zero =>
      intro k hk M x3 h3 hB
      refine g_X7_setsTo_2 ⟨fun c => ⟨vin l0, ?_⟩, fun c => ?_⟩
      · have : k = 32 := by omega
        subst this
        rw [cl_of (n := 0) l0]
        refine K _ ⟨fun g' j' hne => ?_, fun i hi1 hi2 => ?_, fun i hi => ?_⟩
        · rw [bU_row' (fun q => hne (by rw [q.1, q.2]))]
          exact hB.1 g' j' hne
        · by_cases hi : i = 0
          · subst hi
            rw [bU_at, hx]
            rfl
          · rw [bU_ne (fun q => hi q.2.2), hB.at (by omega) hi2]
            simp [cst, hi]
        · rw [bU_ne (fun q => hi (by omega))]
          exact hB.2.2 i hi
      · have := nle_of c l32 h3
        omega
    | succ n ih =>
      intro k hk M x3 h3 hB
      refine g_X7_setsTo_2 ⟨fun c => ?_, fun c => ⟨vin h3, ?_⟩⟩
      · have := le_of c l32 h3
        omega
      · rw [cl_of h3]
        exact ih (k + 1) (by omega) _ _ (inN h3) (hB.up (Nat.zero_le _) l0)
  exact g_X7_setsTo_0 (loop 32 0 rfl M0 _ l0 Blk.start)
/-- the product, into made -/
theorem T_multiplies {M0 : bM} {Q : bQ} {j1 j2 : Nat} {p : Int} {f g : Nat → Int} (hp : M0 26 0 0 = iI p) (h3 : 0 < p) (h4 : p ≤ 997) (hj1 : j1 ≠ 0) (hj2 : j2 ≠ 0) (hf : ∀ i, i < 32 → M0 27 j1 i = iI (f i) ∧ 0 ≤ f i ∧ f i < p) (hg : ∀ i, i < 32 → M0 27 j2 i = iI (g i) ∧ 0 ≤ g i ∧ g i < p) (K : ∀ M, Blk M0 M 27 0 0 32 (fun i => cv f g i % p) → Q none M) : bCall 130 [cR 26 0, cR 27 j1, cR 27 j2] M0 Q := by
  have outer : ∀ (n k : Nat), k + n = 32 → ∀ (M : bM) (x3 : Int32) (o4 o5 : Option bV), x3 = iI (k : Int) → Blk M0 M 27 0 0 k (fun i => cv f g i % p) → bGo 130 Q 2 [some (cR 26 0), some (cR 27 j1), some (cR 27 j2), some (cI x3), o4, o5] [] M := by
    intro n
    induction n with
    | zero =>
      intro k hk M x3 o4 o5 hx hB
      refine g_X7_multiplies_2 ⟨fun c => ?_, fun c => ?_⟩
      · have : k = 32 := by omega
        subst this
        exact K M hB
      · have := nle_of c l32 hx
        omega
    | succ n ih =>
      intro k hk M x3 o4 o5 hx hB
      have inner : ∀ (n i : Nat), i + n = k + 1 → ∀ (x4 x5 : Int32), x4 = iI (sm (fun i => f i * g (k - i)) i % p) → x5 = iI (i : Int) → bGo 130 Q 14 [some (cR 26 0), some (cR 27 j1), some (cR 27 j2), some (cI x3), some (cI x4), some (cI x5)] [] M := by
        intro n
        induction n with
        | zero =>
          intro i hi x4 x5 e4 e5
          have hi : i = k + 1 := by omega
          subst hi
          refine g_X7_multiplies_14 ⟨fun c => ⟨vin hx, ?_⟩, fun c => ?_⟩
          · rw [cl_of hx]
            exact ih (k + 1) (by omega) _ _ _ _ (inN hx) (hB.up (Nat.zero_le _) e4)
          · have := nlt_of c hx e5
            omega
        | succ n ihn =>
          intro i hi x4 x5 e4 e5
          refine g_X7_multiplies_14 ⟨fun c => ?_, fun c => ?_⟩
          · have := lt_of c hx e5
            omega
          · have hki : x3 - x5 = iI ((k - i : Nat) : Int) := by rw [hx, e5, iI_sub]; exact iIc (by omega)
            have hp' : M 26 0 0 = iI p := by rw [hB.row (by omega)]; exact hp
            refine ⟨vin e5, vin hki, fun q => ?_, ihn (i + 1) (by omega) _ _ ?_ (inN e5)⟩
            · have := eq_of q hp' l0
              omega
            · obtain ⟨f1, f2, f3⟩ := hf i (by omega)
              obtain ⟨g1, g2, g3⟩ := hg (k - i) (by omega)
              have hm := mul_bd f2 f3 g2 g3 h4
              have hm1 := Int.emod_nonneg (sm (fun i => f i * g (k - i)) i) (by omega : p ≠ 0)
              have hm2 := Int.emod_lt_of_pos (sm (fun i => f i * g (k - i)) i) h3
              rw [cl_of e5, cl_of hki, hB.keep (by omega), hB.keep (by omega), f1, g1, e4, hp', iI_mul, iI_add, iI_remN (by omega) (by omega) h3 (by omega)]
              refine iIc ?_
              show _ = (sm (fun i => f i * g (k - i)) i + f i * g (k - i)) % p
              rw [Int.emod_add_emod]
      refine g_X7_multiplies_2 ⟨fun c => ?_, fun c => ?_⟩
      · have := le_of c l32 hx
        omega
      · refine inner (k + 1) 0 (by omega) _ _ ?_ l0
        rw [l0]
        refine iIc ?_
        show 0 = 0 % p
        simp
  exact g_X7_multiplies_0 (outer 32 0 rfl M0 _ _ _ l0 Blk.start)
theorem sm_rev {f : Nat → Int} : ∀ (n : Nat), sm (fun i => f (n - 1 - i)) n = sm f n := by
  have key : ∀ (n : Nat) (f : Nat → Int), sm f (n + 1) = f 0 + sm (fun i => f (i + 1)) n := by
    intro n
    induction n with
    | zero => intro f; simp [sm]
    | succ n ih =>
      intro f
      show sm f (n + 1) + f (n + 1) = f 0 + (sm (fun i => f (i + 1)) n + f (n + 1))
      rw [ih f]
      omega
  intro n
  induction n generalizing f with
  | zero => rfl
  | succ n ih =>
    rw [key n (fun i => f (n + 1 - 1 - i))]
    show f n + sm (fun i => f (n + 1 - 1 - (i + 1))) n = sm f n + f n
    have : sm (fun i => f (n + 1 - 1 - (i + 1))) n = sm (fun i => f (n - 1 - i)) n := sm_congr fun i hi => by congr 1; omega
    rw [this, ih]
    omega
/-- the quotient, into made -/
theorem T_divides {M0 : bM} {Q : bQ} {j1 j2 : Nat} {p : Int} {f g : Nat → Int} (hp : M0 26 0 0 = iI p) (h2 : 2 ≤ p) (h4 : p ≤ 997) (hj1 : j1 ≠ 0) (hj2 : j2 ≠ 0) (hf : ∀ i, i < 32 → M0 27 j1 i = iI (f i) ∧ 0 ≤ f i ∧ f i < p) (hg : ∀ i, i < 32 → M0 27 j2 i = iI (g i) ∧ 0 ≤ g i ∧ g i < p) (K : ∀ M, Blk M0 M 27 0 0 32 (dv p f g) → Q none M) : bCall 131 [cR 26 0, cR 27 j1, cR 27 j2] M0 Q := by
  have hiv := ivN_bd (v := g 0) h2
  have h3 : 0 < p := by omega
  have outer : ∀ (n k : Nat), k + n = 32 → ∀ (M : bM) (x4 : Int32) (o5 o6 : Option bV), x4 = iI (k : Int) → Blk M0 M 27 0 0 k (dv p f g) → bGo 131 Q 11 [some (cR 26 0), some (cR 27 j1), some (cR 27 j2), some (cI (iI (ivN p (g 0)))), some (cI x4), o5, o6] [] M := by
    intro n
    induction n with
    | zero =>
      intro k hk M x4 o5 o6 hx hB
      refine g_X7_divides_11 ⟨fun c => ?_, fun c => ?_⟩
      · have : k = 32 := by omega
        subst this
        exact K M hB
      · have := nle_of c l32 hx
        omega
    | succ n ih =>
      intro k hk M x4 o5 o6 hx hB
      have hp' : M 26 0 0 = iI p := by rw [hB.row (by omega)]; exact hp
      have hf0 := hf k (by omega)
      have inner : ∀ (n i : Nat), i + n = k → ∀ (x5 x6 : Int32), x5 = iI ((f k - sm (fun t => dv p f g t * g (k - t)) i) % p) → x6 = iI (i : Int) → bGo 131 Q 27 [some (cR 26 0), some (cR 27 j1), some (cR 27 j2), some (cI (iI (ivN p (g 0)))), some (cI x4), some (cI x5), some (cI x6)] [] M := by
        intro n
        induction n with
        | zero =>
          intro i hi x5 x6 e5 e6
          have hi : i = k := by omega
          subst hi
          refine g_X7_divides_27 ⟨fun c => ⟨fun q => ?_, vin hx, ?_⟩, fun c => ?_⟩
          · have := eq_of q hp' l0
            omega
          · rw [cl_of hx]
            refine ih (i + 1) (by omega) _ _ _ _ (inN hx) (hB.up (Nat.zero_le _) ?_)
            have hm1 := Int.emod_nonneg (f i - sm (fun t => dv p f g t * g (i - t)) i) (by omega : p ≠ 0)
            have hm2 := Int.emod_lt_of_pos (f i - sm (fun t => dv p f g t * g (i - t)) i) h3
            have hm := mul_bd hm1 hm2 hiv.1 hiv.2 h4
            rw [e5, hp', iI_mul, iI_remN hm.1 (by omega) h3 (by omega)]
            refine iIc ?_
            rw [dv_eq]
            have hrev : sm (fun t => dv p f g t * g (i - t)) i = sm (fun t => g (t + 1) * dv p f g (i - (t + 1))) i := by
              rw [← sm_rev (f := fun t => dv p f g t * g (i - t)) i]
              refine sm_congr fun t ht => ?_
              show dv p f g (i - 1 - t) * g (i - (i - 1 - t)) = _
              rw [show i - (i - 1 - t) = t + 1 by omega, show i - 1 - t = i - (t + 1) by omega, Int.mul_comm]
            rw [hrev]
          · have := nle_of c hx e6
            omega
        | succ n ihn =>
          intro i hi x5 x6 e5 e6
          refine g_X7_divides_27 ⟨fun c => ?_, fun c => ?_⟩
          · have := le_of c hx e6
            omega
          · have hki : x4 - x6 = iI ((k - i : Nat) : Int) := by rw [hx, e6, iI_sub]; exact iIc (by omega)
            refine ⟨vin e6, vin hki, ?_⟩
            rw [cl_of e6, cl_of hki]
            have hd := dv_bd (f := f) (g := g) h3 i
            obtain ⟨g1, g2, g3⟩ := hg (k - i) (by omega)
            have hm := mul_bd hd.1 hd.2 g2 g3 h4
            have hm1 := Int.emod_nonneg (f k - sm (fun t => dv p f g t * g (k - t)) i) (by omega : p ≠ 0)
            have hm2 := Int.emod_lt_of_pos (f k - sm (fun t => dv p f g t * g (k - t)) i) h3
            refine T_mod hp' (iI_long (z := (f k - sm (fun t => dv p f g t * g (k - t)) i) % p - dv p f g i * g (k - i)) ?_ (by omega) (by omega)) (by omega) (by omega) h3 h4 (ihn (i + 1) (by omega) _ _ ?_ (inN e6))
            · rw [hB.at (by omega) (by omega), hB.keep (by omega), g1, e5, iI_mul, iI_sub]
            · refine iIc ?_
              have e : sm (fun t => dv p f g t * g (k - t)) (i + 1) = sm (fun t => dv p f g t * g (k - t)) i + dv p f g i * g (k - i) := rfl
              rw [e, Int.emod_sub_emod]
              congr 1
              omega
      refine g_X7_divides_11 ⟨fun c => ?_, fun c => ⟨vin hx, ?_⟩⟩
      · have := le_of c l32 hx
        omega
      · rw [cl_of hx]
        refine inner k 0 (by omega) _ _ ?_ l0
        rw [hB.keep (by omega), hf0.1]
        refine iIc ?_
        show f k = (f k - 0) % p
        rw [Int.sub_zero, Int.emod_eq_of_lt hf0.2.1 hf0.2.2]
  refine g_X7_divides_0 ⟨vin l0, ?_⟩
  rw [cl_of (n := 0) l0]
  have hg0 := hg 0 (by omega)
  refine T_inverseOf hp h2 h4 hg0.1 hg0.2.1 hg0.2.2 ?_
  exact outer 32 0 rfl M0 _ _ _ l0 Blk.start
