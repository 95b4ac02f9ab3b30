-- needs: 06 08 09 10 11 12 13 26 27 28 29
theorem pow_emod' (a p : Int) : ∀ k : Nat, (a % p) ^ k % p = a ^ k % p
  | 0 => by rw [Int.pow_zero, Int.pow_zero]
  | k + 1 => by
    rw [Int.pow_succ, Int.pow_succ, Int.mul_emod, pow_emod' a p k, ← Int.mul_emod (a ^ k) (a % p), Int.mul_emod (a ^ k) (a % p), Int.emod_emod_of_dvd a (Int.dvd_refl p), ← Int.mul_emod]
/-- the number that makes 1 with v, as both programs work it out: v to the p - 2 -/
def ivN (p v : Int) : Int := v ^ (p - 2).toNat % p
theorem ivN_bd {p v : Int} (hp : 2 ≤ p) : 0 ≤ ivN p v ∧ ivN p v < p := ⟨Int.emod_nonneg _ (by omega), Int.emod_lt_of_pos _ (by omega)⟩
theorem S_reciprocal {M : bM} {Q : bQ} {x : Int32} {v p : Int} (hp : M 1 0 0 = iI p) (h2 : 2 ≤ p) (h4 : p ≤ 997) (hx : x = iI v) (hv0 : 0 ≤ v) (hv : v < p) (K : Q (some (cI (iI (ivN p v)))) M) : bCall 9 [cR 1 0, cI x] M Q := by
  have hs : ((((1 : Int32) &&& 31).toBitVec.smod 32).toNat = 1) := by decide
  have loop : ∀ (n e : Nat), e ≤ n → ∀ (r s : Int) (x2 x3 x4 : Int32), x2 = iI r → x3 = iI s → x4 = iI (e : Int) → e < 1000 → 0 ≤ r → r < p → 0 ≤ s → s < p → r * s ^ e % p = ivN p v → bGo 9 Q 22 [some (cR 1 0), some (cI x), some (cI x2), some (cI x3), some (cI x4)] [] M := by
    intro n
    induction n with
    | zero =>
      intro e he r s x2 x3 x4 e2 e3 e4 he1 hr0 hr hs0 hs1 hI
      refine g_X2_reciprocal_22 ⟨fun c => ?_, fun c => ?_⟩
      · have : e = 0 := by omega
        subst this
        rw [Int.pow_zero, Int.mul_one, Int.emod_eq_of_lt hr0 hr] at hI
        rw [e2, hI]
        exact K
      · have := nle_of c e4 l0
        omega
    | succ n ih =>
      intro e he r s x2 x3 x4 e2 e3 e4 he1 hr0 hr hs0 hs1 hI
      have hpn : ¬ (M 1 0 0) = (0 : Int32) := fun q => by have := eq_of q hp l0; omega
      have ss := mul_bd hs0 hs1 hs0 hs1 h4
      have rs := mul_bd hr0 hr hs0 hs1 h4
      have hm1 := Int.emod_nonneg (s * s) (by omega : p ≠ 0)
      have hm2 := Int.emod_lt_of_pos (s * s) (by omega : 0 < p)
      have hm3 := Int.emod_nonneg (r * s) (by omega : p ≠ 0)
      have hm4 := Int.emod_lt_of_pos (r * s) (by omega : 0 < p)
      have es : aRem (x3 * x3) (M 1 0 0) = iI (s * s % p) := by rw [e3, hp, iI_mul, iI_remN ss.1 (by omega) (by omega) (by omega)]
      have er : aRem (x2 * x3) (M 1 0 0) = iI (r * s % p) := by rw [e2, e3, hp, iI_mul, iI_remN rs.1 (by omega) (by omega) (by omega)]
      have eh : x4 >>> ((1 : Int32) &&& 31) = iI ((e / 2 : Nat) : Int) := by
        rw [e4, ← iI_nI, pk_shrN (by omega) _ 1 hs, iI_nI]
      have ea : x4 &&& (1 : Int32) = iI ((e % 2 : Nat) : Int) := by
        rw [e4, ← iI_nI, pk_andN (by omega) 1 (by decide), iI_nI]
      refine g_X2_reciprocal_22 ⟨fun c => ?_, fun c => ⟨fun d => ?_, fun d => ?_⟩⟩
      · have h0 := le_of c e4 l0
        have : e = 0 := by omega
        subst this
        rw [Int.pow_zero, Int.mul_one, Int.emod_eq_of_lt hr0 hr] at hI
        rw [e2, hI]
        exact K
      · have h0 := nle_of c e4 l0
        have h1 := eq_of d ea l0
        refine ⟨hpn, ih (e / 2) (by omega) r (s * s % p) _ _ _ e2 es eh (by omega) hr0 hr hm1 hm2 ?_⟩
        rw [Int.mul_emod, pow_emod', ← Int.mul_emod, ← hI]
        congr 2
        have h2 : e = 2 * (e / 2) := by omega
        have h3 : s ^ (2 * (e / 2)) = (s * s) ^ (e / 2) := by rw [Int.pow_mul, show s ^ 2 = s * s by rw [Int.pow_succ, Int.pow_succ, Int.pow_zero, Int.one_mul]]
        rw [← h3, ← h2]
      · have h0 := nle_of c e4 l0
        have h1 := ne_of' d ea l0
        refine ⟨hpn, hpn, ih (e / 2) (by omega) (r * s % p) (s * s % p) _ _ _ er es eh (by omega) hm3 hm4 hm1 hm2 ?_⟩
        rw [Int.mul_emod, pow_emod', Int.emod_emod_of_dvd _ (Int.dvd_refl p), ← Int.mul_emod, ← hI]
        congr 1
        have h2 : e = 2 * (e / 2) + 1 := by omega
        have h3 : s ^ (2 * (e / 2)) = (s * s) ^ (e / 2) := by rw [Int.pow_mul, show s ^ 2 = s * s by rw [Int.pow_succ, Int.pow_succ, Int.pow_zero, Int.one_mul]]
        have h4 : s ^ e = s ^ (2 * (e / 2)) * s := by
          have : s ^ e = s ^ (2 * (e / 2) + 1) := congrArg (fun k => s ^ k) h2
          rw [this, Int.pow_succ]
        rw [h4, h3, Int.mul_assoc, Int.mul_comm s ((s * s) ^ (e / 2))]
  refine g_X2_reciprocal_0 ⟨fun c => ?_, fun c => ?_⟩
  · refine loop 1000 (p - 2).toNat (by omega) 1 v _ _ _ l1 hx ?_ (by omega) (by omega) (by omega) hv0 hv (by rw [Int.one_mul]; rfl)
    rw [hp, iL 2, iI_sub]
    exact iIc (by omega)
  · have := nle_of c (iL 2) hp
    omega
/-- the constant series -/
def cst (z : Int) : Nat → Int := fun i => if i = 0 then z else 0
theorem S_constant {M0 : bM} {Q : bQ} {j : Nat} {x : Int32} {z p : Int} (hp : M0 1 0 0 = iI p) (h3 : 0 < p) (h4 : p ≤ 997) (hx : x = iI z) (h1 : -2147483648 ≤ z) (h2 : z < 2147483648) (K : ∀ M, Blk M0 M 7 j 0 32 (cst (z % p)) → Q none M) : bCall 29 [cR 1 0, cI x, cR 7 j] M0 Q := by
  refine g_X2_constant_0 (S_fill7 l0 fun M hB => ?_)
  refine S_taken (by rw [hB.row (by omega)]; exact hp) hx h1 h2 h3 h4 ⟨vin l0, ?_⟩
  rw [cl_of (n := 0) l0]
  refine K _ ⟨fun g' j' hne => ?_, fun i hi1 hi2 => ?_, fun i hi => ?_⟩
  · rw [bU_row' (fun q => hne (by rw [q.1, q.2]))]
    exact hB.1 g' j' hne
  · by_cases hi : i = 0
    · subst hi
      rw [bU_at]
      rfl
    · rw [bU_ne (fun q => hi q.2.2), hB.at (by omega) hi2]
      simp [cst, hi]
  · rw [bU_ne (fun q => hi (by omega))]
    exact hB.2.2 i hi
theorem S_weight {M0 : bM} {Q : bQ} {j1 j2 : Nat} {p : Int} {f : Nat → Int} (hp : M0 1 0 0 = iI p) (h3 : 0 < p) (h4 : p ≤ 997) (hf : ∀ i, i < 32 → M0 7 j1 i = iI (f i) ∧ 0 ≤ f i ∧ f i < p) (K : ∀ M, Blk M0 M 7 j2 0 32 (fun i => (i * f i) % p) → Q none M) : bCall 35 [cR 1 0, cR 7 j1, cR 7 j2] M0 Q := by
  have loop : ∀ (n k : Nat), k + n = 32 → ∀ (M : bM) (x3 : Int32), x3 = iI (k : Int) → Blk M0 M 7 j2 0 k (fun i => (i * f i) % p) → bGo 35 Q 2 [some (cR 1 0), some (cR 7 j1), some (cR 7 j2), some (cI x3)] [] M := by
    intro n
    induction n with
    | zero =>
      intro k hk M x3 hx hB
      refine g_X2_weight_2 ⟨fun c => ?_, fun c => ?_⟩
      · have : k = 32 := by omega
        subst this
        exact K M hB
      · have := nle_of c l32 hx
        omega
    | succ n ih =>
      intro k hk M x3 hx hB
      refine g_X2_weight_2 ⟨fun c => ?_, fun c => ?_⟩
      · have := le_of c l32 hx
        omega
      · obtain ⟨hf1, hf2, hf3⟩ := hf k (by omega)
        have m1 := mul_bd (a := (k : Int)) (b := f k) (p := 997) (by omega) (by omega) hf2 (by omega) (by omega)
        refine ⟨vin hx, ?_⟩
        rw [cl_of hx]
        refine S_taken (z := k * f k) (p := p) (by rw [hB.row (by omega)]; exact hp) ?_ (by omega) (by omega) h3 h4 ?_
        · rw [hB.keep (by omega), hf1, hx, iI_mul]
        · exact ⟨vin hx, ih (k + 1) (by omega) _ _ (inN hx) (hB.up (Nat.zero_le _) rfl)⟩
  exact g_X2_weight_0 (loop 32 0 rfl M0 _ l0 Blk.start)
/-- the product's term k, not taken yet -/
def cv (f g : Nat → Int) (k : Nat) : Int := sm (fun i => f i * g (k - i)) (k + 1)
theorem cv_bd {f g : Nat → Int} {p : Int} (hp : p ≤ 997) {k n : Nat} (hk : k < 32) (hn : n ≤ k + 1) (hf : ∀ i, i < 32 → 0 ≤ f i ∧ f i < p) (hg : ∀ i, i < 32 → 0 ≤ g i ∧ g i < p) : 0 ≤ sm (fun i => f i * g (k - i)) n ∧ sm (fun i => f i * g (k - i)) n ≤ 31744512 := by
  have h := sm_bd (f := fun i => f i * g (k - i)) (B := 992016) (by omega) (n := n) (fun i hi => by
    have h1 := hf i (by omega)
    have h2 := hg (k - i) (by omega)
    exact mul_bd h1.1 h1.2 h2.1 h2.2 hp)
  omega
theorem S_multiply {M0 : bM} {Q : bQ} {j1 j2 j3 : Nat} {p : Int} {f g : Nat → Int} (hp : M0 1 0 0 = iI p) (h3 : 0 < p) (h4 : p ≤ 997) (hf : ∀ i, i < 32 → M0 7 j1 i = iI (f i) ∧ 0 ≤ f i ∧ f i < p) (hg : ∀ i, i < 32 → M0 7 j2 i = iI (g i) ∧ 0 ≤ g i ∧ g i < p) (K : ∀ M, Blk M0 M 7 j3 0 32 (fun i => cv f g i % p) → Q none M) : bCall 34 [cR 1 0, cR 7 j1, cR 7 j2, cR 7 j3] M0 Q := by
  have outer : ∀ (n : Nat), n ≤ 32 → ∀ (M : bM) (x4 : Int32) (o5 o6 : Option bV), x4 = iI ((n : Int) - 1) → Blk M0 M 7 j3 n 32 (fun i => cv f g i % p) → bGo 34 Q 4 [some (cR 1 0), some (cR 7 j1), some (cR 7 j2), some (cR 7 j3), some (cI x4), o5, o6] [] M := by
    intro n
    induction n with
    | zero =>
      intro hn M x4 o5 o6 hx hB
      refine g_X2_multiply_4 ⟨fun c => K M hB, fun c => ?_⟩
      have := nlt_of c hx l0
      omega
    | succ k ih =>
      intro hn M x4 o5 o6 hx hB
      have hx : x4 = iI (k : Int) := by rw [hx]; exact iIc (by omega)
      have inner : ∀ (n i : Nat), i + n = k + 1 → ∀ (x5 x6 : Int32), x5 = iI (sm (fun i => f i * g (k - i)) i) → x6 = iI (i : Int) → bGo 34 Q 15 [some (cR 1 0), some (cR 7 j1), some (cR 7 j2), some (cR 7 j3), some (cI x4), some (cI x5), some (cI x6)] [] M := by
        intro n
        induction n with
        | zero =>
          intro i hi x5 x6 e5 e6
          have hi : i = k + 1 := by omega
          subst hi
          have hb := cv_bd h4 (f := f) (g := g) (k := k) (n := k + 1) (by omega) (Nat.le_refl _) (fun i hi => (hf i hi).2) (fun i hi => (hg i hi).2)
          refine g_X2_multiply_15 ⟨fun c => ?_, fun c => ?_⟩
          · refine S_taken (p := p) (by rw [hB.row (by omega)]; exact hp) e5 (by omega) (by omega) h3 h4 ⟨vin hx, ?_⟩
            rw [cl_of hx]
            refine ih (by omega) _ _ _ _ ?_ (hB.down (by omega) rfl)
            rw [hx, show (-1 : Int32) = iI (-1) from by rw [l1, iI_neg], iI_add]
            exact iIc (by omega)
          · have := nlt_of c hx e6
            omega
        | succ n ihn =>
          intro i hi x5 x6 e5 e6
          refine g_X2_multiply_15 ⟨fun c => ?_, fun c => ?_⟩
          · have := lt_of c hx e6
            omega
          · have hki : x4 - x6 = iI ((k - i : Nat) : Int) := by rw [hx, e6, iI_sub]; exact iIc (by omega)
            refine ⟨vin e6, vin hki, ?_⟩
            rw [cl_of e6, cl_of hki]
            refine ihn (i + 1) (by omega) _ _ ?_ (inN e6)
            rw [hB.keep (by omega), hB.keep (by omega), (hf i (by omega)).1, (hg (k - i) (by omega)).1, e5, iI_mul, iI_add]
            rfl
      refine g_X2_multiply_4 ⟨fun c => ?_, fun c => ?_⟩
      · have := lt_of c hx l0
        omega
      · exact inner (k + 1) 0 (by omega) _ _ l0 l0
  exact g_X2_multiply_0 (outer 32 (Nat.le_refl _) M0 _ _ _ (by rw [iL 31]; exact iIc (by omega)) Blk.start)
