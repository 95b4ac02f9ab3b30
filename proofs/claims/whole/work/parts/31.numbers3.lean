-- needs: 06 08 09 10 11 12 13 26 27 28 29 30
/-- the quotient's terms below n -/
def dvT (p : Int) (f g : Nat → Int) : Nat → (Nat → Int)
  | 0 => fun _ => 0
  | n + 1 => fun i => if i = n then ((f n - sm (fun t => g (t + 1) * dvT p f g n (n - (t + 1))) n) % p * ivN p (g 0)) % p else dvT p f g n i
/-- the quotient's term k -/
def dv (p : Int) (f g : Nat → Int) (k : Nat) : Int := dvT p f g (k + 1) k
theorem dvT_lt {p : Int} {f g : Nat → Int} : ∀ {n i : Nat}, i < n → dvT p f g n i = dv p f g i
  | n + 1, i, h => by
    by_cases hi : i = n
    · subst hi; rfl
    · have h1 : dvT p f g (n + 1) i = dvT p f g n i := by
        show (if i = n then _ else _) = _
        rw [if_neg hi]
      rw [h1]
      exact dvT_lt (by omega)
theorem dv_eq {p : Int} {f g : Nat → Int} (k : Nat) : dv p f g k = ((f k - sm (fun t => g (t + 1) * dv p f g (k - (t + 1))) k) % p * ivN p (g 0)) % p := by
  show (if k = k then ((f k - sm (fun t => g (t + 1) * dvT p f g k (k - (t + 1))) k) % p * ivN p (g 0)) % p else _) = _
  rw [if_pos rfl]
  congr 4
  refine sm_congr fun i hi => ?_
  rw [dvT_lt (by omega)]
theorem dv_bd {p : Int} {f g : Nat → Int} (h3 : 0 < p) (k : Nat) : 0 ≤ dv p f g k ∧ dv p f g k < p := by
  rw [dv_eq]
  exact ⟨Int.emod_nonneg _ (by omega), Int.emod_lt_of_pos _ h3⟩
theorem dvs_bd {p : Int} {f g : Nat → Int} (h3 : 0 < p) (h4 : p ≤ 997) {k n : Nat} (hk : k < 32) (hn : n ≤ k) (hg : ∀ i, i < 32 → 0 ≤ g i ∧ g i < p) : 0 ≤ sm (fun t => g (t + 1) * dv p f g (k - (t + 1))) n ∧ sm (fun t => g (t + 1) * dv p f g (k - (t + 1))) n ≤ 31744512 := by
  have h := sm_bd (f := fun t => g (t + 1) * dv p f g (k - (t + 1))) (B := 992016) (by omega) (n := n) (fun i hi => by
    have h1 := hg (i + 1) (by omega)
    have h2 := dv_bd (f := f) (g := g) h3 (k - (i + 1))
    exact mul_bd h1.1 h1.2 h2.1 h2.2 h4)
  omega
/-- divide: the quotient stands in (7, 12) and in the third row -/
theorem S_divide {M0 : bM} {Q : bQ} {j1 j2 j3 : Nat} {p : Int} {f g : Nat → Int} (hp : M0 1 0 0 = iI p) (h2 : 2 ≤ p) (h4 : p ≤ 997) (hj1 : j1 ≠ 12) (hj2 : j2 ≠ 12) (hj3 : j3 ≠ 12) (hf : ∀ i, i < 32 → M0 7 j1 i = iI (f i) ∧ 0 ≤ f i ∧ f i < p) (hg : ∀ i, i < 32 → M0 7 j2 i = iI (g i) ∧ 0 ≤ g i ∧ g i < p)
    (K : ∀ M, (∀ g' j', (g', j') ≠ (7, 12) → (g', j') ≠ (7, j3) → M g' j' = M0 g' j') → (∀ i, i < 32 → M 7 j3 i = iI (dv p f g i)) → Q none M) : bCall 30 [cR 1 0, cR 7 j1, cR 7 j2, cR 7 j3] M0 Q := by
  have hiv := ivN_bd (v := g 0) h2
  have outer : ∀ (n k : Nat), k + n = 32 → ∀ (M : bM) (x5 : Int32) (o6 o7 : Option bV), x5 = iI (k : Int) → Blk M0 M 7 12 0 k (dv p f g) → bGo 30 Q 12 [some (cR 1 0), some (cR 7 j1), some (cR 7 j2), some (cR 7 j3), some (cI (iI (ivN p (g 0)))), some (cI x5), o6, o7] [] M := by
    intro n
    induction n with
    | zero =>
      intro k hk M x5 o6 o7 hx hB
      refine g_X2_divide_12 ⟨fun c => ⟨by decide, ?_⟩, fun c => ?_⟩
      · have : k = 32 := by omega
        subst this
        refine K _ (fun g' j' h12 hj => ?_) (fun i hi => ?_)
        · rw [bCp_o hj]
          exact hB.1 g' j' h12
        · rw [bCp_r]
          have hz : va_cpy (M 7 12) (M 7 j3) (0 : Int32).toNatClampNeg (0 : Int32).toNatClampNeg (32 : Int32).toNatClampNeg i = M 7 12 i := by
            rw [show (0 : Int32).toNatClampNeg = 0 from rfl, show (32 : Int32).toNatClampNeg = 32 from rfl]
            exact sb_cpy0 hi
          rw [hz]
          exact hB.at (by omega) hi
      · have := nle_of c l32 hx
        omega
    | succ n ih =>
      intro k hk M x5 o6 o7 hx hB
      have inner : ∀ (n i : Nat), i + n = k → ∀ (x6 x7 : Int32), x6 = iI (f k - sm (fun t => g (t + 1) * dv p f g (k - (t + 1))) i) → x7 = iI ((i + 1 : Nat) : Int) → bGo 30 Q 28 [some (cR 1 0), some (cR 7 j1), some (cR 7 j2), some (cR 7 j3), some (cI (iI (ivN p (g 0)))), some (cI x5), some (cI x6), some (cI x7)] [] M := by
        intro n
        induction n with
        | zero =>
          intro i hi x6 x7 e6 e7
          have hi : i = k := by omega
          subst hi
          have hb := dvs_bd (f := f) (g := g) (k := i) (n := i) (by omega : 0 < p) h4 (by omega) (Nat.le_refl _) (fun i hi => (hg i hi).2)
          have hf1 := (hf i (by omega)).2
          refine g_X2_divide_28 ⟨fun c => ?_, fun c => ?_⟩
          · have hp' : M 1 0 0 = iI p := by rw [hB.row (by omega)]; exact hp
            have hm1 := Int.emod_nonneg (f i - sm (fun t => g (t + 1) * dv p f g (i - (t + 1))) i) (by omega : p ≠ 0)
            have hm2 := Int.emod_lt_of_pos (f i - sm (fun t => g (t + 1) * dv p f g (i - (t + 1))) i) (by omega : 0 < p)
            have hm3 := mul_bd hm1 hm2 hiv.1 hiv.2 h4
            refine S_taken hp' e6 (by omega) (by omega) (by omega) h4 ?_
            refine S_taken hp' (iI_mul _ _) (by omega) (by omega) (by omega) h4 ⟨vin hx, ?_⟩
            rw [cl_of hx]
            exact ih (i + 1) (by omega) _ _ _ _ (inN hx) (hB.up (Nat.zero_le _) (by rw [dv_eq]))
          · have := nlt_of c hx e7
            omega
        | succ n ihn =>
          intro i hi x6 x7 e6 e7
          refine g_X2_divide_28 ⟨fun c => ?_, fun c => ?_⟩
          · have := lt_of c hx e7
            omega
          · have hki : x5 - x7 = iI ((k - (i + 1) : Nat) : Int) := by rw [hx, e7, iI_sub]; exact iIc (by omega)
            refine ⟨vin e7, vin hki, ?_⟩
            rw [cl_of e7, cl_of hki]
            refine ihn (i + 1) (by omega) _ _ ?_ (inN e7)
            rw [hB.keep (by omega), (hg (i + 1) (by omega)).1, hB.at (by omega) (by omega), e6, iI_mul, iI_sub]
            refine iIc ?_
            have e : sm (fun t => g (t + 1) * dv p f g (k - (t + 1))) (i + 1) = sm (fun t => g (t + 1) * dv p f g (k - (t + 1))) i + g (i + 1) * dv p f g (k - (i + 1)) := rfl
            rw [e]
            omega
      refine g_X2_divide_12 ⟨fun c => ?_, fun c => ⟨vin hx, ?_⟩⟩
      · have := le_of c l32 hx
        omega
      · rw [cl_of hx]
        refine inner k 0 (by omega) _ _ ?_ l1
        rw [hB.keep (by omega), (hf k (by omega)).1]
        refine iIc ?_
        show f k = f k - 0
        omega
  refine g_X2_divide_0 ⟨vin l0, ?_⟩
  rw [cl_of (n := 0) l0]
  have hg0 := hg 0 (by omega)
  refine S_reciprocal hp h2 h4 hg0.1 hg0.2.1 hg0.2.2 ?_
  exact outer 32 0 rfl M0 _ _ _ l0 Blk.start
/-- how many places of a row of n are 0 ahead of the first that is not -/
def lz (f : Nat → Int) : Nat → Nat → Nat
  | 0, k => k
  | n + 1, k => if f k = 0 then lz f n (k + 1) else k
theorem lz_bd {f : Nat → Int} : ∀ {n k : Nat}, k ≤ lz f n k ∧ lz f n k ≤ k + n
  | 0, k => ⟨Nat.le_refl _, Nat.le_refl _⟩
  | n + 1, k => by
    have h := lz_bd (f := f) (n := n) (k := k + 1)
    unfold lz
    split <;> omega
theorem S_leadingZeros {M : bM} {Q : bQ} {j : Nat} {f : Nat → Int} (hf : ∀ i, i < 32 → M 7 j i = iI (f i) ∧ 0 ≤ f i ∧ f i < 997) (K : Q (some (cI (iI (lz f 32 0 : Nat)))) M) : bCall 33 [cR 7 j] M Q := by
  have loop : ∀ (n k : Nat), k + n = 32 → ∀ (x1 : Int32), x1 = iI (k : Int) → Q (some (cI (iI (lz f n k : Nat)))) M → bGo 33 Q 2 [some (cR 7 j), some (cI x1)] [] M := by
    intro n
    induction n with
    | zero =>
      intro k hk x1 hx hK
      refine g_X2_leadingZeros_2 ⟨fun c => ?_, fun c => ?_⟩
      · have : k = 32 := by omega
        subst this
        rw [l32]
        exact hK
      · have := nle_of c l32 hx
        omega
    | succ n ih =>
      intro k hk x1 hx hK
      obtain ⟨f1, f2, f3⟩ := hf k (by omega)
      refine g_X2_leadingZeros_2 ⟨fun c => ?_, fun c => ⟨vin hx, fun d => ?_, fun d => ?_⟩⟩
      · have := le_of c l32 hx
        omega
      · rw [cl_of hx] at d
        have hz := eq_of d f1 l0
        refine ih (k + 1) (by omega) _ (inN hx) ?_
        have : lz f (n + 1) k = lz f n (k + 1) := by
          show (if f k = 0 then _ else _) = _
          rw [if_pos hz]
        rw [← this]
        exact hK
      · rw [cl_of hx] at d
        have hz := ne_of' d f1 l0
        have : lz f (n + 1) k = k := by
          show (if f k = 0 then _ else _) = _
          rw [if_neg hz]
        rw [this] at hK
        rw [hx]
        exact hK
  exact g_X2_leadingZeros_0 (loop 32 0 rfl _ l0 K)
/-- a prime, as the class finds it: nothing from d on, whose square isn't above n, divides n -/
def isP (n : Int) : Prop := ∀ d : Nat, 2 ≤ d → (d : Int) * d ≤ n → n % d ≠ 0
theorem S_isPrime {M : bM} {Q : bQ} {x : Int32} {n : Int} (hx : x = iI n) (h2 : 2 ≤ n) (h4 : n ≤ 997) (Kt : isP n → Q (some (cI (1 : Int32))) M) (Kf : ¬ isP n → Q (some (cI (0 : Int32))) M) : bCall 32 [cI x] M Q := by
  have loop : ∀ (t d : Nat), d + t = 34 → 2 ≤ d → ∀ (x1 : Int32), x1 = iI (d : Int) → (∀ e : Nat, 2 ≤ e → e < d → (e : Int) * e ≤ n → n % e ≠ 0) → bGo 32 Q 2 [some (cI x), some (cI x1)] [] M := by
    intro t
    induction t with
    | zero =>
      intro d hd h2d x1 h1 hI
      have hdd : x1 * x1 = iI (1156 : Int) := by rw [h1, iI_mul, show d = 34 by omega]; rfl
      refine g_X2_isPrime_2 ⟨fun c => ⟨fun e => ?_, fun e => ⟨Or.inr rfl, ?_⟩⟩, fun c => ?_⟩
      · have := le_of e hx l1
        omega
      · refine Kt fun e he1 he2 => hI e he1 ?_ he2
        have h5 : ¬ 34 ≤ e := fun q => by
          have h6 : (34 : Int) * 34 ≤ (e : Int) * e := Int.mul_le_mul (by omega) (by omega) (by omega) (by omega)
          omega
        omega
      · have := nlt_of c hx hdd
        omega
    | succ t ih =>
      intro d hd h2d x1 h1 hI
      have hsq : (d : Int) * d ≤ 1156 := by
        have h6 : (d : Int) * d ≤ (34 : Int) * 34 := Int.mul_le_mul (by omega) (by omega) (by omega) (by omega)
        omega
      have hsq0 : 0 ≤ (d : Int) * d := Int.mul_nonneg (by omega) (by omega)
      have hdd : x1 * x1 = iI ((d : Int) * d) := by rw [h1, iI_mul]
      have hr : aRem x x1 = iI (n % d) := by rw [hx, h1, iI_remN (by omega) (by omega) (by omega) (by omega)]
      refine g_X2_isPrime_2 ⟨fun c => ⟨fun e => ?_, fun e => ⟨Or.inr rfl, ?_⟩⟩, fun c => ⟨fun e => ?_, fun e => ⟨fun q => ?_, fun nd => ?_, fun nd => ⟨Or.inl rfl, ?_⟩⟩⟩⟩
      · have := le_of e hx l1
        omega
      · have hlt := lt_of c hx hdd
        refine Kt fun e he1 he2 => ?_
        by_cases h5 : e < d
        · exact hI e he1 h5 he2
        · have h6 : (d : Int) * d ≤ (e : Int) * e := Int.mul_le_mul (by omega) (by omega) (by omega) (by omega)
          omega
      · have := le_of e (iL 997) h1
        omega
      · have := eq_of q h1 l0
        omega
      · have hne : n % d ≠ 0 := ne_of' nd hr l0
        refine ih (d + 1) (by omega) (by omega) _ (inN h1) fun e he1 he2 he3 => ?_
        by_cases h5 : e = d
        · subst h5
          exact hne
        · exact hI e he1 (by omega) he3
      · have hz : n % d = 0 := by
          have h6 := Int.emod_nonneg n (by omega : (d : Int) ≠ 0)
          have h7 := Int.emod_lt_of_pos n (by omega : 0 < (d : Int))
          by_cases h8 : n % d = 0
          · exact h8
          · exact absurd (fun q => h8 (eq_of q hr l0)) nd
        have hle := nlt_of c hx hdd
        exact Kf fun hP => hP d h2d hle hz
  exact g_X2_isPrime_0 (loop 32 2 rfl (Nat.le_refl _) _ (iL 2) (fun e h1 h2 => by omega))
