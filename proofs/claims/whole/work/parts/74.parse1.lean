-- needs: 06 08 09 10 11 12 13 14 15 16 17 18 19 26 27 28 29 30 31 32 33 34 35 37 39 41 42 43 45 46 72 73
/-! THE MODEL'S products and quotients of any numbers end -/
theorem T_multiplies_any {M0 : bM} {Q : bQ} {j1 j2 : Nat} {p : Int} (hp : M0 26 0 0 = iI p) (h3 : 0 < p) (h4 : p ≤ 997) (K : ∀ M, Fr (fun g j _ => g = 27 ∧ j = 0) M0 M → Q none M) : bCall 130 [cR 26 0, cR 27 j1, cR 27 j2] M0 Q := by
  have outer : ∀ (n k : Nat), k + n = 32 → ∀ (M : bM) (x3 : Int32) (o4 o5 : Option bV), x3 = iI (k : Int) → Fr (fun g j _ => g = 27 ∧ j = 0) M0 M → bGo 130 Q 2 [some (cR 26 0), some (cR 27 j1), some (cR 27 j2), some (cI x3), o4, o5] [] M := by
    intro n
    induction n with
    | zero =>
      intro k hk M x3 o4 o5 e3 hF
      exact g_X7_multiplies_2 ⟨fun _ => K M hF, fun q => absurd (nle_of q l32 e3) (by omega)⟩
    | succ n ih =>
      intro k hk M x3 o4 o5 e3 hF
      have inner : ∀ (n i : Nat), i + n = k + 1 → ∀ (x4 x5 : Int32), x5 = iI (i : Int) → bGo 130 Q 14 [some (cR 26 0), some (cR 27 j1), some (cR 27 j2), some (cI x3), some (cI x4), some (cI x5)] [] M := by
        intro n
        induction n with
        | zero =>
          intro i hi x4 x5 e5
          refine g_X7_multiplies_14 ⟨fun _ => ⟨vin e3, ih (k + 1) (by omega) _ _ _ _ (inN e3) ((hF.trans bU_fr).mono fun g j i z => ?_)⟩, fun q => absurd (nlt_of q e3 e5) (by omega)⟩
          simp only [oL] at z
          omega
        | succ n ihn =>
          intro i hi x4 x5 e5
          have es : x3 - x5 = iI ((k - i : Nat) : Int) := by
            rw [e3, e5, iI_sub]
            exact iIc (by omega)
          refine g_X7_multiplies_14 ⟨fun q => absurd (lt_of q e3 e5) (by omega), fun _ => ⟨vin e5, vin es, fun z => ?_, ihn (i + 1) (by omega) _ _ (inN e5)⟩⟩
          have hpM : M 26 0 0 = iI p := by rw [hF _ _ _ (by omega)]; exact hp
          have := eq_of z hpM l0
          omega
      exact g_X7_multiplies_2 ⟨fun q => absurd (le_of q l32 e3) (by omega), fun _ => inner (k + 1) 0 (by omega) _ _ l0⟩
  exact g_X7_multiplies_0 (outer 32 0 rfl M0 _ _ _ l0 (Fr.refl.mono fun _ _ _ z => z.elim))
theorem T_mod_any {M : bM} {Q : bQ} {x : Int32} {p : Int} (hp : M 26 0 0 = iI p) (h3 : 0 < p) (h4 : p ≤ 997) (K : ∀ r, Q (some (cI r)) M) : bCall 118 [cR 26 0, cL x.toInt64] M Q := by
  have h1 := Int32.le_toInt x
  have h2 := Int32.toInt_lt x
  exact T_mod hp (iI_long (z := x.toInt) tI.symm (by omega) (by omega)) (by omega) (by omega) h3 h4 (K _)
theorem T_inverseOf_any {M : bM} {Q : bQ} {x : Int32} {p : Int} (hp : M 26 0 0 = iI p) (h3 : 0 < p) (h4 : p ≤ 997) (K : ∀ r, Q (some (cI r)) M) : bCall 121 [cR 26 0, cI x] M Q := by
  have e2 : M 26 0 0 - (2 : Int32) = iI (p - 2) := by
    rw [hp, iL 2, iI_sub]
    rfl
  have loop : ∀ (n k : Nat), k + n = 997 → ∀ (x2 x3 : Int32), x3 = iI (k : Int) → bGo 121 Q 4 [some (cR 26 0), some (cI x), some (cI x2), some (cI x3)] [] M := by
    intro n
    induction n with
    | zero =>
      intro k hk x2 x3 e3
      exact g_X7_inverseOf_4 ⟨fun _ => K _, fun q => absurd (nle_of q e2 e3) (by omega)⟩
    | succ n ih =>
      intro k hk x2 x3 e3
      refine g_X7_inverseOf_4 ⟨fun _ => K _, fun _ => ⟨fun z => ?_, ih (k + 1) (by omega) _ _ (inN e3)⟩⟩
      have := eq_of z hp l0
      omega
  exact g_X7_inverseOf_0 (loop 997 0 rfl _ _ l0)
theorem T_divides_any {M0 : bM} {Q : bQ} {j1 j2 : Nat} {p : Int} (hp : M0 26 0 0 = iI p) (h3 : 0 < p) (h4 : p ≤ 997) (K : ∀ M, Fr (fun g j _ => g = 27 ∧ j = 0) M0 M → Q none M) : bCall 131 [cR 26 0, cR 27 j1, cR 27 j2] M0 Q := by
  refine g_X7_divides_0 ⟨vin l0, T_inverseOf_any hp h3 h4 fun r => ?_⟩
  have outer : ∀ (n k : Nat), k + n = 32 → ∀ (M : bM) (x4 : Int32) (o5 o6 : Option bV), x4 = iI (k : Int) → Fr (fun g j _ => g = 27 ∧ j = 0) M0 M → bGo 131 Q 11 [some (cR 26 0), some (cR 27 j1), some (cR 27 j2), some (cI r), some (cI x4), o5, o6] [] M := by
    intro n
    induction n with
    | zero =>
      intro k hk M x4 o5 o6 e4 hF
      exact g_X7_divides_11 ⟨fun _ => K M hF, fun q => absurd (nle_of q l32 e4) (by omega)⟩
    | succ n ih =>
      intro k hk M x4 o5 o6 e4 hF
      have hpM : M 26 0 0 = iI p := by rw [hF _ _ _ (by omega)]; exact hp
      have inner : ∀ (n i : Nat), i + n = k → ∀ (x5 x6 : Int32), x6 = iI (i : Int) → bGo 131 Q 27 [some (cR 26 0), some (cR 27 j1), some (cR 27 j2), some (cI r), some (cI x4), some (cI x5), some (cI x6)] [] M := by
        intro n
        induction n with
        | zero =>
          intro i hi x5 x6 e6
          refine g_X7_divides_27 ⟨fun _ => ⟨fun z => ?_, vin e4, ih (k + 1) (by omega) _ _ _ _ (inN e4) ((hF.trans bU_fr).mono fun g j i z => ?_)⟩, fun q => absurd (nle_of q e4 e6) (by omega)⟩
          · have := eq_of z hpM l0
            omega
          · simp only [oL] at z
            omega
        | succ n ihn =>
          intro i hi x5 x6 e6
          have es : x4 - x6 = iI ((k - i : Nat) : Int) := by
            rw [e4, e6, iI_sub]
            exact iIc (by omega)
          exact g_X7_divides_27 ⟨fun q => absurd (le_of q e4 e6) (by omega), fun _ => ⟨vin e6, vin es, T_mod_any hpM h3 h4 fun r' => ihn (i + 1) (by omega) _ _ (inN e6)⟩⟩
      exact g_X7_divides_11 ⟨fun q => absurd (le_of q l32 e4) (by omega), fun _ => ⟨vin e4, inner k 0 (by omega) _ _ l0⟩⟩
  exact outer 32 0 rfl M0 _ _ _ l0 (Fr.refl.mono fun _ _ _ z => z.elim)
/-! WHAT A TEXT MAKES, step by step -/
/-- a power ends: what the term is then -/
def eT (p w : Int) (τ π : Nat → Int) : Nat → Int := if w = 47 then (if π 0 = 0 then τ else dv p τ π) else fun k => cv τ π k % p
/-- .. and where the hole is -/
def eH (w wp : Int) (π : Nat → Int) (h : Int) : Int := if w = 47 ∧ π 0 = 0 ∧ h < 0 then wp else h
/-- a term ends: what the sum is then -/
def sT (p mn : Int) (σ t : Nat → Int) : Nat → Int := fun k => (if mn = 0 then σ k + t k else σ k - t k) % p
def pwF (p : Int) (π : Nat → Int) : Nat → (Nat → Int)
  | 0 => cst 1
  | e + 1 => fun k => cv (pwF p π e) π k % p
/-- an atom that is no sum in parentheses -/
def aP (p T v : Int) : Nat → Int := if T = 120 then fun k => if k = 1 then 1 else 0 else cst (v % p)
def pU {α : Type} (f : Nat → α) (l : Nat) (v : α) : Nat → α := fun i => if i = l then v else f i
theorem up_at {α : Type} {f : Nat → α} {l : Nat} {v : α} : pU f l v l = v := if_pos rfl
theorem up_ne {α : Type} {f : Nat → α} {l i : Nat} {v : α} (h : i ≠ l) : pU f l v i = f i := if_neg h
theorem eT_bd {p w : Int} {τ π : Nat → Int} (h3 : 0 < p) (hτ : ∀ k, k < 32 → 0 ≤ τ k ∧ τ k < p) : ∀ k, k < 32 → 0 ≤ eT p w τ π k ∧ eT p w τ π k < p := fun k hk => by
  unfold eT
  split
  · split
    · exact hτ k hk
    · exact dv_bd h3 k
  · exact ⟨Int.emod_nonneg _ (by omega), Int.emod_lt_of_pos _ h3⟩
theorem sT_bd {p mn : Int} {σ t : Nat → Int} (h3 : 0 < p) : ∀ k, 0 ≤ sT p mn σ t k ∧ sT p mn σ t k < p := fun k => ⟨Int.emod_nonneg _ (by omega), Int.emod_lt_of_pos _ h3⟩
theorem pwF_bd {p : Int} {π : Nat → Int} (h2 : 2 ≤ p) : ∀ (e k : Nat), 0 ≤ pwF p π e k ∧ pwF p π e k < p
  | 0, k => by
    show 0 ≤ cst 1 k ∧ cst 1 k < p
    unfold cst
    split <;> omega
  | e + 1, k => ⟨Int.emod_nonneg _ (by omega), Int.emod_lt_of_pos _ (by omega)⟩
theorem cst1_bd {p : Int} (h2 : 2 ≤ p) (k : Nat) : 0 ≤ cst 1 k ∧ cst 1 k < p := by
  unfold cst
  split <;> omega
theorem aP_bd {p T v : Int} (h2 : 2 ≤ p) : ∀ k, 0 ≤ aP p T v k ∧ aP p T v k < p := fun k => by
  unfold aP
  split
  · dsimp only
    split <;> omega
  · unfold cst
    split
    · exact ⟨Int.emod_nonneg _ (by omega), Int.emod_lt_of_pos _ (by omega)⟩
    · omega
/-- 1 times a power is the power -/
theorem cv_1 {τ π : Nat → Int} {k : Nat} (hτ : ∀ i, i ≤ k → τ i = cst 1 i) : cv τ π k = π k := by
  unfold cv
  rw [sm_head, hτ 0 (by omega), show cst 1 0 = 1 from rfl, Int.one_mul, sm_0 fun i hi => ?_]
  · simp
  · rw [hτ (i + 1) (by omega), show cst 1 (i + 1) = 0 from rfl, Int.zero_mul]
theorem eH_bd {w wp h : Int} {π : Nat → Int} (h1 : -1 ≤ h) (h2 : h ≤ 80) (w1 : 0 ≤ wp) (w2 : wp ≤ 80) : -1 ≤ eH w wp π h ∧ eH w wp π h ≤ 80 := by
  unfold eH
  split <;> omega
theorem eH_neg {w wp h : Int} {π : Nat → Int} (w1 : 0 ≤ wp) (hh : eH w wp π h < 0) : h < 0 ∧ ¬ (w = 47 ∧ π 0 = 0) := by
  unfold eH at hh
  split at hh
  · omega
  · rename_i q
    exact ⟨hh, fun z => q ⟨z.1, z.2, hh⟩⟩
/-! THE CLASS -/
theorem S_endPower {p w wp h : Int} {lv : Nat} {τ π : Nat → Int} {M0 : bM} {Q : bQ} (hp : M0 1 0 0 = iI p) (h2 : 2 ≤ p) (h4 : p ≤ 997) (hlv : M0 2 0 10 = iI (lv : Int)) (hl4 : lv ≤ 4) (hw : w = 0 ∨ w = 42 ∨ w = 47) (hj : M0 10 0 lv = iI (if w = 0 then 42 else w)) (hjp : w ≠ 0 → M0 10 1 lv = iI wp) (hh : M0 2 0 9 = iI h) (hh1 : -1 ≤ h) (hh2 : h ≤ 80) (hτ : ∀ k, k < 32 → M0 7 (18 + lv) k = iI (τ k) ∧ 0 ≤ τ k ∧ τ k < p) (hπ : ∀ k, k < 32 → M0 7 (23 + lv) k = iI (π k) ∧ 0 ≤ π k ∧ π k < p) (K : ∀ M, Fr (fun g j i => g = 7 ∧ (j = 18 + lv ∨ j = 12) ∨ g = 2 ∧ i = 9) M0 M → (∀ k, k < 32 → M 7 (18 + lv) k = iI (eT p w τ π k)) → M 2 0 9 = iI (eH w wp π h) → Q none M) : bCall 43 [cR 2 0] M0 Q := by
  have cl : (M0 2 0 10).toNatClampNeg = lv := cl_of hlv
  have c0 : (0 : Int32).toNatClampNeg = 0 := rfl
  refine g_X4_endPower_0 ⟨vin hlv, ?_⟩
  rw [cl, c0, hj]
  refine ⟨fun q => ⟨vin hlv, vin l0, ?_⟩, fun q => ⟨vin hlv, vin hlv, vin hlv, ?_⟩⟩
  · have hw47 : w = 47 := by
      rcases hw with z | z | z
      · exact absurd (by rw [if_pos z]; rfl) q
      · exact absurd (by rw [if_neg (by omega), z]; rfl) q
      · exact z
    have hπ0 := hπ 0 (by omega)
    rw [hπ0.1]
    refine ⟨fun z => ?_, fun z => ⟨vin hlv, vin hlv, vin hlv, ?_⟩⟩
    · have hz := eq_of z rfl l0
      have e1 : eT p w τ π = τ := by
        unfold eT
        rw [if_pos hw47, if_pos hz]
      rw [e1] at K
      refine ⟨fun y => K M0 (Fr.refl.mono fun _ _ _ z => z.elim) (fun k hk => (hτ k hk).1) ?_, fun y => ⟨vin hlv, ?_⟩⟩
      · have := le_of y l0 hh
        unfold eH
        rw [if_neg (by omega)]
        exact hh
      · have := nle_of y l0 hh
        refine K _ (bU_fr.mono fun g j i z => by omega) (fun k hk => ?_) ?_
        · rw [bU_ne (by omega)]
          exact (hτ k hk).1
        · unfold eH
          rw [bU_at, if_pos ⟨hw47, hz, by omega⟩]
          exact hjp (by omega)
    · have hz : π 0 ≠ 0 := fun y => z (by rw [y]; rfl)
      refine S_divide (f := τ) (g := π) hp h2 h4 (by omega) (by omega) (by omega) hτ hπ fun M hM hv => K M (fun g j i hn => ?_) (fun k hk => ?_) ?_
      · exact congrFun (hM g j (fun y => hn (by cases y; exact Or.inl ⟨rfl, Or.inr rfl⟩)) fun y => hn (by cases y; exact Or.inl ⟨rfl, Or.inl rfl⟩)) i
      · unfold eT
        rw [if_pos hw47, if_neg hz]
        exact hv k hk
      · have e2 : M 2 0 = M0 2 0 := hM 2 0 (by simp) (by simp)
        rw [e2]
        unfold eH
        rw [if_neg (by omega)]
        exact hh
  · have hw47 : w ≠ 47 := fun z => by
      rw [z] at q
      exact absurd (Decidable.of_not_not q) (by decide)
    refine S_multiply (f := τ) (g := π) hp (by omega) h4 hτ hπ fun M hB => K M (hB.fr.mono fun g j i z => by omega) (fun k hk => ?_) ?_
    · unfold eT
      rw [if_neg hw47]
      exact hB.at (by omega) hk
    · rw [hB.keep (by omega)]
      unfold eH
      rw [if_neg (by omega)]
      exact hh
theorem S_endTerm {p mn : Int} {lv : Nat} {σ t : Nat → Int} {M0 : bM} {Q : bQ} (hp : M0 1 0 0 = iI p) (h2 : 2 ≤ p) (h4 : p ≤ 997) (hlv : M0 2 0 10 = iI (lv : Int)) (hl4 : lv ≤ 4) (hm : M0 14 0 lv = iI mn) (hm2 : mn = 0 ∨ mn = 1) (hσ : ∀ k, k < 32 → M0 7 (13 + lv) k = iI (σ k) ∧ 0 ≤ σ k ∧ σ k < p) (ht : ∀ k, k < 32 → M0 7 (18 + lv) k = iI (t k) ∧ 0 ≤ t k ∧ t k < p) (K : ∀ M, Fr (fun g j i => g = 7 ∧ (j = 13 + lv ∨ j = 18 + lv) ∨ g = 10 ∧ j = 0 ∧ i = lv) M0 M → (∀ k, k < 32 → M 7 (13 + lv) k = iI (sT p mn σ t k)) → (∀ k, k < 32 → M 7 (18 + lv) k = iI (cst 1 k)) → M 10 0 lv = iI 42 → Q none M) : bCall 44 [cR 2 0] M0 Q := by
  have cl : (M0 2 0 10).toNatClampNeg = lv := cl_of hlv
  have fin : ∀ (M1 : bM) (f : Nat → Int), Blk M0 M1 7 (13 + lv) 0 32 f → (∀ k, k < 32 → f k = sT p mn σ t k) → (vp_in (M1 2 0 10) 5) ∧ (bCall 29 [cR 1 0, cI (1 : Int32), cR 7 (18 + (M1 2 0 10).toNatClampNeg)] M1 (fun v3 M4 => bV0 v3 ((vp_in (M4 2 0 10) 5) ∧ (Q none (bU M4 10 0 (M4 2 0 10).toNatClampNeg (42 : Int32)))))) := by
    intro M1 f hB hf
    have h1 : M1 2 0 10 = iI (lv : Int) := by rw [hB.keep (by omega)]; exact hlv
    refine ⟨vin h1, ?_⟩
    rw [cl_of h1]
    refine S_constant (by rw [hB.keep (by omega)]; exact hp) (by omega) h4 l1 (by omega) (by omega) fun M2 hB2 => ?_
    have h3 : M2 2 0 10 = iI (lv : Int) := by rw [hB2.keep (by omega)]; exact h1
    refine ⟨vin h3, ?_⟩
    rw [cl_of h3]
    refine K _ (((hB.fr.trans hB2.fr).trans bU_fr).mono fun g j i z => ?_) (fun k hk => ?_) (fun k hk => ?_) ?_
    · simp only [oL] at z
      omega
    · rw [bU_ne (by omega), hB2.keep (by omega), hB.at (by omega) hk, hf k hk]
    · rw [bU_ne (by omega), hB2.at (by omega) hk, Int.emod_eq_of_lt (by omega) (by omega)]
    · rw [bU_at]
      rfl
  refine g_X4_endTerm_0 ⟨vin hlv, vin hlv, vin hlv, ?_⟩
  rw [cl, hm]
  have a1 := emod_like (p := p) 1
  have am := emod_like (p := p) (-1)
  refine ⟨fun q => ⟨vin hlv, ?_⟩, fun q => ⟨vin hlv, ?_⟩⟩
  · have hz := eq_of q rfl l0
    refine S_combine (a := 1) (b := 1) hp (by omega) h4 l1 (by omega) (by omega) l1 (by omega) (by omega) hσ ht fun M1 hB => fin M1 _ hB fun k hk => ?_
    unfold sT
    rw [if_pos hz]
    refine emod_congr ?_
    have := Int.dvd_mul_of_dvd_left (c := σ k + t k) a1
    rwa [Int.sub_mul, Int.mul_add, Int.one_mul] at this
  · have hz : mn ≠ 0 := fun z => q (by rw [z]; rfl)
    refine S_combine (a := 1) (b := -1) hp (by omega) h4 l1 (by omega) (by omega) rfl (by omega) (by omega) hσ ht fun M1 hB => fin M1 _ hB fun k hk => ?_
    unfold sT
    rw [if_neg hz]
    refine emod_congr ?_
    have b1 := Int.dvd_mul_of_dvd_left (c := σ k) a1
    have b2 := Int.dvd_mul_of_dvd_left (c := t k) am
    have b3 := Int.dvd_add b1 b2
    rw [Int.sub_mul, Int.sub_mul, Int.one_mul] at b3
    have e : 1 % p * σ k - σ k + (-1 % p * t k - -1 * t k) = 1 % p * σ k + -1 % p * t k - (σ k - t k) := by omega
    rwa [e] at b3
