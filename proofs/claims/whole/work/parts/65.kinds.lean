-- needs: 06 08 09 10 11 12 13 14 15 16 17 18 19 26 27 28 29 30 31 32 33 34 35 37 39 41 42 43 45 46 47 48 49 50 51 52 53 54 55 56 57 58 59 60
/-- the series that a guess of a kind looks at -/
def gser (p : Int) (kd : Nat) (a : Nat → Int) : Nat → (Nat → Int)
  | 0 => if kd = 2 then a else cst 1
  | j + 1 => if kd = 2 then fun k => ((k : Int) * gser p kd a j k) % p else fun k => cv (gser p kd a j) a k % p
theorem gser_bd {p : Int} {kd : Nat} {a : Nat → Int} (h2 : 2 ≤ p) (ha : ∀ k, k < 32 → 0 ≤ a k ∧ a k < p) : ∀ (j k : Nat), k < 32 → 0 ≤ gser p kd a j k ∧ gser p kd a j k < p
  | 0, k, hk => by
    unfold gser
    split
    · exact ha k hk
    · unfold cst
      split <;> omega
  | j + 1, k, hk => by
    unfold gser
    split
    · exact ⟨Int.emod_nonneg _ (by omega), Int.emod_lt_of_pos _ (by omega)⟩
    · exact ⟨Int.emod_nonneg _ (by omega), Int.emod_lt_of_pos _ (by omega)⟩
theorem gser_2 {p : Int} {kd : Nat} {a : Nat → Int} {j : Nat} (h : kd = 2) : gser p kd a (j + 1) = fun (k : Nat) => ((k : Int) * gser p kd a j k) % p := if_pos h
theorem gser_01 {p : Int} {kd : Nat} {a : Nat → Int} {j : Nat} (h : kd ≠ 2) : gser p kd a (j + 1) = fun k => cv (gser p kd a j) a k % p := if_neg h
theorem cv_comm (f g : Nat → Int) (k : Nat) : cv f g k = cv g f k := by
  unfold cv
  rw [← sm_rev (f := fun i => f i * g (k - i)) (k + 1)]
  refine sm_congr fun i hi => ?_
  show f (k + 1 - 1 - i) * g (k - (k + 1 - 1 - i)) = g i * f (k - i)
  rw [show k + 1 - 1 - i = k - i by omega, show k - (k - i) = i by omega, Int.mul_comm]
theorem S_gatherKind {p : Int} {kd m s : Nat} {a : Nat → Int} {M0 : bM} {Q : bQ} {x1 x2 : Int32} (hp : M0 1 0 0 = iI p) (h2 : 2 ≤ p) (h4 : p ≤ 997) (hkd : kd ≤ 2) (hm : m ≤ 4) (hm1 : 1 ≤ m) (hs : s < 6) (e1 : x1 = iI (kd : Int)) (e2 : x2 = iI (m : Int)) (ha : ∀ k, k < 32 → M0 7 s k = iI (a k) ∧ 0 ≤ a k ∧ a k < p) (K : ∀ M, Fr (fun g j _ => g = 7 ∧ 8 ≤ j ∧ j < 12) M0 M → (∀ j, j < m → ∀ k, k < 32 → M 7 (8 + j) k = iI (gser p kd a j k)) → Q none M) : bCall 76 [cR 0 0, cI x1, cI x2, cR 7 s] M0 Q := by
  have hgb := gser_bd (kd := kd) h2 fun k hk => (ha k hk).2
  have c0 : (0 : Int32).toNatClampNeg = 0 := rfl
  have c1 : (1 : Int32).toNatClampNeg = 1 := rfl
  have loop : ∀ (n j : Nat), j + n = m → 1 ≤ j → ∀ (M : bM) (x4 : Int32), x4 = iI (j : Int) → Fr (fun g j _ => g = 7 ∧ 8 ≤ j ∧ j < 12) M0 M → (∀ i, i < j → ∀ k, k < 32 → M 7 (8 + i) k = iI (gser p kd a i k)) → bGo 76 Q 39 [some (cR 0 0), some (cI x1), some (cI x2), some (cR 7 s), some (cI x4)] [] M := by
    intro n
    induction n with
    | zero =>
      intro j hj hj1 M x4 e4 hF hg
      have : j = m := by omega
      subst this
      exact g_X6_gatherKind_39 ⟨fun _ => K M hF hg, fun q => absurd (nle_of q e2 e4) (by omega)⟩
    | succ n ih =>
      intro j hj hj1 M x4 e4 hF hg
      have hF' : ∀ g j i, ¬ (g = 7 ∧ 8 ≤ j ∧ j < 12) → M g j i = M0 g j i := hF
      have em : x4 - (1 : Int32) = iI ((j - 1 : Nat) : Int) := by
        rw [e4, l1, iI_sub]
        exact iIc (by omega)
      have hp' : M 1 0 0 = iI p := by rw [hF' _ _ _ (by omega)]; exact hp
      have hprev : ∀ i, i < 32 → M 7 (8 + (j - 1)) i = iI (gser p kd a (j - 1) i) ∧ 0 ≤ gser p kd a (j - 1) i ∧ gser p kd a (j - 1) i < p := fun i hi => ⟨hg (j - 1) (by omega) i hi, hgb (j - 1) i hi⟩
      have next : ∀ (M1 : bM) (r : Nat → Int), Blk M M1 7 (8 + j) 0 32 r → (∀ k, k < 32 → r k = gser p kd a j k) → bGo 76 Q 39 [some (cR 0 0), some (cI x1), some (cI x2), some (cR 7 s), some (cI (x4 + (1 : Int32)))] [] M1 := fun M1 r hB hr => by
        refine ih (j + 1) (by omega) (by omega) M1 _ (inN e4) ((hF.trans hB.fr).mono fun g j i z => ?_) fun i hi k hk => ?_
        · simp only [oL] at z
          omega
        · by_cases q : i = j
          · subst q
            rw [hB.at (by omega) hk, hr k hk]
          · rw [hB.keep (by omega)]
            exact hg i (by omega) k hk
      refine g_X6_gatherKind_39 ⟨fun q => absurd (le_of q e2 e4) (by omega), fun _ => ⟨fun q => absurd (le_of q (iL 4) e4) (by omega), fun _ => ⟨fun q => ⟨vin em, vin e4, ?_⟩, fun q => ⟨vin em, vin e4, ?_⟩⟩⟩⟩
      · have hk2 : kd ≠ 2 := fun z => q (by rw [e1, z]; rfl)
        rw [cl_of em, cl_of e4]
        refine S_multiply (f := gser p kd a (j - 1)) (g := a) hp' (by omega) h4 hprev (fun i hi => ⟨by rw [hF' _ _ _ (by omega)]; exact (ha i hi).1, (ha i hi).2⟩) fun M1 hB => next M1 _ hB fun k hk => ?_
        have := gser_01 (p := p) (a := a) (j := j - 1) hk2
        rw [show j - 1 + 1 = j by omega] at this
        rw [this]
      · have hk2 : kd = 2 := by
          have := eq_of (Decidable.of_not_not q) e1 (iL 2)
          omega
        rw [cl_of em, cl_of e4]
        refine S_weight (f := gser p kd a (j - 1)) hp' (by omega) h4 hprev fun M1 hB => next M1 _ hB fun k hk => ?_
        have := gser_2 (p := p) (a := a) (j := j - 1) hk2
        rw [show j - 1 + 1 = j by omega] at this
        rw [this]
  refine g_X6_gatherKind_0 ⟨fun q => ⟨vin l0, ?_⟩, fun q => ⟨vin l0, ⟨by decide, by decide, by decide, by decide, by decide⟩, ?_⟩⟩
  · have hk2 : kd ≠ 2 := fun z => q (by rw [e1, z]; rfl)
    rw [c0]
    refine S_constant hp (by omega) h4 l1 (by omega) (by omega) fun M1 hB => ?_
    refine loop (m - 1) 1 (by omega) (by omega) M1 _ l1 (hB.fr.mono fun g j i z => by omega) fun i hi k hk => ?_
    have : i = 0 := by omega
    subst this
    rw [hB.at (by omega) hk, Int.emod_eq_of_lt (by omega) (by omega)]
    unfold gser
    rw [if_neg hk2]
  · have hk2 : kd = 2 := by
      have := eq_of (Decidable.of_not_not q) e1 (iL 2)
      omega
    rw [c0]
    refine loop (m - 1) 1 (by omega) (by omega) _ _ l1 (bCp_fr.mono fun g j i z => by omega) fun i hi k hk => ?_
    have : i = 0 := by omega
    subst this
    rw [bCp_32 hk, (ha k hk).1]
    unfold gser
    rw [if_pos hk2]
theorem T_makesSeries {p : Int} {kd m s : Nat} {a : Nat → Int} {M0 : bM} {Q : bQ} {x1 x2 x3 : Int32} (hp : M0 26 0 0 = iI p) (h2 : 2 ≤ p) (h4 : p ≤ 997) (hkd : kd ≤ 2) (hm : m ≤ 4) (hm1 : 1 ≤ m) (hs : s < 6) (e1 : x1 = iI (s : Int)) (e2 : x2 = iI (kd : Int)) (e3 : x3 = iI (m : Int)) (ha : ∀ k, k < 32 → M0 28 0 (32 * s + k) = iI (a k) ∧ 0 ≤ a k ∧ a k < p) (K : ∀ M, Fr (fun g _ i => g = 26 ∧ i = 25 ∨ g = 27 ∨ g = 36 ∨ g = 37) M0 M → M 26 0 25 = iI (m : Int) → (∀ j, j < m → ∀ k, k < 32 → M 36 0 (32 * j + k) = iI (gser p kd a j k)) → (∀ j, j < 4 → M 37 0 j = iI 0) → Q none M) : bCall 145 [cR 26 0, cI x1, cI x2, cI x3] M0 Q := by
  have hgb := gser_bd (kd := kd) h2 fun k hk => (ha k hk).2
  refine g_X7_makesSeries_0 (T_takes (f := a) e1 hs (fun i hi => by rw [bU_ne (by omega)]; exact (ha i hi).1) fun M1 hB1 => ?_)
  have hF1 : Fr (fun g _ i => g = 26 ∧ i = 25 ∨ g = 27 ∨ g = 36 ∨ g = 37) M0 M1 := (bU_fr.trans hB1.fr).mono fun g j i z => by
    simp only [oL] at z
    omega
  have hmany1 : M1 26 0 25 = iI (m : Int) := by rw [hB1.keep (by omega), bU_at]; exact e3
  -- the shifts
  have last : ∀ (n k : Nat), k + n = 4 → ∀ (M : bM) (x4 : Int32) (o5 : Option bV), x4 = iI (k : Int) → Fr (fun g _ i => g = 26 ∧ i = 25 ∨ g = 27 ∨ g = 36 ∨ g = 37) M0 M → M 26 0 25 = iI (m : Int) → (∀ j, j < m → ∀ k, k < 32 → M 36 0 (32 * j + k) = iI (gser p kd a j k)) → (∀ j, j < k → M 37 0 j = iI 0) → bGo 145 Q 212 [some (cR 26 0), some (cI x1), some (cI x2), some (cI x3), some (cI x4), o5] [] M := by
    intro n
    induction n with
    | zero =>
      intro k hk M x4 o5 e4 hF hmy hg hz
      have : k = 4 := by omega
      subst this
      exact g_X7_makesSeries_212 ⟨fun _ => K M hF hmy hg hz, fun q => absurd (nle_of q (iL 4) e4) (by omega)⟩
    | succ n ih =>
      intro k hk M x4 o5 e4 hF hmy hg hz
      refine g_X7_makesSeries_212 ⟨fun q => absurd (le_of q (iL 4) e4) (by omega), fun _ => ⟨vin e4, ?_⟩⟩
      rw [cl_of e4]
      refine ih (k + 1) (by omega) _ _ _ (inN e4) ((hF.trans bU_fr).mono fun g j i z => ?_) ?_ (fun j hj k hk => ?_) fun j hj => ?_
      · simp only [oL] at z
        omega
      · rw [bU_ne (by omega)]
        exact hmy
      · rw [bU_ne (by omega)]
        exact hg j hj k hk
      · by_cases q : j = k
        · subst q
          rw [bU_at]
          exact l0
        · rw [bU_ne (by omega)]
          exact hz j (by omega)
  -- the series
  have main : ∀ (n j : Nat), j + n = m → 1 ≤ j → ∀ (M : bM) (x4 : Int32) (o5 : Option bV), x4 = iI (j : Int) → Fr (fun g _ i => g = 26 ∧ i = 25 ∨ g = 27 ∨ g = 36 ∨ g = 37) M0 M → M 26 0 25 = iI (m : Int) → (∀ i, i < j → ∀ k, k < 32 → M 36 0 (32 * i + k) = iI (gser p kd a i k)) → (∀ k, k < 32 → M 27 1 k = iI (a k)) → bGo 145 Q 88 [some (cR 26 0), some (cI x1), some (cI x2), some (cI x3), some (cI x4), o5] [] M := by
    intro n
    induction n with
    | zero =>
      intro j hj hj1 M x4 o5 e4 hF hmy hg ho
      have : j = m := by omega
      subst this
      exact g_X7_makesSeries_88 ⟨fun _ => last 4 0 rfl M _ _ l0 hF hmy hg fun j hj => absurd hj (Nat.not_lt_zero _), fun q => absurd (nle_of q e3 e4) (by omega)⟩
    | succ n ih =>
      intro j hj hj1 M x4 o5 e4 hF hmy hg ho
      have em : x4 - (1 : Int32) = iI ((j - 1 : Nat) : Int) := by
        rw [e4, l1, iI_sub]
        exact iIc (by omega)
      -- the new series is put
      have put : ∀ (M2 : bM), Fr (fun g j' i => g = 27 ∧ j' = 2) M M2 → (∀ k, k < 32 → M2 27 2 k = iI (gser p kd a (j - 1) k)) → ∀ (M3 : bM), Blk M2 M3 27 0 0 32 (fun i => cv a (gser p kd a (j - 1)) i % p) → ∀ (n k : Nat), k + n = 32 → ∀ (M4 : bM) (x5 : Int32), x5 = iI (k : Int) → Blk M3 M4 36 0 (32 * j) (32 * j + k) (fun t => gser p kd a j (t - 32 * j)) → bGo 145 Q 147 [some (cR 26 0), some (cI x1), some (cI x2), some (cI x3), some (cI x4), some (cI x5)] [] M4 := by
        intro M2 hF2 h22 M3 hB3 n
        have hF2' : ∀ g j' i, ¬ (g = 27 ∧ j' = 2) → M2 g j' i = M g j' i := hF2
        induction n with
        | zero =>
          intro k hk M4 x5 e5 hB4
          have : k = 32 := by omega
          subst this
          refine g_X7_makesSeries_147 ⟨fun _ => ih (j + 1) (by omega) (by omega) M4 _ _ (inN e4) ((((hF.trans hF2).trans hB3.fr).trans hB4.fr).mono fun g j i z => ?_) ?_ (fun i hi k hk => ?_) fun k hk => ?_, fun q => absurd (nle_of q l32 e5) (by omega)⟩
          · simp only [oL] at z
            omega
          · rw [hB4.keep (by omega), hB3.keep (by omega), hF2' _ _ _ (by omega)]
            exact hmy
          · by_cases q : i = j
            · subst q
              rw [hB4.at (by omega) (by omega), show 32 * i + k - 32 * i = k by omega]
            · rw [hB4.keep (by omega), hB3.keep (by omega), hF2' _ _ _ (by omega)]
              exact hg i (by omega) k hk
          · rw [hB4.keep (by omega), hB3.keep (by omega), hF2' _ _ _ (by omega)]
            exact ho k hk
        | succ n ihn =>
          intro k hk M4 x5 e5 hB4
          have es := s32 e4 e5
          refine g_X7_makesSeries_147 ⟨fun q => absurd (le_of q l32 e5) (by omega), fun _ => ⟨fun q => ⟨vin e5, vin es, ?_⟩, fun q => ⟨vin e5, fun z => ?_, vin es, ?_⟩⟩⟩
          · have hk2 : kd ≠ 2 := fun z => q (by rw [e2, z]; rfl)
            rw [cl_of es, cl_of e5]
            refine ihn (k + 1) (by omega) _ _ (inN e5) (hB4.up (by omega) ?_)
            rw [hB4.keep (by omega), hB3.at (by omega) (by omega), show 32 * j + k - 32 * j = k by omega]
            have := gser_01 (p := p) (a := a) (j := j - 1) hk2
            rw [show j - 1 + 1 = j by omega] at this
            rw [this, cv_comm]
          · have hpM : M4 26 0 0 = iI p := by rw [hB4.keep (by omega), hB3.keep (by omega), hF2' _ _ _ (by omega), hF _ _ _ (by omega)]; exact hp
            have := eq_of z hpM l0
            omega
          · have hk2 : kd = 2 := by
              have := eq_of (Decidable.of_not_not q) e2 (iL 2)
              omega
            have hpM : M4 26 0 0 = iI p := by rw [hB4.keep (by omega), hB3.keep (by omega), hF2' _ _ _ (by omega), hF _ _ _ (by omega)]; exact hp
            rw [cl_of es, cl_of e5]
            refine ihn (k + 1) (by omega) _ _ (inN e5) (hB4.up (by omega) ?_)
            have hb := hgb (j - 1) k (by omega)
            have hb2 : 0 ≤ gser p kd a (j - 1) k * (k : Int) := Int.mul_nonneg hb.1 (by omega)
            have hb3 : gser p kd a (j - 1) k * (k : Int) ≤ 996 * k := Int.mul_le_mul_of_nonneg_right (by omega) (by omega)
            rw [hpM, hB4.keep (by omega), hB3.keep (by omega), h22 k (by omega), e5, iI_mul, iI_remN hb2 (by omega) (by omega) (by omega), show 32 * j + k - 32 * j = k by omega]
            have := gser_2 (p := p) (a := a) (j := j - 1) hk2
            rw [show j - 1 + 1 = j by omega] at this
            rw [this, Int.mul_comm]
      have cp : ∀ (n k : Nat), k + n = 32 → ∀ (M2 : bM) (x5 : Int32), x5 = iI (k : Int) → Blk M M2 27 2 0 k (gser p kd a (j - 1)) → bGo 145 Q 97 [some (cR 26 0), some (cI x1), some (cI x2), some (cI x3), some (cI x4), some (cI x5)] [] M2 := by
        intro n
        induction n with
        | zero =>
          intro k hk M2 x5 e5 hB
          have : k = 32 := by omega
          subst this
          refine g_X7_makesSeries_97 ⟨fun _ => ?_, fun q => absurd (nle_of q l32 e5) (by omega)⟩
          refine T_multiplies (f := a) (g := gser p kd a (j - 1)) (p := p) (by rw [hB.keep (by omega), hF _ _ _ (by omega)]; exact hp) (by omega) h4 (by decide) (by decide) (fun i hi => ⟨by rw [hB.keep (by omega)]; exact ho i hi, (ha i hi).2⟩) (fun i hi => ⟨hB.at (by omega) hi, hgb (j - 1) i hi⟩) fun M3 hB3 => ?_
          exact put M2 (hB.fr.mono fun g j i z => by omega) (fun k hk => hB.at (by omega) hk) M3 hB3 32 0 rfl M3 _ l0 Blk.start
        | succ n ihn =>
          intro k hk M2 x5 e5 hB
          have es := s32 em e5
          refine g_X7_makesSeries_97 ⟨fun q => absurd (le_of q l32 e5) (by omega), fun _ => ⟨vin es, vin e5, ?_⟩⟩
          rw [cl_of es, cl_of e5]
          refine ihn (k + 1) (by omega) _ _ (inN e5) (hB.up (by omega) ?_)
          rw [hB.keep (by omega)]
          exact hg (j - 1) (by omega) k (by omega)
      exact g_X7_makesSeries_88 ⟨fun q => absurd (le_of q e3 e4) (by omega), fun _ => cp 32 0 rfl M _ l0 Blk.start⟩
  have h27 : ∀ k, k < 32 → M1 27 1 k = iI (a k) := fun k hk => hB1.at (by omega) hk
  have fin : ∀ (M2 : bM) (x4 : Int32) (o5 : Option bV), x4 = iI 1 → Blk M1 M2 36 0 0 32 (gser p kd a 0) → bGo 145 Q 88 [some (cR 26 0), some (cI x1), some (cI x2), some (cI x3), some (cI x4), o5] [] M2 := fun M2 x4 o5 e4 hB => by
    refine main (m - 1) 1 (by omega) (by omega) M2 _ _ e4 ((hF1.trans hB.fr).mono fun g j i z => ?_) ?_ (fun i hi k hk => ?_) fun k hk => ?_
    · simp only [oL] at z
      omega
    · rw [hB.keep (by omega)]
      exact hmany1
    · have : i = 0 := by omega
      subst this
      rw [show 32 * 0 + k = k by omega]
      exact hB.at (by omega) hk
    · rw [hB.keep (by omega)]
      exact h27 k hk
  refine ⟨fun q => ?_, fun q => ?_⟩
  · have hk2 : kd ≠ 2 := fun z => q (by rw [e2, z]; rfl)
    have g0 : gser p kd a 0 = cst 1 := if_neg hk2
    have lp : ∀ (n k : Nat), k + n = 32 → ∀ (M2 : bM) (x4 : Int32) (o5 : Option bV), x4 = iI (k : Int) → Blk M1 M2 36 0 0 k (gser p kd a 0) → bGo 145 Q 55 [some (cR 26 0), some (cI x1), some (cI x2), some (cI x3), some (cI x4), o5] [] M2 := by
      intro n
      induction n with
      | zero =>
        intro k hk M2 x4 o5 e4 hB
        have : k = 32 := by omega
        subst this
        exact g_X7_makesSeries_55 ⟨fun _ => fin M2 _ _ l1 hB, fun q => absurd (nle_of q l32 e4) (by omega)⟩
      | succ n ihn =>
        intro k hk M2 x4 o5 e4 hB
        refine g_X7_makesSeries_55 ⟨fun q => absurd (le_of q l32 e4) (by omega), fun _ => ⟨fun q => ⟨vin e4, ?_⟩, fun q => ⟨vin e4, ?_⟩⟩⟩
        · rw [cl_of e4]
          refine ihn (k + 1) (by omega) _ _ _ (inN e4) (hB.up (Nat.zero_le _) ?_)
          have hk0 : k ≠ 0 := fun z => q (by rw [e4, z]; rfl)
          rw [g0, show cst 1 k = 0 from if_neg hk0]
          exact l0
        · rw [cl_of e4]
          refine ihn (k + 1) (by omega) _ _ _ (inN e4) (hB.up (Nat.zero_le _) ?_)
          have hk0 : k = 0 := by
            have := eq_of (Decidable.of_not_not q) e4 l0
            omega
          rw [g0, show cst 1 k = 1 from if_pos hk0]
          exact l1
    exact lp 32 0 rfl M1 _ _ l0 Blk.start
  · have hk2 : kd = 2 := by
      have := eq_of (Decidable.of_not_not q) e2 (iL 2)
      omega
    have g0 : gser p kd a 0 = a := if_pos hk2
    have lp : ∀ (n k : Nat), k + n = 32 → ∀ (M2 : bM) (x4 : Int32) (o5 : Option bV), x4 = iI (k : Int) → Blk M1 M2 36 0 0 k (gser p kd a 0) → bGo 145 Q 22 [some (cR 26 0), some (cI x1), some (cI x2), some (cI x3), some (cI x4), o5] [] M2 := by
      intro n
      induction n with
      | zero =>
        intro k hk M2 x4 o5 e4 hB
        have : k = 32 := by omega
        subst this
        exact g_X7_makesSeries_22 ⟨fun _ => fin M2 _ _ l1 hB, fun q => absurd (nle_of q l32 e4) (by omega)⟩
      | succ n ihn =>
        intro k hk M2 x4 o5 e4 hB
        refine g_X7_makesSeries_22 ⟨fun q => absurd (le_of q l32 e4) (by omega), fun _ => ⟨vin e4, vin e4, ?_⟩⟩
        rw [cl_of e4]
        refine ihn (k + 1) (by omega) _ _ _ (inN e4) (hB.up (Nat.zero_le _) ?_)
        rw [hB.keep (by omega), h27 k (by omega), g0]
    exact lp 32 0 rfl M1 _ _ l0 Blk.start
