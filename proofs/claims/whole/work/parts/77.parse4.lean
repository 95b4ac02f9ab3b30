-- needs: 06 08 09 10 11 12 13 14 15 16 17 18 19 26 27 28 29 30 31 32 33 34 35 37 39 41 42 43 45 46 72 73 74 75
/-- the model has the numbers of an open text; behind a hole the terms don't matter -/
def PM (p : Int) (lv : Nat) (σ τ : Nat → Nat → Int) (mn w wp : Nat → Int) (h : Int) (M : bM) : Prop := M 26 0 0 = iI p ∧ M 26 0 17 = iI (lv : Int) ∧ M 26 0 18 = iI h ∧ ∀ l, l ≤ lv → (h < 0 → ∀ k, k < 32 → M 30 0 (32 * l + k) = iI (σ l k)) ∧ (h < 0 → w l ≠ 0 → ∀ k, k < 32 → M 31 0 (32 * l + k) = iI (τ l k)) ∧ M 32 0 l = iI (mn l) ∧ M 33 0 l = iI (w l) ∧ (w l ≠ 0 → M 34 0 l = iI (wp l))
theorem T_comesToTerm {p h : Int} {lv : Nat} {σ τ : Nat → Nat → Int} {mn w wp : Nat → Int} {π : Nat → Int} {M0 : bM} {Q : bQ} (h2 : 2 ≤ p) (h4 : p ≤ 997) (hR : PR p lv σ τ mn w wp h) (hP : PM p lv σ τ mn w wp h M0) (hπ : ∀ k, k < 32 → 0 ≤ π k ∧ π k < p) (hpt : h < 0 → ∀ k, k < 32 → M0 27 3 k = iI (π k)) (K : ∀ M, Fr (fun g _ i => g = 27 ∨ g = 31 ∧ 32 * lv ≤ i ∧ i < 32 * lv + 32 ∨ g = 33 ∧ i = lv ∨ g = 26 ∧ i = 18) M0 M → M 33 0 lv = iI 0 → M 26 0 18 = iI (eH (w lv) (wp lv) π h) → (eH (w lv) (wp lv) π h < 0 → ∀ k, k < 32 → M 31 0 (32 * lv + k) = iI (eT p (w lv) (τ lv) π k)) → Q none M) : bCall 132 [cR 26 0] M0 Q := by
  obtain ⟨hl4, r1, r2, rl⟩ := hR
  obtain ⟨p0, p17, p18, pl⟩ := hP
  obtain ⟨b1, b2, b3, b4, b5, b6⟩ := rl lv (Nat.le_refl _)
  obtain ⟨a1, a2, a3, a4, a5⟩ := pl lv (Nat.le_refl _)
  have hneg := fun z => eH_neg (w := w lv) (wp := wp lv) (π := π) (h := h) b5.1 z
  -- at the end the part comes to the term
  have last : ∀ (M1 : bM), Fr (fun g _ i => g = 27 ∨ g = 26 ∧ i = 18) M0 M1 → M1 26 0 18 = iI (eH (w lv) (wp lv) π h) → (eH (w lv) (wp lv) π h < 0 → ∀ k, k < 32 → M1 27 3 k = iI (eT p (w lv) (τ lv) π k)) → ∀ (n k : Nat), k + n = 32 → ∀ (M : bM) (x1 : Int32), x1 = iI (k : Int) → Blk M1 M 31 0 (32 * lv) (32 * lv + k) (fun i => (M1 27 3 (i - 32 * lv)).toInt) → bGo 132 Q 154 [some (cR 26 0), some (cI x1)] [] M := by
    intro M1 hF1 hh hv n
    have hF1' : ∀ g j i, ¬ (g = 27 ∨ g = 26 ∧ i = 18) → M1 g j i = M0 g j i := hF1
    induction n with
    | zero =>
      intro k hk M x1 e1 hB
      have : k = 32 := by omega
      subst this
      have k17 : M 26 0 17 = iI (lv : Int) := by rw [hB.keep (by omega), hF1' _ _ _ (by omega)]; exact p17
      refine g_X7_comesToTerm_154 ⟨fun _ => ⟨vin k17, ?_⟩, fun q => absurd (nle_of q l32 e1) (by omega)⟩
      rw [cl_of k17]
      refine K _ (((hF1.trans hB.fr).trans bU_fr).mono fun g j i z => ?_) ?_ ?_ fun z k hk => ?_
      · simp only [oL] at z
        omega
      · rw [bU_at]
        exact l0
      · rw [bU_ne (by omega), hB.keep (by omega)]
        exact hh
      · rw [bU_ne (by omega), hB.at (by omega) (by omega), tI, show 32 * lv + k - 32 * lv = k by omega]
        exact hv z k hk
    | succ n ih =>
      intro k hk M x1 e1 hB
      have k17 : M 26 0 17 = iI (lv : Int) := by rw [hB.keep (by omega), hF1' _ _ _ (by omega)]; exact p17
      have es := s32 k17 e1
      refine g_X7_comesToTerm_154 ⟨fun q => absurd (le_of q l32 e1) (by omega), fun _ => ⟨vin e1, vin es, ?_⟩⟩
      rw [cl_of es, cl_of e1]
      refine ih (k + 1) (by omega) _ _ (inN e1) (hB.up (by omega) ?_)
      rw [tI, hB.keep (by omega), show 32 * lv + k - 32 * lv = k by omega]
  -- what was made comes to the part
  have back : ∀ (M1 : bM), Fr (fun g _ i => g = 27 ∨ g = 26 ∧ i = 18) M0 M1 → M1 26 0 18 = iI (eH (w lv) (wp lv) π h) → (eH (w lv) (wp lv) π h < 0 → ∀ k, k < 32 → M1 27 0 k = iI (eT p (w lv) (τ lv) π k)) → ∀ (n k : Nat), k + n = 32 → ∀ (M : bM) (x1 : Int32), x1 = iI (k : Int) → Blk M1 M 27 3 0 k (fun i => (M1 27 0 i).toInt) → bGo 132 Q 128 [some (cR 26 0), some (cI x1)] [] M := by
    intro M1 hF1 hh hv n
    induction n with
    | zero =>
      intro k hk M x1 e1 hB
      have : k = 32 := by omega
      subst this
      refine g_X7_comesToTerm_128 ⟨fun _ => last M ((hF1.trans hB.fr).mono fun g j i z => ?_) ?_ (fun z k hk => ?_) 32 0 rfl M _ l0 Blk.start, fun q => absurd (nle_of q l32 e1) (by omega)⟩
      · simp only [oL] at z
        omega
      · rw [hB.keep (by omega)]
        exact hh
      · rw [hB.at (by omega) hk, tI]
        exact hv z k hk
    | succ n ih =>
      intro k hk M x1 e1 hB
      refine g_X7_comesToTerm_128 ⟨fun q => absurd (le_of q l32 e1) (by omega), fun _ => ⟨vin e1, vin e1, ?_⟩⟩
      rw [cl_of e1]
      refine ih (k + 1) (by omega) _ _ (inN e1) (hB.up (by omega) ?_)
      rw [tI, hB.keep (by omega)]
  refine g_X7_comesToTerm_0 ⟨vin p17, ?_⟩
  rw [cl_of p17, a4]
  refine ⟨fun q => ?_, fun q => ?_⟩
  · have hw0 := eq_of q rfl l0
    have hH : eH (w lv) (wp lv) π h = h := by
      unfold eH
      rw [if_neg (by omega)]
    refine last M0 (Fr.refl.mono fun _ _ _ z => z.elim) (by rw [hH]; exact p18) (fun z k hk => ?_) 32 0 rfl M0 _ l0 Blk.start
    rw [hH] at z
    rw [hpt z k hk]
    refine iIc ?_
    unfold eT
    rw [if_neg (by omega), cv_1 fun i hi => b6 hw0 i (by omega), Int.emod_eq_of_lt (hπ k hk).1 (hπ k hk).2]
  · have hw0 : w lv ≠ 0 := fun z => q (by rw [z]; rfl)
    have loop : ∀ (n k : Nat), k + n = 32 → ∀ (M : bM) (x1 : Int32), x1 = iI (k : Int) → Blk M0 M 27 1 0 k (fun i => (M0 31 0 (32 * lv + i)).toInt) → bGo 132 Q 14 [some (cR 26 0), some (cI x1)] [] M := by
      intro n
      induction n with
      | zero =>
        intro k hk M x1 e1 hB
        have : k = 32 := by omega
        subst this
        have k17 : M 26 0 17 = iI (lv : Int) := by rw [hB.keep (by omega)]; exact p17
        have k0 : M 26 0 0 = iI p := by rw [hB.keep (by omega)]; exact p0
        have k18 : M 26 0 18 = iI h := by rw [hB.keep (by omega)]; exact p18
        have k33 : M 33 0 lv = iI (w lv) := by rw [hB.keep (by omega)]; exact a4
        have hone : h < 0 → ∀ k, k < 32 → M 27 1 k = iI (τ lv k) := fun z k hk => by
          rw [hB.at (by omega) hk, tI]
          exact a2 z hw0 k hk
        have hprt : h < 0 → ∀ k, k < 32 → M 27 3 k = iI (π k) := fun z k hk => by
          rw [hB.keep (by omega)]
          exact hpt z k hk
        have hF : Fr (fun g _ i => g = 27 ∨ g = 26 ∧ i = 18) M0 M := hB.fr.mono fun g j i z => by omega
        refine g_X7_comesToTerm_14 ⟨fun _ => ⟨vin k17, ?_⟩, fun q => absurd (nle_of q l32 e1) (by omega)⟩
        rw [cl_of k17, k33, show (0 : Int32).toNatClampNeg = 0 from rfl]
        refine ⟨fun y => ⟨vin l0, ?_⟩, fun y => ?_⟩
        · have hw47 : w lv = 47 := by
            rcases b4 with z | z | z
            · exact absurd z hw0
            · exact absurd (by rw [z]; rfl) y
            · exact z
          refine ⟨fun z => ?_, fun z => ?_⟩
          · -- a quotient
            by_cases hn : h < 0
            · have hπ0 : π 0 ≠ 0 := fun x => z (by rw [hprt hn 0 (by omega), x]; rfl)
              have hH : eH (w lv) (wp lv) π h = h := by
                unfold eH
                rw [if_neg (by omega)]
              refine T_divides (f := τ lv) (g := π) (p := p) k0 h2 h4 (by decide) (by decide) (fun i hi => ⟨hone hn i hi, b2 i hi⟩) (fun i hi => ⟨hprt hn i hi, hπ i hi⟩) fun M2 hB2 => back M2 ((hF.trans hB2.fr).mono fun g j i z => ?_) ?_ (fun _ k hk => ?_) 32 0 rfl M2 _ l0 Blk.start
              · simp only [oL] at z
                omega
              · rw [hB2.keep (by omega), hH]
                exact k18
              · rw [hB2.at (by omega) hk]
                unfold eT
                rw [if_pos hw47, if_neg hπ0]
            · have hH : eH (w lv) (wp lv) π h = h := by
                unfold eH
                rw [if_neg (by omega)]
              refine T_divides_any k0 (by omega) h4 fun M2 hF2 => back M2 ((hF.trans hF2).mono fun g j i z => ?_) ?_ (fun x => absurd (hneg x).1 hn) 32 0 rfl M2 _ l0 Blk.start
              · simp only [oL] at z
                omega
              · rw [hF2 _ _ _ (by omega), hH]
                exact k18
          · refine ⟨fun x => ?_, fun x => ⟨vin k17, ?_⟩⟩
            · have hge := le_of x l0 k18
              have hH : eH (w lv) (wp lv) π h = h := by
                unfold eH
                rw [if_neg (by omega)]
              refine back _ ((hF.trans bU_fr).mono fun g j i z => ?_) ?_ (fun x => absurd (hneg x).1 (by omega)) 32 0 rfl _ _ l0 Blk.start
              · simp only [oL] at z
                omega
              · rw [bU_at, hH]
                exact k18
            · have hlt := nle_of x l0 k18
              have hπ0 : π 0 = 0 := by
                have e := hprt (by omega) 0 (by omega)
                have := hπ 0 (by omega)
                rw [Decidable.of_not_not z] at e
                exact (eq_of e l0 rfl).symm
              have hH : eH (w lv) (wp lv) π h = wp lv := by
                unfold eH
                rw [if_pos ⟨hw47, hπ0, by omega⟩]
              refine back _ ((hF.trans bU_fr).mono fun g j i z => ?_) ?_ (fun x => absurd (hneg x).2 (by simp [hw47, hπ0])) 32 0 rfl _ _ l0 Blk.start
              · simp only [oL] at z
                omega
              · rw [bU_at, hH, hB.keep (by omega)]
                exact a5 hw0
        · have hw42 : w lv ≠ 47 := fun z => by
            rw [z] at y
            exact absurd (Decidable.of_not_not y) (by decide)
          have hH : eH (w lv) (wp lv) π h = h := by
            unfold eH
            rw [if_neg (by omega)]
          by_cases hn : h < 0
          · refine T_multiplies (f := τ lv) (g := π) (p := p) k0 (by omega) h4 (by decide) (by decide) (fun i hi => ⟨hone hn i hi, b2 i hi⟩) (fun i hi => ⟨hprt hn i hi, hπ i hi⟩) fun M2 hB2 => back M2 ((hF.trans hB2.fr).mono fun g j i z => ?_) ?_ (fun _ k hk => ?_) 32 0 rfl M2 _ l0 Blk.start
            · simp only [oL] at z
              omega
            · rw [hB2.keep (by omega), hH]
              exact k18
            · rw [hB2.at (by omega) hk]
              unfold eT
              rw [if_neg hw42]
          · refine T_multiplies_any k0 (by omega) h4 fun M2 hF2 => back M2 ((hF.trans hF2).mono fun g j i z => ?_) ?_ (fun x => absurd (hneg x).1 hn) 32 0 rfl M2 _ l0 Blk.start
            · simp only [oL] at z
              omega
            · rw [hF2 _ _ _ (by omega), hH]
              exact k18
      | succ n ih =>
        intro k hk M x1 e1 hB
        have k17 : M 26 0 17 = iI (lv : Int) := by rw [hB.keep (by omega)]; exact p17
        have es := s32 k17 e1
        refine g_X7_comesToTerm_14 ⟨fun q => absurd (le_of q l32 e1) (by omega), fun _ => ⟨vin es, vin e1, ?_⟩⟩
        rw [cl_of es, cl_of e1]
        refine ih (k + 1) (by omega) _ _ (inN e1) (hB.up (by omega) ?_)
        rw [tI, hB.keep (by omega)]
    exact loop 32 0 rfl M0 _ l0 Blk.start
theorem T_comesToSum {p m' : Int} {lv : Nat} {G : Prop} {σ t : Nat → Int} {M0 : bM} {Q : bQ} (h2 : 2 ≤ p) (h4 : p ≤ 997) (hl4 : lv ≤ 4) (p0 : M0 26 0 0 = iI p) (p17 : M0 26 0 17 = iI (lv : Int)) (hm : M0 32 0 lv = iI m') (hm2 : m' = 0 ∨ m' = 1) (hσ : ∀ k, k < 32 → 0 ≤ σ k ∧ σ k < p) (ht : ∀ k, k < 32 → 0 ≤ t k ∧ t k < p) (hs : G → ∀ k, k < 32 → M0 30 0 (32 * lv + k) = iI (σ k) ∧ M0 31 0 (32 * lv + k) = iI (t k)) (K : ∀ M, Fr (fun g j i => g = 30 ∧ j = 0 ∧ 32 * lv ≤ i ∧ i < 32 * lv + 32) M0 M → (G → ∀ k, k < 32 → M 30 0 (32 * lv + k) = iI (sT p m' σ t k)) → Q none M) : bCall 129 [cR 26 0] M0 Q := by
  have loop : ∀ (n k : Nat), k + n = 32 → ∀ (M : bM) (x1 : Int32) (o2 : Option bV), x1 = iI (k : Int) → Fr (fun g j i => g = 30 ∧ j = 0 ∧ 32 * lv ≤ i ∧ i < 32 * lv + k) M0 M → (G → ∀ i, i < k → M 30 0 (32 * lv + i) = iI (sT p m' σ t i)) → bGo 129 Q 2 [some (cR 26 0), some (cI x1), o2] [] M := by
    intro n
    induction n with
    | zero =>
      intro k hk M x1 o2 e1 hF hv
      have : k = 32 := by omega
      subst this
      exact g_X7_comesToSum_2 ⟨fun _ => K M hF hv, fun q => absurd (nle_of q l32 e1) (by omega)⟩
    | succ n ih =>
      intro k hk M x1 o2 e1 hF hv
      have k17 : M 26 0 17 = iI (lv : Int) := by rw [hF _ _ _ (by omega)]; exact p17
      have k0 : M 26 0 0 = iI p := by rw [hF _ _ _ (by omega)]; exact p0
      have k32 : M 32 0 lv = iI m' := by rw [hF _ _ _ (by omega)]; exact hm
      have es := s32 k17 e1
      refine g_X7_comesToSum_2 ⟨fun q => absurd (le_of q l32 e1) (by omega), fun _ => ⟨vin es, vin es, vin k17, ?_⟩⟩
      rw [cl_of es, cl_of k17, k32]
      have hb1 := hσ k (by omega)
      have hb2 := ht k (by omega)
      have next : ∀ (r : Int32) (o : Option bV), (G → r = iI (sT p m' σ t k)) → bGo 129 Q 2 [some (cR 26 0), some (cI (x1 + (1 : Int32))), o] [] (bU M 30 0 (32 * lv + k) r) := fun r o hr => by
        refine ih (k + 1) (by omega) _ _ _ (inN e1) ((hF.trans bU_fr).mono fun g j i z => ?_) fun z i hi => ?_
        · simp only [oL] at z
          omega
        · by_cases q : i = k
          · subst q
            rw [bU_at]
            exact hr z
          · rw [bU_ne (by omega)]
            exact hv z i (by omega)
      by_cases hG : G
      · obtain ⟨s1, s2⟩ := hs hG k (by omega)
        have y1 : M 30 0 (32 * lv + k) = iI (σ k) := by rw [hF _ _ _ (by omega)]; exact s1
        have y2 : M 31 0 (32 * lv + k) = iI (t k) := by rw [hF _ _ _ (by omega)]; exact s2
        rw [y1, y2]
        refine ⟨fun q => ?_, fun q => ?_⟩
        · have hz := eq_of q rfl l0
          refine T_mod (z := σ k + t k) k0 (by rw [iI_add]; exact iI_long rfl (by omega) (by omega)) (by omega) (by omega) (by omega) h4 ⟨vin es, next _ _ fun _ => ?_⟩
          unfold sT
          rw [if_pos hz]
        · have hz : m' ≠ 0 := fun z => q (by rw [z]; rfl)
          refine T_mod (z := σ k - t k) k0 (by rw [iI_neg, iI_add]; exact iI_long (iIc (by omega)) (by omega) (by omega)) (by omega) (by omega) (by omega) h4 ⟨vin es, next _ _ fun _ => ?_⟩
          unfold sT
          rw [if_neg hz]
      · exact ⟨fun _ => T_mod_any k0 (by omega) h4 fun r => ⟨vin es, next _ _ fun z => absurd z hG⟩, fun _ => T_mod_any k0 (by omega) h4 fun r => ⟨vin es, next _ _ fun z => absurd z hG⟩⟩
  exact g_X7_comesToSum_0 (loop 32 0 rfl M0 _ _ l0 (Fr.refl.mono fun _ _ _ z => z.elim) fun _ i hi => absurd hi (Nat.not_lt_zero _))
theorem T_raises {p v : Int} {G : Prop} {π : Nat → Int} {M0 : bM} {Q : bQ} {x1 : Int32} (h2 : 2 ≤ p) (h4 : p ≤ 997) (p0 : M0 26 0 0 = iI p) (e1 : x1 = iI v) (hv0 : 0 ≤ v) (hv1 : v ≤ 40) (hπ : ∀ k, k < 32 → 0 ≤ π k ∧ π k < p) (hpt : G → ∀ k, k < 32 → M0 27 3 k = iI (π k)) (K : ∀ M, Fr (fun g _ _ => g = 27) M0 M → (G → ∀ k, k < 32 → M 27 3 k = iI (pwF p π v.toNat k)) → Q none M) : bCall 141 [cR 26 0, cI x1] M0 Q := by
  have last : ∀ (M1 : bM), Fr (fun g _ _ => g = 27) M0 M1 → (G → ∀ k, k < 32 → M1 27 1 k = iI (pwF p π v.toNat k)) → ∀ (n k : Nat), k + n = 32 → ∀ (M : bM) (x2 : Int32) (o3 : Option bV), x2 = iI (k : Int) → Blk M1 M 27 3 0 k (fun i => (M1 27 1 i).toInt) → bGo 141 Q 88 [some (cR 26 0), some (cI x1), some (cI x2), o3] [] M := by
    intro M1 hF1 hv n
    induction n with
    | zero =>
      intro k hk M x2 o3 e2 hB
      have : k = 32 := by omega
      subst this
      refine g_X7_raises_88 ⟨fun _ => K M ((hF1.trans hB.fr).mono fun g j i z => ?_) fun z k hk => ?_, fun q => absurd (nle_of q l32 e2) (by omega)⟩
      · simp only [oL] at z
        omega
      · rw [hB.at (by omega) hk, tI]
        exact hv z k hk
    | succ n ih =>
      intro k hk M x2 o3 e2 hB
      refine g_X7_raises_88 ⟨fun q => absurd (le_of q l32 e2) (by omega), fun _ => ⟨vin e2, vin e2, ?_⟩⟩
      rw [cl_of e2]
      refine ih (k + 1) (by omega) _ _ _ (inN e2) (hB.up (by omega) ?_)
      rw [tI, hB.keep (by omega)]
  have main : ∀ (n e : Nat), e + n = v.toNat → ∀ (M : bM) (x2 : Int32) (o3 : Option bV), x2 = iI (e : Int) → Fr (fun g _ _ => g = 27) M0 M → (G → (∀ k, k < 32 → M 27 1 k = iI (pwF p π e k)) ∧ ∀ k, k < 32 → M 27 2 k = iI (π k)) → bGo 141 Q 37 [some (cR 26 0), some (cI x1), some (cI x2), o3] [] M := by
    intro n
    induction n with
    | zero =>
      intro e he M x2 o3 e2 hF hv
      have : e = v.toNat := by omega
      subst this
      exact g_X7_raises_37 ⟨fun _ => last M hF (fun z => (hv z).1) 32 0 rfl M _ _ l0 Blk.start, fun q => absurd (nle_of q e1 e2) (by omega)⟩
    | succ n ih =>
      intro e he M x2 o3 e2 hF hv
      have k0 : M 26 0 0 = iI p := by rw [hF _ _ _ (by omega)]; exact p0
      have cp : ∀ (M1 : bM), Fr (fun g j _ => g = 27 ∧ j = 0) M M1 → (G → ∀ k, k < 32 → M1 27 0 k = iI (pwF p π (e + 1) k)) → ∀ (n k : Nat), k + n = 32 → ∀ (M2 : bM) (x3 : Int32), x3 = iI (k : Int) → Blk M1 M2 27 1 0 k (fun i => (M1 27 0 i).toInt) → bGo 141 Q 56 [some (cR 26 0), some (cI x1), some (cI x2), some (cI x3)] [] M2 := by
        intro M1 hF1 hv1 n
        induction n with
        | zero =>
          intro k hk M2 x3 e3 hB
          have : k = 32 := by omega
          subst this
          refine g_X7_raises_56 ⟨fun _ => ih (e + 1) (by omega) M2 _ _ (inN e2) (((hF.trans hF1).trans hB.fr).mono fun g j i z => ?_) fun z => ⟨fun k hk => ?_, fun k hk => ?_⟩, fun q => absurd (nle_of q l32 e3) (by omega)⟩
          · simp only [oL] at z
            omega
          · rw [hB.at (by omega) hk, tI]
            exact hv1 z k hk
          · rw [hB.keep (by omega), hF1 _ _ _ (by omega)]
            exact (hv z).2 k hk
        | succ n ihn =>
          intro k hk M2 x3 e3 hB
          refine g_X7_raises_56 ⟨fun q => absurd (le_of q l32 e3) (by omega), fun _ => ⟨vin e3, vin e3, ?_⟩⟩
          rw [cl_of e3]
          refine ihn (k + 1) (by omega) _ _ (inN e3) (hB.up (by omega) ?_)
          rw [tI, hB.keep (by omega)]
      refine g_X7_raises_37 ⟨fun q => absurd (le_of q e1 e2) (by omega), fun _ => ?_⟩
      by_cases hG : G
      · refine T_multiplies (f := pwF p π e) (g := π) (p := p) k0 (by omega) h4 (by decide) (by decide) (fun i hi => ⟨(hv hG).1 i hi, pwF_bd h2 e i⟩) (fun i hi => ⟨(hv hG).2 i hi, hπ i hi⟩) fun M1 hB1 => cp M1 (hB1.fr.mono fun g j i z => by omega) (fun _ k hk => hB1.at (by omega) hk) 32 0 rfl M1 _ l0 Blk.start
      · exact T_multiplies_any k0 (by omega) h4 fun M1 hF1 => cp M1 hF1 (fun z => absurd z hG) 32 0 rfl M1 _ l0 Blk.start
  have first : ∀ (n k : Nat), k + n = 32 → ∀ (M : bM) (x2 : Int32) (o3 : Option bV), x2 = iI (k : Int) → Blk M0 M 27 2 0 k (fun i => (M0 27 3 i).toInt) → bGo 141 Q 2 [some (cR 26 0), some (cI x1), some (cI x2), o3] [] M := by
    intro n
    induction n with
    | zero =>
      intro k hk M x2 o3 e2 hB
      have : k = 32 := by omega
      subst this
      refine g_X7_raises_2 ⟨fun _ => T_setsTo l1 fun M1 hB1 => main v.toNat 0 (by omega) M1 _ _ l0 ((hB.fr.trans hB1.fr).mono fun g j i z => ?_) fun z => ⟨fun k hk => hB1.at (by omega) hk, fun k hk => ?_⟩, fun q => absurd (nle_of q l32 e2) (by omega)⟩
      · simp only [oL] at z
        omega
      · rw [hB1.keep (by omega), hB.at (by omega) hk, tI]
        exact hpt z k hk
    | succ n ih =>
      intro k hk M x2 o3 e2 hB
      refine g_X7_raises_2 ⟨fun q => absurd (le_of q l32 e2) (by omega), fun _ => ⟨vin e2, vin e2, ?_⟩⟩
      rw [cl_of e2]
      refine ih (k + 1) (by omega) _ _ _ (inN e2) (hB.up (by omega) ?_)
      rw [tI, hB.keep (by omega)]
  exact g_X7_raises_0 (first 32 0 rfl M0 _ _ l0 Blk.start)
theorem T_begins {l : Nat} {M0 : bM} {Q : bQ} (p17 : M0 26 0 17 = iI (l : Int)) (hl : l ≤ 4) (K : ∀ M, Fr (fun g j i => g = 30 ∧ j = 0 ∧ 32 * l ≤ i ∧ i < 32 * l + 32 ∨ (g = 32 ∨ g = 33) ∧ i = l) M0 M → (∀ k, k < 32 → M 30 0 (32 * l + k) = iI 0) → M 32 0 l = iI 0 → M 33 0 l = iI 0 → Q none M) : bCall 107 [cR 26 0] M0 Q := by
  have loop : ∀ (n k : Nat), k + n = 32 → ∀ (M : bM) (x1 : Int32), x1 = iI (k : Int) → Blk M0 M 30 0 (32 * l) (32 * l + k) (fun _ => 0) → bGo 107 Q 2 [some (cR 26 0), some (cI x1)] [] M := by
    intro n
    induction n with
    | zero =>
      intro k hk M x1 e1 hB
      have : k = 32 := by omega
      subst this
      have k17 : M 26 0 17 = iI (l : Int) := by rw [hB.keep (by omega)]; exact p17
      refine g_X7_begins_2 ⟨fun _ => ⟨⟨vin k17, Or.inl rfl⟩, ?_⟩, fun q => absurd (nle_of q l32 e1) (by omega)⟩
      rw [cl_of k17, bU_ne (by omega), cl_of k17]
      refine ⟨vin k17, K _ (((hB.fr.trans bU_fr).trans bU_fr).mono fun g j i z => ?_) (fun k hk => ?_) ?_ ?_⟩
      · simp only [oL] at z
        omega
      · rw [bU_ne (by omega), bU_ne (by omega), hB.at (by omega) (by omega)]
      · rw [bU_ne (by omega), bU_at]
        exact l0
      · rw [bU_at]
        exact l0
    | succ n ih =>
      intro k hk M x1 e1 hB
      have k17 : M 26 0 17 = iI (l : Int) := by rw [hB.keep (by omega)]; exact p17
      have es := s32 k17 e1
      refine g_X7_begins_2 ⟨fun q => absurd (le_of q l32 e1) (by omega), fun _ => ⟨vin es, ?_⟩⟩
      rw [cl_of es]
      exact ih (k + 1) (by omega) _ _ (inN e1) (hB.up (by omega) l0)
  exact g_X7_begins_0 (loop 32 0 rfl M0 _ l0 Blk.start)
