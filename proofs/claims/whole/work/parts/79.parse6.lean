-- needs: 06 08 09 10 11 12 13 14 15 16 17 18 19 26 27 28 29 30 31 32 33 34 35 37 39 41 42 43 45 46 72 73 74 75 77 78
theorem T_goesOn {p h : Int} {lv n a mr : Nat} {b : Nat → Int} {σ τ : Nat → Nat → Int} {mn w wp : Nat → Int} {π : Nat → Int} {M0 : bM} {Q : bQ} (h2 : 2 ≤ p) (h4 : p ≤ 997) (hR : PR p lv σ τ mn w wp h) (hP : PM p lv σ τ mn w wp h M0) (hTP : TP b n M0) (ha : a ≤ n) (hTK : TK b n a M0) (hπ : ∀ k, k < 32 → 0 ≤ π k ∧ π k < p) (hpt : h < 0 → ∀ k, k < 32 → M0 27 3 k = iI (π k)) (hmr : M0 26 0 21 = iI (mr : Int)) (hmr1 : mr ≤ 1)
    (K0 : tTok b n a = 94 → mr = 0 → Q (some (cI (0 : Int32))) M0)
    (K94 : tTok b n a = 94 → mr = 1 → ¬ (tTok b n (tNx b n a) = -2 ∧ tVal b n (tNx b n a) ≤ 40) → ∀ M, Fr frM M0 M → M 26 0 9 = iI (tPl b n (tNx b n a) : Int) → Q (some (cI (0 : Int32))) M)
    (K95 : tTok b n a = 94 → mr = 1 → tTok b n (tNx b n a) = -2 → tVal b n (tNx b n a) ≤ 40 → ∀ M, Fr frM M0 M → PM p lv σ τ mn w wp h M → M 26 0 20 = M0 26 0 20 → M 26 0 21 = iI 0 → (h < 0 → ∀ k, k < 32 → M 27 3 k = iI (pwF p π (tVal b n (tNx b n a)).toNat k)) → TK b n (tNx b n (tNx b n a)) M → Q (some (cI (1 : Int32))) M)
    (K1 : tTok b n a = 42 ∨ tTok b n a = 47 → ∀ M, Fr frM M0 M → PM p lv (pU σ lv (σ lv)) (pU τ lv (eT p (w lv) (τ lv) π)) (pU mn lv (mn lv)) (pU w lv (tTok b n a)) (pU wp lv (tPl b n a : Int)) (eH (w lv) (wp lv) π h) M → M 26 0 20 = iI 1 → TK b n (tNx b n a) M → Q (some (cI (1 : Int32))) M)
    (K2 : tTok b n a = 43 ∨ tTok b n a = 45 → ∀ M, Fr frM M0 M → PM p lv (pU σ lv (sT p (mn lv) (σ lv) (eT p (w lv) (τ lv) π))) (pU τ lv (cst 1)) (pU mn lv (if tTok b n a = 45 then 1 else 0)) (pU w lv 0) (pU wp lv 0) (eH (w lv) (wp lv) π h) M → M 26 0 20 = iI 1 → TK b n (tNx b n a) M → Q (some (cI (1 : Int32))) M)
    (K3 : tTok b n a = 41 → ∀ lv', lv = lv' + 1 → ∀ M, Fr frM M0 M → PM p lv' σ τ mn w wp (eH (w lv) (wp lv) π h) M → M 26 0 20 = M0 26 0 20 → M 26 0 21 = iI 1 → (eH (w lv) (wp lv) π h < 0 → ∀ k, k < 32 → M 27 3 k = iI (sT p (mn lv) (σ lv) (eT p (w lv) (τ lv) π) k)) → TK b n (tNx b n a) M → Q (some (cI (1 : Int32))) M)
    (K5 : ¬ (tTok b n a = 94 ∨ tTok b n a = 42 ∨ tTok b n a = 47 ∨ tTok b n a = 43 ∨ tTok b n a = 45 ∨ tTok b n a = 41 ∧ 0 < lv) → ∀ M, Fr frM M0 M → M 26 0 9 = M0 26 0 9 → Q (some (cI (0 : Int32))) M) : bCall 143 [cR 26 0] M0 Q := by
  obtain ⟨tb1, tb2, tb3, tb4, tb5, tb6⟩ := tok_bd (b := b) ha
  obtain ⟨k8, k9, k10, k11⟩ := hTK
  have hP0 := hP
  obtain ⟨p0, p17, p18, pl⟩ := hP0
  have hR0 := hR
  obtain ⟨hl4, r1, r2, rl⟩ := hR0
  obtain ⟨b1, b2, b3, b4, b5, b6⟩ := rl lv (Nat.le_refl _)
  obtain ⟨a1, a2, a3, a4, a5⟩ := pl lv (Nat.le_refl _)
  have hneg := fun z => eH_neg (w := w lv) (wp := wp lv) (π := π) (h := h) b5.1 z
  generalize hTT : tTok b n a = T at *
  have hTok : ∀ {M : bM} {y : Int32} {c : Int}, M 26 0 10 = M0 26 0 10 → y = iI c → 1 < c → c < 256 → (M 26 0 10 = y ↔ T = c) := fun {M y c} he hy c1 c2 => by
    have mb := mt_bd tb5
    rw [he, k10, hy, iI_eq (by omega) (by omega) (by omega) (by omega)]
    exact mt_eq tb5 c1
  have t94 := hTok (M := M0) (y := 94) (c := 94) rfl rfl (by omega) (by omega)
  refine g_X7_goesOn_0 ⟨fun q94 => ?_, fun q94 => ?_⟩
  · rw [t94] at q94
    refine T_comesToTerm h2 h4 hR hP hπ hpt fun M1 hF1 y33 y18 y31 => ?_
    have hF1' : ∀ g j i, ¬ (g = 27 ∨ g = 31 ∧ 32 * lv ≤ i ∧ i < 32 * lv + 32 ∨ g = 33 ∧ i = lv ∨ g = 26 ∧ i = 18) → M1 g j i = M0 g j i := hF1
    have m10 : M1 26 0 10 = M0 26 0 10 := hF1' _ _ _ (by omega)
    have m17 : M1 26 0 17 = iI (lv : Int) := by rw [hF1' _ _ _ (by omega)]; exact p17
    have m9 : M1 26 0 9 = iI (tPl b n a : Int) := by rw [hF1' _ _ _ (by omega)]; exact k9
    have m8 : M1 26 0 8 = iI (tNx b n a : Int) := by rw [hF1' _ _ _ (by omega)]; exact k8
    have hFM1 : Fr frM M0 M1 := hF1.mono fun g j i z => by
      simp only [frM]
      omega
    -- a sign of a product
    have prod : T = 42 ∨ T = 47 → ((vp_in (M1 26 0 17) 5) ∧ ((vp_in ((bU M1 33 0 (M1 26 0 17).toNatClampNeg (M1 26 0 10)) 26 0 17) 5) ∧ (bCall 110 [cR 26 0] (bU (bU (bU M1 33 0 (M1 26 0 17).toNatClampNeg (M1 26 0 10)) 34 0 ((bU M1 33 0 (M1 26 0 17).toNatClampNeg (M1 26 0 10)) 26 0 17).toNatClampNeg ((bU M1 33 0 (M1 26 0 17).toNatClampNeg (M1 26 0 10)) 26 0 9)) 26 0 20 (1 : Int32)) (fun v3 M4 => bV0 v3 (((1 : Int32) = 0 ∨ (1 : Int32) = 1) ∧ Q (some (cI (1 : Int32))) M4))))) := by
      intro hq
      have eTk : M1 26 0 10 = iI T := by
        rw [m10, k10]
        refine iIc ?_
        rcases hq with z | z
        · exact ((mt_eq tb5 (by omega)).mpr z).trans z.symm
        · exact ((mt_eq tb5 (by omega)).mpr z).trans z.symm
      refine ⟨vin m17, ?_⟩
      rw [cl_of m17, eTk, bU_ne (M := M1) (by omega : ¬ ((26 : Nat) = 33 ∧ (0 : Nat) = 0 ∧ (17 : Nat) = lv)), bU_ne (M := M1) (by omega : ¬ ((26 : Nat) = 33 ∧ (0 : Nat) = 0 ∧ (9 : Nat) = lv)), cl_of m17, m9]
      refine ⟨vin m17, ?_⟩
      have hFF := ((hF1.trans (bU_fr (g := 33) (j := 0) (i := lv) (x := iI T))).trans (bU_fr (g := 34) (j := 0) (i := lv) (x := iI (tPl b n a : Int)))).trans (bU_fr (g := 26) (j := 0) (i := 20) (x := (1 : Int32)))
      refine T_step (hTP.fr hFF fun g j i y => ?_) tb3 ?_ fun M2 hF2 hTK2 => ⟨Or.inr rfl, ?_⟩
      · simp only [oL]
        omega
      · rw [bU_ne (by omega), bU_ne (by omega), bU_ne (by omega)]
        exact m8
      · have old : ∀ g j i, ¬ (g = 26 ∧ 8 ≤ i ∧ i ≤ 11) → ¬ (g = 26 ∧ i = 20) → ¬ (g = 34 ∧ i = lv) → ¬ (g = 33 ∧ i = lv) → M2 g j i = M1 g j i := fun g j i y1 y2 y3 y4 => by
          rw [hF2 _ _ _ y1, bU_ne (by omega), bU_ne (by omega), bU_ne (by omega)]
        refine K1 hq M2 ((hFF.trans hF2).mono fun g j i y => ?_) (hP.last (hFF.trans hF2) (fun g j i y => ?_) (fun z => (hneg z).1) ?_ (fun z k hk => ?_) (fun z _ k hk => ?_) ?_ ?_ fun _ => ?_) ?_ hTK2
        · simp only [oL] at y
          simp only [frM]
          omega
        · simp only [oL]
          omega
        · rw [old _ _ _ (by omega) (by omega) (by omega) (by omega)]
          exact y18
        · rw [old _ _ _ (by omega) (by omega) (by omega) (by omega), hF1' _ _ _ (by omega)]
          exact a1 (hneg z).1 k hk
        · rw [old _ _ _ (by omega) (by omega) (by omega) (by omega)]
          exact y31 z k hk
        · rw [old _ _ _ (by omega) (by omega) (by omega) (by omega), hF1' _ _ _ (by omega)]
          exact a3
        · rw [hF2 _ _ _ (by omega), bU_ne (by omega), bU_ne (by omega), bU_at]
        · rw [hF2 _ _ _ (by omega), bU_ne (by omega), bU_at]
        · rw [hF2 _ _ _ (by omega), bU_at]
          exact l1
    -- the term comes to the sum
    have tosum : ∀ {A : bM → Prop}, (∀ M2, Fr (fun g j i => g = 30 ∧ j = 0 ∧ 32 * lv ≤ i ∧ i < 32 * lv + 32) M1 M2 → (eH (w lv) (wp lv) π h < 0 → ∀ k, k < 32 → M2 30 0 (32 * lv + k) = iI (sT p (mn lv) (σ lv) (eT p (w lv) (τ lv) π) k)) → A M2) → bCall 129 [cR 26 0] M1 (fun v M2 => bV0 v (A M2)) := fun {A} hA => by
      refine T_comesToSum (G := eH (w lv) (wp lv) π h < 0) (σ := σ lv) (t := eT p (w lv) (τ lv) π) h2 h4 hl4 (by rw [hF1' _ _ _ (by omega)]; exact p0) m17 (by rw [hF1' _ _ _ (by omega)]; exact a3) b3 b1 (fun k hk => eT_bd (by omega) b2 k hk) (fun z k hk => ⟨?_, y31 z k hk⟩) hA
      rw [hF1' _ _ _ (by omega)]
      exact a1 (hneg z).1 k hk
    -- a sign of a sum
    have summ : T = 43 ∨ T = 45 → bCall 129 [cR 26 0] M1 (fun v5 M6 => bV0 v5 (((¬ (M6 26 0 10) = (45 : Int32)) → ((vp_in (M6 26 0 17) 5 ∧ ((0 : Int32) = 0 ∨ (0 : Int32) = 1)) ∧ (bCall 110 [cR 26 0] (bU (bU M6 32 0 (M6 26 0 17).toNatClampNeg (0 : Int32)) 26 0 20 (1 : Int32)) (fun v7 M8 => bV0 v7 (((1 : Int32) = 0 ∨ (1 : Int32) = 1) ∧ Q (some (cI (1 : Int32))) M8))))) ∧ (¬ (¬ (M6 26 0 10) = (45 : Int32)) → ((vp_in (M6 26 0 17) 5 ∧ ((1 : Int32) = 0 ∨ (1 : Int32) = 1)) ∧ (bCall 110 [cR 26 0] (bU (bU M6 32 0 (M6 26 0 17).toNatClampNeg (1 : Int32)) 26 0 20 (1 : Int32)) (fun v9 M10 => bV0 v9 (((1 : Int32) = 0 ∨ (1 : Int32) = 1) ∧ Q (some (cI (1 : Int32))) M10))))))) := by
      intro hq
      refine tosum fun M2 hF2 ys => ?_
      have e10 : M2 26 0 10 = M0 26 0 10 := (hF2 _ _ _ (by omega)).trans m10
      have e17 : M2 26 0 17 = iI (lv : Int) := (hF2 _ _ _ (by omega)).trans m17
      have t45 := hTok (M := M2) (y := 45) (c := 45) e10 rfl (by omega) (by omega)
      rw [t45, cl_of e17]
      have next : ∀ (x : Int32) (m' : Int), x = iI m' → m' = (if T = 45 then 1 else 0) → bCall 110 [cR 26 0] (bU (bU M2 32 0 lv x) 26 0 20 (1 : Int32)) (fun v9 M10 => bV0 v9 (((1 : Int32) = 0 ∨ (1 : Int32) = 1) ∧ Q (some (cI (1 : Int32))) M10)) := fun x m' hx hm' => by
        have hFF := ((hF1.trans hF2).trans (bU_fr (g := 32) (j := 0) (i := lv) (x := x))).trans (bU_fr (g := 26) (j := 0) (i := 20) (x := (1 : Int32)))
        refine T_step (hTP.fr hFF fun g j i y => ?_) tb3 ?_ fun M3 hF3 hTK3 => ⟨Or.inr rfl, ?_⟩
        · simp only [oL]
          omega
        · rw [bU_ne (by omega), bU_ne (by omega), hF2 _ _ _ (by omega)]
          exact m8
        · have old : ∀ g j i, ¬ (g = 26 ∧ 8 ≤ i ∧ i ≤ 11) → ¬ (g = 26 ∧ i = 20) → ¬ (g = 32 ∧ i = lv) → M3 g j i = M2 g j i := fun g j i y1 y2 y3 => by
            rw [hF3 _ _ _ y1, bU_ne (by omega), bU_ne (by omega)]
          refine K2 hq M3 ((hFF.trans hF3).mono fun g j i y => ?_) (hP.last (hFF.trans hF3) (fun g j i y => ?_) (fun z => (hneg z).1) ?_ (fun z k hk => ?_) (fun z y => absurd rfl y) ?_ ?_ fun y => absurd rfl y) ?_ hTK3
          · simp only [oL] at y
            simp only [frM]
            omega
          · simp only [oL]
            omega
          · rw [old _ _ _ (by omega) (by omega) (by omega), hF2 _ _ _ (by omega)]
            exact y18
          · rw [old _ _ _ (by omega) (by omega) (by omega)]
            exact ys z k hk
          · rw [hF3 _ _ _ (by omega), bU_ne (by omega), bU_at, hx, hm']
          · rw [old _ _ _ (by omega) (by omega) (by omega), hF2 _ _ _ (by omega)]
            exact y33
          · rw [hF3 _ _ _ (by omega), bU_at]
            exact l1
      exact ⟨fun z => ⟨⟨vin e17, Or.inl rfl⟩, next 0 0 l0 (by rw [if_neg z])⟩, fun z => ⟨⟨vin e17, Or.inr rfl⟩, next 1 1 l1 (by rw [if_pos (Decidable.of_not_not z)])⟩⟩
    have t41 := hTok (M := M1) (y := 41) (c := 41) m10 rfl (by omega) (by omega)
    have t42 := hTok (M := M1) (y := 42) (c := 42) m10 rfl (by omega) (by omega)
    have t43 := hTok (M := M1) (y := 43) (c := 43) m10 rfl (by omega) (by omega)
    have t45 := hTok (M := M1) (y := 45) (c := 45) m10 rfl (by omega) (by omega)
    have t47 := hTok (M := M1) (y := 47) (c := 47) m10 rfl (by omega) (by omega)
    have bad : ¬ (T = 94 ∨ T = 42 ∨ T = 47 ∨ T = 43 ∨ T = 45 ∨ T = 41 ∧ 0 < lv) → Q (some (cI (0 : Int32))) M1 := fun z => K5 z M1 hFM1 (hF1' _ _ _ (by omega))
    refine ⟨fun q => prod (Or.inl (t42.mp q)), fun q42 => ⟨fun q47 => ⟨fun q => summ (Or.inl (t43.mp q)), fun q43 => ⟨fun q45 => ⟨fun q41 => ⟨Or.inl rfl, bad ?_⟩, fun q41 => ⟨fun z => ⟨Or.inl rfl, bad ?_⟩, fun z => ?_⟩⟩, fun q => summ (Or.inr (t45.mp (Decidable.of_not_not q)))⟩⟩, fun q => prod (Or.inr (t47.mp (Decidable.of_not_not q)))⟩⟩
    · rw [t41] at q41
      rw [t42] at q42
      rw [t43] at q43
      rw [t45] at q45
      rw [t47] at q47
      omega
    · rw [t42] at q42
      rw [t43] at q43
      rw [t45] at q45
      rw [t47] at q47
      have := le_of z m17 l0
      omega
    · have hlt := nle_of z m17 l0
      have hT41 := t41.mp (Decidable.of_not_not q41)
      obtain ⟨lv', hlv'⟩ : ∃ lv', lv = lv' + 1 := ⟨lv - 1, by omega⟩
      refine tosum fun M2 hF2 ys => ?_
      have loop : ∀ (nn k : Nat), k + nn = 32 → ∀ (M : bM) (x1 : Int32), x1 = iI (k : Int) → Blk M2 M 27 3 0 k (fun i => (M2 30 0 (32 * lv + i)).toInt) → bGo 143 Q 145 [some (cR 26 0), some (cI x1)] [] M := by
        intro nn
        induction nn with
        | zero =>
          intro k hk M x1 e1 hB
          have : k = 32 := by omega
          subst this
          have e17 : M 26 0 17 = iI (lv : Int) := by rw [hB.keep (by omega), hF2 _ _ _ (by omega)]; exact m17
          have em : M 26 0 17 - (1 : Int32) = iI (lv' : Int) := by
            rw [e17, l1, iI_sub]
            exact iIc (by omega)
          refine g_X7_goesOn_145 ⟨fun _ => ⟨Or.inr rfl, ?_⟩, fun q => absurd (nle_of q l32 e1) (by omega)⟩
          rw [em]
          have hFF := (((hF1.trans hF2).trans hB.fr).trans (bU_fr (g := 26) (j := 0) (i := 17) (x := iI (lv' : Int)))).trans (bU_fr (g := 26) (j := 0) (i := 21) (x := (1 : Int32)))
          refine T_step (hTP.fr hFF fun g j i y => ?_) tb3 ?_ fun M3 hF3 hTK3 => ⟨Or.inr rfl, ?_⟩
          · simp only [oL]
            omega
          · rw [bU_ne (by omega), bU_ne (by omega), hB.keep (by omega), hF2 _ _ _ (by omega)]
            exact m8
          · refine K3 hT41 lv' hlv' M3 ((hFF.trans hF3).mono fun g j i y => ?_) (hP.pop hlv' (hFF.trans hF3) (fun g j i y => ?_) (fun z => (hneg z).1) ?_ ?_) ?_ ?_ (fun z k hk => ?_) hTK3
            · simp only [oL] at y
              simp only [frM]
              omega
            · simp only [oL]
              omega
            · rw [hF3 _ _ _ (by omega), bU_ne (by omega), bU_ne (by omega), hB.keep (by omega), hF2 _ _ _ (by omega)]
              exact y18
            · rw [hF3 _ _ _ (by omega), bU_ne (by omega), bU_at]
            · rw [hF3 _ _ _ (by omega), bU_ne (by omega), bU_ne (by omega), hB.keep (by omega), hF2 _ _ _ (by omega), hF1' _ _ _ (by omega)]
            · rw [hF3 _ _ _ (by omega), bU_at]
              exact l1
            · rw [hF3 _ _ _ (by omega), bU_ne (by omega), bU_ne (by omega), hB.at (by omega) hk, tI]
              exact ys z k hk
        | succ nn ih =>
          intro k hk M x1 e1 hB
          have e17 : M 26 0 17 = iI (lv : Int) := by rw [hB.keep (by omega), hF2 _ _ _ (by omega)]; exact m17
          have es := s32 e17 e1
          refine g_X7_goesOn_145 ⟨fun q => absurd (le_of q l32 e1) (by omega), fun _ => ⟨vin es, vin e1, ?_⟩⟩
          rw [cl_of es, cl_of e1]
          refine ih (k + 1) (by omega) _ _ (inN e1) (hB.up (by omega) ?_)
          rw [tI, hB.keep (by omega)]
      exact loop 32 0 rfl M2 _ l0 Blk.start
  · have hT94 := t94.mp (Decidable.of_not_not q94)
    refine g_X7_raisesNow_0 ⟨fun q => ?_, fun q => ⟨Or.inl rfl, Or.inl rfl, K0 hT94 ?_⟩⟩
    · have hm1 : mr = 1 := by
        have : mr ≠ 0 := fun z => q (by rw [hmr, z]; rfl)
        omega
      refine T_step hTP tb3 k8 fun M1 hF1 hTK1 => ?_
      have hTK1' := hTK1
      obtain ⟨j8, j9, j10, j11⟩ := hTK1'
      obtain ⟨tc1, tc2, tc3, tc4, tc5, tc6⟩ := tok_bd (b := b) tb3
      have hFM1 : Fr frM M0 M1 := hF1.mono fun g j i z => by
        simp only [frM]
        omega
      have u1 : M1 26 0 10 = 1 ↔ tTok b n (tNx b n a) = -2 := by
        have mb := mt_bd tc5
        rw [j10, l1, iI_eq (by omega) (by omega) (by omega) (by omega)]
        exact mt_1 tc5
      rw [u1]
      refine ⟨fun z => ⟨Or.inl rfl, Or.inl rfl, K94 hT94 hm1 (fun y => z y.1) M1 hFM1 j9⟩, fun z => ?_⟩
      have hT2 := Decidable.of_not_not z
      have hv := tc6 hT2
      have e11 := j11 hT2
      refine ⟨fun y => ?_, fun y => ⟨Or.inl rfl, Or.inl rfl, K94 hT94 hm1 (fun x => ?_) M1 hFM1 j9⟩⟩
      · have hle := le_of y e11 (iL 40)
        have p01 : M1 26 0 0 = iI p := by rw [hF1 _ _ _ (by omega)]; exact p0
        refine T_raises (G := h < 0) (π := π) h2 h4 p01 e11 hv.1 hle hπ (fun x k hk => by rw [hF1 _ _ _ (by omega)]; exact hpt x k hk) fun M2 hF2 y3 => ⟨Or.inl rfl, ?_⟩
        have hFF := (hF1.trans hF2).trans (bU_fr (g := 26) (j := 0) (i := 21) (x := (0 : Int32)))
        refine T_step (hTP.fr hFF fun g j i y => ?_) tc3 ?_ fun M3 hF3 hTK3 => ⟨Or.inr rfl, Or.inr rfl, ?_⟩
        · simp only [oL]
          omega
        · rw [bU_ne (by omega), hF2 _ _ _ (by omega)]
          exact j8
        · refine K95 hT94 hm1 hT2 hle M3 ((hFF.trans hF3).mono fun g j i y => ?_) (hP.fr (hFF.trans hF3) fun g j i y => ?_) ?_ ?_ (fun x k hk => ?_) hTK3
          · simp only [oL] at y
            simp only [frM]
            omega
          · simp only [oL]
            omega
          · rw [hF3 _ _ _ (by omega), bU_ne (by omega), hF2 _ _ _ (by omega), hF1 _ _ _ (by omega)]
          · rw [hF3 _ _ _ (by omega), bU_at]
            exact l0
          · rw [hF3 _ _ _ (by omega), bU_ne (by omega)]
            exact y3 x k hk
      · have := nle_of y e11 (iL 40)
        omega
    · have := eq_of (Decidable.of_not_not q) hmr l0
      omega
