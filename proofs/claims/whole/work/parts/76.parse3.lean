-- needs: 06 08 09 10 11 12 13 14 15 16 17 18 19 26 27 28 29 30 31 32 33 34 35 37 39 41 42 43 45 46 72 73 74 75
theorem S_acceptAtom {p T v h : Int} {lv : Nat} {σ τ : Nat → Nat → Int} {mn w wp : Nat → Int} {M0 : bM} {Q : bQ} (h2 : 2 ≤ p) (h4 : p ≤ 997) (hR : PR p lv σ τ mn w wp h) (hP : PC p lv σ τ mn w wp h M0) (hT : M0 2 0 4 = iI T) (hT1 : -3 ≤ T) (hT2 : T < 256) (hv : T = -2 → M0 2 0 6 = iI v ∧ 0 ≤ v ∧ v ≤ 9999) (K1 : T = 40 → lv < 4 → ∀ M, Fr frA M0 M → PC p (lv + 1) (pU σ (lv + 1) (fun _ => 0)) (pU τ (lv + 1) (cst 1)) (pU mn (lv + 1) 0) (pU w (lv + 1) 0) (pU wp (lv + 1) 0) h M → M 2 0 7 = iI 0 → Q none M) (K2 : T = 120 ∨ T = -2 → ∀ M, Fr frA M0 M → PC p lv σ τ mn w wp h M → M 2 0 7 = iI 2 → (∀ k, k < 32 → M 7 (23 + lv) k = iI (aP p T v k)) → Q none M) (K3 : ¬ (T = 40 ∧ lv < 4) → T ≠ 120 → T ≠ -2 → bCall 40 [cR 2 0] M0 (fun v1 M2 => bV0 v1 (Q none M2))) : bCall 41 [cR 2 0] M0 Q := by
  have hT' : ∀ (y : Int32) (c : Int), y = iI c → -2147483648 ≤ c → c < 2147483648 → (M0 2 0 4 = y ↔ T = c) := fun y c hy c1 c2 => by rw [hT, hy, iI_eq (by omega) (by omega) c1 c2]
  have t40 := hT' 40 40 rfl (by omega) (by omega)
  have t120 := hT' 120 120 rfl (by omega) (by omega)
  have tm2 := hT' (-2) (-2) rfl (by omega) (by omega)
  obtain ⟨p1, p10, p9, pl⟩ := hP
  have hl4 := hR.1
  have cl : (M0 2 0 10).toNatClampNeg = lv := cl_of p10
  have hP : PC p lv σ τ mn w wp h M0 := ⟨p1, p10, p9, pl⟩
  refine g_X4_acceptAtom_0 ?_
  rw [t40, t120, tm2, cl]
  have tail : ¬ (T = 40 ∧ lv < 4) → ((¬ T = 120 → (¬ T = -2 → bCall 40 [cR 2 0] M0 (fun v1 M2 => bV0 v1 (Q none M2))) ∧ (¬ ¬ T = -2 → vp_in (M0 2 0 10) 5 ∧ bCall 29 [cR 1 0, cI (M0 2 0 6), cR 7 (23 + lv)] M0 (fun v3 M4 => bV0 v3 (Q none (bU M4 2 0 7 (2 : Int32)))))) ∧ (¬ ¬ T = 120 → vp_in (M0 2 0 10) 5 ∧ bCall 1 [cR 7 (23 + lv), cI (0 : Int32)] M0 (fun v5 M6 => bV0 v5 (vp_in (M6 2 0 10) 5 ∧ vp_in (1 : Int32) 32 ∧ Q none (bU (bU M6 7 (23 + (M6 2 0 10).toNatClampNeg) (1 : Int32).toNatClampNeg (1 : Int32)) 2 0 7 (2 : Int32)))))) := by
    intro hno
    refine ⟨fun q => ⟨fun z => K3 hno q z, fun z => ⟨vin p10, ?_⟩⟩, fun q => ⟨vin p10, ?_⟩⟩
    · have hT2 := Decidable.of_not_not z
      obtain ⟨v1, v2, v3⟩ := hv hT2
      refine S_constant p1 (by omega) h4 v1 (by omega) (by omega) fun M hB => ?_
      refine K2 (Or.inr hT2) _ ((hB.fr.trans bU_fr).mono fun g j i z => ?_) (hP.fr (hB.fr.trans bU_fr) fun g j i z => ?_) ?_ fun k hk => ?_
      · simp only [oL] at z
        simp only [frA]
        omega
      · simp only [oL]
        omega
      · rw [bU_at]
        rfl
      · rw [bU_ne (by omega), hB.at (by omega) hk]
        unfold aP
        rw [if_neg (by omega)]
    · have hT2 := Decidable.of_not_not q
      refine S_fill7 l0 fun M hB => ?_
      have k10 : M 2 0 10 = iI (lv : Int) := by rw [hB.keep (by omega)]; exact p10
      refine ⟨vin k10, vin l1, ?_⟩
      rw [cl_of k10, show (1 : Int32).toNatClampNeg = 1 from rfl]
      refine K2 (Or.inl hT2) _ (((hB.fr.trans bU_fr).trans bU_fr).mono fun g j i z => ?_) (hP.fr ((hB.fr.trans bU_fr).trans bU_fr) fun g j i z => ?_) ?_ fun k hk => ?_
      · simp only [oL] at z
        simp only [frA]
        omega
      · simp only [oL]
        omega
      · rw [bU_at]
        rfl
      · rw [bU_ne (by omega)]
        unfold aP
        rw [if_pos hT2]
        by_cases hk1 : k = 1
        · subst hk1
          rw [bU_at, if_pos rfl]
          exact l1
        · rw [bU_ne (by omega), hB.at (by omega) hk, if_neg hk1]
  refine ⟨fun q => tail fun z => q z.1, fun q => ⟨fun z => tail fun y => ?_, fun z => ?_⟩⟩
  · have := le_of z (iL 4) p10
    omega
  · have hT40 := Decidable.of_not_not q
    have hlt := nle_of z (iL 4) p10
    refine S_open (p := p) (l := lv + 1) p1 h2 h4 (inN p10) (by omega) fun M hF k7 k10 ks kt kj km => ?_
    refine K1 hT40 (by omega) M (hF.mono fun g j i z => by simp only [frA]; omega) ⟨?_, k10, ?_, fun l hl => ?_⟩ k7
    · rw [hF _ _ _ (by omega)]
      exact p1
    · rw [hF _ _ _ (by omega)]
      exact p9
    · by_cases ql : l = lv + 1
      · subst ql
        rw [up_at, up_at, up_at, up_at, up_at, if_pos rfl]
        exact ⟨ks, kt, km, kj, fun z => absurd rfl z⟩
      · rw [up_ne ql, up_ne ql, up_ne ql, up_ne ql, up_ne ql]
        obtain ⟨a1, a2, a3, a4, a5⟩ := pl l (by omega)
        exact ⟨fun k hk => (hF _ _ _ (by omega)).trans (a1 k hk), fun k hk => (hF _ _ _ (by omega)).trans (a2 k hk), (hF _ _ _ (by omega)).trans a3, (hF _ _ _ (by omega)).trans a4, fun hw => (hF _ _ _ (by omega)).trans (a5 hw)⟩
theorem S_end1 {p h : Int} {lv : Nat} {σ τ : Nat → Nat → Int} {mn w wp : Nat → Int} {π : Nat → Int} {M0 : bM} {Q : bQ} (h2 : 2 ≤ p) (h4 : p ≤ 997) (hR : PR p lv σ τ mn w wp h) (hP : PC p lv σ τ mn w wp h M0) (hπ : ∀ k, k < 32 → M0 7 (23 + lv) k = iI (π k) ∧ 0 ≤ π k ∧ π k < p) (K : ∀ M, Fr (fun g j i => g = 7 ∧ (j = 18 + lv ∨ j = 12) ∨ g = 2 ∧ i = 9) M0 M → (∀ k, k < 32 → M 7 (18 + lv) k = iI (eT p (w lv) (τ lv) π k)) → M 2 0 9 = iI (eH (w lv) (wp lv) π h) → Q none M) : bCall 43 [cR 2 0] M0 Q := by
  obtain ⟨p1, p10, p9, pl⟩ := hP
  obtain ⟨hl4, r1, r2, rl⟩ := hR
  obtain ⟨a1, a2, a3, a4, a5⟩ := pl lv (Nat.le_refl _)
  obtain ⟨b1, b2, b3, b4, b5, b6⟩ := rl lv (Nat.le_refl _)
  exact S_endPower p1 h2 h4 p10 hl4 b4 a4 a5 p9 r1 r2 (fun k hk => ⟨a2 k hk, b2 k hk⟩) hπ K
theorem S_end2 {p h : Int} {lv : Nat} {σ τ : Nat → Nat → Int} {mn w wp : Nat → Int} {π : Nat → Int} {M0 : bM} {A : bM → Prop} (h2 : 2 ≤ p) (h4 : p ≤ 997) (hR : PR p lv σ τ mn w wp h) (hP : PC p lv σ τ mn w wp h M0) (hπ : ∀ k, k < 32 → M0 7 (23 + lv) k = iI (π k) ∧ 0 ≤ π k ∧ π k < p) (K : ∀ M, Fr (fun g j i => g = 7 ∧ (j = 12 ∨ j = 13 + lv ∨ j = 18 + lv) ∨ g = 2 ∧ i = 9 ∨ g = 10 ∧ j = 0 ∧ i = lv) M0 M → (∀ k, k < 32 → M 7 (13 + lv) k = iI (sT p (mn lv) (σ lv) (eT p (w lv) (τ lv) π) k)) → (∀ k, k < 32 → M 7 (18 + lv) k = iI (cst 1 k)) → M 10 0 lv = iI 42 → M 2 0 9 = iI (eH (w lv) (wp lv) π h) → A M) : bCall 43 [cR 2 0] M0 (fun v1 M2 => bV0 v1 (bCall 44 [cR 2 0] M2 (fun v2 M3 => bV0 v2 (A M3)))) := by
  refine S_end1 h2 h4 hR hP hπ fun M1 hF1 ht hh => ?_
  obtain ⟨p1, p10, p9, pl⟩ := hP
  obtain ⟨hl4, r1, r2, rl⟩ := hR
  obtain ⟨a1, a2, a3, a4, a5⟩ := pl lv (Nat.le_refl _)
  obtain ⟨b1, b2, b3, b4, b5, b6⟩ := rl lv (Nat.le_refl _)
  have hF1' : ∀ g j i, ¬ (g = 7 ∧ (j = 18 + lv ∨ j = 12) ∨ g = 2 ∧ i = 9) → M1 g j i = M0 g j i := hF1
  refine S_endTerm (p := p) (mn := mn lv) (lv := lv) (σ := σ lv) (t := eT p (w lv) (τ lv) π) (by rw [hF1' _ _ _ (by omega)]; exact p1) h2 h4 (by rw [hF1' _ _ _ (by omega)]; exact p10) hl4 (by rw [hF1' _ _ _ (by omega)]; exact a3) b3 (fun k hk => ⟨by rw [hF1' _ _ _ (by omega)]; exact a1 k hk, b1 k hk⟩) (fun k hk => ⟨ht k hk, eT_bd (by omega) b2 k hk⟩) fun M2 hF2 k13 k18 k10 => K M2 ((hF1.trans hF2).mono fun g j i z => ?_) k13 k18 k10 ?_
  · simp only [oL] at z
    omega
  · rw [hF2 _ _ _ (by omega)]
    exact hh
theorem S_acceptJoin {p T h : Int} {lv pl0 : Nat} {σ τ : Nat → Nat → Int} {mn w wp : Nat → Int} {π : Nat → Int} {M0 : bM} {Q : bQ} (h2 : 2 ≤ p) (h4 : p ≤ 997) (hR : PR p lv σ τ mn w wp h) (hP : PC p lv σ τ mn w wp h M0) (hT : M0 2 0 4 = iI T) (hT1 : -3 ≤ T) (hT2 : T < 256) (h5 : M0 2 0 5 = iI (pl0 : Int)) (hπ : ∀ k, k < 32 → M0 7 (23 + lv) k = iI (π k) ∧ 0 ≤ π k ∧ π k < p)
    (K1 : T = 42 ∨ T = 47 → ∀ M, Fr frA M0 M → PC p lv (pU σ lv (σ lv)) (pU τ lv (eT p (w lv) (τ lv) π)) (pU mn lv (mn lv)) (pU w lv T) (pU wp lv (pl0 : Int)) (eH (w lv) (wp lv) π h) M → M 2 0 7 = iI 1 → Q none M)
    (K2 : T = 43 ∨ T = 45 → ∀ M, Fr frA M0 M → PC p lv (pU σ lv (sT p (mn lv) (σ lv) (eT p (w lv) (τ lv) π))) (pU τ lv (cst 1)) (pU mn lv (if T = 45 then 1 else 0)) (pU w lv 0) (pU wp lv 0) (eH (w lv) (wp lv) π h) M → M 2 0 7 = iI 1 → Q none M)
    (K3 : T = 41 → ∀ lv', lv = lv' + 1 → ∀ M, Fr frA M0 M → PC p lv' σ τ mn w wp (eH (w lv) (wp lv) π h) M → M 2 0 7 = iI 2 → (∀ k, k < 32 → M 7 (23 + lv') k = iI (sT p (mn lv) (σ lv) (eT p (w lv) (τ lv) π) k)) → Q none M)
    (K4 : T = -1 → lv = 0 → ∀ M, Fr frA M0 M → M 2 0 7 = iI 5 → M 2 0 9 = iI (eH (w lv) (wp lv) π h) → (∀ k, k < 32 → M 7 13 k = iI (sT p (mn lv) (σ lv) (eT p (w lv) (τ lv) π) k)) → Q none M)
    (K5 : ¬ (T = 42 ∨ T = 47 ∨ T = 43 ∨ T = 45 ∨ T = 41 ∧ 0 < lv ∨ T = -1 ∧ lv = 0) → bCall 40 [cR 2 0] M0 (fun v1 M2 => bV0 v1 (Q none M2))) : bCall 45 [cR 2 0] M0 Q := by
  have hT' : ∀ (y : Int32) (c : Int), y = iI c → -2147483648 ≤ c → c < 2147483648 → (M0 2 0 4 = y ↔ T = c) := fun y c hy c1 c2 => by rw [hT, hy, iI_eq (by omega) (by omega) c1 c2]
  have t41 := hT' 41 41 rfl (by omega) (by omega)
  have t42 := hT' 42 42 rfl (by omega) (by omega)
  have t43 := hT' 43 43 rfl (by omega) (by omega)
  have t45 := hT' 45 45 rfl (by omega) (by omega)
  have t47 := hT' 47 47 rfl (by omega) (by omega)
  have tm1 := hT' (-1) (-1) rfl (by omega) (by omega)
  have hP0 := hP
  obtain ⟨p1, p10, p9, pl⟩ := hP0
  have hl4 := hR.1
  obtain ⟨a1, a2, a3, a4, a5⟩ := pl lv (Nat.le_refl _)
  have hlv0 : M0 2 0 10 = 0 ↔ lv = 0 := by
    rw [p10, l0, iI_eq (by omega) (by omega) (by omega) (by omega)]
    omega
  -- a sign of a product
  have prod : T = 42 ∨ T = 47 → bCall 43 [cR 2 0] M0 (fun v1 M2 => bV0 v1 ((vp_in (M2 2 0 10) 5) ∧ ((vp_in ((bU M2 10 0 (M2 2 0 10).toNatClampNeg (M2 2 0 4)) 2 0 10) 5) ∧ (Q none (bU (bU (bU M2 10 0 (M2 2 0 10).toNatClampNeg (M2 2 0 4)) 10 1 ((bU M2 10 0 (M2 2 0 10).toNatClampNeg (M2 2 0 4)) 2 0 10).toNatClampNeg ((bU M2 10 0 (M2 2 0 10).toNatClampNeg (M2 2 0 4)) 2 0 5)) 2 0 7 (1 : Int32)))))) := by
    intro hq
    refine S_end1 h2 h4 hR hP hπ fun M1 hF1 ht hh => ?_
    have hF1' : ∀ g j i, ¬ (g = 7 ∧ (j = 18 + lv ∨ j = 12) ∨ g = 2 ∧ i = 9) → M1 g j i = M0 g j i := hF1
    have k10 : M1 2 0 10 = iI (lv : Int) := by rw [hF1' _ _ _ (by omega)]; exact p10
    have k4 : M1 2 0 4 = iI T := by rw [hF1' _ _ _ (by omega)]; exact hT
    have k5 : M1 2 0 5 = iI (pl0 : Int) := by rw [hF1' _ _ _ (by omega)]; exact h5
    refine ⟨vin k10, ?_⟩
    rw [cl_of k10, bU_ne (M := M1) (by omega : ¬ ((2 : Nat) = 10 ∧ (0 : Nat) = 0 ∧ (10 : Nat) = _)), bU_ne (M := M1) (by omega : ¬ ((2 : Nat) = 10 ∧ (0 : Nat) = 0 ∧ (5 : Nat) = _)), cl_of k10, k4, k5]
    refine ⟨vin k10, ?_⟩
    have hFF := ((hF1.trans (bU_fr (g := 10) (j := 0) (i := lv) (x := iI T))).trans (bU_fr (g := 10) (j := 1) (i := lv) (x := iI (pl0 : Int)))).trans (bU_fr (g := 2) (j := 0) (i := 7) (x := (1 : Int32)))
    refine K1 hq _ (hFF.mono fun g j i z => ?_) (hP.last hFF (fun g j i z => ?_) ?_ (fun k hk => ?_) (fun k hk => ?_) ?_ ?_ fun _ => ?_) ?_
    · simp only [oL] at z
      simp only [frA]
      omega
    · simp only [oL]
      omega
    · rw [bU_ne (by omega), bU_ne (by omega), bU_ne (by omega)]
      exact hh
    · rw [bU_ne (by omega), bU_ne (by omega), bU_ne (by omega), hF1' _ _ _ (by omega)]
      exact a1 k hk
    · rw [bU_ne (by omega), bU_ne (by omega), bU_ne (by omega)]
      exact ht k hk
    · rw [bU_ne (by omega), bU_ne (by omega), bU_ne (by omega), hF1' _ _ _ (by omega)]
      exact a3
    · rw [bU_ne (by omega), bU_ne (by omega), bU_at, if_neg (by omega)]
    · rw [bU_ne (by omega), bU_at]
    · rw [bU_at]
      rfl
  -- a sign of a sum
  have summ : T = 43 ∨ T = 45 → bCall 43 [cR 2 0] M0 (fun v3 M4 => bV0 v3 (bCall 44 [cR 2 0] M4 (fun v5 M6 => bV0 v5 (((¬ (M6 2 0 4) = (45 : Int32)) → ((vp_in (M6 2 0 10) 5 ∧ ((0 : Int32) = 0 ∨ (0 : Int32) = 1)) ∧ (Q none (bU (bU M6 14 0 (M6 2 0 10).toNatClampNeg (0 : Int32)) 2 0 7 (1 : Int32))))) ∧ (¬ (¬ (M6 2 0 4) = (45 : Int32)) → ((vp_in (M6 2 0 10) 5 ∧ ((1 : Int32) = 0 ∨ (1 : Int32) = 1)) ∧ (Q none (bU (bU M6 14 0 (M6 2 0 10).toNatClampNeg (1 : Int32)) 2 0 7 (1 : Int32))))))))) := by
    intro hq
    refine S_end2 h2 h4 hR hP hπ fun M1 hF1 ks kt kj hh => ?_
    have hF1' : ∀ g j i, ¬ (g = 7 ∧ (j = 12 ∨ j = 13 + lv ∨ j = 18 + lv) ∨ g = 2 ∧ i = 9 ∨ g = 10 ∧ j = 0 ∧ i = lv) → M1 g j i = M0 g j i := hF1
    have k10 : M1 2 0 10 = iI (lv : Int) := by rw [hF1' _ _ _ (by omega)]; exact p10
    have k4 : M1 2 0 4 = M0 2 0 4 := hF1' _ _ _ (by omega)
    rw [cl_of k10, k4, t45]
    have next : ∀ (x : Int32) (m' : Int), x = iI m' → m' = (if T = 45 then 1 else 0) → Q none (bU (bU M1 14 0 lv x) 2 0 7 (1 : Int32)) := fun x m' hx hm' => by
      have hFF := (hF1.trans (bU_fr (g := 14) (j := 0) (i := lv) (x := x))).trans (bU_fr (g := 2) (j := 0) (i := 7) (x := (1 : Int32)))
      refine K2 hq _ (hFF.mono fun g j i z => ?_) (hP.last hFF (fun g j i z => ?_) ?_ (fun k hk => ?_) (fun k hk => ?_) ?_ ?_ fun y => absurd rfl y) ?_
      · simp only [oL] at z
        simp only [frA]
        omega
      · simp only [oL]
        omega
      · rw [bU_ne (by omega), bU_ne (by omega)]
        exact hh
      · rw [bU_ne (by omega), bU_ne (by omega)]
        exact ks k hk
      · rw [bU_ne (by omega), bU_ne (by omega)]
        exact kt k hk
      · rw [bU_ne (by omega), bU_at, hx, hm']
      · rw [bU_ne (by omega), bU_ne (by omega), if_pos rfl]
        exact kj
      · rw [bU_at]
        rfl
    exact ⟨fun z => ⟨⟨vin k10, Or.inl rfl⟩, next 0 0 l0 (by rw [if_neg z])⟩, fun z => ⟨⟨vin k10, Or.inr rfl⟩, next 1 1 l1 (by rw [if_pos (Decidable.of_not_not z)])⟩⟩
  -- the end of the text, or a fault
  have fin : ¬ (T = 42 ∨ T = 47 ∨ T = 43 ∨ T = 45 ∨ T = 41 ∧ 0 < lv) → ((¬ T = -1 → bCall 40 [cR 2 0] M0 (fun v1 M2 => bV0 v1 (Q none M2))) ∧ (¬ ¬ T = -1 → (¬ lv = 0 → bCall 40 [cR 2 0] M0 (fun v1 M2 => bV0 v1 (Q none M2))) ∧ (¬ ¬ lv = 0 → bCall 43 [cR 2 0] M0 (fun v11 M12 => bV0 v11 (bCall 44 [cR 2 0] M12 (fun v13 M14 => bV0 v13 (Q none (bU M14 2 0 7 (5 : Int32))))))))) := by
    intro hq
    refine ⟨fun z => K5 (by omega), fun z => ⟨fun y => K5 (by omega), fun y => ?_⟩⟩
    have hT1 := Decidable.of_not_not z
    have hl0 := Decidable.of_not_not y
    refine S_end2 h2 h4 hR hP hπ fun M1 hF1 ks kt kj hh => ?_
    refine K4 hT1 hl0 _ ((hF1.trans bU_fr).mono fun g j i z => ?_) ?_ ?_ fun k hk => ?_
    · simp only [oL] at z
      simp only [frA]
      omega
    · rw [bU_at]
      rfl
    · rw [bU_f (by decide)]
      exact hh
    · rw [bU_ne (by omega)]
      have := ks k hk
      rwa [show 13 + lv = 13 by omega] at this
  refine g_X4_acceptJoin_0 ?_
  rw [t41, t42, t43, t45, t47, tm1, hlv0]
  refine ⟨fun q => prod (Or.inl q), fun q42 => ⟨fun q47 => ⟨fun q => summ (Or.inl q), fun q43 => ⟨fun q45 => ⟨fun q41 => fin (by omega), fun q41 => ⟨fun z => fin ?_, fun z => ?_⟩⟩, fun q => summ (Or.inr (Decidable.of_not_not q))⟩⟩, fun q => prod (Or.inr (Decidable.of_not_not q))⟩⟩
  · have := le_of z p10 l0
    omega
  · have hlt := nle_of z p10 l0
    have hT41 := Decidable.of_not_not q41
    obtain ⟨lv', hlv'⟩ : ∃ lv', lv = lv' + 1 := ⟨lv - 1, by omega⟩
    refine S_end2 h2 h4 hR hP hπ fun M1 hF1 ks kt kj hh => ?_
    have hF1' : ∀ g j i, ¬ (g = 7 ∧ (j = 12 ∨ j = 13 + lv ∨ j = 18 + lv) ∨ g = 2 ∧ i = 9 ∨ g = 10 ∧ j = 0 ∧ i = lv) → M1 g j i = M0 g j i := hF1
    have k10 : M1 2 0 10 = iI (lv : Int) := by rw [hF1' _ _ _ (by omega)]; exact p10
    have em : M1 2 0 10 - (1 : Int32) = iI (lv' : Int) := by
      rw [k10, l1, iI_sub]
      exact iIc (by omega)
    have ep : iI (lv' : Int) + (1 : Int32) = iI (lv : Int) := by
      rw [l1, iI_add]
      exact iIc (by omega)
    rw [bU_at, em, ep, cl_of (n := lv) rfl, cl_of (n := lv') rfl]
    refine ⟨vin (a := (lv : Int)) rfl, vin (a := (lv' : Int)) rfl, ⟨by decide, by decide, by decide, by decide, by decide⟩, ?_⟩
    have hFF := ((hF1.trans (bU_fr (g := 2) (j := 0) (i := 10) (x := iI (lv' : Int)))).trans (bCp_fr (g := 7) (j := 13 + lv) (g' := 7) (j' := 23 + lv') (sp := (0 : Int32)) (dp := (0 : Int32)) (n := (32 : Int32)))).trans (bU_fr (g := 2) (j := 0) (i := 7) (x := (2 : Int32)))
    refine K3 hT41 lv' hlv' _ (hFF.mono fun g j i z => ?_) (hP.pop hlv' hFF (fun g j i z => ?_) ?_ ?_) ?_ fun k hk => ?_
    · simp only [oL] at z
      simp only [frA]
      omega
    · simp only [oL]
      omega
    · rw [bU_f (by decide), bCp_fr _ _ _ (by omega), bU_f (by decide)]
      exact hh
    · rw [bU_f (by decide), bCp_fr _ _ _ (by omega), bU_at]
    · rw [bU_at]
      rfl
    · rw [bU_ne (by omega), bCp_32 hk, bU_ne (by omega)]
      exact ks k hk
