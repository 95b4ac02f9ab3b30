-- needs: 06 08 09 10 11 12 13 14 15 16 17 18 19 26 27 28 29 30 31 32 33 34 43 72
theorem bU_fs {M : bM} {g j i : Nat} {x : Int32} : bU M g j i x g j i = x := bU_at
theorem S_scanNumber {b : Nat → Int} {n e : Nat} {M0 : bM} {Q : bQ} (hn : n ≤ 80) (h2 : M0 2 0 2 = iI (n : Int)) (h3 : M0 2 0 3 = iI (e : Int)) (h5 : M0 2 0 5 = iI (e : Int)) (he : e ≤ n) (hb : ∀ i, i < n → M0 13 0 i = iI (b i) ∧ 0 ≤ b i ∧ b i < 256) (K : ∀ M, Fr (fun g _ i => g = 2 ∧ (i = 3 ∨ i = 4 ∨ i = 6)) M0 M → M 2 0 3 = iI (tDg b n (n - e) e : Int) → M 2 0 4 = iI (if tDg b n (n - e) e - e ≤ 4 then -2 else -3) → (tDg b n (n - e) e - e ≤ 4 → M 2 0 6 = iI (tVl b e (tDg b n (n - e) e - e))) → Q none M) : bCall 51 [cR 2 0] M0 Q := by
  have fin : ∀ (d : Nat) (M : bM), Fr (fun g _ i => g = 2 ∧ (i = 3 ∨ i = 6)) M0 M → M 2 0 3 = iI (d : Int) → e ≤ d → d ≤ n → (d - e ≤ 4 → M 2 0 6 = iI (tVl b e (d - e))) → tDg b n (n - e) e = d → ((((4 : Int32) < ((M 2 0 3) - (M 2 0 5))) → (Q none (bU M 2 0 4 (-3 : Int32)))) ∧ (¬ ((4 : Int32) < ((M 2 0 3) - (M 2 0 5))) → (Q none (bU M 2 0 4 (-2 : Int32))))) := by
    intro d M hF k3 hed hdn hv hD
    rw [hD] at K
    have ed : M 2 0 3 - M 2 0 5 = iI ((d - e : Nat) : Int) := by
      rw [k3, hF _ _ _ (by omega), h5, iI_sub]
      exact iIc (by omega)
    have hF' : ∀ x, Fr (fun g _ i => g = 2 ∧ (i = 3 ∨ i = 4 ∨ i = 6)) M0 (bU M 2 0 4 x) := fun x => (hF.trans bU_fr).mono fun g j i z => by
      simp only [oL] at z
      omega
    refine ⟨fun q => ?_, fun q => ?_⟩
    · have := lt_of q (iL 4) ed
      refine K _ (hF' _) ?_ ?_ fun w => absurd w (by omega)
      · rw [bU_f (by decide)]
        exact k3
      · rw [bU_at, if_neg (by omega)]
        rfl
    · have := nlt_of q (iL 4) ed
      refine K _ (hF' _) ?_ ?_ fun w => ?_
      · rw [bU_f (by decide)]
        exact k3
      · rw [bU_at, if_pos (by omega)]
        rfl
      · rw [bU_f (by decide)]
        exact hv w
  have loop : ∀ (f d : Nat), d + f = n → ∀ (M : bM), Fr (fun g _ i => g = 2 ∧ (i = 3 ∨ i = 6)) M0 M → M 2 0 3 = iI (d : Int) → e ≤ d → (d - e ≤ 4 → M 2 0 6 = iI (tVl b e (d - e))) → tDg b n f d = tDg b n (n - e) e → bGo 51 Q 5 [some (cR 2 0)] [] M := by
    intro f
    induction f with
    | zero =>
      intro d hd M hF k3 hed hv hD
      have hsz : M 2 0 2 = iI (n : Int) := by rw [hF _ _ _ (by omega)]; exact h2
      exact g_X4_scanNumber_5 ⟨fun _ => fin d M hF k3 hed (by omega) hv hD.symm, fun q => absurd (nle_of q hsz k3) (by omega)⟩
    | succ f ih =>
      intro d hd M hF k3 hed hv hD
      have hsz : M 2 0 2 = iI (n : Int) := by rw [hF _ _ _ (by omega)]; exact h2
      have hbd := hb d (by omega)
      have ht : M 13 0 (M 2 0 3).toNatClampNeg = iI (b d) := by
        rw [k3, cl_of (n := d) rfl, hF _ _ _ (by omega)]
        exact hbd.1
      have ed : M 2 0 3 - M 2 0 5 = iI ((d - e : Nat) : Int) := by
        rw [k3, hF _ _ _ (by omega), h5, iI_sub]
        exact iIc (by omega)
      refine g_X4_scanNumber_5 ⟨fun q => absurd (le_of q hsz k3) (by omega), fun _ => ⟨vin k3, ?_⟩⟩
      rw [ht]
      refine S_isDigit rfl hbd.2.1 hbd.2.2 (fun w => ?_) fun w => ?_
      · have hD' : tDg b n f (d + 1) = tDg b n (n - e) e := by
          rw [← hD]
          show _ = if d < n ∧ isD (b d) then tDg b n f (d + 1) else d
          rw [if_pos ⟨by omega, w⟩]
        refine ⟨fun z => absurd z (by decide), fun _ => ⟨fun q => ?_, fun q => ⟨vin k3, ?_⟩⟩⟩
        · have := le_of q (iL 4) ed
          refine ih (d + 1) (by omega) _ ((hF.trans bU_fr).mono fun g j i z => ?_) ?_ (by omega) (fun z => absurd z (by omega)) hD'
          · simp only [oL] at z
            omega
          · rw [bU_at]
            exact inN k3
        · have := nle_of q (iL 4) ed
          refine ih (d + 1) (by omega) _ (((hF.trans bU_fr).trans bU_fr).mono fun g j i z => ?_) ?_ (by omega) (fun z => ?_) hD'
          · simp only [oL] at z
            omega
          · rw [bU_at, bU_f (by decide)]
            exact inN k3
          · rw [bU_f (by decide), bU_at, ht, hv (by omega), iL 10, iL 48, iI_mul, iI_add, iI_sub]
            refine iIc ?_
            rw [show d + 1 - e = (d - e) + 1 by omega]
            show _ = 10 * tVl b e (d - e) + b (e + (d - e)) - 48
            rw [show e + (d - e) = d by omega]
            omega
      · have hD' : d = tDg b n (n - e) e := by
          rw [← hD]
          show _ = if d < n ∧ isD (b d) then tDg b n f (d + 1) else d
          rw [if_neg (fun z => w z.2)]
        exact ⟨fun _ => fin d M hF k3 hed (by omega) hv hD'.symm, fun z => absurd rfl z⟩
  refine g_X4_scanNumber_0 (loop (n - e) e (by omega) _ (bU_fr.mono fun g j i z => by omega) ?_ (Nat.le_refl _) (fun _ => ?_) rfl)
  · rw [bU_f (by decide)]
    exact h3
  · rw [bU_at, Nat.sub_self]
    exact l0
theorem S_scan {b : Nat → Int} {n a : Nat} {M0 : bM} {Q : bQ} (hn : n ≤ 80) (h2 : M0 2 0 2 = iI (n : Int)) (h3 : M0 2 0 3 = iI (a : Int)) (ha : a ≤ n) (hb : ∀ i, i < n → M0 13 0 i = iI (b i) ∧ 0 ≤ b i ∧ b i < 256) (K : ∀ M, Fr (fun g _ i => g = 2 ∧ (i = 3 ∨ i = 4 ∨ i = 5 ∨ i = 6)) M0 M → M 2 0 3 = iI (tNx b n a : Int) → M 2 0 4 = iI (tTok b n a) → M 2 0 5 = iI (tPl b n a : Int) → (tTok b n a = -2 → M 2 0 6 = iI (tVal b n a)) → Q none M) : bCall 52 [cR 2 0] M0 Q := by
  have fin : ∀ (e : Nat) (M : bM), Fr (fun g _ i => g = 2 ∧ i = 3) M0 M → M 2 0 3 = iI (e : Int) → e ≤ n → tPl b n a = e → (e < n → b e ≠ 32) → (((((bU M 2 0 5 (M 2 0 3)) 2 0 3) < ((bU M 2 0 5 (M 2 0 3)) 2 0 2)) → ((vp_in ((bU M 2 0 5 (M 2 0 3)) 2 0 3) 80) ∧ (bCall 49 [cI ((bU M 2 0 5 (M 2 0 3)) 13 0 ((bU M 2 0 5 (M 2 0 3)) 2 0 3).toNatClampNeg)] (bU M 2 0 5 (M 2 0 3)) (fun v1 M2 => bV1 v1 fun r3 => (((r3 = 0) → ((vp_in (M2 2 0 3) 80) ∧ (bCall 50 [cI (M2 13 0 (M2 2 0 3).toNatClampNeg)] M2 (fun v4 M5 => bV1 v4 fun r6 => (((r6 = 0) → (Q none (bU (bU M5 2 0 4 (-3 : Int32)) 2 0 3 (((bU M5 2 0 4 (-3 : Int32)) 2 0 3) + (1 : Int32))))) ∧ (¬ (r6 = 0) → ((vp_in (M5 2 0 3) 80) ∧ (Q none (bU (bU M5 2 0 4 (M5 13 0 (M5 2 0 3).toNatClampNeg)) 2 0 3 (((bU M5 2 0 4 (M5 13 0 (M5 2 0 3).toNatClampNeg)) 2 0 3) + (1 : Int32))))))))))) ∧ (¬ (r3 = 0) → (bCall 51 [cR 2 0] M2 (fun v7 M8 => bV0 v7 (Q none M8))))))))) ∧ (¬ (((bU M 2 0 5 (M 2 0 3)) 2 0 3) < ((bU M 2 0 5 (M 2 0 3)) 2 0 2)) → (Q none (bU (bU M 2 0 5 (M 2 0 3)) 2 0 4 (-1 : Int32))))) := by
    intro e M hF k3 hen hpl hnb
    have hF' : ∀ g j i, ¬ (g = 2 ∧ i = 3) → M g j i = M0 g j i := hF
    have hsz : M 2 0 2 = iI (n : Int) := by rw [hF' _ _ _ (by omega)]; exact h2
    have hF1 : Fr (fun g _ i => g = 2 ∧ (i = 3 ∨ i = 4 ∨ i = 5 ∨ i = 6)) M0 (bU M 2 0 5 (M 2 0 3)) := (hF.trans bU_fr).mono fun g j i z => by
      simp only [oL] at z
      omega
    have g3 : (bU M 2 0 5 (M 2 0 3)) 2 0 3 = iI (e : Int) := by rw [bU_f (by decide)]; exact k3
    have g2 : (bU M 2 0 5 (M 2 0 3)) 2 0 2 = iI (n : Int) := by rw [bU_f (by decide)]; exact hsz
    have g5 : (bU M 2 0 5 (M 2 0 3)) 2 0 5 = iI (e : Int) := by rw [bU_at]; exact k3
    have g13 : ∀ i, i < n → (bU M 2 0 5 (M 2 0 3)) 13 0 i = iI (b i) ∧ 0 ≤ b i ∧ b i < 256 := fun i hi => by
      rw [bU_ne (by omega), hF' _ _ _ (by omega)]
      exact hb i hi
    generalize bU M 2 0 5 (M 2 0 3) = M1 at hF1 g3 g2 g5 g13 ⊢
    have e4 : tTok b n a = if n ≤ e then -1 else if isD (b e) then (if tDg b n (n - e) e - e ≤ 4 then -2 else -3) else if isG (b e) then b e else -3 := by
      unfold tTok tEn
      rw [hpl]
    have e3 : tNx b n a = if n ≤ e then e else if isD (b e) then tDg b n (n - e) e else e + 1 := by
      unfold tNx tEn
      rw [hpl]
    have e6 : tVal b n a = tVl b e (tDg b n (n - e) e - e) := by
      unfold tVal tEn
      rw [hpl]
    rw [e4, e3, hpl, e6] at K
    refine ⟨fun q => ?_, fun q => ?_⟩
    · have hlt := lt_of q g3 g2
      refine ⟨vin g3, ?_⟩
      have hne : ¬ n ≤ e := by omega
      rw [if_neg hne, if_neg hne] at K
      obtain ⟨t1, t2, t3⟩ := g13 e (by omega)
      have ht : M1 13 0 (M1 2 0 3).toNatClampNeg = iI (b e) := by
        rw [g3, cl_of (n := e) rfl]
        exact t1
      rw [ht]
      refine S_isDigit rfl t2 t3 (fun w => ?_) fun w => ?_
      · rw [if_pos w, if_pos w] at K
        refine ⟨fun z => absurd z (by decide), fun _ => ?_⟩
        refine S_scanNumber hn g2 g3 g5 hen g13 fun M2 hF2 c3 c4 c6 => K M2 ((hF1.trans hF2).mono fun g j i z => ?_) c3 c4 ?_ fun z => c6 ?_
        · simp only [oL] at z
          omega
        · rw [hF2 _ _ _ (by omega)]
          exact g5
        · refine Classical.byContradiction fun y => ?_
          rw [if_neg y] at z
          exact absurd z (by decide)
      · rw [if_neg w, if_neg w] at K
        refine ⟨fun _ => ⟨vin g3, ?_⟩, fun z => absurd rfl z⟩
        rw [ht]
        refine S_isSign rfl t2 t3 (fun y => ?_) fun y => ?_
        · rw [if_pos y] at K
          refine ⟨fun z => absurd z (by decide), fun _ => ⟨vin g3, ?_⟩⟩
          refine K _ (((hF1.trans bU_fr).trans bU_fr).mono fun g j i z => ?_) ?_ ?_ ?_ fun z => absurd z (by omega)
          · simp only [oL] at z
            omega
          · rw [bU_at, bU_f (by decide)]
            exact inN g3
          · rw [bU_f (by decide), bU_at]
            exact ht
          · rw [bU_f (by decide), bU_f (by decide)]
            exact g5
        · rw [if_neg y] at K
          refine ⟨fun _ => ?_, fun z => absurd rfl z⟩
          refine K _ (((hF1.trans bU_fr).trans bU_fr).mono fun g j i z => ?_) ?_ ?_ ?_ fun z => absurd z (by decide)
          · simp only [oL] at z
            omega
          · rw [bU_at, bU_f (by decide)]
            exact inN g3
          · rw [bU_f (by decide), bU_at]
            rfl
          · rw [bU_f (by decide), bU_f (by decide)]
            exact g5
    · have hge := nlt_of q g3 g2
      have hne : n ≤ e := by omega
      rw [if_pos hne, if_pos hne] at K
      refine K _ ((hF1.trans bU_fr).mono fun g j i z => ?_) ?_ ?_ ?_ fun z => absurd z (by decide)
      · simp only [oL] at z
        omega
      · rw [bU_f (by decide)]
        exact g3
      · rw [bU_at]
        rfl
      · rw [bU_f (by decide)]
        exact g5
  have loop : ∀ (f e : Nat), e + f = n → ∀ (M : bM), Fr (fun g _ i => g = 2 ∧ i = 3) M0 M → M 2 0 3 = iI (e : Int) → tSk b n f e = tPl b n a → bGo 52 Q 0 [some (cR 2 0)] [] M := by
    intro f
    induction f with
    | zero =>
      intro e he M hF k3 hD
      have hsz : M 2 0 2 = iI (n : Int) := by rw [hF _ _ _ (by omega)]; exact h2
      exact g_X4_scan_0 ⟨fun _ => fin e M hF k3 (by omega) hD.symm fun z => absurd z (by omega), fun q => absurd (nle_of q hsz k3) (by omega)⟩
    | succ f ih =>
      intro e he M hF k3 hD
      have hsz : M 2 0 2 = iI (n : Int) := by rw [hF _ _ _ (by omega)]; exact h2
      obtain ⟨t1, t2, t3⟩ := hb e (by omega)
      have ht : M 13 0 (M 2 0 3).toNatClampNeg = iI (b e) := by
        rw [k3, cl_of (n := e) rfl, hF _ _ _ (by omega)]
        exact t1
      have hD2 : (if e < n ∧ b e = 32 then tSk b n f (e + 1) else e) = tPl b n a := hD
      refine g_X4_scan_0 ⟨fun q => absurd (le_of q hsz k3) (by omega), fun _ => ⟨vin k3, ?_⟩⟩
      rw [ht]
      refine ⟨fun q => ?_, fun q => ?_⟩
      · have hne : b e ≠ 32 := fun z => q (by rw [z]; rfl)
        rw [if_neg (fun z => hne z.2)] at hD2
        exact fin e M hF k3 (by omega) hD2.symm fun _ => hne
      · have he32 := eq_of (a := b e) (b := 32) (Decidable.of_not_not q) rfl l32
        rw [if_pos ⟨by omega, he32⟩] at hD2
        refine ih (e + 1) (by omega) _ ((hF.trans bU_fr).mono fun g j i z => ?_) ?_ hD2
        · simp only [oL] at z
          omega
        · rw [bU_at]
          exact inN k3
  exact g_X4_scan_e (loop (n - a) a (by omega) M0 (Fr.refl.mono fun _ _ _ z => z.elim) h3 rfl)
/-- a token as the model has it -/
def mt (t : Int) : Int := if t = -1 then 0 else if t = -2 then 1 else if t = -3 then -1 else t
/-- the model has looked at the token from place a on -/
def TK (b : Nat → Int) (n a : Nat) (M : bM) : Prop := M 26 0 8 = iI (tNx b n a : Int) ∧ M 26 0 9 = iI (tPl b n a : Int) ∧ M 26 0 10 = iI (mt (tTok b n a)) ∧ (tTok b n a = -2 → M 26 0 11 = iI (tVal b n a))
theorem T_nextN {b : Nat → Int} {n e : Nat} {M0 : bM} {Q : bQ} (hn : n ≤ 80) (h7 : M0 26 0 7 = iI (n : Int)) (h8 : M0 26 0 8 = iI (e : Int)) (h11 : M0 26 0 11 = iI 0) (he : e ≤ n) (hb : ∀ i, i < n → M0 29 0 i = iI (b i) ∧ 0 ≤ b i ∧ b i < 256) (K : ∀ M, Fr (fun g _ i => g = 26 ∧ (i = 8 ∨ i = 10 ∨ i = 11)) M0 M → M 26 0 8 = iI (tDg b n (n - e) e : Int) → M 26 0 10 = iI (if tDg b n (n - e) e - e ≤ 4 then 1 else -1) → (tDg b n (n - e) e - e ≤ 4 → M 26 0 11 = iI (tVl b e (tDg b n (n - e) e - e))) → Q none M) : bGo 110 Q 128 [some (cR 26 0), some (cI (0 : Int32))] [] M0 := by
  have fin : ∀ (d : Nat) (M : bM) (x1 : Int32), x1 = iI ((d - e : Nat) : Int) → Fr (fun g _ i => g = 26 ∧ (i = 8 ∨ i = 11)) M0 M → M 26 0 8 = iI (d : Int) → e ≤ d → d ≤ n → (d - e ≤ 4 → M 26 0 11 = iI (tVl b e (d - e))) → tDg b n (n - e) e = d → (((x1 ≤ (4 : Int32)) → (Q none (bU M 26 0 10 (1 : Int32)))) ∧ (¬ (x1 ≤ (4 : Int32)) → (Q none (bU M 26 0 10 (-1 : Int32))))) := by
    intro d M x1 e1 hF k3 hed hdn hv hD
    rw [hD] at K
    have hF' : ∀ x, Fr (fun g _ i => g = 26 ∧ (i = 8 ∨ i = 10 ∨ i = 11)) M0 (bU M 26 0 10 x) := fun x => (hF.trans bU_fr).mono fun g j i z => by
      simp only [oL] at z
      omega
    refine ⟨fun q => ?_, fun q => ?_⟩
    · have := le_of q e1 (iL 4)
      refine K _ (hF' _) ?_ ?_ fun w => ?_
      · rw [bU_f (by decide)]
        exact k3
      · rw [bU_at, if_pos (by omega)]
        rfl
      · rw [bU_f (by decide)]
        exact hv w
    · have := nle_of q e1 (iL 4)
      refine K _ (hF' _) ?_ ?_ fun w => absurd w (by omega)
      · rw [bU_f (by decide)]
        exact k3
      · rw [bU_at, if_neg (by omega)]
        rfl
  have loop : ∀ (f d : Nat), d + f = n → ∀ (M : bM) (x1 : Int32), x1 = iI ((d - e : Nat) : Int) → Fr (fun g _ i => g = 26 ∧ (i = 8 ∨ i = 11)) M0 M → M 26 0 8 = iI (d : Int) → e ≤ d → (d - e ≤ 4 → M 26 0 11 = iI (tVl b e (d - e))) → tDg b n f d = tDg b n (n - e) e → bGo 110 Q 128 [some (cR 26 0), some (cI x1)] [] M := by
    intro f
    induction f with
    | zero =>
      intro d hd M x1 e1 hF k3 hed hv hD
      have hsz : M 26 0 7 = iI (n : Int) := by rw [hF _ _ _ (by omega)]; exact h7
      exact g_X7_next_128 ⟨fun _ => fin d M x1 e1 hF k3 hed (by omega) hv hD.symm, fun q => absurd (nle_of q hsz k3) (by omega)⟩
    | succ f ih =>
      intro d hd M x1 e1 hF k3 hed hv hD
      have hsz : M 26 0 7 = iI (n : Int) := by rw [hF _ _ _ (by omega)]; exact h7
      have hbd := hb d (by omega)
      have ht : M 29 0 (M 26 0 8).toNatClampNeg = iI (b d) := by
        rw [k3, cl_of (n := d) rfl, hF _ _ _ (by omega)]
        exact hbd.1
      have e1' : x1 + (1 : Int32) = iI ((d + 1 - e : Nat) : Int) := by
        rw [inN e1]
        exact iIc (by omega)
      refine g_X7_next_128 ⟨fun q => absurd (le_of q hsz k3) (by omega), fun _ => ⟨vin k3, ?_⟩⟩
      rw [ht]
      refine T_isDigit rfl hbd.2.1 hbd.2.2 (fun w => ?_) fun w => ?_
      · have hD' : tDg b n f (d + 1) = tDg b n (n - e) e := by
          rw [← hD]
          show _ = if d < n ∧ isD (b d) then tDg b n f (d + 1) else d
          rw [if_pos ⟨by omega, w⟩]
        refine ⟨fun z => absurd z (by decide), fun _ => ⟨fun q => ?_, fun q => ⟨vin k3, ?_⟩⟩⟩
        · have := le_of q (iL 4) e1
          refine ih (d + 1) (by omega) _ _ e1' (((hF.trans bU_fr).trans bU_fr).mono fun g j i z => ?_) ?_ (by omega) (fun z => absurd z (by omega)) hD'
          · simp only [oL] at z
            omega
          · rw [bU_at, bU_f (by decide)]
            exact inN k3
        · have := nle_of q (iL 4) e1
          refine ih (d + 1) (by omega) _ _ e1' (((hF.trans bU_fr).trans bU_fr).mono fun g j i z => ?_) ?_ (by omega) (fun z => ?_) hD'
          · simp only [oL] at z
            omega
          · rw [bU_at, bU_f (by decide)]
            exact inN k3
          · rw [bU_f (by decide), bU_at, ht, hv (by omega), iL 10, iL 48, iI_mul, iI_add, iI_sub]
            refine iIc ?_
            rw [show d + 1 - e = (d - e) + 1 by omega]
            show _ = 10 * tVl b e (d - e) + b (e + (d - e)) - 48
            rw [show e + (d - e) = d by omega]
            omega
      · have hD' : d = tDg b n (n - e) e := by
          rw [← hD]
          show _ = if d < n ∧ isD (b d) then tDg b n f (d + 1) else d
          rw [if_neg (fun z => w z.2)]
        exact ⟨fun _ => fin d M x1 e1 hF k3 hed (by omega) hv hD'.symm, fun z => absurd rfl z⟩
  refine loop (n - e) e (by omega) _ _ (by rw [Nat.sub_self]; exact l0) (Fr.refl.mono fun _ _ _ z => z.elim) h8 (Nat.le_refl _) (fun _ => ?_) rfl
  rw [Nat.sub_self]
  exact h11
theorem T_next {b : Nat → Int} {n a : Nat} {M0 : bM} {Q : bQ} (hn : n ≤ 80) (h7 : M0 26 0 7 = iI (n : Int)) (h8 : M0 26 0 8 = iI (a : Int)) (ha : a ≤ n) (hb : ∀ i, i < n → M0 29 0 i = iI (b i) ∧ 0 ≤ b i ∧ b i < 256) (K : ∀ M, Fr (fun g _ i => g = 26 ∧ 8 ≤ i ∧ i ≤ 11) M0 M → TK b n a M → Q none M) : bCall 110 [cR 26 0] M0 Q := by
  have fin : ∀ (e : Nat) (M : bM), Fr (fun g _ i => g = 26 ∧ i = 8) M0 M → M 26 0 8 = iI (e : Int) → e ≤ n → tPl b n a = e → (((¬ ((bU (bU (bU M 26 0 9 (M 26 0 8)) 26 0 10 (0 : Int32)) 26 0 11 (0 : Int32)) 26 0 8) = ((bU (bU (bU M 26 0 9 (M 26 0 8)) 26 0 10 (0 : Int32)) 26 0 11 (0 : Int32)) 26 0 7)) → ((vp_in ((bU (bU (bU M 26 0 9 (M 26 0 8)) 26 0 10 (0 : Int32)) 26 0 11 (0 : Int32)) 26 0 8) 80) ∧ (bCall 108 [cI ((bU (bU (bU M 26 0 9 (M 26 0 8)) 26 0 10 (0 : Int32)) 26 0 11 (0 : Int32)) 29 0 ((bU (bU (bU M 26 0 9 (M 26 0 8)) 26 0 10 (0 : Int32)) 26 0 11 (0 : Int32)) 26 0 8).toNatClampNeg)] (bU (bU (bU M 26 0 9 (M 26 0 8)) 26 0 10 (0 : Int32)) 26 0 11 (0 : Int32)) (fun v1 M2 => bV1 v1 fun r3 => (((¬ r3 = 0) → bGo 110 Q 128 [some (cR 26 0), some (cI (0 : Int32))] [] M2) ∧ (¬ (¬ r3 = 0) → ((vp_in (M2 26 0 8) 80) ∧ (bCall 109 [cI (M2 29 0 (M2 26 0 8).toNatClampNeg)] M2 (fun v4 M5 => bV1 v4 fun r6 => (((r6 = 0) → (Q none (bU (bU M5 26 0 10 (-1 : Int32)) 26 0 8 (((bU M5 26 0 10 (-1 : Int32)) 26 0 8) + (1 : Int32))))) ∧ (¬ (r6 = 0) → ((vp_in (M5 26 0 8) 80) ∧ (Q none (bU (bU M5 26 0 10 (M5 29 0 (M5 26 0 8).toNatClampNeg)) 26 0 8 (((bU M5 26 0 10 (M5 29 0 (M5 26 0 8).toNatClampNeg)) 26 0 8) + (1 : Int32)))))))))))))))) ∧ (¬ (¬ ((bU (bU (bU M 26 0 9 (M 26 0 8)) 26 0 10 (0 : Int32)) 26 0 11 (0 : Int32)) 26 0 8) = ((bU (bU (bU M 26 0 9 (M 26 0 8)) 26 0 10 (0 : Int32)) 26 0 11 (0 : Int32)) 26 0 7)) → (Q none (bU (bU (bU M 26 0 9 (M 26 0 8)) 26 0 10 (0 : Int32)) 26 0 11 (0 : Int32))))) := by
    intro e M hF k3 hen hpl
    have hF' : ∀ g j i, ¬ (g = 26 ∧ i = 8) → M g j i = M0 g j i := hF
    have hF1 : Fr (fun g _ i => g = 26 ∧ 8 ≤ i ∧ i ≤ 11) M0 (bU (bU (bU M 26 0 9 (M 26 0 8)) 26 0 10 (0 : Int32)) 26 0 11 (0 : Int32)) := (((hF.trans bU_fr).trans bU_fr).trans bU_fr).mono fun g j i z => by
      simp only [oL] at z
      omega
    have g8 : (bU (bU (bU M 26 0 9 (M 26 0 8)) 26 0 10 (0 : Int32)) 26 0 11 (0 : Int32)) 26 0 8 = iI (e : Int) := by rw [bU_f (by decide), bU_f (by decide), bU_f (by decide)]; exact k3
    have g9 : (bU (bU (bU M 26 0 9 (M 26 0 8)) 26 0 10 (0 : Int32)) 26 0 11 (0 : Int32)) 26 0 9 = iI (e : Int) := by rw [bU_f (by decide), bU_f (by decide), bU_at]; exact k3
    have g10 : (bU (bU (bU M 26 0 9 (M 26 0 8)) 26 0 10 (0 : Int32)) 26 0 11 (0 : Int32)) 26 0 10 = iI 0 := by rw [bU_f (by decide), bU_at]; exact l0
    have g11 : (bU (bU (bU M 26 0 9 (M 26 0 8)) 26 0 10 (0 : Int32)) 26 0 11 (0 : Int32)) 26 0 11 = iI 0 := by rw [bU_at]; exact l0
    have g7 : (bU (bU (bU M 26 0 9 (M 26 0 8)) 26 0 10 (0 : Int32)) 26 0 11 (0 : Int32)) 26 0 7 = iI (n : Int) := by rw [bU_f (by decide), bU_f (by decide), bU_f (by decide), hF' _ _ _ (by omega)]; exact h7
    have g29 : ∀ i, i < n → (bU (bU (bU M 26 0 9 (M 26 0 8)) 26 0 10 (0 : Int32)) 26 0 11 (0 : Int32)) 29 0 i = iI (b i) ∧ 0 ≤ b i ∧ b i < 256 := fun i hi => by
      rw [bU_ne (by omega), bU_ne (by omega), bU_ne (by omega), hF' _ _ _ (by omega)]
      exact hb i hi
    generalize bU (bU (bU M 26 0 9 (M 26 0 8)) 26 0 10 (0 : Int32)) 26 0 11 (0 : Int32) = M1 at hF1 g8 g9 g10 g11 g7 g29 ⊢
    have e4 : tTok b n a = if n ≤ e then -1 else if isD (b e) then (if tDg b n (n - e) e - e ≤ 4 then -2 else -3) else if isG (b e) then b e else -3 := by
      unfold tTok tEn
      rw [hpl]
    have e3 : tNx b n a = if n ≤ e then e else if isD (b e) then tDg b n (n - e) e else e + 1 := by
      unfold tNx tEn
      rw [hpl]
    have e6 : tVal b n a = tVl b e (tDg b n (n - e) e - e) := by
      unfold tVal tEn
      rw [hpl]
    unfold TK at K
    rw [e4, e3, hpl, e6] at K
    refine ⟨fun q => ?_, fun q => ?_⟩
    · have hne : ¬ n ≤ e := fun z => q (by rw [g8, g7]; exact iIc (by omega))
      refine ⟨vin g8, ?_⟩
      rw [if_neg hne, if_neg hne] at K
      obtain ⟨t1, t2, t3⟩ := g29 e (by omega)
      have ht : M1 29 0 (M1 26 0 8).toNatClampNeg = iI (b e) := by
        rw [g8, cl_of (n := e) rfl]
        exact t1
      rw [ht]
      refine T_isDigit rfl t2 t3 (fun w => ?_) fun w => ?_
      · rw [if_pos w, if_pos w] at K
        refine ⟨fun _ => ?_, fun z => absurd (by decide) z⟩
        refine T_nextN hn g7 g8 g11 hen g29 fun M2 hF2 c3 c4 c6 => K M2 ((hF1.trans hF2).mono fun g j i z => ?_) ⟨c3, ?_, ?_, fun z => c6 ?_⟩
        · simp only [oL] at z
          omega
        · rw [hF2 _ _ _ (by omega)]
          exact g9
        · rw [c4]
          by_cases y : tDg b n (n - e) e - e ≤ 4
          · rw [if_pos y, if_pos y]
            rfl
          · rw [if_neg y, if_neg y]
            rfl
        · refine Classical.byContradiction fun y => ?_
          rw [if_neg y] at z
          exact absurd z (by decide)
      · rw [if_neg w, if_neg w] at K
        refine ⟨fun z => absurd rfl z, fun _ => ⟨vin g8, ?_⟩⟩
        rw [ht]
        refine T_isSign rfl t2 t3 (fun y => ?_) fun y => ?_
        · rw [if_pos y] at K
          refine ⟨fun z => absurd z (by decide), fun _ => ⟨vin g8, ?_⟩⟩
          refine K _ (((hF1.trans bU_fr).trans bU_fr).mono fun g j i z => ?_) ⟨?_, ?_, ?_, fun z => absurd z (by omega)⟩
          · simp only [oL] at z
            omega
          · rw [bU_at, bU_f (by decide)]
            exact inN g8
          · rw [bU_f (by decide), bU_f (by decide)]
            exact g9
          · rw [bU_f (by decide), bU_at, ht]
            unfold mt
            rw [if_neg (by omega), if_neg (by omega), if_neg (by omega)]
        · rw [if_neg y] at K
          refine ⟨fun _ => ?_, fun z => absurd rfl z⟩
          refine K _ (((hF1.trans bU_fr).trans bU_fr).mono fun g j i z => ?_) ⟨?_, ?_, ?_, fun z => absurd z (by decide)⟩
          · simp only [oL] at z
            omega
          · rw [bU_at, bU_f (by decide)]
            exact inN g8
          · rw [bU_f (by decide), bU_f (by decide)]
            exact g9
          · rw [bU_f (by decide), bU_at]
            rfl
    · have hge := eq_of (Decidable.of_not_not q) g8 g7
      have hne : n ≤ e := by omega
      rw [if_pos hne, if_pos hne] at K
      exact K _ hF1 ⟨g8, g9, g10, fun z => absurd z (by decide)⟩
  have loop : ∀ (f e : Nat), e + f = n → ∀ (M : bM) (o1 : Option bV), Fr (fun g _ i => g = 26 ∧ i = 8) M0 M → M 26 0 8 = iI (e : Int) → tSk b n f e = tPl b n a → bGo 110 Q 0 [some (cR 26 0), o1] [] M := by
    intro f
    induction f with
    | zero =>
      intro e he M o1 hF k3 hD
      have hsz : M 26 0 7 = iI (n : Int) := by rw [hF _ _ _ (by omega)]; exact h7
      exact g_X7_next_0 ⟨fun _ => fin e M hF k3 (by omega) hD.symm, fun q => absurd (nle_of q hsz k3) (by omega)⟩
    | succ f ih =>
      intro e he M o1 hF k3 hD
      have hsz : M 26 0 7 = iI (n : Int) := by rw [hF _ _ _ (by omega)]; exact h7
      obtain ⟨t1, t2, t3⟩ := hb e (by omega)
      have ht : M 29 0 (M 26 0 8).toNatClampNeg = iI (b e) := by
        rw [k3, cl_of (n := e) rfl, hF _ _ _ (by omega)]
        exact t1
      have hD2 : (if e < n ∧ b e = 32 then tSk b n f (e + 1) else e) = tPl b n a := hD
      refine g_X7_next_0 ⟨fun q => absurd (le_of q hsz k3) (by omega), fun _ => ⟨vin k3, ?_⟩⟩
      rw [ht]
      refine ⟨fun q => ?_, fun q => ?_⟩
      · have hne : b e ≠ 32 := fun z => q (by rw [z]; rfl)
        rw [if_neg (fun z => hne z.2)] at hD2
        exact fin e M hF k3 (by omega) hD2.symm
      · have he32 := eq_of (a := b e) (b := 32) (Decidable.of_not_not q) rfl l32
        rw [if_pos ⟨by omega, he32⟩] at hD2
        refine ih (e + 1) (by omega) _ _ ((hF.trans bU_fr).mono fun g j i z => ?_) ?_ hD2
        · simp only [oL] at z
          omega
        · rw [bU_at]
          exact inN k3
  exact g_X7_next_e (o1 := none) (loop (n - a) a (by omega) M0 _ (Fr.refl.mono fun _ _ _ z => z.elim) h8 rfl)
