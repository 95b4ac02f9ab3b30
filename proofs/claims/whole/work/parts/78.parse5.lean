-- needs: 06 08 09 10 11 12 13 14 15 16 17 18 19 26 27 28 29 30 31 32 33 34 35 37 39 41 42 43 45 46 72 73 74 75 77
abbrev frM : Nat → Nat → Nat → Prop := fun g _ i => g = 26 ∧ (8 ≤ i ∧ i ≤ 11 ∨ i = 17 ∨ i = 18 ∨ i = 20 ∨ i = 21) ∨ g = 27 ∨ 30 ≤ g ∧ g ≤ 34
theorem PM.fr {p : Int} {lv : Nat} {σ τ : Nat → Nat → Int} {mn w wp : Nat → Int} {h : Int} {M M' : bM} {L : Nat → Nat → Nat → Prop} (hP : PM p lv σ τ mn w wp h M) (hf : Fr L M M') (hd : ∀ g j i, (g = 26 ∧ (i = 0 ∨ i = 17 ∨ i = 18) ∨ 30 ≤ g ∧ g ≤ 34) → ¬ L g j i) : PM p lv σ τ mn w wp h M' := by
  have e := fun g j i z => hf g j i (hd g j i z)
  obtain ⟨h1, h2, h3, h4⟩ := hP
  refine ⟨(e 26 0 0 (by omega)).trans h1, (e 26 0 17 (by omega)).trans h2, (e 26 0 18 (by omega)).trans h3, fun l hl => ?_⟩
  obtain ⟨a1, a2, a3, a4, a5⟩ := h4 l hl
  exact ⟨fun z k hk => (e 30 0 _ (by omega)).trans (a1 z k hk), fun z y k hk => (e 31 0 _ (by omega)).trans (a2 z y k hk), (e 32 0 l (by omega)).trans a3, (e 33 0 l (by omega)).trans a4, fun z => (e 34 0 l (by omega)).trans (a5 z)⟩
/-- the last level has become another -/
theorem PM.last {p : Int} {lv : Nat} {σ τ : Nat → Nat → Int} {mn w wp : Nat → Int} {h h' : Int} {M M' : bM} {L : Nat → Nat → Nat → Prop} {s t : Nat → Int} {m' w' wp' : Int} (hP : PM p lv σ τ mn w wp h M) (hf : Fr L M M') (hd : ∀ g j i, (g = 26 ∧ (i = 0 ∨ i = 17) ∨ (g = 30 ∨ g = 31) ∧ i < 32 * lv ∨ 32 ≤ g ∧ g ≤ 34 ∧ i < lv) → ¬ L g j i) (hneg : h' < 0 → h < 0) (hh : M' 26 0 18 = iI h') (hs : h' < 0 → ∀ k, k < 32 → M' 30 0 (32 * lv + k) = iI (s k)) (ht : h' < 0 → w' ≠ 0 → ∀ k, k < 32 → M' 31 0 (32 * lv + k) = iI (t k)) (hm : M' 32 0 lv = iI m') (hw : M' 33 0 lv = iI w') (hwp : w' ≠ 0 → M' 34 0 lv = iI wp') : PM p lv (pU σ lv s) (pU τ lv t) (pU mn lv m') (pU w lv w') (pU wp lv wp') h' M' := by
  have e := fun g j i z => hf g j i (hd g j i z)
  obtain ⟨h1, h2, h3, h4⟩ := hP
  refine ⟨(e 26 0 0 (by omega)).trans h1, (e 26 0 17 (by omega)).trans h2, hh, fun l hl => ?_⟩
  by_cases q : l = lv
  · subst q
    rw [up_at, up_at, up_at, up_at, up_at]
    exact ⟨hs, ht, hm, hw, hwp⟩
  · rw [up_ne q, up_ne q, up_ne q, up_ne q, up_ne q]
    obtain ⟨a1, a2, a3, a4, a5⟩ := h4 l hl
    exact ⟨fun z k hk => (e 30 0 _ (by omega)).trans (a1 (hneg z) k hk), fun z y k hk => (e 31 0 _ (by omega)).trans (a2 (hneg z) y k hk), (e 32 0 l (by omega)).trans a3, (e 33 0 l (by omega)).trans a4, fun z => (e 34 0 l (by omega)).trans (a5 z)⟩
theorem PM.pop {p : Int} {lv lv' : Nat} {σ τ : Nat → Nat → Int} {mn w wp : Nat → Int} {h h' : Int} {M M' : bM} {L : Nat → Nat → Nat → Prop} (hP : PM p lv σ τ mn w wp h M) (hlv : lv = lv' + 1) (hf : Fr L M M') (hd : ∀ g j i, (g = 26 ∧ i = 0 ∨ (g = 30 ∨ g = 31) ∧ i < 32 * lv ∨ 32 ≤ g ∧ g ≤ 34 ∧ i < lv) → ¬ L g j i) (hneg : h' < 0 → h < 0) (hh : M' 26 0 18 = iI h') (hl : M' 26 0 17 = iI (lv' : Int)) : PM p lv' σ τ mn w wp h' M' := by
  have e := fun g j i z => hf g j i (hd g j i z)
  obtain ⟨h1, h2, h3, h4⟩ := hP
  refine ⟨(e 26 0 0 (by omega)).trans h1, hl, hh, fun l hl => ?_⟩
  obtain ⟨a1, a2, a3, a4, a5⟩ := h4 l (by omega)
  exact ⟨fun z k hk => (e 30 0 _ (by omega)).trans (a1 (hneg z) k hk), fun z y k hk => (e 31 0 _ (by omega)).trans (a2 (hneg z) y k hk), (e 32 0 l (by omega)).trans a3, (e 33 0 l (by omega)).trans a4, fun z => (e 34 0 l (by omega)).trans (a5 z)⟩
theorem mt_eq {T c : Int} (hT : T = -1 ∨ T = -2 ∨ T = -3 ∨ isG T) (hc : 1 < c) : mt T = c ↔ T = c := by
  unfold mt
  split
  · omega
  · split
    · omega
    · split <;> omega
theorem mt_1 {T : Int} (hT : T = -1 ∨ T = -2 ∨ T = -3 ∨ isG T) : mt T = 1 ↔ T = -2 := by
  unfold mt
  split
  · omega
  · split
    · omega
    · split <;> omega
theorem mt_0 {T : Int} (hT : T = -1 ∨ T = -2 ∨ T = -3 ∨ isG T) : mt T = 0 ↔ T = -1 := by
  unfold mt
  split
  · omega
  · split
    · omega
    · split <;> omega
theorem mt_bd {T : Int} (hT : T = -1 ∨ T = -2 ∨ T = -3 ∨ isG T) : -1 ≤ mt T ∧ mt T < 256 := by
  unfold mt
  split
  · omega
  · split
    · omega
    · split <;> omega
/-- the tape as the model has it -/
def TP (b : Nat → Int) (n : Nat) (M : bM) : Prop := n ≤ 80 ∧ M 26 0 7 = iI (n : Int) ∧ ∀ i, i < n → M 29 0 i = iI (b i) ∧ 0 ≤ b i ∧ b i < 256
theorem TP.fr {b : Nat → Int} {n : Nat} {M M' : bM} {L : Nat → Nat → Nat → Prop} (h : TP b n M) (hf : Fr L M M') (hd : ∀ g j i, (g = 26 ∧ i = 7 ∨ g = 29) → ¬ L g j i) : TP b n M' := by
  obtain ⟨h1, h2, h3⟩ := h
  refine ⟨h1, (hf _ _ _ (hd _ _ _ (by omega))).trans h2, fun i hi => ?_⟩
  rw [hf _ _ _ (hd _ _ _ (by omega))]
  exact h3 i hi
/-- the model looks at the next token -/
theorem T_step {b : Nat → Int} {n a : Nat} {M0 : bM} {Q : bQ} (hTP : TP b n M0) (ha : a ≤ n) (h8 : M0 26 0 8 = iI (a : Int)) (K : ∀ M, Fr (fun g _ i => g = 26 ∧ 8 ≤ i ∧ i ≤ 11) M0 M → TK b n a M → Q none M) : bCall 110 [cR 26 0] M0 Q := T_next hTP.1 hTP.2.1 h8 ha hTP.2.2 K
theorem T_beginsPart {p h : Int} {lv n a : Nat} {b : Nat → Int} {σ τ : Nat → Nat → Int} {mn w wp : Nat → Int} {M0 : bM} {Q : bQ} (h2 : 2 ≤ p) (h4 : p ≤ 997) (hR : PR p lv σ τ mn w wp h) (hP : PM p lv σ τ mn w wp h M0) (hTP : TP b n M0) (ha : a ≤ n) (hTK : TK b n a M0)
    (K1 : tTok b n a = 40 → lv < 4 → ∀ M, Fr frM M0 M → PM p (lv + 1) (pU σ (lv + 1) (fun _ => 0)) (pU τ (lv + 1) (cst 1)) (pU mn (lv + 1) 0) (pU w (lv + 1) 0) (pU wp (lv + 1) 0) h M → M 26 0 20 = iI 2 → TK b n (tNx b n a) M → Q (some (cI (1 : Int32))) M)
    (K2 : tTok b n a = 120 ∨ tTok b n a = -2 → ∀ M, Fr frM M0 M → PM p lv σ τ mn w wp h M → M 26 0 20 = iI 0 → M 26 0 21 = iI 1 → (∀ k, k < 32 → M 27 3 k = iI (aP p (tTok b n a) (tVal b n a) k)) → TK b n (tNx b n a) M → Q (some (cI (1 : Int32))) M)
    (K3 : ¬ (tTok b n a = 40 ∧ lv < 4) → tTok b n a ≠ 120 → tTok b n a ≠ -2 → Q (some (cI (0 : Int32))) M0) : bCall 112 [cR 26 0] M0 Q := by
  obtain ⟨tb1, tb2, tb3, tb4, tb5, tb6⟩ := tok_bd (b := b) ha
  obtain ⟨k8, k9, k10, k11⟩ := hTK
  have hP0 := hP
  obtain ⟨p0, p17, p18, pl⟩ := hP0
  have hl4 := hR.1
  generalize tTok b n a = T at *
  have mb := mt_bd tb5
  have hT' : ∀ {y : Int32} {c : Int}, y = iI c → -2147483648 ≤ c → c < 2147483648 → (M0 26 0 10 = y ↔ mt T = c) := fun {y c} hy c1 c2 => by rw [k10, hy, iI_eq (by omega) (by omega) c1 c2]
  have t40 := (hT' (y := 40) (c := 40) rfl (by omega) (by omega)).trans (mt_eq tb5 (by omega))
  have t120 := (hT' (y := 120) (c := 120) rfl (by omega) (by omega)).trans (mt_eq tb5 (by omega))
  have t1 := (hT' (y := 1) (c := 1) rfl (by omega) (by omega)).trans (mt_1 tb5)
  -- an atom
  have atom : T = 120 ∨ T = -2 → ∀ (z : Int) (x : Int32), z = (if T = 120 then 1 else 0) → x = iI z → ∀ (M1 : bM) (c : Int), Blk M0 M1 27 3 0 32 (cst c) → c = (if T = 120 then 0 else tVal b n a % p) → bCall 110 [cR 26 0] (bU (bU (bU M1 27 3 (1 : Int32).toNatClampNeg x) 26 0 20 (0 : Int32)) 26 0 21 (1 : Int32)) (fun v3 M4 => bV0 v3 (((1 : Int32) = 0 ∨ (1 : Int32) = 1) ∧ Q (some (cI (1 : Int32))) M4)) := by
    intro hq z x hz hx M1 c hB hc
    have hF := ((hB.fr.trans (bU_fr (g := 27) (j := 3) (i := (1 : Int32).toNatClampNeg) (x := x))).trans (bU_fr (g := 26) (j := 0) (i := 20) (x := (0 : Int32)))).trans (bU_fr (g := 26) (j := 0) (i := 21) (x := (1 : Int32)))
    refine T_step (hTP.fr hF fun g j i y => ?_) tb3 ?_ fun M2 hF2 hTK2 => ⟨Or.inr rfl, ?_⟩
    · simp only [oL]
      omega
    · rw [bU_ne (by omega), bU_ne (by omega), bU_ne (by omega), hB.keep (by omega)]
      exact k8
    · have hP2 : PM p lv σ τ mn w wp h M2 := hP.fr (hF.trans hF2) fun g j i y => by
        simp only [oL]
        omega
      refine K2 hq M2 ((hF.trans hF2).mono fun g j i y => ?_) hP2 ?_ ?_ (fun k hk => ?_) hTK2
      · simp only [oL] at y
        simp only [frM]
        omega
      · rw [hF2 _ _ _ (by omega), bU_ne (by omega), bU_at]
        exact l0
      · rw [hF2 _ _ _ (by omega), bU_at]
        exact l1
      · rw [hF2 _ _ _ (by omega), bU_ne (by omega), bU_ne (by omega), show (1 : Int32).toNatClampNeg = 1 from rfl]
        unfold aP
        by_cases hk1 : k = 1
        · subst hk1
          rw [bU_at, hx, hz]
          by_cases y : T = 120
          · rw [if_pos y, if_pos y, if_pos rfl]
          · rw [if_neg y, if_neg y]
            rfl
        · rw [bU_ne (by omega), hB.at (by omega) hk, hc]
          by_cases y : T = 120
          · rw [if_pos y, if_pos y, if_neg hk1]
            refine iIc ?_
            unfold cst
            split <;> rfl
          · rw [if_neg y, if_neg y]
  refine g_X7_beginsPart_0 ?_
  rw [t40, t120, t1]
  refine ⟨fun q => ⟨fun q1 => ⟨fun z => absurd q1 z, fun _ => ⟨fun z => ?_, ?_⟩⟩, fun q1 => ⟨fun q2 => ⟨fun _ => ?_, fun z => absurd q1 z⟩, fun q2 => ⟨Or.inl rfl, K3 (fun z => q z.1) q2 q1⟩⟩⟩, fun q => ⟨fun q4 => ?_, fun q4 => ⟨Or.inl rfl, K3 (fun z => ?_) ?_ ?_⟩⟩⟩
  · have := eq_of z p0 l0
    omega
  · have hv := tb6 q1
    rw [k11 q1, p0, iI_remN (by omega) (by omega) (by omega) (by omega)]
    refine T_setsTo rfl fun M1 hB1 => ⟨fun z => ⟨vin l1, Or.inr rfl, atom (Or.inr q1) 0 0 (by rw [if_neg (by omega)]) l0 M1 _ hB1 (by rw [if_neg (by omega)])⟩, fun z => absurd (Decidable.of_not_not z) ?_⟩
    rw [hB1.keep (by omega), t120]
    omega
  · refine T_setsTo l0 fun M1 hB1 => ⟨fun z => absurd ?_ z, fun z => ⟨vin l1, Or.inr rfl, atom (Or.inl q2) 1 1 (by rw [if_pos q2]) l1 M1 _ hB1 (by rw [if_pos q2])⟩⟩
    rw [hB1.keep (by omega), t120]
    exact q2
  · have hT40 := Decidable.of_not_not q
    have hne : lv ≠ 4 := fun z => q4 (by rw [p17, z]; rfl)
    refine T_begins (l := lv + 1) (by rw [bU_at]; exact inN p17) (by omega) fun M1 hF1 y1 y2 y3 => ?_
    have hF := ((bU_fr (M := M0) (g := 26) (j := 0) (i := 17) (x := M0 26 0 17 + (1 : Int32))).trans hF1).trans (bU_fr (g := 26) (j := 0) (i := 20) (x := (2 : Int32)))
    refine T_step (hTP.fr hF fun g j i y => ?_) tb3 ?_ fun M2 hF2 hTK2 => ⟨Or.inr rfl, ?_⟩
    · simp only [oL]
      omega
    · rw [bU_ne (by omega), hF1 _ _ _ (by omega), bU_ne (by omega)]
      exact k8
    · refine K1 hT40 (by omega) M2 ((hF.trans hF2).mono fun g j i y => ?_) ⟨?_, ?_, ?_, fun l hl => ?_⟩ ?_ hTK2
      · simp only [oL] at y
        simp only [frM]
        omega
      · rw [hF2 _ _ _ (by omega), bU_ne (by omega), hF1 _ _ _ (by omega), bU_ne (by omega)]
        exact p0
      · rw [hF2 _ _ _ (by omega), bU_ne (by omega), hF1 _ _ _ (by omega), bU_at]
        exact inN p17
      · rw [hF2 _ _ _ (by omega), bU_ne (by omega), hF1 _ _ _ (by omega), bU_ne (by omega)]
        exact p18
      · by_cases ql : l = lv + 1
        · subst ql
          rw [up_at, up_at, up_at, up_at, up_at]
          refine ⟨fun _ k hk => ?_, fun _ z => absurd rfl z, ?_, ?_, fun z => absurd rfl z⟩
          · rw [hF2 _ _ _ (by omega), bU_ne (by omega)]
            exact y1 k hk
          · rw [hF2 _ _ _ (by omega), bU_ne (by omega)]
            exact y2
          · rw [hF2 _ _ _ (by omega), bU_ne (by omega)]
            exact y3
        · rw [up_ne ql, up_ne ql, up_ne ql, up_ne ql, up_ne ql]
          obtain ⟨a1, a2, a3, a4, a5⟩ := pl l (by omega)
          have old : ∀ g i, (g = 30 ∨ g = 31) ∧ i < 32 * l + 32 ∨ 32 ≤ g ∧ g ≤ 34 ∧ i = l → M2 g 0 i = M0 g 0 i := fun g i y => by
            rw [hF2 _ _ _ (by omega), bU_ne (by omega), hF1 _ _ _ (by omega), bU_ne (by omega)]
          exact ⟨fun z k hk => (old _ _ (by omega)).trans (a1 z k hk), fun z y k hk => (old _ _ (by omega)).trans (a2 z y k hk), (old _ _ (by omega)).trans a3, (old _ _ (by omega)).trans a4, fun z => (old _ _ (by omega)).trans (a5 z)⟩
      · rw [hF2 _ _ _ (by omega), bU_at]
        rfl
  · have := eq_of (Decidable.of_not_not q4) p17 (iL 4)
    omega
  · have := Decidable.of_not_not q
    omega
  · have := Decidable.of_not_not q
    omega
