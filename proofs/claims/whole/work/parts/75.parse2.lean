-- needs: 06 08 09 10 11 12 13 14 15 16 17 18 19 26 27 28 29 30 31 32 33 34 35 37 39 41 42 43 45 46 72 73 74
/-- numbers of an open text are as they may be -/
def PR (p : Int) (lv : Nat) (σ τ : Nat → Nat → Int) (mn w wp : Nat → Int) (h : Int) : Prop := lv ≤ 4 ∧ -1 ≤ h ∧ h ≤ 80 ∧ ∀ l, l ≤ lv → (∀ k, k < 32 → 0 ≤ σ l k ∧ σ l k < p) ∧ (∀ k, k < 32 → 0 ≤ τ l k ∧ τ l k < p) ∧ (mn l = 0 ∨ mn l = 1) ∧ (w l = 0 ∨ w l = 42 ∨ w l = 47) ∧ (0 ≤ wp l ∧ wp l ≤ 80) ∧ (w l = 0 → ∀ k, k < 32 → τ l k = cst 1 k)
/-- the class has them -/
def PC (p : Int) (lv : Nat) (σ τ : Nat → Nat → Int) (mn w wp : Nat → Int) (h : Int) (M : bM) : Prop := M 1 0 0 = iI p ∧ M 2 0 10 = iI (lv : Int) ∧ M 2 0 9 = iI h ∧ ∀ l, l ≤ lv → (∀ k, k < 32 → M 7 (13 + l) k = iI (σ l k)) ∧ (∀ k, k < 32 → M 7 (18 + l) k = iI (τ l k)) ∧ M 14 0 l = iI (mn l) ∧ M 10 0 l = iI (if w l = 0 then 42 else w l) ∧ (w l ≠ 0 → M 10 1 l = iI (wp l))
/-- what the class's reader changes as it reads a token -/
abbrev frA : Nat → Nat → Nat → Prop := fun g j i => g = 2 ∧ (i = 7 ∨ i = 9 ∨ i = 10) ∨ g = 7 ∧ 12 ≤ j ∧ j ≤ 28 ∨ g = 10 ∨ g = 14
theorem PC.fr {p : Int} {lv : Nat} {σ τ : Nat → Nat → Int} {mn w wp : Nat → Int} {h : Int} {M M' : bM} {L : Nat → Nat → Nat → Prop} (hP : PC p lv σ τ mn w wp h M) (hf : Fr L M M') (hd : ∀ g j i, (g = 1 ∨ g = 2 ∧ (i = 9 ∨ i = 10) ∨ g = 7 ∧ (13 ≤ j ∧ j ≤ 13 + lv ∨ 18 ≤ j ∧ j ≤ 18 + lv) ∨ g = 14 ∧ i ≤ lv ∨ g = 10 ∧ i ≤ lv) → ¬ L g j i) : PC p lv σ τ mn w wp h M' := by
  have e := fun g j i z => hf g j i (hd g j i z)
  obtain ⟨h1, h2, h3, h4⟩ := hP
  refine ⟨(e 1 0 0 (by omega)).trans h1, (e 2 0 10 (by omega)).trans h2, (e 2 0 9 (by omega)).trans h3, fun l hl => ?_⟩
  obtain ⟨a1, a2, a3, a4, a5⟩ := h4 l hl
  exact ⟨fun k hk => (e 7 _ k (by omega)).trans (a1 k hk), fun k hk => (e 7 _ k (by omega)).trans (a2 k hk), (e 14 0 l (by omega)).trans a3, (e 10 0 l (by omega)).trans a4, fun hw => (e 10 1 l (by omega)).trans (a5 hw)⟩
/-- the last level has become another -/
theorem PC.last {p : Int} {lv : Nat} {σ τ : Nat → Nat → Int} {mn w wp : Nat → Int} {h h' : Int} {M M' : bM} {L : Nat → Nat → Nat → Prop} {s t : Nat → Int} {m' w' wp' : Int} (hP : PC p lv σ τ mn w wp h M) (hf : Fr L M M') (hd : ∀ g j i, (g = 1 ∨ g = 2 ∧ i = 10 ∨ g = 7 ∧ (13 ≤ j ∧ j < 13 + lv ∨ 18 ≤ j ∧ j < 18 + lv) ∨ g = 14 ∧ i < lv ∨ g = 10 ∧ i < lv) → ¬ L g j i) (hh : M' 2 0 9 = iI h') (hs : ∀ k, k < 32 → M' 7 (13 + lv) k = iI (s k)) (ht : ∀ k, k < 32 → M' 7 (18 + lv) k = iI (t k)) (hm : M' 14 0 lv = iI m') (hw : M' 10 0 lv = iI (if w' = 0 then 42 else w')) (hwp : w' ≠ 0 → M' 10 1 lv = iI wp') : PC p lv (pU σ lv s) (pU τ lv t) (pU mn lv m') (pU w lv w') (pU wp lv wp') h' M' := by
  have e := fun g j i z => hf g j i (hd g j i z)
  obtain ⟨h1, h2, h3, h4⟩ := hP
  refine ⟨(e 1 0 0 (by omega)).trans h1, (e 2 0 10 (by omega)).trans h2, hh, fun l hl => ?_⟩
  by_cases q : l = lv
  · subst q
    rw [up_at, up_at, up_at, up_at, up_at]
    exact ⟨hs, ht, hm, hw, hwp⟩
  · rw [up_ne q, up_ne q, up_ne q, up_ne q, up_ne q]
    obtain ⟨a1, a2, a3, a4, a5⟩ := h4 l hl
    exact ⟨fun k hk => (e 7 _ k (by omega)).trans (a1 k hk), fun k hk => (e 7 _ k (by omega)).trans (a2 k hk), (e 14 0 l (by omega)).trans a3, (e 10 0 l (by omega)).trans a4, fun hw => (e 10 1 l (by omega)).trans (a5 hw)⟩
/-- the level ahead -/
theorem PC.pop {p : Int} {lv lv' : Nat} {σ τ : Nat → Nat → Int} {mn w wp : Nat → Int} {h h' : Int} {M M' : bM} {L : Nat → Nat → Nat → Prop} (hP : PC p lv σ τ mn w wp h M) (hlv : lv = lv' + 1) (hf : Fr L M M') (hd : ∀ g j i, (g = 1 ∨ g = 7 ∧ (13 ≤ j ∧ j < 13 + lv ∨ 18 ≤ j ∧ j < 18 + lv) ∨ g = 14 ∧ i < lv ∨ g = 10 ∧ i < lv) → ¬ L g j i) (hh : M' 2 0 9 = iI h') (hl : M' 2 0 10 = iI (lv' : Int)) : PC p lv' σ τ mn w wp h' M' := by
  have e := fun g j i z => hf g j i (hd g j i z)
  obtain ⟨h1, h2, h3, h4⟩ := hP
  refine ⟨(e 1 0 0 (by omega)).trans h1, hl, hh, fun l hl => ?_⟩
  obtain ⟨a1, a2, a3, a4, a5⟩ := h4 l (by omega)
  exact ⟨fun k hk => (e 7 _ k (by omega)).trans (a1 k hk), fun k hk => (e 7 _ k (by omega)).trans (a2 k hk), (e 14 0 l (by omega)).trans a3, (e 10 0 l (by omega)).trans a4, fun hw => (e 10 1 l (by omega)).trans (a5 hw)⟩
theorem S_open {p : Int} {l : Nat} {M0 : bM} {Q : bQ} {x1 : Int32} (hp : M0 1 0 0 = iI p) (h2 : 2 ≤ p) (h4 : p ≤ 997) (e1 : x1 = iI (l : Int)) (hl : l ≤ 4) (K : ∀ M, Fr (fun g j i => g = 2 ∧ (i = 7 ∨ i = 10) ∨ g = 7 ∧ (j = 13 + l ∨ j = 18 + l) ∨ g = 10 ∧ j = 0 ∧ i = l ∨ g = 14 ∧ i = l) M0 M → M 2 0 7 = iI 0 → M 2 0 10 = iI (l : Int) → (∀ k, k < 32 → M 7 (13 + l) k = iI 0) → (∀ k, k < 32 → M 7 (18 + l) k = iI (cst 1 k)) → M 10 0 l = iI 42 → M 14 0 l = iI 0 → Q none M) : bCall 39 [cR 2 0, cI x1] M0 Q := by
  refine g_X4_open_0 ?_
  rw [bU_at]
  refine ⟨vin e1, ?_⟩
  rw [cl_of e1]
  refine S_fill7 l0 fun M1 hB1 => ?_
  have k1 : M1 2 0 10 = iI (l : Int) := by rw [hB1.keep (by omega), bU_at]; exact e1
  refine ⟨vin k1, ?_⟩
  rw [cl_of k1]
  refine S_constant (p := p) (by rw [hB1.keep (by omega), bU_ne (by omega)]; exact hp) (by omega) h4 l1 (by omega) (by omega) fun M2 hB2 => ?_
  have k2 : M2 2 0 10 = iI (l : Int) := by rw [hB2.keep (by omega)]; exact k1
  refine ⟨vin k2, ?_⟩
  rw [bU_ne (M := M2) (by omega : ¬ ((2 : Nat) = 10 ∧ (0 : Nat) = 0 ∧ (10 : Nat) = _)), cl_of k2]
  refine ⟨⟨vin k2, Or.inl rfl⟩, ?_⟩
  refine K _ (((((bU_fr.trans hB1.fr).trans hB2.fr).trans bU_fr).trans (bU_fr.trans bU_fr)).mono fun g j i z => ?_) ?_ ?_ (fun k hk => ?_) (fun k hk => ?_) ?_ ?_
  · simp only [oL] at z
    omega
  · rw [bU_at]
    exact l0
  · rw [bU_ne (by omega), bU_ne (by omega), bU_ne (by omega)]
    exact k2
  · rw [bU_ne (by omega), bU_ne (by omega), bU_ne (by omega), hB2.keep (by omega), hB1.at (by omega) hk]
  · rw [bU_ne (by omega), bU_ne (by omega), bU_ne (by omega), hB2.at (by omega) hk, Int.emod_eq_of_lt (by omega) (by omega)]
  · rw [bU_ne (by omega), bU_ne (by omega), bU_at]
    rfl
  · rw [bU_ne (by omega), bU_at]
    exact l0
theorem S_stop {M0 : bM} {Q : bQ} (K : ∀ M, Fr (fun g _ i => g = 2 ∧ (i = 7 ∨ i = 8)) M0 M → M 2 0 7 = iI 5 → M 2 0 8 = M0 2 0 5 → Q none M) : bCall 40 [cR 2 0] M0 Q := g_X4_stop_0 (K _ ((bU_fr.trans bU_fr).mono fun g j i z => by simp only [oL] at z; omega) (by rw [bU_at]; rfl) (by rw [bU_f (by decide), bU_at]))
theorem S_acceptPower {p T v : Int} {lv : Nat} {π : Nat → Int} {M0 : bM} {Q : bQ} (hp : M0 1 0 0 = iI p) (h2 : 2 ≤ p) (h4 : p ≤ 997) (hlv : M0 2 0 10 = iI (lv : Int)) (hl4 : lv ≤ 4) (hT : M0 2 0 4 = iI T) (hT1 : -3 ≤ T) (hT2 : T < 256) (hv : T = -2 → M0 2 0 6 = iI v ∧ 0 ≤ v ∧ v ≤ 9999) (hπ : ∀ k, k < 32 → M0 7 (23 + lv) k = iI (π k) ∧ 0 ≤ π k ∧ π k < p) (K1 : T = -2 → v ≤ 40 → ∀ M, Fr (fun g j i => g = 7 ∧ (j = 23 + lv ∨ j = 28) ∨ g = 2 ∧ i = 7) M0 M → M 2 0 7 = iI 4 → (∀ k, k < 32 → M 7 (23 + lv) k = iI (pwF p π v.toNat k)) → Q none M) (K0 : ¬ (T = -2 ∧ v ≤ 40) → bCall 40 [cR 2 0] M0 (fun v1 M2 => bV0 v1 (Q none M2))) : bCall 42 [cR 2 0] M0 Q := by
  have hT' : ∀ {y : Int32} {c : Int}, y = iI c → -2147483648 ≤ c → c < 2147483648 → (M0 2 0 4 = y ↔ T = c) := fun {y c} hy c1 c2 => by rw [hT, hy, iI_eq (by omega) (by omega) c1 c2]
  refine g_X4_acceptPower_0 ⟨fun q => ?_, fun q => ?_⟩
  · rw [hT' (y := (-2 : Int32)) (c := -2) rfl (by omega) (by omega)] at q
    exact K0 fun z => q z.1
  · rw [hT' (y := (-2 : Int32)) (c := -2) rfl (by omega) (by omega)] at q
    have hT2 := Decidable.of_not_not q
    obtain ⟨v1, v2, v3⟩ := hv hT2
    refine ⟨fun z => ?_, fun z => ?_⟩
    · have hle := le_of z v1 (iL 40)
      have cl : (M0 2 0 10).toNatClampNeg = lv := cl_of hlv
      rw [cl]
      refine ⟨vin hlv, ⟨by decide, by decide, by decide, by decide, by decide⟩, ?_⟩
      have hF := bCp_fr (M := M0) (g := 7) (j := 23 + lv) (g' := 7) (j' := 28) (sp := (0 : Int32)) (dp := (0 : Int32)) (n := (32 : Int32))
      have hbase : ∀ k, k < 32 → (bCp M0 7 (23 + lv) 7 28 (0 : Int32) (0 : Int32) (32 : Int32)) 7 28 k = iI (π k) := fun k hk => by
        rw [bCp_32 hk]
        exact (hπ k hk).1
      generalize bCp M0 7 (23 + lv) 7 28 (0 : Int32) (0 : Int32) (32 : Int32) = M1 at hF hbase ⊢
      have k10 : M1 2 0 10 = iI (lv : Int) := by rw [hF _ _ _ (by omega)]; exact hlv
      refine ⟨vin k10, ?_⟩
      rw [cl_of k10]
      refine S_constant (p := p) (by rw [hF _ _ _ (by omega)]; exact hp) (by omega) h4 l1 (by omega) (by omega) fun M2 hB2 => ?_
      have loop : ∀ (n e : Nat), e + n = v.toNat → ∀ (M : bM) (x1 : Int32), x1 = iI (e : Int) → Fr (fun g j _ => g = 7 ∧ j = 23 + lv) M1 M → (∀ k, k < 32 → M 7 (23 + lv) k = iI (pwF p π e k)) → bGo 42 Q 62 [some (cR 2 0), some (cI x1)] [] M := by
        intro n
        have old : ∀ (M : bM), Fr (fun g j _ => g = 7 ∧ j = 23 + lv) M1 M → M 2 0 6 = iI v := fun M hFM => by
          rw [hFM _ _ _ (by omega), hF _ _ _ (by omega)]
          exact v1
        induction n with
        | zero =>
          intro e he M x1 e1 hFM hpw
          have : e = v.toNat := by omega
          subst this
          refine g_X4_acceptPower_62 ⟨fun _ => K1 hT2 (by omega) _ (((hF.trans hFM).trans bU_fr).mono fun g j i z => ?_) ?_ fun k hk => ?_, fun q => absurd (nle_of q (old M hFM) e1) (by omega)⟩
          · simp only [oL] at z
            omega
          · rw [bU_at]
            rfl
          · rw [bU_ne (by omega)]
            exact hpw k hk
        | succ n ih =>
          intro e he M x1 e1 hFM hpw
          have k10' : M 2 0 10 = iI (lv : Int) := by rw [hFM _ _ _ (by omega)]; exact k10
          refine g_X4_acceptPower_62 ⟨fun q => absurd (le_of q (old M hFM) e1) (by omega), fun _ => ⟨vin k10', vin k10', ?_⟩⟩
          rw [cl_of k10']
          refine S_multiply (f := pwF p π e) (g := π) (p := p) (by rw [hFM _ _ _ (by omega), hF _ _ _ (by omega)]; exact hp) (by omega) h4 (fun k hk => ⟨hpw k hk, pwF_bd h2 e k⟩) (fun k hk => ⟨by rw [hFM _ _ _ (by omega)]; exact hbase k hk, (hπ k hk).2⟩) fun M3 hB3 => ih (e + 1) (by omega) M3 _ (inN e1) ((hFM.trans hB3.fr).mono fun g j i z => ?_) fun k hk => ?_
          · simp only [oL] at z
            omega
          · exact hB3.at (by omega) hk
      refine loop v.toNat 0 (by omega) M2 _ l0 (hB2.fr.mono fun g j i z => by omega) fun k hk => ?_
      rw [hB2.at (by omega) hk, Int.emod_eq_of_lt (by omega) (by omega)]
      rfl
    · have hgt := nle_of z v1 (iL 40)
      exact K0 fun y => by omega
