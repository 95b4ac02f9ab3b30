-- needs: 06 08 09 10 11 12 13 14 15 16 17 18 19 26 27 28 29 30 31 32 33 34 35 37 39 41 42 43 45 46 72 73 74 75 76 77 78 79
theorem PR.last {p : Int} {lv : Nat} {σ τ : Nat → Nat → Int} {mn w wp : Nat → Int} {h h' : Int} {s t : Nat → Int} {m' w' wp' : Int} (hR : PR p lv σ τ mn w wp h) (h1 : -1 ≤ h') (h2 : h' ≤ 80) (hs : ∀ k, k < 32 → 0 ≤ s k ∧ s k < p) (ht : ∀ k, k < 32 → 0 ≤ t k ∧ t k < p) (hm : m' = 0 ∨ m' = 1) (hw : w' = 0 ∨ w' = 42 ∨ w' = 47) (hwp : 0 ≤ wp' ∧ wp' ≤ 80) (h0 : w' = 0 → ∀ k, k < 32 → t k = cst 1 k) : PR p lv (pU σ lv s) (pU τ lv t) (pU mn lv m') (pU w lv w') (pU wp lv wp') h' := by
  obtain ⟨r0, r1, r2, r3⟩ := hR
  refine ⟨r0, h1, h2, fun l hl => ?_⟩
  by_cases q : l = lv
  · subst q
    rw [up_at, up_at, up_at, up_at, up_at]
    exact ⟨hs, ht, hm, hw, hwp, h0⟩
  · rw [up_ne q, up_ne q, up_ne q, up_ne q, up_ne q]
    exact r3 l hl
theorem PR.push {p : Int} {lv : Nat} {σ τ : Nat → Nat → Int} {mn w wp : Nat → Int} {h : Int} (h2 : 2 ≤ p) (hR : PR p lv σ τ mn w wp h) (hl : lv < 4) : PR p (lv + 1) (pU σ (lv + 1) (fun _ => 0)) (pU τ (lv + 1) (cst 1)) (pU mn (lv + 1) 0) (pU w (lv + 1) 0) (pU wp (lv + 1) 0) h := by
  obtain ⟨r0, r1, r2, r3⟩ := hR
  refine ⟨by omega, r1, r2, fun l hl => ?_⟩
  by_cases q : l = lv + 1
  · subst q
    rw [up_at, up_at, up_at, up_at, up_at]
    exact ⟨fun k hk => by show 0 ≤ (0 : Int) ∧ (0 : Int) < p; omega, fun k hk => cst1_bd h2 k, Or.inl rfl, Or.inl rfl, by omega, fun _ k hk => rfl⟩
  · rw [up_ne q, up_ne q, up_ne q, up_ne q, up_ne q]
    exact r3 l (by omega)
theorem PR.pop {p : Int} {lv lv' : Nat} {σ τ : Nat → Nat → Int} {mn w wp : Nat → Int} {h h' : Int} (hR : PR p lv σ τ mn w wp h) (hlv : lv = lv' + 1) (h1 : -1 ≤ h') (h2 : h' ≤ 80) : PR p lv' σ τ mn w wp h' := by
  obtain ⟨r0, r1, r2, r3⟩ := hR
  exact ⟨by omega, h1, h2, fun l hl => r3 l (by omega)⟩
theorem RelT.empty {M : bM} (h1 : M 2 0 2 = iI 0) (h2 : M 26 0 7 = iI 0) : RelT M := ⟨0, by omega, h1, h2, fun _ => 0, fun i hi => absurd hi (Nat.not_lt_zero i)⟩
/-- the tape is empty, nothing else has changed that counts -/
theorem Rels.text {n : Nat} {p : Int} {S : Nat → Nat → Int} {c u : Nat} {L0 : Nat → Nat} {M M' : bM} {L : Nat → Nat → Nat → Prop} (h : Rels n p S c u L0 M) (hf : Fr L M M') (hst : M' 0 0 7 = iI 1) (h1 : M' 2 0 2 = iI 0) (h2 : M' 26 0 7 = iI 0) (hd : ∀ g j i, rdF g j i ∨ rdS g j i ∨ rdC g j i ∨ rdL g j i ∨ rdH g j i → ¬ L g j i) : Rel (n + 1) M' := by
  obtain ⟨y1, y2, y3, y4, y5, y6, y7⟩ := h
  exact ⟨p, S, c, u, L0, y1.fr hf (fun g j i z => hd g j i (Or.inl z)), y2.fr hf (fun g j i z => hd g j i (Or.inr (Or.inl z))), y3.fr hf (fun g j i z => hd g j i (Or.inr (Or.inr (Or.inl z)))), RelT.empty h1 h2, Or.inl hst, (y6.fr hf (fun g j i z => hd g j i (Or.inr (Or.inr (Or.inr (Or.inl z)))))).up (Nat.le_succ n), y7.fr hf (fun g j i z => hd g j i (Or.inr (Or.inr (Or.inr (Or.inr z)))))⟩
theorem Rels.textS {n : Nat} {p : Int} {S : Nat → Nat → Int} {c u : Nat} {L0 : Nat → Nat} {M M' : bM} {L : Nat → Nat → Nat → Prop} {t : Nat} {f : Nat → Int} (h : Rels n p S c u L0 M) (hS : ∀ k, k < 32 → M' 7 t k = iI (f k) ∧ M' 28 0 (32 * t + k) = iI (f k) ∧ 0 ≤ f k ∧ f k < p) (hst : M' 0 0 7 = iI 1) (hf : Fr L M M') (h1 : M' 2 0 2 = iI 0) (h2 : M' 26 0 7 = iI 0)
    (hd : ∀ g j i, rdF g j i ∨ (g = 7 ∧ j < 6 ∧ j ≠ t ∨ g = 28 ∧ ¬ (32 * t ≤ i ∧ i < 32 * t + 32)) ∨ rdC g j i ∨ rdL g j i ∨ rdH g j i → ¬ L g j i) : Rel (n + 1) M' := by
  obtain ⟨y1, y2, y3, y4, y5, y6, y7⟩ := h
  exact ⟨p, _, c, u, L0, y1.fr hf (fun g j i z => hd g j i (Or.inl z)), y2.set hS (fun s k a b => hf _ _ _ (hd _ _ _ (Or.inr (Or.inl (Or.inl ⟨rfl, a, b⟩))))) (fun i a => hf _ _ _ (hd _ _ _ (Or.inr (Or.inl (Or.inr ⟨rfl, a⟩))))), y3.fr hf (fun g j i z => hd g j i (Or.inr (Or.inr (Or.inl z)))), RelT.empty h1 h2, Or.inl hst, (y6.fr hf (fun g j i z => hd g j i (Or.inr (Or.inr (Or.inr (Or.inl z)))))).up (Nat.le_succ n), y7.fr hf (fun g j i z => hd g j i (Or.inr (Or.inr (Or.inr (Or.inr z)))))⟩
/-! THE CLASS, at the head of its loop -/
theorem S_fault {M : bM} {Q : bQ} {s f : Nat} {x2 : Int32} (h7 : M 2 0 7 = iI 5) (h8 : M 2 0 8 = iI (f : Int)) (hf : f ≤ 80) (K : Q (some (cI (iI (-100 - (f : Int))))) (bU M 2 0 2 (0 : Int32))) : bGo 53 Q 22 [some (cR 2 0), some (cR 7 s), some (cI x2)] [] M := by
  have e8 : (bU M 2 0 2 (0 : Int32)) 2 0 8 = iI (f : Int) := by rw [bU_f (by decide)]; exact h8
  have K' : Q (some (cI ((-100 : Int32) - ((bU M 2 0 2 (0 : Int32)) 2 0 8)))) (bU M 2 0 2 (0 : Int32)) := by
    rw [e8, show (-100 : Int32) = iI (-100) from rfl, iI_sub]
    exact K
  exact g_X4_read_22 ⟨fun _ => ⟨fun z => absurd (lt_of z e8 l0) (by omega), fun _ => K'⟩, fun _ => ⟨fun _ => ⟨fun z => absurd (lt_of z e8 l0) (by omega), fun _ => K'⟩, fun z => absurd h7 z⟩⟩
theorem S_done {M : bM} {Q : bQ} {s : Nat} {h : Int} {x2 : Int32} (h7 : M 2 0 7 = iI 5) (h8 : M 2 0 8 = iI (-1)) (h9 : M 2 0 9 = iI h) (h1 : -1 ≤ h) (h2 : h ≤ 80) (K1 : h < 0 → Q (some (cI (1 : Int32))) (bCp (bU M 2 0 2 (0 : Int32)) 7 13 7 s (0 : Int32) (0 : Int32) (32 : Int32))) (K0 : 0 ≤ h → Q (some (cI (iI (-200 - h)))) (bU M 2 0 2 (0 : Int32))) : bGo 53 Q 22 [some (cR 2 0), some (cR 7 s), some (cI x2)] [] M := by
  have e8 : (bU M 2 0 2 (0 : Int32)) 2 0 8 = iI (-1) := by rw [bU_f (by decide)]; exact h8
  have e9 : (bU M 2 0 2 (0 : Int32)) 2 0 9 = iI h := by rw [bU_f (by decide)]; exact h9
  have fin : (((((bU M 2 0 2 (0 : Int32)) 2 0 8) < 0) → (((((bU M 2 0 2 (0 : Int32)) 2 0 9) < 0) → ((vp_in (0 : Int32) 5) ∧ ((¬ (0 : Int32) < 0 ∧ ¬ (0 : Int32) < 0 ∧ ¬ (32 : Int32) < 0 ∧ (0 : Int32).toNatClampNeg + (32 : Int32).toNatClampNeg ≤ 32 ∧ (0 : Int32).toNatClampNeg + (32 : Int32).toNatClampNeg ≤ 32) ∧ (Q (some (cI (1 : Int32))) (bCp (bU M 2 0 2 (0 : Int32)) 7 (13 + (0 : Int32).toNatClampNeg) 7 s (0 : Int32) (0 : Int32) (32 : Int32)))))) ∧ (¬ (((bU M 2 0 2 (0 : Int32)) 2 0 9) < 0) → (Q (some (cI ((-200 : Int32) - ((bU M 2 0 2 (0 : Int32)) 2 0 9)))) (bU M 2 0 2 (0 : Int32)))))) ∧ (¬ (((bU M 2 0 2 (0 : Int32)) 2 0 8) < 0) → (Q (some (cI ((-100 : Int32) - ((bU M 2 0 2 (0 : Int32)) 2 0 8)))) (bU M 2 0 2 (0 : Int32))))) := by
    refine ⟨fun _ => ⟨fun z => ⟨vin l0, ⟨by decide, by decide, by decide, by decide, by decide⟩, K1 (lt_of z e9 l0)⟩, fun z => ?_⟩, fun z => absurd (nlt_of z e8 l0) (by omega)⟩
    rw [e9, show (-200 : Int32) = iI (-200) from rfl, iI_sub]
    exact K0 (nlt_of z e9 l0)
  exact g_X4_read_22 ⟨fun _ => fin, fun _ => ⟨fun _ => fin, fun z => absurd h7 z⟩⟩
theorem S_goes {M : bM} {Q : bQ} {s st c : Nat} {x2 : Int32} (h7 : M 2 0 7 = iI (st : Int)) (hst : st ≤ 4) (e2 : x2 = iI (c : Int)) (hc : c ≤ 80) (K : bCall 52 [cR 2 0] M (fun v1 M2 => bV0 v1 (bCall 46 [cR 2 0] M2 (fun v3 M4 => bV0 v3 (bGo 53 Q 22 [some (cR 2 0), some (cR 7 s), some (cI (x2 + (1 : Int32)))] [] M4))))) : bGo 53 Q 22 [some (cR 2 0), some (cR 7 s), some (cI x2)] [] M := by
  refine g_X4_read_22 ⟨fun q => absurd (lt_of q (iL 80) e2) (by omega), fun _ => ⟨fun q => ?_, fun _ => K⟩⟩
  have := eq_of q h7 (iL 5)
  omega
theorem S_accept0 {M : bM} {Q : bQ} {T : Int} {lv : Nat} (h7 : M 2 0 7 = iI 0) (hT : M 2 0 4 = iI T) (hT1 : -3 ≤ T) (hT2 : T < 256) (h10 : M 2 0 10 = iI (lv : Int)) (hl : lv ≤ 4) (K1 : T = 45 → Q none (bU (bU M 14 0 lv (1 : Int32)) 2 0 7 (1 : Int32))) (K0 : T ≠ 45 → bCall 41 [cR 2 0] M (fun v1 M2 => bV0 v1 (Q none M2))) : bCall 46 [cR 2 0] M Q := by
  refine g_X4_accept_0 ⟨fun q => absurd h7 q, fun _ => ⟨fun q => ⟨fun _ => K0 fun z => q (by rw [hT, z]; rfl), fun z => absurd h7 z⟩, fun q => ⟨⟨vin h10, Or.inr rfl⟩, ?_⟩⟩⟩
  rw [cl_of h10]
  exact K1 (eq_of (Decidable.of_not_not q) hT (iL 45))
theorem S_accept1 {M : bM} {Q : bQ} (h7 : M 2 0 7 = iI 1) (K : bCall 41 [cR 2 0] M (fun v1 M2 => bV0 v1 (Q none M2))) : bCall 46 [cR 2 0] M Q := by
  have h0 : ¬ M 2 0 7 = 0 := by rw [h7]; decide
  exact g_X4_accept_0 ⟨fun _ => ⟨fun z => absurd z h0, fun _ => ⟨fun z => absurd h7 z, fun _ => K⟩⟩, fun z => absurd h0 z⟩
theorem S_accept2 {M : bM} {Q : bQ} {T : Int} (h7 : M 2 0 7 = iI 2) (hT : M 2 0 4 = iI T) (hT1 : -3 ≤ T) (hT2 : T < 256) (K1 : T = 94 → Q none (bU M 2 0 7 (3 : Int32))) (K0 : T ≠ 94 → bCall 45 [cR 2 0] M (fun v1 M2 => bV0 v1 (Q none M2))) : bCall 46 [cR 2 0] M Q := by
  have h0 : ¬ M 2 0 7 = 0 := by rw [h7]; decide
  have h1 : ¬ M 2 0 7 = 1 := by rw [h7]; decide
  have h3 : ¬ M 2 0 7 = 3 := by rw [h7]; decide
  exact g_X4_accept_0 ⟨fun _ => ⟨fun z => absurd z h0, fun _ => ⟨fun _ => ⟨fun _ => ⟨fun z => absurd h7 z, fun _ => ⟨fun q => K0 fun z => q (by rw [hT, z]; rfl), fun q => K1 (eq_of (Decidable.of_not_not q) hT (iL 94))⟩⟩, fun z => absurd h3 z⟩, fun z => absurd h1 z⟩⟩, fun z => absurd h0 z⟩
theorem S_accept3 {M : bM} {Q : bQ} (h7 : M 2 0 7 = iI 3) (K : bCall 42 [cR 2 0] M (fun v1 M2 => bV0 v1 (Q none M2))) : bCall 46 [cR 2 0] M Q := by
  have h0 : ¬ M 2 0 7 = 0 := by rw [h7]; decide
  have h1 : ¬ M 2 0 7 = 1 := by rw [h7]; decide
  exact g_X4_accept_0 ⟨fun _ => ⟨fun z => absurd z h0, fun _ => ⟨fun _ => ⟨fun z => absurd h7 z, fun _ => K⟩, fun z => absurd h1 z⟩⟩, fun z => absurd h0 z⟩
theorem S_accept4 {M : bM} {Q : bQ} (h7 : M 2 0 7 = iI 4) (K : bCall 45 [cR 2 0] M (fun v1 M2 => bV0 v1 (Q none M2))) : bCall 46 [cR 2 0] M Q := by
  have h0 : ¬ M 2 0 7 = 0 := by rw [h7]; decide
  have h1 : ¬ M 2 0 7 = 1 := by rw [h7]; decide
  have h3 : ¬ M 2 0 7 = 3 := by rw [h7]; decide
  have h2 : ¬ M 2 0 7 = 2 := by rw [h7]; decide
  exact g_X4_accept_0 ⟨fun _ => ⟨fun z => absurd z h0, fun _ => ⟨fun _ => ⟨fun _ => ⟨fun _ => K, fun z => absurd h2 z⟩, fun z => absurd h3 z⟩, fun z => absurd h1 z⟩⟩, fun z => absurd h0 z⟩
/-! THE MODEL, at the head of its loop -/
theorem T_fault {M : bM} {Q : bQ} {f : Nat} {x1 : Int32} {o3 : Option bV} (h9 : M 26 0 9 = iI (f : Int)) (K : Q (some (cI (iI (-100 - (f : Int))))) (bU M 26 0 7 (0 : Int32))) : bGo 169 Q 39 [some (cR 26 0), some (cI x1), some (cI (0 : Int32)), o3] [] M := by
  refine g_X7_text_39 ⟨fun _ => ⟨fun z => absurd rfl z, fun _ => ?_⟩, fun z => absurd rfl z⟩
  rw [bU_f (by decide), h9, show (-100 : Int32) = iI (-100) from rfl, iI_sub]
  exact K
theorem T_body {M : bM} {Q : bQ} {x1 : Int32} {o3 : Option bV} {wn : Int} {T : Int} (hT : T = -1 ∨ T = -2 ∨ T = -3 ∨ isG T) (h10 : M 26 0 10 = iI (mt T)) (h20 : M 26 0 20 = iI wn) (hwn : 0 ≤ wn ∧ wn ≤ 2) {lv : Nat} (h17 : M 26 0 17 = iI (lv : Int)) (hlv : lv ≤ 4) (hno : ¬ (T = -1 ∧ wn = 0 ∧ lv = 0)) (K0 : wn = 0 → bCall 143 [cR 26 0] M (fun v5 M6 => bV1 v5 fun r7 => (bGo 169 Q 39 [some (cR 26 0), some (cI x1), some (cI r7), none] [] M6))) (K1 : (wn = 1 ∨ wn = 2 ∧ T ≠ 45) → bCall 112 [cR 26 0] M (fun v5 M6 => bV1 v5 fun r7 => (bGo 169 Q 39 [some (cR 26 0), some (cI x1), some (cI r7), none] [] M6))) (K2 : wn = 2 → T = 45 → bCall 110 [cR 26 0] (bU (bU M 32 0 lv (1 : Int32)) 26 0 20 (1 : Int32)) (fun v17 M18 => bV0 v17 (bGo 169 Q 39 [some (cR 26 0), some (cI x1), some (cI (1 : Int32)), none] [] M18))) : bGo 169 Q 39 [some (cR 26 0), some (cI x1), some (cI (1 : Int32)), o3] [] M := by
  have mb := mt_bd hT
  have h0 : ¬ (1 : Int32) = 0 := by decide
  have w2 : M 26 0 20 = (2 : Int32) ↔ wn = 2 := by rw [h20, iL 2, iI_eq (by omega) (by omega) (by omega) (by omega)]; rfl
  have w0 : M 26 0 20 = (0 : Int32) ↔ wn = 0 := by rw [h20, l0, iI_eq (by omega) (by omega) (by omega) (by omega)]
  have wle : M 26 0 20 ≤ (0 : Int32) ↔ wn = 0 := by
    rw [h20, l0, iI_le (by omega) (by omega) (by omega) (by omega)]
    omega
  have t0 : M 26 0 10 = (0 : Int32) ↔ T = -1 := by
    rw [h10, l0, iI_eq (by omega) (by omega) (by omega) (by omega)]
    exact mt_0 hT
  have t45 : M 26 0 10 = (45 : Int32) ↔ T = 45 := by
    rw [h10, iL 45, iI_eq (by omega) (by omega) (by omega) (by omega)]
    exact mt_eq hT (by omega)
  have lle : M 26 0 17 ≤ (0 : Int32) ↔ lv = 0 := by
    rw [h17, l0, iI_le (by omega) (by omega) (by omega) (by omega)]
    omega
  have two : ((¬ wn = 2 → (wn = 0 → bCall 143 [cR 26 0] M (fun v5 M6 => bV1 v5 fun r7 => (bGo 169 Q 39 [some (cR 26 0), some (cI x1), some (cI r7), none] [] M6))) ∧ (¬ wn = 0 → bCall 112 [cR 26 0] M (fun v8 M9 => bV1 v8 fun r10 => (bGo 169 Q 39 [some (cR 26 0), some (cI x1), some (cI r10), none] [] M9)))) ∧ (¬ ¬ wn = 2 → (¬ T = 45 → (wn = 0 → bCall 143 [cR 26 0] M (fun v11 M12 => bV1 v11 fun r13 => (bGo 169 Q 39 [some (cR 26 0), some (cI x1), some (cI r13), none] [] M12))) ∧ (¬ wn = 0 → bCall 112 [cR 26 0] M (fun v14 M15 => bV1 v14 fun r16 => (bGo 169 Q 39 [some (cR 26 0), some (cI x1), some (cI r16), none] [] M15)))) ∧ (¬ ¬ T = 45 → ((vp_in (M 26 0 17) 5 ∧ ((1 : Int32) = 0 ∨ (1 : Int32) = 1)) ∧ (bCall 110 [cR 26 0] (bU (bU M 32 0 (M 26 0 17).toNatClampNeg (1 : Int32)) 26 0 20 (1 : Int32)) (fun v17 M18 => bV0 v17 (bGo 169 Q 39 [some (cR 26 0), some (cI x1), some (cI (1 : Int32)), none] [] M18))))))) := by
    refine ⟨fun q => ⟨fun z => K0 z, fun z => K1 (by omega)⟩, fun q => ⟨fun q2 => ⟨fun z => K0 z, fun z => K1 (by omega)⟩, fun q2 => ⟨⟨vin h17, Or.inr rfl⟩, ?_⟩⟩⟩
    rw [cl_of h17]
    exact K2 (by omega) (by omega)
  refine g_X7_text_39 ⟨fun z => absurd z h0, fun _ => ?_⟩
  rw [w2, w0, wle, t0, t45, lle]
  exact ⟨fun _ => two, fun q => ⟨fun _ => two, fun q2 => ⟨fun q3 => absurd ⟨Decidable.of_not_not q, Decidable.of_not_not q2, q3⟩ hno, fun _ => two⟩⟩⟩
theorem T_over {M : bM} {Q : bQ} {x1 : Int32} {o3 : Option bV} {T : Int} (hT : T = -1) (h10 : M 26 0 10 = iI (mt T)) (h20 : M 26 0 20 = iI 0) (h17 : M 26 0 17 = iI 0) (K : bCall 132 [cR 26 0] (bU M 26 0 7 (0 : Int32)) (fun v33 M34 => bV0 v33 (bCall 129 [cR 26 0] M34 (fun v35 M36 => bV0 v35 ((((M36 26 0 18) < 0) → bGo 169 Q 168 [some (cR 26 0), some (cI x1), some (cI (1 : Int32)), some (cI (0 : Int32))] [] M36) ∧ (¬ ((M36 26 0 18) < 0) → (Q (some (cI ((-200 : Int32) - (M36 26 0 18)))) M36))))))) : bGo 169 Q 39 [some (cR 26 0), some (cI x1), some (cI (1 : Int32)), o3] [] M := by
  have h0 : ¬ (1 : Int32) = 0 := by decide
  have t0 : M 26 0 10 = (0 : Int32) := by rw [h10, hT]; rfl
  refine g_X7_text_39 ⟨fun z => absurd z h0, fun _ => ⟨fun z => absurd t0 z, fun _ => ⟨fun z => absurd h20 z, fun _ => ⟨fun _ => ⟨fun _ => K, fun z => absurd h0 z⟩, fun z => absurd ?_ z⟩⟩⟩⟩
  rw [h17]
  decide
