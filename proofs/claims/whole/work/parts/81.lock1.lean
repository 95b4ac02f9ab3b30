-- needs: 06 08 09 10 11 12 13 14 15 16 17 18 19 26 27 28 29 30 31 32 33 34 35 37 39 41 42 43 45 46 72 73 74 75 76 77 78 79 80
/-- what the class changes while it reads -/
abbrev frR : Nat → Nat → Nat → Prop := fun g j i => g = 2 ∧ 3 ≤ i ∧ i ≤ 10 ∨ g = 7 ∧ 12 ≤ j ∧ j ≤ 28 ∨ g = 10 ∨ g = 14 ∨ g = 0 ∧ i = 7
/-- .. and at its end, when it tells no series -/
abbrev frN : Nat → Nat → Nat → Prop := fun g j i => g = 2 ∧ 2 ≤ i ∧ i ≤ 10 ∨ g = 7 ∧ 12 ≤ j ∧ j ≤ 28 ∨ g = 10 ∨ g = 14 ∨ g = 0 ∧ i = 7
/-- .. and at its end -/
abbrev frE (s : Nat) : Nat → Nat → Nat → Prop := fun g j i => g = 2 ∧ 2 ≤ i ∧ i ≤ 10 ∨ g = 7 ∧ (12 ≤ j ∧ j ≤ 28 ∨ j = s) ∨ g = 10 ∨ g = 14 ∨ g = 0 ∧ i = 7
/-- the model at the head of its loop, having looked at the token from place a on -/
def MSt (p : Int) (b : Nat → Int) (n a st lv : Nat) (σ τ : Nat → Nat → Int) (mn w wp : Nat → Int) (h : Int) (π : Nat → Int) (M : bM) : Prop := PM p lv σ τ mn w wp h M ∧ TK b n a M ∧ M 26 0 20 = iI (if st = 0 then 2 else if st = 1 then 1 else 0) ∧ (st = 2 ∨ st = 4 → M 26 0 21 = iI (if st = 2 then 1 else 0 : Nat) ∧ (h < 0 → ∀ k, k < 32 → M 27 3 k = iI (π k)))
/-- the model's loop goes on -/
abbrev GM (N : Nat) (x1 r : Int32) (r0 : Int32) : bM → Prop := fun M => bGo 169 (Alike N (some (cI r))) 39 [some (cR 26 0), some (cI x1), some (cI r0), none] [] M
/-- the class's loop goes on -/
abbrev GC (N : Nat) (x1 : Int32) (s : Nat) (x2 : Int32) : bM → Prop := fun M => bGo 53 (fun v M5 => bV1 v fun r6 => bCall 169 [cR 26 0, cI x1] M5 (Alike N (some (cI r6)))) 22 [some (cR 2 0), some (cR 7 s), some (cI x2)] [] M
/-- behind any end of the class the model gets to a head of its loop where P -/
def HMp (Mo : bM) (N : Nat) (x1 : Int32) (s : Nat) (r0 : Int32) (P : bM → Prop) : Prop := ∀ (M1 : bM) (r : Int32), Fr (frE s) Mo M1 → (∀ M2, Fr frM M1 M2 → P M2 → GM N x1 r r0 M2) → bCall 169 [cR 26 0, cI x1] M1 (Alike N (some (cI r)))
/-- .. where it calls mj -/
def HMc (Mo : bM) (N : Nat) (x1 : Int32) (s mj : Nat) (P : bM → Prop) : Prop := ∀ (M1 : bM) (r : Int32), Fr (frE s) Mo M1 → (∀ M2, Fr frM M1 M2 → P M2 → bCall mj [cR 26 0] M2 (fun v5 M6 => bV1 v5 fun r7 => GM N x1 r r7 M6)) → bCall 169 [cR 26 0, cI x1] M1 (Alike N (some (cI r)))
theorem frM_trans {M M1 M2 : bM} (h1 : Fr frM M M1) (h2 : Fr frM M1 M2) : Fr frM M M2 := (h1.trans h2).mono fun g j i z => z.elim id id
/-- the class with a token before it -/
def Scd (Mo : bM) (p : Int) (b : Nat → Int) (n a st lv : Nat) (σ τ : Nat → Nat → Int) (mn w wp : Nat → Int) (h : Int) (π : Nat → Int) (M : bM) : Prop := (PR p lv σ τ mn w wp h ∧ PC p lv σ τ mn w wp h M ∧ (st = 2 ∨ st = 4 → ∀ k, k < 32 → M 7 (23 + lv) k = iI (π k) ∧ 0 ≤ π k ∧ π k < p)) ∧ (M 2 0 3 = iI (tNx b n a : Int) ∧ M 2 0 4 = iI (tTok b n a) ∧ M 2 0 5 = iI (tPl b n a : Int) ∧ (tTok b n a = -2 → M 2 0 6 = iI (tVal b n a) ∧ 0 ≤ tVal b n a ∧ tVal b n a ≤ 9999)) ∧ (M 2 0 7 = iI (st : Int) ∧ M 2 0 8 = iI (-1) ∧ M 0 0 7 = iI 1 ∧ Fr frR Mo M)
/-- the class at the head of its loop -/
def Cls (Mo : bM) (p : Int) (a st lv : Nat) (σ τ : Nat → Nat → Int) (mn w wp : Nat → Int) (h : Int) (π : Nat → Int) (M : bM) : Prop := (PR p lv σ τ mn w wp h ∧ PC p lv σ τ mn w wp h M ∧ (st = 2 ∨ st = 4 → ∀ k, k < 32 → M 7 (23 + lv) k = iI (π k) ∧ 0 ≤ π k ∧ π k < p)) ∧ M 2 0 3 = iI (a : Int) ∧ M 2 0 7 = iI (st : Int) ∧ M 2 0 8 = iI (-1) ∧ M 0 0 7 = iI 1 ∧ Fr frR Mo M
/-- what doesn't change: the relation at the start, the tape -/
def Txt (Mo : bM) (nc : Nat) (p : Int) (S : Nat → Nat → Int) (c u : Nat) (L : Nat → Nat) (x1 : Int32) (s n : Nat) (b : Nat → Int) : Prop := Rels nc p S c u L Mo ∧ s < 6 ∧ x1 = iI (s : Int) ∧ TP b n Mo ∧ Mo 2 0 2 = iI (n : Int) ∧ ∀ i, i < n → Mo 13 0 i = iI (b i)
/-- from place a on (f places at most are left) both answer alike -/
def LK (Mo : bM) (N : Nat) (x1 : Int32) (s : Nat) (p : Int) (b : Nat → Int) (n f : Nat) : Prop := ∀ (a st cc lv : Nat) (σ τ : Nat → Nat → Int) (mn w wp : Nat → Int) (h : Int) (π : Nat → Int) (M : bM) (x2 : Int32), n < a + f → a ≤ n → cc ≤ a → x2 = iI (cc : Int) → (st = 0 ∨ st = 1 ∨ st = 2 ∨ st = 4) → Cls Mo p a st lv σ τ mn w wp h π M → HMp Mo N x1 s 1 (MSt p b n a st lv σ τ mn w wp h π) → GC N x1 s x2 M
theorem frA_R {Mo Ms M2 : bM} (sF : Fr frR Mo Ms) (hA : Fr frA Ms M2) : Fr frR Mo M2 := (sF.trans hA).mono fun g j i z => by
  simp only [oL, frR, frA] at z ⊢
  omega
theorem tpE {Mo M1 M2 : bM} {s n : Nat} {b : Nat → Int} (h : TP b n Mo) (hF1 : Fr (frE s) Mo M1) (hF2 : Fr frM M1 M2) : TP b n M2 := h.fr (hF1.trans hF2) fun g j i z => by
  simp only [oL, frE, frM]
  omega
/-- a fault of both -/
theorem lk_fault {Mo : bM} {nc : Nat} {p : Int} {S : Nat → Nat → Int} {c u : Nat} {L : Nat → Nat} {x1 : Int32} {s n : Nat} {b : Nat → Int} (hX : Txt Mo nc p S c u L x1 s n b) {M2 : bM} {y : Int32} {fl : Nat} (hF2 : Fr frR Mo M2) (k7 : M2 2 0 7 = iI 5) (k8 : M2 2 0 8 = iI (fl : Int)) (hfl : fl ≤ 80) (k07 : M2 0 0 7 = iI 1) (HH : HMp Mo (nc + 1) x1 s 0 (fun M => M 26 0 9 = iI (fl : Int))) : GC (nc + 1) x1 s y M2 := by
  refine S_fault k7 k8 hfl ?_
  have hFE : Fr frN Mo (bU M2 2 0 2 (0 : Int32)) := (hF2.trans bU_fr).mono fun g j i z => by
    simp only [oL, frR, frN] at z ⊢
    omega
  refine HH _ _ (hFE.mono fun g j i z => by simp only [frE, frN] at z ⊢; omega) fun M3 hF3 k9 => ?_
  refine T_fault k9 (alike rfl (hX.1.text ((hFE.trans hF3).trans bU_fr) ?_ ?_ ?_ fun g j i z => ?_))
  · rw [bU_ne (by omega), hF3 _ _ _ (by simp only [frM]; omega), bU_ne (by omega)]
    exact k07
  · rw [bU_ne (by omega), hF3 _ _ _ (by simp only [frM]; omega), bU_at]
    exact l0
  · rw [bU_at]
    exact l0
  · unfold rdF rdS rdC rdL rdH at z
    simp only [oL, frM, frN]
    omega
theorem lk_stop {Mo : bM} {nc : Nat} {p : Int} {S : Nat → Nat → Int} {c u : Nat} {L : Nat → Nat} {x1 : Int32} {s n : Nat} {b : Nat → Int} (hX : Txt Mo nc p S c u L x1 s n b) {M0 : bM} {y : Int32} {fl : Nat} (hF : Fr frR Mo M0) (k5 : M0 2 0 5 = iI (fl : Int)) (hfl : fl ≤ 80) (k07 : M0 0 0 7 = iI 1) (HH : HMp Mo (nc + 1) x1 s 0 (fun M => M 26 0 9 = iI (fl : Int))) : bCall 40 [cR 2 0] M0 (fun v1 M2 => bV0 v1 (GC (nc + 1) x1 s y M2)) := S_stop fun M2 hF2 y7 y8 => by
  refine lk_fault hX ((hF.trans hF2).mono fun g j i z => ?_) y7 (y8.trans k5) hfl ?_ HH
  · simp only [oL, frR] at z ⊢
    omega
  · rw [hF2 _ _ _ (by omega)]
    exact k07
/-- an atom is read by both -/
theorem lk_atom {Mo : bM} {nc : Nat} {p : Int} {S : Nat → Nat → Int} {c u : Nat} {L : Nat → Nat} {x1 : Int32} {s n : Nat} {b : Nat → Int} (hX : Txt Mo nc p S c u L x1 s n b) {f a st cc lv : Nat} {σ τ : Nat → Nat → Int} {mn w wp : Nat → Int} {h : Int} {π : Nat → Int} {M : bM} {x2 : Int32} (ih : LK Mo (nc + 1) x1 s p b n f) (hf : n < a + (f + 1)) (ha : a ≤ n) (hcc : cc ≤ a) (e2 : x2 = iI (cc : Int)) (hS : Scd Mo p b n a st lv σ τ mn w wp h π M) (HM : HMc Mo (nc + 1) x1 s 112 (MSt p b n a st lv σ τ mn w wp h π)) : bCall 41 [cR 2 0] M (fun v1 M2 => bV0 v1 (GC (nc + 1) x1 s (x2 + (1 : Int32)) M2)) := by
  have h2 := hX.1.1.2.2.1
  have h4 := hX.1.1.2.2.2.1
  have hTP := hX.2.2.2.1
  have hn80 := hTP.1
  obtain ⟨⟨hR, sP, hπ⟩, ⟨c3, c4, c5, sv⟩, s7, s8, s07, sF⟩ := hS
  obtain ⟨tb1, tb2, tb3, tb4, tb5, tb6⟩ := tok_bd (b := b) ha
  have ecc : x2 + (1 : Int32) = iI ((cc + 1 : Nat) : Int) := inN e2
  refine S_acceptAtom h2 h4 hR sP c4 (by omega) (by omega) sv (fun z1 z2 M2 hA hP2 k7 => ?_) (fun z1 M2 hA hP2 k7 kπ => ?_) fun z1 z2 z3 => ?_
  · -- a parenthesis
    refine ih (tNx b n a) 0 (cc + 1) (lv + 1) _ _ _ _ _ h π M2 _ (by omega) tb3 (by omega) ecc (Or.inl rfl) ⟨⟨hR.push h2 z2, hP2, fun z => by omega⟩, ?_, k7, ?_, ?_, frA_R sF hA⟩ ?_
    · rw [hA _ _ _ (by simp only [frA]; omega)]
      exact c3
    · rw [hA _ _ _ (by simp only [frA]; omega)]
      exact s8
    · rw [hA _ _ _ (by simp only [frA]; omega)]
      exact s07
    · intro M1 r hF1 K
      exact HM M1 r hF1 fun M3 hF3 hM3 => T_beginsPart h2 h4 hR hM3.1 (tpE hTP hF1 hF3) ha hM3.2.1 (fun _ _ M4 hF4 yP y20 yT => K M4 (frM_trans hF3 hF4) ⟨yP, yT, y20, fun z => by omega⟩) (fun y => by omega) fun y => absurd ⟨z1, z2⟩ y
  · -- x or a number
    refine ih (tNx b n a) 2 (cc + 1) lv σ τ mn w wp h (aP p (tTok b n a) (tVal b n a)) M2 _ (by omega) tb3 (by omega) ecc (Or.inr (Or.inr (Or.inl rfl))) ⟨⟨hR, hP2, fun _ k hk => ⟨kπ k hk, aP_bd h2 k⟩⟩, ?_, k7, ?_, ?_, frA_R sF hA⟩ ?_
    · rw [hA _ _ _ (by simp only [frA]; omega)]
      exact c3
    · rw [hA _ _ _ (by simp only [frA]; omega)]
      exact s8
    · rw [hA _ _ _ (by simp only [frA]; omega)]
      exact s07
    · intro M1 r hF1 K
      exact HM M1 r hF1 fun M3 hF3 hM3 => T_beginsPart h2 h4 hR hM3.1 (tpE hTP hF1 hF3) ha hM3.2.1 (fun y => by omega) (fun _ M4 hF4 yP y20 y21 y27 yT => K M4 (frM_trans hF3 hF4) ⟨yP, yT, y20, fun _ => ⟨y21, fun _ => y27⟩⟩) fun _ y1 y2 => by omega
  · refine lk_stop hX sF c5 (by omega) s07 fun M1 r hF1 K => ?_
    exact HM M1 r hF1 fun M3 hF3 hM3 => T_beginsPart h2 h4 hR hM3.1 (tpE hTP hF1 hF3) ha hM3.2.1 (fun y1 y2 => absurd ⟨y1, y2⟩ z1) (fun y => by omega) fun _ _ _ => K M3 hF3 hM3.2.1.2.1
