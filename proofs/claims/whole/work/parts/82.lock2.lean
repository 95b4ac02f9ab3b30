-- needs: 06 08 09 10 11 12 13 14 15 16 17 18 19 26 27 28 29 30 31 32 33 34 35 37 39 41 42 43 45 46 72 73 74 75 76 77 78 79 80 81
/-- the end of a text without a fault -/
theorem lk_end {Mo : bM} {nc : Nat} {p : Int} {S : Nat → Nat → Int} {c u : Nat} {L : Nat → Nat} {x1 : Int32} {s n : Nat} {b : Nat → Int} (hX : Txt Mo nc p S c u L x1 s n b) {H : Int} {F : Nat → Int} {M2 : bM} {y : Int32} (hF2 : Fr frR Mo M2) (k7 : M2 2 0 7 = iI 5) (k8 : M2 2 0 8 = iI (-1)) (k9 : M2 2 0 9 = iI H) (h1 : -1 ≤ H) (hH2 : H ≤ 80) (k07 : M2 0 0 7 = iI 1) (hFb : ∀ k, 0 ≤ F k ∧ F k < p) (k13 : ∀ k, k < 32 → M2 7 13 k = iI (F k)) (mend : ∀ {M1 : bM} {r : Int32}, Fr (frE s) Mo M1 → (∀ M4, Fr (fun g j i => frM g j i ∨ g = 26 ∧ i = 7) M1 M4 → M4 26 0 7 = iI 0 → M4 26 0 18 = iI H → (H < 0 → ∀ k, k < 32 → M4 30 0 k = iI (F k)) → ((((M4 26 0 18) < 0) → bGo 169 (Alike (nc + 1) (some (cI r))) 168 [some (cR 26 0), some (cI x1), some (cI (1 : Int32)), some (cI (0 : Int32))] [] M4) ∧ (¬ ((M4 26 0 18) < 0) → ((Alike (nc + 1) (some (cI r))) (some (cI ((-200 : Int32) - (M4 26 0 18)))) M4)))) → bCall 169 [cR 26 0, cI x1] M1 (Alike (nc + 1) (some (cI r)))) : GC (nc + 1) x1 s y M2 := by
  obtain ⟨hRel, hs6, e1, _⟩ := hX
  refine S_done (s := s) (h := H) k7 k8 k9 h1 hH2 (fun hneg => ?_) fun hpos => ?_
  · -- it tells a series
    have hFE : Fr (frE s) Mo (bCp (bU M2 2 0 2 (0 : Int32)) 7 13 7 s (0 : Int32) (0 : Int32) (32 : Int32)) := ((hF2.trans bU_fr).trans bCp_fr).mono fun g j i z => by
      simp only [oL, frR, frE] at z ⊢
      omega
    have w02 : (bCp (bU M2 2 0 2 (0 : Int32)) 7 13 7 s (0 : Int32) (0 : Int32) (32 : Int32)) 2 0 2 = iI 0 := by
      rw [bCp_fr _ _ _ (by omega), bU_at]
      exact l0
    have w07 : (bCp (bU M2 2 0 2 (0 : Int32)) 7 13 7 s (0 : Int32) (0 : Int32) (32 : Int32)) 0 0 7 = iI 1 := by
      rw [bCp_fr _ _ _ (by omega), bU_ne (by omega)]
      exact k07
    have w7s : ∀ k, k < 32 → (bCp (bU M2 2 0 2 (0 : Int32)) 7 13 7 s (0 : Int32) (0 : Int32) (32 : Int32)) 7 s k = iI (F k) := fun k hk => by
      rw [bCp_32 hk, bU_ne (by omega)]
      exact k13 k hk
    generalize bCp (bU M2 2 0 2 (0 : Int32)) 7 13 7 s (0 : Int32) (0 : Int32) (32 : Int32) = M1 at hFE w02 w07 w7s
    refine mend (r := 1) hFE fun M4 hF4 k7' k18 k30 => ⟨fun _ => ?_, fun z => absurd (show M4 26 0 18 < 0 by rw [k18, l0, iI_lt (by omega) (by omega) (by omega) (by omega)]; exact hneg) z⟩
    have hF4' : ∀ g j i, ¬ (frM g j i ∨ g = 26 ∧ i = 7) → M4 g j i = M1 g j i := hF4
    have loop : ∀ (nn k : Nat), k + nn = 32 → ∀ (M5 : bM) (x3 : Int32), x3 = iI (k : Int) → Blk M4 M5 28 0 (32 * s) (32 * s + k) (fun i => F (i - 32 * s)) → bGo 169 (Alike (nc + 1) (some (cI (1 : Int32)))) 168 [some (cR 26 0), some (cI x1), some (cI (1 : Int32)), some (cI x3)] [] M5 := by
      intro nn
      induction nn with
      | zero =>
        intro k hk M5 x3 e3 hB
        have : k = 32 := by omega
        subst this
        refine g_X7_text_168 ⟨fun _ => alike rfl (hRel.textS (t := s) (f := F) (fun k hk => ⟨?_, ?_, hFb k⟩) ?_ ((hFE.trans hF4).trans hB.fr) ?_ ?_ fun g j i z => ?_), fun q => absurd (nle_of q l32 e3) (by omega)⟩
        · rw [hB.keep (by omega), hF4' _ _ _ (by simp only [frM]; omega)]
          exact w7s k hk
        · rw [hB.at (by omega) (by omega), show 32 * s + k - 32 * s = k by omega]
        · rw [hB.keep (by omega), hF4' _ _ _ (by simp only [frM]; omega)]
          exact w07
        · rw [hB.keep (by omega), hF4' _ _ _ (by simp only [frM]; omega)]
          exact w02
        · rw [hB.keep (by omega)]
          exact k7'
        · unfold rdF rdC rdL rdH at z
          simp only [oL, frE, frM]
          omega
      | succ nn ihn =>
        intro k hk M5 x3 e3 hB
        have es := s32 e1 e3
        refine g_X7_text_168 ⟨fun q => absurd (le_of q l32 e3) (by omega), fun _ => ⟨vin e3, vin es, ?_⟩⟩
        rw [cl_of es, cl_of e3]
        refine ihn (k + 1) (by omega) _ _ (inN e3) (hB.up (by omega) ?_)
        rw [hB.keep (by omega), show 32 * s + k - 32 * s = k by omega]
        exact k30 hneg k (by omega)
    exact loop 32 0 rfl M4 _ l0 Blk.start
  · -- it has a hole
    have hFE : Fr frN Mo (bU M2 2 0 2 (0 : Int32)) := (hF2.trans bU_fr).mono fun g j i z => by
      simp only [oL, frR, frN] at z ⊢
      omega
    refine mend (hFE.mono fun g j i z => by simp only [frE, frN] at z ⊢; omega) fun M4 hF4 k7' k18 k30 => ⟨fun z => ?_, fun _ => ?_⟩
    · have := lt_of z k18 l0
      omega
    · rw [k18, show (-200 : Int32) = iI (-200) from rfl, iI_sub]
      refine alike rfl (hRel.text (hFE.trans hF4) ?_ ?_ k7' fun g j i z => ?_)
      · rw [hF4 _ _ _ (by simp only [frM]; omega), bU_ne (by omega)]
        exact k07
      · rw [hF4 _ _ _ (by simp only [frM]; omega), bU_at]
        exact l0
      · unfold rdF rdS rdC rdL rdH at z
        simp only [oL, frM, frN]
        omega
/-- the model's end -/
theorem lk_mend {Mo : bM} {N : Nat} {p : Int} {x1 : Int32} {s n a st lv : Nat} {b : Nat → Int} {σ τ : Nat → Nat → Int} {mn w wp : Nat → Int} {h : Int} {π : Nat → Int} (h2 : 2 ≤ p) (h4 : p ≤ 997) (hR : PR p lv σ τ mn w wp h) (hst : st = 2 ∨ st = 4) (hπb : ∀ k, k < 32 → 0 ≤ π k ∧ π k < p) (z1 : tTok b n a = -1) (z2 : lv = 0) (HM : HMp Mo N x1 s 1 (MSt p b n a st lv σ τ mn w wp h π)) : ∀ {M1 : bM} {r : Int32}, Fr (frE s) Mo M1 → (∀ M4, Fr (fun g j i => frM g j i ∨ g = 26 ∧ i = 7) M1 M4 → M4 26 0 7 = iI 0 → M4 26 0 18 = iI (eH (w lv) (wp lv) π h) → (eH (w lv) (wp lv) π h < 0 → ∀ k, k < 32 → M4 30 0 k = iI (sT p (mn lv) (σ lv) (eT p (w lv) (τ lv) π) k)) → ((((M4 26 0 18) < 0) → bGo 169 (Alike N (some (cI r))) 168 [some (cR 26 0), some (cI x1), some (cI (1 : Int32)), some (cI (0 : Int32))] [] M4) ∧ (¬ ((M4 26 0 18) < 0) → ((Alike N (some (cI r))) (some (cI ((-200 : Int32) - (M4 26 0 18)))) M4)))) → bCall 169 [cR 26 0, cI x1] M1 (Alike N (some (cI r))) := fun {M1 r} hF1 K => HM M1 r hF1 fun M3 hF3 hM3 => by
  obtain ⟨y1, y2, y3, y4⟩ := hM3
  obtain ⟨y5, y6⟩ := y4 hst
  have hR0 := hR
  obtain ⟨hl4, r1, r2, rl⟩ := hR0
  obtain ⟨q1, q2, q3, q4, q5, q6⟩ := rl lv (Nat.le_refl _)
  have heT := eT_bd (p := p) (w := w lv) (τ := τ lv) (π := π) (by omega) q2
  rw [if_neg (show ¬ st = 0 by omega), if_neg (show ¬ st = 1 by omega)] at y3
  have y17 := y1.2.1
  rw [z2] at y17
  refine T_over z1 y2.2.2.1 y3 y17 ?_
  have hb7 := bU_fr (M := M3) (g := 26) (j := 0) (i := 7) (x := (0 : Int32))
  refine T_comesToTerm h2 h4 hR (y1.fr hb7 fun g j i z => by omega) hπb (fun z k hk => by rw [bU_ne (by omega)]; exact y6 z k hk) fun M5 hF5 k33 k18 k31 => ?_
  have hP3 := y1.2.2.2 lv (Nat.le_refl _)
  have old : ∀ g j i, ¬ (g = 27 ∨ g = 31 ∧ 32 * lv ≤ i ∧ i < 32 * lv + 32 ∨ g = 33 ∧ i = lv ∨ g = 26 ∧ i = 18) → ¬ (g = 26 ∧ i = 7) → M5 g j i = M3 g j i := fun g j i a1 a2 => by
    rw [hF5 _ _ _ a1, bU_ne (by omega)]
  have hneg := fun z => eH_neg (w := w lv) (wp := wp lv) (π := π) (h := h) q5.1 z
  refine T_comesToSum (G := eH (w lv) (wp lv) π h < 0) (σ := σ lv) (t := eT p (w lv) (τ lv) π) (lv := lv) (m' := mn lv) h2 h4 hl4 (by rw [old _ _ _ (by omega) (by omega)]; exact y1.1) (by rw [old _ _ _ (by omega) (by omega)]; exact y1.2.1) (by rw [old _ _ _ (by omega) (by omega)]; exact hP3.2.2.1) q3 q1 heT (fun z k hk => ⟨by rw [old _ _ _ (by omega) (by omega)]; exact hP3.1 (hneg z).1 k hk, k31 z k hk⟩) fun M6 hF6 k30 => ?_
  refine K M6 ((((hF3.trans hb7).trans hF5).trans hF6).mono fun g j i z => ?_) ?_ ?_ fun z k hk => ?_
  · simp only [oL, frM] at z ⊢
    omega
  · rw [hF6 _ _ _ (by omega), hF5 _ _ _ (by omega), bU_at]
    exact l0
  · rw [hF6 _ _ _ (by omega)]
    exact k18
  · have := k30 z k hk
    rwa [show 32 * lv + k = k by omega] at this
/-- what stands behind a power is read by both -/
theorem lk_join {Mo : bM} {nc : Nat} {p : Int} {S : Nat → Nat → Int} {c u : Nat} {L : Nat → Nat} {x1 : Int32} {s n : Nat} {b : Nat → Int} (hX : Txt Mo nc p S c u L x1 s n b) {f a st cc lv : Nat} {σ τ : Nat → Nat → Int} {mn w wp : Nat → Int} {h : Int} {π : Nat → Int} {M : bM} {x2 : Int32} (ih : LK Mo (nc + 1) x1 s p b n f) (hf : n < a + (f + 1)) (ha : a ≤ n) (hcc : cc ≤ a) (e2 : x2 = iI (cc : Int)) (hS : Scd Mo p b n a st lv σ τ mn w wp h π M) (hst : st = 2 ∨ st = 4) (h94 : tTok b n a = 94 → st = 4) (HM0 : HMp Mo (nc + 1) x1 s 1 (MSt p b n a st lv σ τ mn w wp h π)) (HM : ¬ (tTok b n a = -1 ∧ lv = 0) → HMc Mo (nc + 1) x1 s 143 (MSt p b n a st lv σ τ mn w wp h π)) : bCall 45 [cR 2 0] M (fun v1 M2 => bV0 v1 (GC (nc + 1) x1 s (x2 + (1 : Int32)) M2)) := by
  have h2 := hX.1.1.2.2.1
  have h4 := hX.1.1.2.2.2.1
  have hTP := hX.2.2.2.1
  have hn80 := hTP.1
  obtain ⟨⟨hR, sP, hπ⟩, ⟨c3, c4, c5, sv⟩, s7, s8, s07, sF⟩ := hS
  obtain ⟨tb1, tb2, tb3, tb4, tb5, tb6⟩ := tok_bd (b := b) ha
  have ecc : x2 + (1 : Int32) = iI ((cc + 1 : Nat) : Int) := inN e2
  have sπ := hπ hst
  have hπb : ∀ k, k < 32 → 0 ≤ π k ∧ π k < p := fun k hk => (sπ k hk).2
  have hR0 := hR
  obtain ⟨hl4, r1, r2, rl⟩ := hR0
  obtain ⟨q1, q2, q3, q4, q5, q6⟩ := rl lv (Nat.le_refl _)
  have heH := eH_bd (w := w lv) (wp := wp lv) (π := π) r1 r2 q5.1 q5.2
  have heT := eT_bd (p := p) (w := w lv) (τ := τ lv) (π := π) (by omega) q2
  have hmr : (if st = 2 then 1 else 0 : Nat) ≤ 1 := by split <;> omega
  have hm0 : tTok b n a = 94 → (if st = 2 then 1 else 0 : Nat) = 1 → False := fun z y => by
    have := h94 z
    rw [if_neg (by omega)] at y
    omega
  clear hπ r1 r2 q5 q6
  refine S_acceptJoin h2 h4 hR sP c4 (by omega) (by omega) c5 sπ (fun z1 M2 hA hP2 k7 => ?_) (fun z1 M2 hA hP2 k7 => ?_) (fun z1 lv' hlv' M2 hA hP2 k7 kπ => ?_) (fun z1 z2 M2 hA k7 k9 k13 => ?_) fun z1 => ?_
  · -- * and /
    refine ih (tNx b n a) 1 (cc + 1) lv _ _ _ _ _ _ π M2 _ (by omega) tb3 (by omega) ecc (Or.inr (Or.inl rfl)) ⟨⟨hR.last heH.1 heH.2 q1 heT q3 (by omega) (by omega) (fun z => by omega), hP2, fun z => by omega⟩, ?_, k7, ?_, ?_, frA_R sF hA⟩ ?_
    · rw [hA _ _ _ (by simp only [frA]; omega)]
      exact c3
    · rw [hA _ _ _ (by simp only [frA]; omega)]
      exact s8
    · rw [hA _ _ _ (by simp only [frA]; omega)]
      exact s07
    · intro M1 r hF1 K
      refine HM (by omega) M1 r hF1 fun M3 hF3 hM3 => ?_
      obtain ⟨y1, y2, y3, y4⟩ := hM3
      obtain ⟨y5, y6⟩ := y4 hst
      exact T_goesOn (mr := if st = 2 then 1 else 0) h2 h4 hR y1 (tpE hTP hF1 hF3) ha y2 hπb y6 y5 hmr (fun y => by omega) (fun y => by omega) (fun y => by omega) (fun _ M4 hF4 yP y20 yT => K M4 (frM_trans hF3 hF4) ⟨yP, yT, y20, fun z => by omega⟩) (fun y => by omega) (fun y => by omega) fun y => by omega
  · -- + and -
    refine ih (tNx b n a) 1 (cc + 1) lv _ _ _ _ _ _ π M2 _ (by omega) tb3 (by omega) ecc (Or.inr (Or.inl rfl)) ⟨⟨hR.last heH.1 heH.2 (fun k _ => sT_bd (by omega) k) (fun k _ => cst1_bd h2 k) (by split <;> omega) (Or.inl rfl) (by omega) (fun _ k _ => rfl), hP2, fun z => by omega⟩, ?_, k7, ?_, ?_, frA_R sF hA⟩ ?_
    · rw [hA _ _ _ (by simp only [frA]; omega)]
      exact c3
    · rw [hA _ _ _ (by simp only [frA]; omega)]
      exact s8
    · rw [hA _ _ _ (by simp only [frA]; omega)]
      exact s07
    · intro M1 r hF1 K
      refine HM (by omega) M1 r hF1 fun M3 hF3 hM3 => ?_
      obtain ⟨y1, y2, y3, y4⟩ := hM3
      obtain ⟨y5, y6⟩ := y4 hst
      exact T_goesOn (mr := if st = 2 then 1 else 0) h2 h4 hR y1 (tpE hTP hF1 hF3) ha y2 hπb y6 y5 hmr (fun y => by omega) (fun y => by omega) (fun y => by omega) (fun y => by omega) (fun _ M4 hF4 yP y20 yT => K M4 (frM_trans hF3 hF4) ⟨yP, yT, y20, fun z => by omega⟩) (fun y => by omega) fun y => by omega
  · -- )
    refine ih (tNx b n a) 2 (cc + 1) lv' σ τ mn w wp _ (sT p (mn lv) (σ lv) (eT p (w lv) (τ lv) π)) M2 _ (by omega) tb3 (by omega) ecc (Or.inr (Or.inr (Or.inl rfl))) ⟨⟨hR.pop hlv' heH.1 heH.2, hP2, fun _ k hk => ⟨kπ k hk, sT_bd (by omega) k⟩⟩, ?_, k7, ?_, ?_, frA_R sF hA⟩ ?_
    · rw [hA _ _ _ (by simp only [frA]; omega)]
      exact c3
    · rw [hA _ _ _ (by simp only [frA]; omega)]
      exact s8
    · rw [hA _ _ _ (by simp only [frA]; omega)]
      exact s07
    · intro M1 r hF1 K
      refine HM (by omega) M1 r hF1 fun M3 hF3 hM3 => ?_
      obtain ⟨y1, y2, y3, y4⟩ := hM3
      obtain ⟨y5, y6⟩ := y4 hst
      refine T_goesOn (mr := if st = 2 then 1 else 0) h2 h4 hR y1 (tpE hTP hF1 hF3) ha y2 hπb y6 y5 hmr (fun y => by omega) (fun y => by omega) (fun y => by omega) (fun y => by omega) (fun y => by omega) (fun _ lv2 hlv2 M4 hF4 yP y20 y21 y27 yT => ?_) fun y => by omega
      have hlv22 : lv2 = lv' := by omega
      subst hlv22
      refine K M4 (frM_trans hF3 hF4) ⟨yP, yT, ?_, fun _ => ⟨y21, y27⟩⟩
      rw [y20, y3, if_neg (show ¬ st = 0 by omega), if_neg (show ¬ st = 1 by omega)]
      rfl
  · -- the end
    refine lk_end hX (frA_R sF hA) k7 ?_ k9 heH.1 heH.2 ?_ (fun k => sT_bd (by omega) k) k13 (lk_mend h2 h4 hR hst hπb z1 z2 HM0)
    · rw [hA _ _ _ (by simp only [frA]; omega)]
      exact s8
    · rw [hA _ _ _ (by simp only [frA]; omega)]
      exact s07
  · -- a fault
    refine lk_stop hX sF c5 (by omega) s07 fun M1 r hF1 K => ?_
    refine HM (by omega) M1 r hF1 fun M3 hF3 hM3 => ?_
    obtain ⟨y1, y2, y3, y4⟩ := hM3
    obtain ⟨y5, y6⟩ := y4 hst
    exact T_goesOn (mr := if st = 2 then 1 else 0) h2 h4 hR y1 (tpE hTP hF1 hF3) ha y2 hπb y6 y5 hmr (fun _ _ => K M3 hF3 y2.2.1) (fun y z => (hm0 y z).elim) (fun y z => (hm0 y z).elim) (fun y => by omega) (fun y => by omega) (fun y => by omega) fun y M4 hF4 y9 => K M4 (frM_trans hF3 hF4) (y9.trans y2.2.1)
