-- needs: 06 08 09 10 11 12 13 14 15 16 17 18 19 26 27 28 29 30 31 32 33 34 35 37 39 41 42 43 45 46 72 73 74 75 76 77 78 79 80 81 82
/-- a minus ahead of a sum -/
theorem lk_minus {Mo : bM} {nc : Nat} {p : Int} {S : Nat → Nat → Int} {c u : Nat} {L : Nat → Nat} {x1 : Int32} {s n : Nat} {b : Nat → Int} (hX : Txt Mo nc p S c u L x1 s n b) {f a cc lv : Nat} {σ τ : Nat → Nat → Int} {mn w wp : Nat → Int} {h : Int} {π : Nat → Int} {Ms : bM} {x2 : Int32} (ih : LK Mo (nc + 1) x1 s p b n f) (hf : n < a + (f + 1)) (ha : a ≤ n) (hcc : cc ≤ a) (e2 : x2 = iI (cc : Int)) (hS : Scd Mo p b n a 0 lv σ τ mn w wp h π Ms) (z45 : tTok b n a = 45) (HM : HMp Mo (nc + 1) x1 s 1 (MSt p b n a 0 lv σ τ mn w wp h π)) : GC (nc + 1) x1 s (x2 + (1 : Int32)) (bU (bU Ms 14 0 lv (1 : Int32)) 2 0 7 (1 : Int32)) := by
  have hTP := hX.2.2.2.1
  have hn80 := hTP.1
  obtain ⟨⟨hR, sP, hπ⟩, ⟨c3, c4, c5, sv⟩, s7, s8, s07, sF⟩ := hS
  obtain ⟨tb1, tb2, tb3, tb4, tb5, tb6⟩ := tok_bd (b := b) ha
  have ecc : x2 + (1 : Int32) = iI ((cc + 1 : Nat) : Int) := inN e2
  have hR0 := hR
  obtain ⟨hl4, r1, r2, rl⟩ := hR0
  obtain ⟨q1, q2, q3, q4, q5, q6⟩ := rl lv (Nat.le_refl _)
  have hA := (bU_fr (M := Ms) (g := 14) (j := 0) (i := lv) (x := (1 : Int32))).trans (bU_fr (g := 2) (j := 0) (i := 7) (x := (1 : Int32)))
  have hpl := sP.2.2.2 lv (Nat.le_refl _)
  refine ih (tNx b n a) 1 (cc + 1) lv (pU σ lv (σ lv)) (pU τ lv (τ lv)) (pU mn lv 1) (pU w lv (w lv)) (pU wp lv (wp lv)) h π _ _ (by omega) tb3 (by omega) ecc (Or.inr (Or.inl rfl)) ⟨⟨hR.last r1 r2 q1 q2 (Or.inr rfl) q4 q5 q6, sP.last hA (fun g j i z => ?_) ?_ (fun k hk => ?_) (fun k hk => ?_) ?_ ?_ fun z => ?_, fun z => by omega⟩, ?_, ?_, ?_, ?_, (sF.trans hA).mono fun g j i z => ?_⟩ ?_
  · simp only [oL]
    omega
  · rw [bU_ne (by omega), bU_ne (by omega)]
    exact sP.2.2.1
  · rw [bU_ne (by omega), bU_ne (by omega)]
    exact hpl.1 k hk
  · rw [bU_ne (by omega), bU_ne (by omega)]
    exact hpl.2.1 k hk
  · rw [bU_ne (by omega), bU_at]
    exact l1
  · rw [bU_ne (by omega), bU_ne (by omega)]
    exact hpl.2.2.2.1
  · rw [bU_ne (by omega), bU_ne (by omega)]
    exact hpl.2.2.2.2 z
  · rw [bU_ne (by omega), bU_ne (by omega)]
    exact c3
  · rw [bU_at]
    exact l1
  · rw [bU_ne (by omega), bU_ne (by omega)]
    exact s8
  · rw [bU_ne (by omega), bU_ne (by omega)]
    exact s07
  · simp only [oL, frR] at z ⊢
    omega
  · intro M1 r hF1 K
    refine HM M1 r hF1 fun M3 hF3 hM3 => ?_
    obtain ⟨y1, y2, y3, y4⟩ := hM3
    have y3' : M3 26 0 20 = iI 2 := y3
    refine T_body (wn := 2) (T := tTok b n a) tb5 y2.2.2.1 y3' (by omega) y1.2.1 hl4 (by omega) (fun z => by omega) (fun z => by omega) fun _ _ => ?_
    have hB := (bU_fr (M := M3) (g := 32) (j := 0) (i := lv) (x := (1 : Int32))).trans (bU_fr (g := 26) (j := 0) (i := 20) (x := (1 : Int32)))
    refine T_step ((tpE hTP hF1 hF3).fr hB fun g j i z => ?_) tb3 ?_ fun M4 hF4 hTK4 => ?_
    · simp only [oL]
      omega
    · rw [bU_ne (by omega), bU_ne (by omega)]
      exact y2.1
    · have hyl := y1.2.2.2 lv (Nat.le_refl _)
      have old : ∀ g j i, ¬ (g = 26 ∧ 8 ≤ i ∧ i ≤ 11) → ¬ (g = 26 ∧ i = 20) → ¬ (g = 32 ∧ i = lv) → M4 g j i = M3 g j i := fun g j i a1 a2 a3 => by
        rw [hF4 _ _ _ a1, bU_ne (by omega), bU_ne (by omega)]
      refine K M4 (((hF3.trans hB).trans hF4).mono fun g j i z => ?_) ⟨y1.last (hB.trans hF4) (fun g j i z => ?_) id ?_ (fun z k hk => ?_) (fun z y k hk => ?_) ?_ ?_ fun z => ?_, hTK4, ?_, fun z => by omega⟩
      · simp only [oL, frM] at z ⊢
        omega
      · simp only [oL]
        omega
      · rw [old _ _ _ (by omega) (by omega) (by omega)]
        exact y1.2.2.1
      · rw [old _ _ _ (by omega) (by omega) (by omega)]
        exact hyl.1 z k hk
      · rw [old _ _ _ (by omega) (by omega) (by omega)]
        exact hyl.2.1 z y k hk
      · rw [hF4 _ _ _ (by omega), bU_ne (by omega), bU_at]
        exact l1
      · rw [old _ _ _ (by omega) (by omega) (by omega)]
        exact hyl.2.2.2.1
      · rw [old _ _ _ (by omega) (by omega) (by omega)]
        exact hyl.2.2.2.2 z
      · rw [hF4 _ _ _ (by omega), bU_at]
        exact l1
/-- ^ and what stands behind it -/
theorem lk_power {Mo : bM} {nc : Nat} {p : Int} {S : Nat → Nat → Int} {c u : Nat} {L : Nat → Nat} {x1 : Int32} {s n : Nat} {b : Nat → Int} (hX : Txt Mo nc p S c u L x1 s n b) {f a cc lv : Nat} {σ τ : Nat → Nat → Int} {mn w wp : Nat → Int} {h : Int} {π : Nat → Int} {Ms : bM} {x2 : Int32} (ih : LK Mo (nc + 1) x1 s p b n f) (hf : n < a + (f + 1)) (ha : a ≤ n) (hcc : cc ≤ a) (e2 : x2 = iI (cc : Int)) (hS : Scd Mo p b n a 2 lv σ τ mn w wp h π Ms) (z94 : tTok b n a = 94) (HM : HMc Mo (nc + 1) x1 s 143 (MSt p b n a 2 lv σ τ mn w wp h π)) : GC (nc + 1) x1 s (x2 + (1 : Int32)) (bU Ms 2 0 7 (3 : Int32)) := by
  have h2 := hX.1.1.2.2.1
  have h4 := hX.1.1.2.2.2.1
  have hTP := hX.2.2.2.1
  have hn80 := hTP.1
  obtain ⟨⟨hR, sP, hπ⟩, ⟨c3, c4, c5, sv⟩, s7, s8, s07, sF⟩ := hS
  obtain ⟨tb1, tb2, tb3, tb4, tb5, tb6⟩ := tok_bd (b := b) ha
  have ecc : x2 + (1 : Int32) = iI ((cc + 1 : Nat) : Int) := inN e2
  have hl4 := hR.1
  have hπ2 := hπ (Or.inl rfl)
  have hπb : ∀ k, k < 32 → 0 ≤ π k ∧ π k < p := fun k hk => (hπ2 k hk).2
  have hx1 : a + 1 ≤ tNx b n a := by omega
  obtain ⟨td1, td2, td3, td4, td5, td6⟩ := tok_bd (b := b) tb3
  have hB3 := bU_fr (M := Ms) (g := 2) (j := 0) (i := 7) (x := (3 : Int32))
  have vF : Fr frR Mo (bU Ms 2 0 7 (3 : Int32)) := (sF.trans hB3).mono fun g j i z => by
    simp only [oL, frR] at z ⊢
    omega
  have v3 : (bU Ms 2 0 7 (3 : Int32)) 2 0 3 = iI (tNx b n a : Int) := by rw [bU_f (by decide)]; exact c3
  have v2 : (bU Ms 2 0 7 (3 : Int32)) 2 0 2 = iI (n : Int) := by rw [vF _ _ _ (by simp only [frR]; omega)]; exact hX.2.2.2.2.1
  have v7 : (bU Ms 2 0 7 (3 : Int32)) 2 0 7 = iI ((3 : Nat) : Int) := by rw [bU_at]; rfl
  have v13 : ∀ i, i < n → (bU Ms 2 0 7 (3 : Int32)) 13 0 i = iI (b i) ∧ 0 ≤ b i ∧ b i < 256 := fun i hi => by
    rw [vF _ _ _ (by simp only [frR]; omega)]
    exact ⟨hX.2.2.2.2.2 i hi, (hTP.2.2 i hi).2⟩
  have vP : PC p lv σ τ mn w wp h (bU Ms 2 0 7 (3 : Int32)) := sP.fr hB3 fun g j i z => by omega
  have v8 : (bU Ms 2 0 7 (3 : Int32)) 2 0 8 = iI (-1) := by rw [bU_f (by decide)]; exact s8
  have v07 : (bU Ms 2 0 7 (3 : Int32)) 0 0 7 = iI 1 := by rw [bU_ne (by omega)]; exact s07
  have vπ : ∀ k, k < 32 → (bU Ms 2 0 7 (3 : Int32)) 7 (23 + lv) k = iI (π k) := fun k hk => by
    rw [bU_ne (by omega)]
    exact (hπ2 k hk).1
  generalize bU Ms 2 0 7 (3 : Int32) = Mv at v3 v2 v7 v13 vP v8 v07 vπ vF ⊢
  refine S_goes (st := 3) v7 (by omega) ecc (by omega) (S_scan hn80 v2 v3 tb3 v13 fun Mw hFw d3 d4 d5 d6 => ?_)
  have hFw' : ∀ g j i, ¬ (g = 2 ∧ (i = 3 ∨ i = 4 ∨ i = 5 ∨ i = 6)) → Mw g j i = Mv g j i := hFw
  have w7 : Mw 2 0 7 = iI 3 := by rw [hFw' _ _ _ (by omega)]; exact v7
  have wP : PC p lv σ τ mn w wp h Mw := vP.fr hFw fun g j i z => by omega
  have wF : Fr frR Mo Mw := (vF.trans hFw).mono fun g j i z => by
    simp only [oL, frR] at z ⊢
    omega
  have w07 : Mw 0 0 7 = iI 1 := by rw [hFw' _ _ _ (by omega)]; exact v07
  have ecc2 : x2 + (1 : Int32) + (1 : Int32) = iI ((cc + 1 + 1 : Nat) : Int) := inN ecc
  refine S_accept3 w7 (S_acceptPower (T := tTok b n (tNx b n a)) (v := tVal b n (tNx b n a)) (π := π) wP.1 h2 h4 wP.2.1 hl4 d4 (by omega) (by omega) (fun z => ⟨d6 z, td6 z⟩) (fun k hk => ⟨by rw [hFw' _ _ _ (by omega)]; exact vπ k hk, hπb k hk⟩) (fun zT zv M2 hF2 k7 kπ => ?_) fun zno => ?_)
  · -- a power
    refine ih (tNx b n (tNx b n a)) 4 (cc + 1 + 1) lv σ τ mn w wp h (pwF p π (tVal b n (tNx b n a)).toNat) M2 _ (by omega) td3 (by omega) ecc2 (Or.inr (Or.inr (Or.inr rfl))) ⟨⟨hR, wP.fr hF2 fun g j i z => by omega, fun _ k hk => ⟨kπ k hk, pwF_bd h2 _ k⟩⟩, ?_, k7, ?_, ?_, (wF.trans hF2).mono fun g j i z => ?_⟩ ?_
    · rw [hF2 _ _ _ (by omega)]
      exact d3
    · rw [hF2 _ _ _ (by omega), hFw' _ _ _ (by omega)]
      exact v8
    · rw [hF2 _ _ _ (by omega)]
      exact w07
    · simp only [oL, frR] at z ⊢
      omega
    · intro M1 r hF1 K
      refine HM M1 r hF1 fun M3 hF3 hM3 => ?_
      obtain ⟨y1, y2, y3, y4⟩ := hM3
      obtain ⟨y5, y6⟩ := y4 (Or.inl rfl)
      refine T_goesOn (mr := 1) h2 h4 hR y1 (tpE hTP hF1 hF3) ha y2 hπb y6 y5 (by omega) (fun _ y => by omega) (fun _ _ y => absurd ⟨zT, zv⟩ y) (fun _ _ _ _ M4 hF4 yP y20 y21 y27 yT => K M4 (frM_trans hF3 hF4) ⟨yP, yT, ?_, fun _ => ⟨y21, y27⟩⟩) (fun y => by omega) (fun y => by omega) (fun y => by omega) fun y => by omega
      rw [y20, y3]
      rfl
  · refine lk_stop hX wF d5 (by omega) w07 fun M1 r hF1 K => ?_
    refine HM M1 r hF1 fun M3 hF3 hM3 => ?_
    obtain ⟨y1, y2, y3, y4⟩ := hM3
    obtain ⟨y5, y6⟩ := y4 (Or.inl rfl)
    exact T_goesOn (mr := 1) h2 h4 hR y1 (tpE hTP hF1 hF3) ha y2 hπb y6 y5 (by omega) (fun _ y => by omega) (fun _ _ _ M4 hF4 y9 => K M4 (frM_trans hF3 hF4) y9) (fun _ _ y1 y2 => absurd ⟨y1, y2⟩ zno) (fun y => by omega) (fun y => by omega) (fun y => by omega) fun y => by omega
/-- THE TWO READERS go alike -/
theorem lockstep {Mo : bM} {nc : Nat} {p : Int} {S : Nat → Nat → Int} {c u : Nat} {L : Nat → Nat} {x1 : Int32} {s n : Nat} {b : Nat → Int} (hX : Txt Mo nc p S c u L x1 s n b) : ∀ f, LK Mo (nc + 1) x1 s p b n f
  | 0 => fun a _ _ _ _ _ _ _ _ _ _ _ _ hf ha => absurd hf (by omega)
  | f + 1 => by
    have ih := lockstep hX f
    intro a st cc lv σ τ mn w wp h π M x2 hf ha hcc e2 hst hC HM
    have hTP := hX.2.2.2.1
    have hn80 := hTP.1
    obtain ⟨⟨hR, hP, hπ⟩, m3, m7, m8, m07, hF⟩ := hC
    obtain ⟨tb1, tb2, tb3, tb4, tb5, tb6⟩ := tok_bd (b := b) ha
    have hF' : ∀ g j i, ¬ frR g j i → M g j i = Mo g j i := hF
    refine S_goes m7 (by omega) e2 (by omega) (S_scan hn80 (by rw [hF' _ _ _ (by simp only [frR]; omega)]; exact hX.2.2.2.2.1) m3 ha (fun i hi => ⟨by rw [hF' _ _ _ (by simp only [frR]; omega)]; exact hX.2.2.2.2.2 i hi, (hTP.2.2 i hi).2⟩) fun Ms hFs c3 c4 c5 c6 => ?_)
    have hFs' : ∀ g j i, ¬ (g = 2 ∧ (i = 3 ∨ i = 4 ∨ i = 5 ∨ i = 6)) → Ms g j i = M g j i := hFs
    have hS : Scd Mo p b n a st lv σ τ mn w wp h π Ms := by
      refine ⟨⟨hR, hP.fr hFs fun g j i z => by omega, fun z k hk => ?_⟩, ⟨c3, c4, c5, fun z => ⟨c6 z, tb6 z⟩⟩, ?_, ?_, ?_, (hF.trans hFs).mono fun g j i z => ?_⟩
      · rw [hFs' _ _ _ (by omega)]
        exact hπ z k hk
      · rw [hFs' _ _ _ (by omega)]
        exact m7
      · rw [hFs' _ _ _ (by omega)]
        exact m8
      · rw [hFs' _ _ _ (by omega)]
        exact m07
      · simp only [oL, frR] at z ⊢
        omega
    have s7 := hS.2.2.1
    have hl4 := hR.1
    have hj : (st = 2 ∨ st = 4) → ¬ (tTok b n a = -1 ∧ lv = 0) → HMc Mo (nc + 1) x1 s 143 (MSt p b n a st lv σ τ mn w wp h π) := fun hst' hne M1 r hF1 K => HM M1 r hF1 fun M2 hF2 hM2 => by
      have hM2' := hM2
      obtain ⟨y1, y2, y3, y4⟩ := hM2'
      rw [if_neg (show ¬ st = 0 by omega), if_neg (show ¬ st = 1 by omega)] at y3
      exact T_body (wn := 0) (T := tTok b n a) tb5 y2.2.2.1 y3 (by omega) y1.2.1 hl4 (fun z => hne ⟨z.1, z.2.2⟩) (fun _ => K M2 hF2 hM2) (fun z => by omega) fun z => by omega
    rcases hst with z | z | z | z
    · subst z
      refine S_accept0 s7 c4 (by omega) (by omega) hS.1.2.1.2.1 hl4 (fun z45 => lk_minus hX ih hf ha hcc e2 hS z45 HM) fun z45 => lk_atom hX ih hf ha hcc e2 hS fun M1 r hF1 K => HM M1 r hF1 fun M2 hF2 hM2 => ?_
      have hM2' := hM2
      obtain ⟨y1, y2, y3, y4⟩ := hM2'
      have y3' : M2 26 0 20 = iI 2 := y3
      exact T_body (wn := 2) (T := tTok b n a) tb5 y2.2.2.1 y3' (by omega) y1.2.1 hl4 (by omega) (fun z => by omega) (fun _ => K M2 hF2 hM2) fun _ z => absurd z z45
    · subst z
      refine S_accept1 s7 (lk_atom hX ih hf ha hcc e2 hS fun M1 r hF1 K => HM M1 r hF1 fun M2 hF2 hM2 => ?_)
      have hM2' := hM2
      obtain ⟨y1, y2, y3, y4⟩ := hM2'
      have y3' : M2 26 0 20 = iI 1 := y3
      exact T_body (wn := 1) (T := tTok b n a) tb5 y2.2.2.1 y3' (by omega) y1.2.1 hl4 (by omega) (fun z => by omega) (fun _ => K M2 hF2 hM2) fun z => by omega
    · subst z
      exact S_accept2 s7 c4 (by omega) (by omega) (fun z94 => lk_power hX ih hf ha hcc e2 hS z94 (hj (Or.inl rfl) (by omega))) fun z94 => lk_join hX ih hf ha hcc e2 hS (Or.inl rfl) (fun y => absurd y z94) HM (hj (Or.inl rfl))
    · subst z
      exact S_accept4 s7 (lk_join hX ih hf ha hcc e2 hS (Or.inr rfl) (fun _ => rfl) HM (hj (Or.inr rfl)))
theorem P_text {n : Nat} {M : bM} {x1 : Int32} (h : Rel n M) : bCall 98 [cR 0 0, cI x1] M (fun v M1 => bCall 169 [cR 26 0, cI x1] M1 (Alike (n + 1) v)) := by
  obtain ⟨p, S, c, u, L, hR⟩ := h
  have h2 := hR.1.2.2.1
  have h4 := hR.1.2.2.2.1
  refine g_X6_text_0 ?_
  by_cases hs : InR x1 6
  · obtain ⟨s, e1, hs6⟩ := hs
    refine S_isSeries_t e1 hs6 (n1 ⟨Or.inr rfl, vin e1, ?_⟩)
    rw [cl_of e1]
    obtain ⟨sz, hsz, k2, k7, b, hb⟩ := hR.2.2.2.1
    have hX : Txt M n p S c u L x1 s sz b := ⟨hR, hs6, e1, ⟨hsz, k7, fun i hi => (hb i hi).2⟩, k2, fun i hi => (hb i hi).1⟩
    refine g_X4_read_0 (S_open (p := p) (l := 0) ?_ h2 h4 l0 (by omega) fun M2 hF2 y7 y10 ys yt yj ym => ?_)
    · rw [bU_ne (by omega), bU_ne (by omega), bU_ne (by omega), bU_ne (by omega)]
      exact hR.1.1
    · have hF2' : ∀ g j i, ¬ (g = 2 ∧ (i = 7 ∨ i = 10) ∨ g = 7 ∧ (j = 13 + 0 ∨ j = 18 + 0) ∨ g = 10 ∧ j = 0 ∧ i = 0 ∨ g = 14 ∧ i = 0) → M2 g j i = (bU (bU (bU (bU M 0 0 7 (1 : Int32)) 2 0 3 (0 : Int32)) 2 0 8 (-1 : Int32)) 2 0 9 (-1 : Int32)) g j i := hF2
      refine lockstep hX (sz + 1) 0 0 0 0 (fun _ _ => 0) (fun _ => cst 1) (fun _ => 0) (fun _ => 0) (fun _ => 0) (-1) (fun _ => 0) M2 _ (by omega) (Nat.zero_le _) (Nat.le_refl _) l0 (Or.inl rfl) ⟨⟨⟨by omega, by omega, by omega, fun l hl => ⟨fun k hk => by show 0 ≤ (0 : Int) ∧ (0 : Int) < p; omega, fun k hk => cst1_bd h2 k, Or.inl rfl, Or.inl rfl, (by show 0 ≤ (0 : Int) ∧ (0 : Int) ≤ 80; omega), fun _ _ _ => rfl⟩⟩, ⟨?_, y10, ?_, fun l hl => ?_⟩, fun z => by omega⟩, ?_, y7, ?_, ?_, ?_⟩ ?_
      · rw [hF2' _ _ _ (by omega), bU_ne (by omega), bU_ne (by omega), bU_ne (by omega), bU_ne (by omega)]
        exact hR.1.1
      · rw [hF2' _ _ _ (by omega), bU_at]
        rfl
      · have : l = 0 := by omega
        subst this
        exact ⟨ys, yt, ym, yj, fun z => absurd rfl z⟩
      · rw [hF2' _ _ _ (by omega), bU_ne (by omega), bU_ne (by omega), bU_at]
        exact l0
      · rw [hF2' _ _ _ (by omega), bU_ne (by omega), bU_at]
        rfl
      · rw [hF2' _ _ _ (by omega), bU_ne (by omega), bU_ne (by omega), bU_ne (by omega), bU_at]
        exact l1
      · refine ((((bU_fr.trans bU_fr).trans bU_fr).trans bU_fr).trans hF2).mono fun g j i z => ?_
        simp only [oL, frR] at z ⊢
        omega
      · intro M1 r hF1 K
        refine g_X7_text_0 (T_isSeries_t e1 hs6 (n1 (T_begins (l := 0) ?_ (by omega) fun M3 hF3 w1 w2 w3 => ?_)))
        · rw [bU_ne (by omega), bU_ne (by omega), bU_at]
          exact l0
        · have hF3' : ∀ g j i, ¬ (g = 30 ∧ j = 0 ∧ 32 * 0 ≤ i ∧ i < 32 * 0 + 32 ∨ (g = 32 ∨ g = 33) ∧ i = 0) → M3 g j i = (bU (bU (bU (bU M1 26 0 8 (0 : Int32)) 26 0 17 (0 : Int32)) 26 0 18 (-1 : Int32)) 26 0 20 (2 : Int32)) g j i := hF3
          have hFB := ((((bU_fr (M := M1) (g := 26) (j := 0) (i := 8) (x := (0 : Int32))).trans (bU_fr (g := 26) (j := 0) (i := 17) (x := (0 : Int32)))).trans (bU_fr (g := 26) (j := 0) (i := 18) (x := (-1 : Int32)))).trans (bU_fr (g := 26) (j := 0) (i := 20) (x := (2 : Int32)))).trans hF3
          have hTP : TP b sz M3 := TP.fr hX.2.2.2.1 (hF1.trans hFB) fun g j i z => by
            simp only [oL, frE]
            omega
          refine T_step hTP (a := 0) (Nat.zero_le _) ?_ fun M4 hF4 hTK => ?_
          · rw [hF3' _ _ _ (by omega), bU_ne (by omega), bU_ne (by omega), bU_ne (by omega), bU_at]
            exact l0
          · refine K M4 ((hFB.trans hF4).mono fun g j i z => ?_) ⟨⟨?_, ?_, ?_, fun l hl => ?_⟩, hTK, ?_, fun z => by omega⟩
            · simp only [oL, frM] at z ⊢
              omega
            · rw [hF4 _ _ _ (by omega), hF3' _ _ _ (by omega), bU_ne (by omega), bU_ne (by omega), bU_ne (by omega), bU_ne (by omega), hF1 _ _ _ (by simp only [frE]; omega)]
              exact hR.1.2.1
            · rw [hF4 _ _ _ (by omega), hF3' _ _ _ (by omega), bU_ne (by omega), bU_ne (by omega), bU_at]
              exact l0
            · rw [hF4 _ _ _ (by omega), hF3' _ _ _ (by omega), bU_ne (by omega), bU_at]
              rfl
            · have : l = 0 := by omega
              subst this
              refine ⟨fun _ k hk => ?_, fun _ z => absurd rfl z, ?_, ?_, fun z => absurd rfl z⟩
              · rw [hF4 _ _ _ (by omega)]
                exact w1 k hk
              · rw [hF4 _ _ _ (by omega)]
                exact w2
              · rw [hF4 _ _ _ (by omega)]
                exact w3
            · rw [hF4 _ _ _ (by omega), hF3' _ _ _ (by omega), bU_at]
              rfl
  · exact S_isSeries_f hs (n0 (g_X7_text_0 (T_isSeries_f hs (n0 (alike rfl hR.same)))))
