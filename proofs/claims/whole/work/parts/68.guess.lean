-- needs: 06 08 09 10 11 12 13 14 15 16 17 18 19 26 27 28 29 30 31 32 33 34 35 37 39 41 42 43 45 46 47 48 49 50 51 52 53 54 55 56 57 58 59 60 61 62 63 65 66 67
/-- the basis may be another one; the ledger is told apart -/
theorem Rels.stale {n : Nat} {p : Int} {S : Nat → Nat → Int} {c u : Nat} {L0 : Nat → Nat} {M M' : bM} {L : Nat → Nat → Nat → Prop} (h : Rels n p S c u L0 M) (hf : Fr L M M') (hst : M' 0 0 7 = iI 1) (hL : RelL (n + 1) M') (hd : ∀ g j i, rdF g j i ∨ rdS g j i ∨ rdC g j i ∨ rdT g j i ∨ rdH g j i → ¬ L g j i) : Rel (n + 1) M' := by
  obtain ⟨h1, h2, h3, h4, h5, h6, h7⟩ := h
  exact ⟨p, S, c, u, L0, h1.fr hf (fun g j i z => hd g j i (Or.inl z)), h2.fr hf (fun g j i z => hd g j i (Or.inr (Or.inl z))), h3.fr hf (fun g j i z => hd g j i (Or.inr (Or.inr (Or.inl z)))), h4.fr hf (fun g j i z => hd g j i (Or.inr (Or.inr (Or.inr (Or.inl z))))), Or.inl hst, hL, h7.fr hf (fun g j i z => hd g j i (Or.inr (Or.inr (Or.inr (Or.inr z)))))⟩
theorem Cert.mv {M M' : bM} {k t : Nat} {a : Int} (h : Cert M k t a) (h5 : ∀ i, M' 5 t i = M 5 t i) (h46 : ∀ g, 46 ≤ g → g ≤ 52 → M' g 0 k = M g 0 k) (h15 : ∀ j, j < 4 → ∀ e, M' 15 (4 * t + j) e = M 15 (4 * t + j) e) (h53 : ∀ e, e < 132 → M' 53 0 (132 * k + e) = M 53 0 (132 * k + e)) : Cert M' k t a := by
  obtain ⟨⟨c1, c2, c3⟩, ⟨kd, m, q, a1, a2, a3, a4, a5, a6, a7, a8, a9, a10, a11, a12, a13⟩, c5, c6, c7⟩ := h
  refine ⟨⟨(h5 1).trans c1, (h5 2).trans c2, (h46 46 (by omega) (by omega)).trans c3⟩, ⟨kd, m, q, a1, a2, a3, a4, a5, a6, (h5 3).trans a7, (h46 47 (by omega) (by omega)).trans a8, (h5 4).trans a9, (h46 48 (by omega) (by omega)).trans a10, (h5 8).trans a11, (h46 52 (by omega) (by omega)).trans a12, fun j hj => ?_⟩, ?_, ?_, ?_⟩
  · obtain ⟨C, d1, d2, d3, d4⟩ := a13 j hj
    refine ⟨C, d1, d2, fun e he => (h15 j (by omega) e).trans (d3 e he), fun e he => ?_⟩
    have := h53 (33 * j + e) (by omega)
    rw [← Nat.add_assoc] at this
    exact this.trans (d4 e he)
  · rw [h5, h46 49 (by omega) (by omega)]
    exact c5
  · rw [h5, h46 50 (by omega) (by omega)]
    exact c6
  · rw [h5, h46 51 (by omega) (by omega)]
    exact c7
theorem P_guess {n : Nat} {M : bM} {x1 x2 x3 x4 x5 : Int32} (hn : n < 1000000) (h : Rel n M) : bCall 77 [cR 0 0, cI x1, cI x2, cI x3, cI x4, cI x5] M (fun v M1 => bCall 147 [cR 26 0, cI x1, cI x2, cI x3, cI x4, cI x5] M1 (Alike (n + 1) v)) := by
  obtain ⟨p, S, c, u, L, hR⟩ := h
  obtain ⟨K, t, a, G, hL⟩ := hR.2.2.2.2.2.1.led
  by_cases hok : ∃ s kd m o hi, GOK x1 x2 x3 x4 x5 s kd m o hi
  · obtain ⟨s, kd, m, o, hi, hok⟩ := hok
    have hok' := hok
    obtain ⟨⟨e1, hs6⟩, ⟨e2, hkd⟩, h3, ⟨e4, ho1, ho2⟩, e5, hhi⟩ := hok'
    have hm : 2 ≤ m ∧ m ≤ 4 := by omega
    have hkm : kd = 0 → m = 2 := by omega
    have hR' := hR
    obtain ⟨⟨hp1, hp2, h2, h4, hP⟩, hS, r3, r4, r5, r6, r7⟩ := hR'
    have hL' := hL
    obtain ⟨L1, L2, L3, L4, L5, L6, L7, L8⟩ := hL'
    have ha : ∀ k, k < 32 → 0 ≤ S s k ∧ S s k < p := fun k hk => (hS s hs6 k hk).2.2
    have hgb := gser_bd (kd := kd) h2 ha
    refine S_guess_ok hok fun xm em => S_freePlace hL (fun hK8 => ?_) fun hK t0 ht8 hno => ⟨rfl, ?_⟩
    · refine T_guess_ok hok fun xm' em' => ⟨fun q => absurd ?_ q, fun _ => alike rfl hR.same⟩
      rw [L3, hK8]
      exact (iL 8).symm
    · -- what the model does behind the class
      have hmod : ∀ {Q : bQ} (M' : bM), Fr (fun g j i => g = 7 ∧ 6 ≤ j ∨ g = 9 ∨ g = 0 ∧ i = 7 ∨ g = 3 ∨ g = 8 ∨ g = 5 ∧ j = t0 ∨ g = 15 ∧ 4 * t0 ≤ j ∧ j < 4 * t0 + 4 ∨ g = 4 ∧ i = 1) M M' → (∀ (M6 : bM) d' R', Fr (fun g _ i => g = 26 ∧ (i = 25 ∨ i = 26 ∨ i = 31) ∨ g = 27 ∨ 36 ≤ g ∧ g ≤ 45) M' M6 → IsB p m o (fun _ => 0) (gser p kd (S s)) d' R' → MS p m o (fun _ => 0) (gser p kd (S s)) M6 → (∀ i, i < m → d' i ≤ 32 ∧ M6 39 0 i = iI (d' i : Int)) → (∀ i, i < m → ∀ j, j < m → ∀ k, k < 33 → M6 38 0 (132 * i + 33 * j + k) = iI (R' i j k)) → (d' (lowF (fun i => d' i + 0) (m - 1) 1 0) ≤ hi → bCall 126 [cR 26 0, cI (iI (lowF (fun i => d' i + 0) (m - 1) 1 0 : Int))] M6 (fun v M7 => bV0 v (bGo 147 Q 119 [some (cR 26 0), some (cI x1), some (cI x2), some (cI x3), some (cI x4), some (cI x5), some (cI (iI (lowF (fun i => d' i + 0) (m - 1) 1 0 : Int))), none] [] M7))) ∧ (hi < d' (lowF (fun i => d' i + 0) (m - 1) 1 0) → Q (some (cI (-3 : Int32))) M6)) → bCall 147 [cR 26 0, cI x1, cI x2, cI x3, cI x4, cI x5] M' Q := by
        intro Q M' hFc Kc
        have hFc' : ∀ g j i, ¬ (g = 7 ∧ 6 ≤ j ∨ g = 9 ∨ g = 0 ∧ i = 7 ∨ g = 3 ∨ g = 8 ∨ g = 5 ∧ j = t0 ∨ g = 15 ∧ 4 * t0 ≤ j ∧ j < 4 * t0 + 4 ∨ g = 4 ∧ i = 1) → M' g j i = M g j i := hFc
        refine T_guess_ok hok fun xm' em' => ⟨fun _ => ?_, fun q => absurd (fun z => ?_) q⟩
        · refine T_makesSeries (a := S s) (p := p) (by rw [hFc' _ _ _ (by omega)]; exact hp2) h2 h4 hkd hm.2 (by omega) hs6 e1 e2 em' (fun k hk => ⟨by rw [hFc' _ _ _ (by omega)]; exact (hS s hs6 k hk).2.1, ha k hk⟩) fun M5 hF5 hmy g5 s5 => ?_
          have hF5' : ∀ g j i, ¬ (g = 26 ∧ i = 25 ∨ g = 27 ∨ g = 36 ∨ g = 37) → M5 g j i = M' g j i := hF5
          have hMS : MS p m o (fun _ => 0) (gser p kd (S s)) (bU M5 26 0 26 x4) := by
            refine ⟨?_, ?_, ?_, fun j hj => ?_, fun j hj k hk => ⟨?_, hgb j k hk⟩⟩
            · rw [bU_ne (by omega), hF5' _ _ _ (by omega), hFc' _ _ _ (by omega)]
              exact hp2
            · rw [bU_ne (by omega)]
              exact hmy
            · rw [bU_at]
              exact e4
            · rw [bU_ne (by omega)]
              exact s5 j (by omega)
            · rw [bU_ne (by omega)]
              exact g5 j hj k hk
          refine g_X7_guess_82 (T_looksForBasis h2 h4 hP hm.2 ho2 (fun i hi => Nat.zero_le _) hMS fun M6 d' R' hF6 hB' g1 g2 => ?_)
          have hMS6 : MS p m o (fun _ => 0) (gser p kd (S s)) M6 := hMS.fr hF6 fun g j i z => by
            simp only [frS]
            omega
          have hlow : lowF (fun i => d' i + 0) (m - 1) 1 0 < m := lowF_lt (by omega) (by omega)
          have hFm : Fr (fun g _ i => g = 26 ∧ (i = 25 ∨ i = 26 ∨ i = 31) ∨ g = 27 ∨ 36 ≤ g ∧ g ≤ 45) M' M6 := ((hF5.trans bU_fr).trans hF6).mono fun g j i z => by
            simp only [oL, frS] at z
            omega
          obtain ⟨k1, k2⟩ := Kc M6 d' R' hFm hB' hMS6 g1 g2
          refine T_lowestRow hMS6 hm.2 (by omega) g1 (fun i hi => Nat.zero_le _) ⟨vin (a := (lowF (fun i => d' i + 0) (m - 1) 1 0 : Int)) rfl, ?_⟩
          rw [cl_of (n := lowF (fun i => d' i + 0) (m - 1) 1 0) rfl, (g1 _ hlow).2]
          have hd32 := (g1 _ hlow).1
          exact ⟨fun q => k1 (by have := le_of q rfl e5; omega), fun q => k2 (by have := nle_of q rfl e5; omega)⟩
        · rw [hFc' _ _ _ (by omega), L3] at z
          have := eq_of z rfl (iL 8)
          omega
      -- the class
      refine g_X6_guess_91 ⟨vin e1, ?_⟩
      rw [cl_of e1]
      refine S_gatherKind (a := S s) hp1 h2 h4 hkd hm.2 (by omega) hs6 e2 em (fun k hk => ⟨(hS s hs6 k hk).1, ha k hk⟩) fun M1 hF1 g1 => S_fill9 l0 fun M2 hB2 => ⟨Or.inr rfl, ?_⟩
      have hF1' : ∀ g j i, ¬ (g = 7 ∧ 8 ≤ j ∧ j < 12) → M1 g j i = M g j i := hF1
      refine S_build (p := p) (m := m) (o := o) (s := fun _ => 0) (f := gser p kd (S s)) (by rw [bU_ne (by omega), hB2.keep (by omega), hF1' _ _ _ (by omega)]; exact hp1) h2 h4 hP hm.2 ho2 (fun i hi => Nat.zero_le _) em e4 (fun i hi k hk => ⟨by rw [bU_ne (by omega), hB2.keep (by omega)]; exact g1 i hi k hk, hgb i k hk⟩) (fun i hi => by rw [bU_ne (by omega)]; exact hB2.at (by omega) (by omega)) fun M3 hF3 hBI => ?_
      obtain ⟨d, R, hB, b2, b3, b4, b5⟩ := hBI
      have hBS : BS p m (fun _ => 0) (gser p kd (S s)) d R M3 := ⟨b2, fun i hi => (b3 i hi).2, b4, b5⟩
      have hFc3 := ((hF1.trans hB2.fr).trans bU_fr).trans hF3
      have h37 : M3 0 0 7 = iI 1 := by
        rw [hF3 _ _ _ (by omega), bU_at]
        exact l1
      have hlow : lowF (fun i => d i + 0) (m - 1) 1 0 < m := lowF_lt (by omega) (by omega)
      refine S_leastRow hBS hm.2 (by omega) (fun i hi => ⟨(b3 i hi).1, Nat.zero_le _⟩) (S_height hBS hm.2 hlow rfl ?_)
      have hd32 := (b3 _ hlow).1
      -- the two bases are one
      have hsame : ∀ {d' R'}, IsB p m o (fun _ => 0) (gser p kd (S s)) d' R' → lowF (fun i => d' i + 0) (m - 1) 1 0 = lowF (fun i => d i + 0) (m - 1) 1 0 ∧ d' (lowF (fun i => d i + 0) (m - 1) 1 0) = d (lowF (fun i => d i + 0) (m - 1) 1 0) ∧ ∀ i, i < m → ∀ j, j < m → ∀ k, R' i j k = R i j k := fun {d' R'} hB' => by
        obtain ⟨u1, u2⟩ := hB'.uniq h2 hm.2 hB
        exact ⟨lowF_congr (m := m) (fun i hi => by show d' i + 0 = d i + 0; rw [u1 i hi]) (by omega) (by omega), u1 _ hlow, u2⟩
      generalize hlw : lowF (fun i => d i + 0) (m - 1) 1 0 = low at *
      refine ⟨fun q => ?_, fun q => ?_⟩
      · have hle := le_of q rfl e5
        -- the certificate is kept
        have hFc4 := ((hFc3.trans (bU_fr (g := 5) (j := t0) (i := 3) (x := x2))).trans (bU_fr (g := 5) (j := t0) (i := 5) (x := x4))).trans (bU_fr (g := 5) (j := t0) (i := 8) (x := (bU (bU M3 5 t0 3 x2) 5 t0 5 x4) 1 0 0))
        have p3 : M3 1 0 0 = iI p := by rw [hF3 _ _ _ (by omega), bU_ne (by omega), hB2.keep (by omega), hF1' _ _ _ (by omega)]; exact hp1
        have v8 : (bU (bU M3 5 t0 3 x2) 5 t0 5 x4) 1 0 0 = iI p := by rw [bU_ne (by omega), bU_ne (by omega)]; exact p3
        have w3 : (bU (bU (bU M3 5 t0 3 x2) 5 t0 5 x4) 5 t0 8 ((bU (bU M3 5 t0 3 x2) 5 t0 5 x4) 1 0 0)) 5 t0 3 = x2 := by rw [bU_ne (by omega), bU_ne (by omega), bU_at]
        have w5 : (bU (bU (bU M3 5 t0 3 x2) 5 t0 5 x4) 5 t0 8 ((bU (bU M3 5 t0 3 x2) 5 t0 5 x4) 1 0 0)) 5 t0 5 = x4 := by rw [bU_ne (by omega), bU_at]
        have w8 : (bU (bU (bU M3 5 t0 3 x2) 5 t0 5 x4) 5 t0 8 ((bU (bU M3 5 t0 3 x2) 5 t0 5 x4) 1 0 0)) 5 t0 8 = iI p := by rw [bU_at]; exact v8
        have hBS4 : BS p m (fun _ => 0) (gser p kd (S s)) d R (bU (bU (bU M3 5 t0 3 x2) 5 t0 5 x4) 5 t0 8 ((bU (bU M3 5 t0 3 x2) 5 t0 5 x4) 1 0 0)) := hBS.fr ((bU_fr.trans bU_fr).trans bU_fr) fun g j i z w => by
          unfold rdB at z
          simp only [oL] at w
          omega
        have w7 : (bU (bU (bU M3 5 t0 3 x2) 5 t0 5 x4) 5 t0 8 ((bU (bU M3 5 t0 3 x2) 5 t0 5 x4) 1 0 0)) 0 0 7 = iI 1 := by rw [bU_ne (by omega), bU_ne (by omega), bU_ne (by omega)]; exact h37
        generalize (bU (bU (bU M3 5 t0 3 x2) 5 t0 5 x4) 5 t0 8 ((bU (bU M3 5 t0 3 x2) 5 t0 5 x4) 1 0 0)) = M4 at hFc4 w3 w5 w8 w7 hBS4 ⊢
        refine S_keepRow h2 h4 hm.2 hlow ht8 rfl hBS4 fun M5 hF5 q4 q6 q7 q15 => ?_
        have hF5' : ∀ g j i, ¬ (g = 5 ∧ j = t0 ∧ (i = 4 ∨ i = 6 ∨ i = 7) ∨ g = 15 ∧ 4 * t0 ≤ j ∧ j < 4 * t0 + 4) → M5 g j i = M4 g j i := hF5
        have hFc5 := hFc4.trans hF5
        have y41 : M5 4 0 1 = iI (G : Int) := by
          rw [hFc5 _ _ _ (by simp only [oL]; omega)]
          exact L5
        refine g_X1_giveNumber_0 ⟨Or.inr rfl, ?_⟩
        simp only [bU_g (show 4 ≠ 5 by decide), bU_g (show 5 ≠ 4 by decide), bU_at, y41]
        -- the class's last state
        have hFc6 := ((hFc5.trans (bU_fr (g := 5) (j := t0) (i := 1) (x := (1 : Int32)))).trans (bU_fr (g := 5) (j := t0) (i := 2) (x := iI (G : Int)))).trans (bU_fr (g := 4) (j := 0) (i := 1) (x := iI (G : Int) + (1 : Int32)))
        have z41 : (bU (bU (bU M5 5 t0 1 (1 : Int32)) 5 t0 2 (iI (G : Int))) 4 0 1 (iI (G : Int) + (1 : Int32))) 4 0 1 = iI ((G + 1 : Nat) : Int) := by
          rw [bU_at, l1, iI_add]
          exact iIc (by omega)
        have z51 : (bU (bU (bU M5 5 t0 1 (1 : Int32)) 5 t0 2 (iI (G : Int))) 4 0 1 (iI (G : Int) + (1 : Int32))) 5 t0 1 = iI 1 := by
          rw [bU_ne (by omega), bU_ne (by omega), bU_at]
          exact l1
        have z52 : (bU (bU (bU M5 5 t0 1 (1 : Int32)) 5 t0 2 (iI (G : Int))) 4 0 1 (iI (G : Int) + (1 : Int32))) 5 t0 2 = iI (G : Int) := by
          rw [bU_ne (by omega), bU_at]
        have zk : ∀ g j i, ¬ (g = 5 ∧ j = t0 ∧ (i = 1 ∨ i = 2)) → g ≠ 4 → (bU (bU (bU M5 5 t0 1 (1 : Int32)) 5 t0 2 (iI (G : Int))) 4 0 1 (iI (G : Int) + (1 : Int32))) g j i = M5 g j i := fun g j i a b => by
          rw [bU_ne (by omega), bU_ne (by omega), bU_ne (by omega)]
        have hFcL : Fr (fun g j i => g = 7 ∧ 6 ≤ j ∨ g = 9 ∨ g = 0 ∧ i = 7 ∨ g = 3 ∨ g = 8 ∨ g = 5 ∧ j = t0 ∨ g = 15 ∧ 4 * t0 ≤ j ∧ j < 4 * t0 + 4 ∨ g = 4 ∧ i = 1) M (bU (bU (bU M5 5 t0 1 (1 : Int32)) 5 t0 2 (iI (G : Int))) 4 0 1 (iI (G : Int) + (1 : Int32))) := hFc6.mono fun g j i z => by
          simp only [oL] at z
          omega
        generalize (bU (bU (bU M5 5 t0 1 (1 : Int32)) 5 t0 2 (iI (G : Int))) 4 0 1 (iI (G : Int) + (1 : Int32))) = M' at hFcL z41 z51 z52 zk ⊢
        clear hFc6 hFc5 hFc4 hFc3
        refine hmod M' hFcL fun M6 d' R' hF6 hB' hMS6 g1 g2 => ?_
        obtain ⟨u0, u1, u2⟩ := hsame hB'
        rw [u0, u1]
        refine ⟨fun _ => ?_, fun w => absurd hle (by omega)⟩
        have hF6' : ∀ g j i, ¬ (g = 26 ∧ (i = 25 ∨ i = 26 ∨ i = 31) ∨ g = 27 ∨ 36 ≤ g ∧ g ≤ 45) → M6 g j i = M' g j i := hF6
        have hFcL' : ∀ g j i, ¬ (g = 7 ∧ 6 ≤ j ∨ g = 9 ∨ g = 0 ∧ i = 7 ∨ g = 3 ∨ g = 8 ∨ g = 5 ∧ j = t0 ∨ g = 15 ∧ 4 * t0 ≤ j ∧ j < 4 * t0 + 4 ∨ g = 4 ∧ i = 1) → M' g j i = M g j i := hFcL
        refine T_worksOut h2 h4 hm.2 hMS6 (by omega) rfl (hB'.row_bd g2 hlow) fun M7 hB7 => ?_
        have hgn := g2
        refine T_guess_keep (K := K) (G := G) (low := low) (m := m) (p := p) (f := fun k => rs m (gser p kd (S s)) (R' low) k % p) ?_ hK ?_ ?_ ?_ rfl (by omega) (fun k hk => ⟨hB7.at (by omega) hk, Int.emod_nonneg _ (by omega), by have := Int.emod_lt_of_pos (rs m (gser p kd (S s)) (R' low) k) (show 0 < p by omega); omega⟩) fun M8 hF8 k38 k39 kold kold53 kv k53 => ?_
        · rw [hB7.keep (by omega), hF6' _ _ _ (by omega), hFcL' _ _ _ (by omega)]
          exact L3
        · rw [hB7.keep (by omega), hF6' _ _ _ (by omega), hFcL' _ _ _ (by omega)]
          exact L4
        · rw [hB7.keep (by omega), hF6' _ _ _ (by omega), hFcL' _ _ _ (by omega)]
          exact hp2
        · rw [hB7.keep (by omega)]
          exact hMS6.2.1
        · have hF8' : ∀ g j i, ¬ (46 ≤ g ∧ g ≤ 53 ∨ g = 26 ∧ (i = 38 ∨ i = 39)) → M8 g j i = M7 g j i := hF8
          have hFall : Fr (fun g j i => (g = 7 ∧ 6 ≤ j ∨ g = 9 ∨ g = 0 ∧ i = 7 ∨ g = 3 ∨ g = 8 ∨ g = 5 ∨ g = 15 ∨ g = 4) ∨ g = 26 ∧ (i = 25 ∨ i = 26 ∨ i = 31 ∨ i = 38 ∨ i = 39) ∨ g = 27 ∨ 36 ≤ g ∧ g ≤ 53) M M8 := (((hFcL.trans hF6).trans hB7.fr).trans hF8).mono fun g j i z => by
            simp only [oL] at z
            omega
          -- what the class has stays
          have cl8 : ∀ g j i, g ≤ 25 → M8 g j i = M' g j i := fun g j i hg => by
            rw [hF8' _ _ _ (by omega), hB7.keep (by omega), hF6' _ _ _ (by omega)]
          have md8 : ∀ g j i, 46 ≤ g → g ≤ 53 → M7 g j i = M g j i := fun g j i h1 h2 => by
            rw [hB7.keep (by omega), hF6' _ _ _ (by omega), hFcL' _ _ _ (by omega)]
          obtain ⟨kv1, kv2, kv3, kv4, kv5, kv6, kv7⟩ := kv
          have hnew : Cert M8 K t0 (G : Int) := by
            refine ⟨⟨?_, ?_, kv1⟩, ⟨kd, m, p, hkd, hm.1, hm.2, h2, h4, hkm, ?_, kv2.trans e2, ?_, kv3, ?_, kv7, fun j hj => ⟨fun k => R low j k, fun k => hB.1 low hlow j hj k, fun k hk => ?_, fun k hk => ?_, fun k hk => ?_⟩⟩, ?_, ?_, ?_⟩
            · rw [cl8 _ _ _ (by omega)]
              exact z51
            · rw [cl8 _ _ _ (by omega)]
              exact z52
            · rw [cl8 _ _ _ (by omega), zk _ _ _ (by omega) (by omega), hF5' _ _ _ (by omega)]
              exact w3.trans e2
            · rw [cl8 _ _ _ (by omega), zk _ _ _ (by omega) (by omega)]
              exact q4
            · rw [cl8 _ _ _ (by omega), zk _ _ _ (by omega) (by omega), hF5' _ _ _ (by omega)]
              exact w8
            · refine hB.2.1.2 low hlow j hj k ?_
              unfold rk
              dsimp only
              omega
            · rw [cl8 _ _ _ (by omega), zk _ _ _ (by omega) (by omega)]
              exact q15 j hj k hk
            · rw [Nat.add_assoc, k53 _ (by omega), ← Nat.add_assoc, hB7.keep (by omega), g2 low hlow j hj k hk, u2 low hlow j hj k]
            · rw [cl8 _ _ _ (by omega), zk _ _ _ (by omega) (by omega), hF5' _ _ _ (by omega), w5, kv4]
            · rw [cl8 _ _ _ (by omega), zk _ _ _ (by omega) (by omega), q6, kv5, hB7.keep (by omega), (g1 low hlow).2, u1, Nat.add_zero]
            · rw [cl8 _ _ _ (by omega), zk _ _ _ (by omega) (by omega), q7, kv6]
              have he : (fun k => rs m (gser p kd (S s)) (R low) k % p) = fun k => rs m (gser p kd (S s)) (R' low) k % p := by
                funext k
                rw [rs_congr (fun j hj k _ => (u2 low hlow j hj k).symm) (fun _ _ _ _ => rfl)]
              rw [he]
          have hnewL : RelL (n + 1) M8 := by
            refine ⟨K + 1, fun k => if k = K then t0 else t k, fun k => if k = K then (G : Int) else a k, G + 1, by omega, by omega, k38, k39, ?_, fun k hk => ?_, fun k k' hkk hk' => ?_, fun i hi hno' => ?_⟩
            · rw [cl8 _ _ _ (by omega)]
              exact z41
            · by_cases q : k = K
              · subst q
                simp only [if_true]
                exact ⟨ht8, by omega, by omega, hnew⟩
              · simp only [if_neg q]
                obtain ⟨a1, a2, a3, a4⟩ := L6 k (by omega)
                have hne := hno k (by omega)
                refine ⟨a1, a2, by omega, a4.mv (fun i => ?_) (fun g h1 h2 => ?_) (fun j hj e => ?_) fun e he => ?_⟩
                · rw [cl8 _ _ _ (by omega), hFcL' _ _ _ (by omega)]
                · rw [kold g k h1 h2 q, md8 _ _ _ (by omega) (by omega)]
                · rw [cl8 _ _ _ (by omega), hFcL' _ _ _ (by omega)]
                · rw [kold53 _ (by omega), md8 _ _ _ (by omega) (by omega)]
            · by_cases q : k' = K
              · subst q
                simp only [if_true, if_neg (show ¬ k = k' by omega)]
                exact ⟨hno k (by omega), (L6 k (by omega)).2.2.1⟩
              · simp only [if_neg q, if_neg (show ¬ k = K by omega)]
                exact L7 k k' hkk (by omega)
            · have h0 := hno' K (by omega)
              simp only [if_true] at h0
              rw [cl8 _ _ _ (by omega), hFcL' _ _ _ (by omega)]
              refine L8 i hi fun k hk z => ?_
              have := hno' k (by omega)
              simp only [if_neg (show ¬ k = K by omega)] at this
              exact this z
          refine alike rfl (hR.stale hFall ?_ hnewL fun g j i z => ?_)
          · rw [cl8 _ _ _ (by omega), zk _ _ _ (by omega) (by omega), hF5' _ _ _ (by omega)]
            exact w7
          · unfold rdF rdS rdC rdT rdH at z
            omega
      · have hle := nle_of q rfl e5
        refine hmod M3 (hFc3.mono fun g j i z => ?_) fun M6 d' R' hF6 hB' hMS6 g1 g2 => ?_
        · simp only [oL] at z
          omega
        · obtain ⟨u0, u1, u2⟩ := hsame hB'
          rw [u0, u1]
          refine ⟨fun w => absurd hle (by omega), fun _ => alike rfl (hR.stale (hFc3.trans hF6) ?_ (RelL.up (r6.fr (hFc3.trans hF6) fun g j i z => ?_) (Nat.le_succ n)) fun g j i z => ?_)⟩
          · rw [hF6 _ _ _ (by omega)]
            exact h37
          · unfold rdL at z
            simp only [oL]
            omega
          · unfold rdF rdS rdC rdT rdH at z
            simp only [oL]
            omega
  · exact S_guess_bad hok (T_guess_bad hok (alike rfl hR.same))
