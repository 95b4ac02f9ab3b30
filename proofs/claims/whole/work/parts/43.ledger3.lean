-- needs: 06 08 09 10 11 12 13 14 15 16 17 18 19 26 27 28 29 30 31 32 33 34 35 39 41 42
theorem bU_g {M : bM} {g j i : Nat} {x : Int32} {g' : Nat} (h : g' ≠ g) : bU M g j i x g' = M g' := by
  funext j'
  exact bU_row' (fun z => h z.1)
/-- certificate k + 1 comes to place k of the model -/
theorem T_moves {M0 : bM} {Q : bQ} {k : Nat} {x : Int32} (hx : x = iI (k : Int)) (hk : k < 7) (K : ∀ M, (∀ g j i, ¬ (46 ≤ g ∧ g ≤ 53) → M g j i = M0 g j i) → (∀ g, 46 ≤ g → g ≤ 52 → ∀ i, M g 0 i = if i = k then M0 g 0 (k + 1) else M0 g 0 i) → (∀ i, M 53 0 i = if 132 * k ≤ i ∧ i < 132 * k + 132 then M0 53 0 (i + 132) else M0 53 0 i) → Q none M) : bCall 156 [cR 26 0, cI x] M0 Q := by
  have e1 : x + (1 : Int32) = iI ((k + 1 : Nat) : Int) := inN hx
  have v0 : vp_in x 8 := vin hx
  have v1 : vp_in (x + (1 : Int32)) 8 := vin e1
  refine g_X7_moves_0 ⟨v1, v0, v1, v0, v1, v0, v1, v0, v1, v0, v1, v0, v1, v0, ?_⟩
  rw [cl_of e1, cl_of hx]
  simp only [bU_g (show 47 ≠ 46 by decide), bU_g (show 48 ≠ 46 by decide), bU_g (show 48 ≠ 47 by decide), bU_g (show 49 ≠ 46 by decide), bU_g (show 49 ≠ 47 by decide), bU_g (show 49 ≠ 48 by decide), bU_g (show 50 ≠ 46 by decide), bU_g (show 50 ≠ 47 by decide), bU_g (show 50 ≠ 48 by decide), bU_g (show 50 ≠ 49 by decide), bU_g (show 51 ≠ 46 by decide), bU_g (show 51 ≠ 47 by decide), bU_g (show 51 ≠ 48 by decide), bU_g (show 51 ≠ 49 by decide), bU_g (show 51 ≠ 50 by decide), bU_g (show 52 ≠ 46 by decide), bU_g (show 52 ≠ 47 by decide), bU_g (show 52 ≠ 48 by decide), bU_g (show 52 ≠ 49 by decide), bU_g (show 52 ≠ 50 by decide), bU_g (show 52 ≠ 51 by decide)]
  have loop : ∀ (m i : Nat), i + m = 132 → ∀ (M : bM) (x2 : Int32), x2 = iI (i : Int) → Blk (bU (bU (bU (bU (bU (bU (bU M0 46 0 k (M0 46 0 (k + 1))) 47 0 k (M0 47 0 (k + 1))) 48 0 k (M0 48 0 (k + 1))) 49 0 k (M0 49 0 (k + 1))) 50 0 k (M0 50 0 (k + 1))) 51 0 k (M0 51 0 (k + 1))) 52 0 k (M0 52 0 (k + 1))) M 53 0 (132 * k) (132 * k + i) (fun i => (M0 53 0 (i + 132)).toInt) → bGo 156 Q 100 [some (cR 26 0), some (cI x), some (cI x2)] [] M := by
    intro m
    induction m with
    | zero =>
      intro i hi M x2 e2 hB
      refine g_X7_moves_100 ⟨fun c => ?_, fun c => ?_⟩
      · have : i = 132 := by omega
        subst this
        refine K M (fun g j i hn => ?_) (fun g h1 h2 i => ?_) fun i => ?_
        · rw [hB.keep (by omega), bU_ne (by omega), bU_ne (by omega), bU_ne (by omega), bU_ne (by omega), bU_ne (by omega), bU_ne (by omega), bU_ne (by omega)]
        · rw [hB.keep (by omega)]
          by_cases hik : i = k
          · subst hik
            rw [if_pos rfl]
            have hg : g = 46 ∨ g = 47 ∨ g = 48 ∨ g = 49 ∨ g = 50 ∨ g = 51 ∨ g = 52 := by omega
            rcases hg with rfl | rfl | rfl | rfl | rfl | rfl | rfl <;> (try simp only [bU_g (show 46 ≠ 47 by decide), bU_g (show 46 ≠ 48 by decide), bU_g (show 46 ≠ 49 by decide), bU_g (show 46 ≠ 50 by decide), bU_g (show 46 ≠ 51 by decide), bU_g (show 46 ≠ 52 by decide), bU_g (show 47 ≠ 46 by decide), bU_g (show 47 ≠ 48 by decide), bU_g (show 47 ≠ 49 by decide), bU_g (show 47 ≠ 50 by decide), bU_g (show 47 ≠ 51 by decide), bU_g (show 47 ≠ 52 by decide), bU_g (show 48 ≠ 46 by decide), bU_g (show 48 ≠ 47 by decide), bU_g (show 48 ≠ 49 by decide), bU_g (show 48 ≠ 50 by decide), bU_g (show 48 ≠ 51 by decide), bU_g (show 48 ≠ 52 by decide), bU_g (show 49 ≠ 46 by decide), bU_g (show 49 ≠ 47 by decide), bU_g (show 49 ≠ 48 by decide), bU_g (show 49 ≠ 50 by decide), bU_g (show 49 ≠ 51 by decide), bU_g (show 49 ≠ 52 by decide), bU_g (show 50 ≠ 46 by decide), bU_g (show 50 ≠ 47 by decide), bU_g (show 50 ≠ 48 by decide), bU_g (show 50 ≠ 49 by decide), bU_g (show 50 ≠ 51 by decide), bU_g (show 50 ≠ 52 by decide), bU_g (show 51 ≠ 46 by decide), bU_g (show 51 ≠ 47 by decide), bU_g (show 51 ≠ 48 by decide), bU_g (show 51 ≠ 49 by decide), bU_g (show 51 ≠ 50 by decide), bU_g (show 51 ≠ 52 by decide), bU_g (show 52 ≠ 46 by decide), bU_g (show 52 ≠ 47 by decide), bU_g (show 52 ≠ 48 by decide), bU_g (show 52 ≠ 49 by decide), bU_g (show 52 ≠ 50 by decide), bU_g (show 52 ≠ 51 by decide)]) <;> exact bU_at
          · rw [if_neg hik, bU_ne (by omega), bU_ne (by omega), bU_ne (by omega), bU_ne (by omega), bU_ne (by omega), bU_ne (by omega), bU_ne (by omega)]
        · by_cases hik : 132 * k ≤ i ∧ i < 132 * k + 132
          · rw [if_pos hik, hB.at hik.1 hik.2, tI]
          · rw [if_neg hik, hB.keep (by omega), bU_ne (by omega), bU_ne (by omega), bU_ne (by omega), bU_ne (by omega), bU_ne (by omega), bU_ne (by omega), bU_ne (by omega)]
      · have := nle_of c (iL 132) e2
        omega
    | succ m ih =>
      intro i hi M x2 e2 hB
      have p1 : (((132 : Int32) * x) + (132 : Int32)) + x2 = iI ((132 * k + i + 132 : Nat) : Int) := by
        rw [hx, e2, iL 132, iI_mul, iI_add, iI_add]
        exact iIc (by omega)
      have p2 : ((132 : Int32) * x) + x2 = iI ((132 * k + i : Nat) : Int) := by
        rw [hx, e2, iL 132, iI_mul, iI_add]
        exact iIc (by omega)
      refine g_X7_moves_100 ⟨fun c => ?_, fun c => ⟨vin p1, vin p2, ?_⟩⟩
      · have := le_of c (iL 132) e2
        omega
      · rw [cl_of p1, cl_of p2]
        refine ih (i + 1) (by omega) _ _ (inN e2) (hB.up (by omega) ?_)
        rw [hB.keep (by omega), tI, bU_ne (by omega), bU_ne (by omega), bU_ne (by omega), bU_ne (by omega), bU_ne (by omega), bU_ne (by omega), bU_ne (by omega)]
  exact loop 132 0 rfl _ _ l0 Blk.start
theorem P_strike {n : Nat} {M : bM} {x1 : Int32} (hn : n < 1000000) (h : Rel n M) : bCall 95 [cR 0 0, cI x1] M (fun v M1 => bCall 166 [cR 26 0, cI x1] M1 (Alike (n + 1) v)) := by
  obtain ⟨p, S, c, u, L, hR⟩ := h
  obtain ⟨K, t, a, G, hL⟩ := hR.2.2.2.2.2.1.led
  refine g_X6_strike_0 ?_
  by_cases hex : ∃ k, k < K ∧ x1 = iI (a k)
  · obtain ⟨k0, hk0, hx⟩ := hex
    have hL' := hL
    obtain ⟨h1, h2, h3, h4, h5, h6, h7, h8⟩ := hL'
    refine S_find_t hL hn hk0 hx ⟨rfl, Or.inl rfl, ?_⟩
    have ht : ∀ k k', k < K → k' < K → t k = t k' → k = k' := fun k k' a b e => hL.inj a b e
    have hstep : ∀ i, i < K - 1 → (if i < k0 then i else i + 1) < K ∧ (if i < k0 then i else i + 1) ≠ k0 := fun i hi => by split <;> omega
    have hinj : ∀ k k', k < k' → k' < K - 1 → t (if k < k0 then k else k + 1) ≠ t (if k' < k0 then k' else k' + 1) ∧ a (if k < k0 then k else k + 1) < a (if k' < k0 then k' else k' + 1) := fun k k' hlt hk' => h7 _ _ (by split <;> split <;> omega) (hstep k' hk').1
    have hno : ∀ i, i < 8 → (∀ k, k < K - 1 → t (if k < k0 then k else k + 1) ≠ i) → (bU M 5 (t k0) 1 (0 : Int32)) 5 i 1 = iI 0 := by
      intro i hi hq
      by_cases hik : i = t k0
      · subst hik
        rw [bU_at]
        exact l0
      · rw [bU_ne (by omega)]
        refine h8 i hi fun k hk z => ?_
        by_cases hkk : k < k0
        · have := hq k (by omega)
          rw [if_pos hkk] at this
          exact this z
        · have hne : k ≠ k0 := fun q => hik (by rw [← z, q])
          have := hq (k - 1) (by omega)
          rw [if_neg (by omega), show k - 1 + 1 = k by omega] at this
          exact this z
    refine S_size (n := n) (a := a) (G := G) (K := K - 1) (t := fun i => t (if i < k0 then i else i + 1)) (by omega) (fun k hk => ⟨(h6 _ (hstep k hk).1).1, ?_⟩) (fun k k' a b => (hinj k k' a b).1) hno ?_
    · have hne : t (if k < k0 then k else k + 1) ≠ t k0 := fun z => (hstep k hk).2 (ht _ _ (hstep k hk).1 hk0 z)
      rw [bU_ne (by omega)]
      exact (h6 _ (hstep k hk).1).2.2.2.1.1
    · have hL2 : Led n K t a G M := hL
      have hpl : ∀ {Q : bQ}, Q (some (cI (iI (k0 : Int)))) (bU M 5 (t k0) 1 (0 : Int32)) → bCall 113 [cR 26 0, cI x1] (bU M 5 (t k0) 1 (0 : Int32)) Q := by
        intro Q hK
        have loop : ∀ (m i : Nat), i + m = k0 → ∀ (x2 : Int32), x2 = iI (i : Int) → bGo 113 Q 2 [some (cR 26 0), some (cI x1), some (cI x2)] [] (bU M 5 (t k0) 1 (0 : Int32)) := by
          intro m
          induction m with
          | zero =>
            intro i hi x2 e
            have : i = k0 := by omega
            subst this
            refine g_X7_placeOf_2 ⟨fun c => ?_, fun c => ⟨vin e, fun d => ⟨fun c2 => absurd c2 c, fun _ => ?_⟩, fun d => ?_⟩⟩
            · rw [bU_ne (by omega)] at c
              have := le_of c h3 e
              omega
            · rw [e]
              exact hK
            · rw [cl_of e, bU_ne (by omega), (h6 i hk0).2.2.2.1.2.2] at d
              exact absurd hx.symm d
          | succ m ih =>
            intro i hi x2 e
            refine g_X7_placeOf_2 ⟨fun c => ?_, fun c => ⟨vin e, fun d => ?_, fun d => ih (i + 1) (by omega) _ (inN e)⟩⟩
            · rw [bU_ne (by omega)] at c
              have := le_of c h3 e
              omega
            · rw [cl_of e, bU_ne (by omega), (h6 i (by omega)).2.2.2.1.2.2, hx] at d
              have := hL.uniq hn (by omega) hk0 d
              omega
        exact g_X7_placeOf_0 (loop k0 0 (by omega) _ l0)
      refine g_X7_strike_0 (hpl ⟨fun _ => ?_, fun q => absurd (nle_of q l0 rfl) (by omega)⟩)
      -- the loop of moves: after it certificates from k0 to i - 1 are those that followed
      have loop : ∀ (m i : Nat), i + m = K - 1 → k0 ≤ i → ∀ (M2 : bM) (x3 : Int32), x3 = iI (i : Int) → (∀ g j i, ¬ (46 ≤ g ∧ g ≤ 53) → M2 g j i = (bU M 5 (t k0) 1 (0 : Int32)) g j i) → (∀ g, 46 ≤ g → g ≤ 52 → ∀ k, M2 g 0 k = if k0 ≤ k ∧ k < i then M g 0 (k + 1) else M g 0 k) → (∀ k, M2 53 0 k = if 132 * k0 ≤ k ∧ k < 132 * i then M 53 0 (k + 132) else M 53 0 k) → bGo 166 (Alike (n + 1) (some (cI (iI ((K - 1 : Nat) : Int))))) 15 [some (cR 26 0), some (cI x1), some (cI (iI (k0 : Int))), some (cI x3)] [] M2 := by
        intro m
        induction m with
        | zero =>
          intro i hi hki M2 x3 e3 f1 f2 f3
          have hiK : i = K - 1 := by omega
          subst hiK
          have e38 : M2 26 0 38 - (1 : Int32) = iI ((K - 1 : Nat) : Int) := by
            rw [f1 _ _ _ (by omega), bU_ne (by omega), h3, l1, iI_sub]
            exact iIc (by omega)
          refine g_X7_strike_15 ⟨fun _ => ?_, fun q => ?_⟩
          · rw [bU_at, e38]
            have hF : Fr (fun g j i => 46 ≤ g ∧ g ≤ 53 ∨ g = 5 ∧ j = t k0 ∧ i = 1 ∨ g = 26 ∧ i = 38) M (bU M2 26 0 38 (iI ((K - 1 : Nat) : Int))) := by
              intro g j i hq
              rw [bU_ne (by omega), f1 _ _ _ (by omega), bU_ne (by omega)]
            obtain ⟨r1, r2, r3, r4, r5, r6, r7⟩ := hR
            refine alike rfl ⟨p, S, c, u, L, r1.fr hF ?_, r2.fr hF ?_, r3.fr hF ?_, r4.fr hF ?_, r5.fr hF ?_, RelL.up (n := n) ⟨K - 1, fun i => t (if i < k0 then i else i + 1), fun i => a (if i < k0 then i else i + 1), G, by omega, h2, bU_at, ?_, ?_, ?_, hinj, ?_⟩ (Nat.le_succ n), r7.fr hF ?_⟩
            · intro g j i h
              unfold rdF at h
              omega
            · intro g j i h
              unfold rdS at h
              omega
            · intro g j i h
              unfold rdC at h
              omega
            · intro g j i h
              unfold rdT at h
              omega
            · intro g j i h
              unfold rdB at h
              omega
            · rw [hF _ _ _ (by omega)]
              exact h4
            · rw [hF _ _ _ (by omega)]
              exact h5
            · intro k hk
              have hs := hstep k hk
              obtain ⟨b1, b2, b3, bC⟩ := h6 _ hs.1
              have hne : t (if k < k0 then k else k + 1) ≠ t k0 := fun z => hs.2 (ht _ _ hs.1 hk0 z)
              refine ⟨b1, b2, b3, ?_⟩
              have g5 : ∀ j i, j ≠ t k0 → (bU M2 26 0 38 (iI ((K - 1 : Nat) : Int))) 5 j i = M 5 j i := fun j i hj => hF _ _ _ (by omega)
              have g46 : ∀ g, 46 ≤ g → g ≤ 52 → (bU M2 26 0 38 (iI ((K - 1 : Nat) : Int))) g 0 k = M g 0 (if k < k0 then k else k + 1) := by
                intro g z1 z2
                rw [bU_ne (by omega), f2 g z1 z2]
                by_cases hkk : k < k0
                · rw [if_neg (by omega), if_pos hkk]
                · rw [if_pos (by omega), if_neg hkk]
              obtain ⟨⟨q1, q2, q3⟩, ⟨kd, m, q, w1, w2, w3, w4, w5, w6, w7, w8, w9, w10, w11, w12, w13⟩, q4, q5, q6⟩ := bC
              refine ⟨⟨?_, ?_, ?_⟩, ⟨kd, m, q, w1, w2, w3, w4, w5, w6, ?_, ?_, ?_, ?_, ?_, ?_, fun j hj => ?_⟩, ?_, ?_, ?_⟩
              · rw [g5 _ _ hne]; exact q1
              · rw [g5 _ _ hne]; exact q2
              · rw [g46 46 (by omega) (by omega)]; exact q3
              · rw [g5 _ _ hne]; exact w7
              · rw [g46 47 (by omega) (by omega)]; exact w8
              · rw [g5 _ _ hne]; exact w9
              · rw [g46 48 (by omega) (by omega)]; exact w10
              · rw [g5 _ _ hne]; exact w11
              · rw [g46 52 (by omega) (by omega)]; exact w12
              · obtain ⟨C, c1, c2, c3, c4⟩ := w13 j hj
                refine ⟨C, c1, c2, fun e he => ?_, fun e he => ?_⟩
                · rw [hF _ _ _ (by omega)]
                  exact c3 e he
                · have := c4 e he
                  rw [bU_ne (by omega), f3]
                  by_cases hkk : k < k0
                  · rw [if_pos hkk] at this
                    rw [if_neg (by omega)]
                    exact this
                  · rw [if_neg hkk] at this
                    rw [if_pos (by omega), show 132 * k + 33 * j + e + 132 = 132 * (k + 1) + 33 * j + e by omega]
                    exact this
              · rw [g5 _ _ hne, g46 49 (by omega) (by omega)]; exact q4
              · rw [g5 _ _ hne, g46 50 (by omega) (by omega)]; exact q5
              · rw [g5 _ _ hne, g46 51 (by omega) (by omega)]; exact q6
            · intro i hi hq
              rw [bU_ne (by omega), f1 _ _ _ (by omega)]
              exact hno i hi hq
            · intro g j i h
              unfold rdH at h
              omega
          · rw [e38] at q
            have := nle_of q rfl e3
            omega
        | succ m ih =>
          intro i hi hki M2 x3 e3 f1 f2 f3
          have e38 : M2 26 0 38 - (1 : Int32) = iI ((K - 1 : Nat) : Int) := by
            rw [f1 _ _ _ (by omega), bU_ne (by omega), h3, l1, iI_sub]
            exact iIc (by omega)
          refine g_X7_strike_15 ⟨fun q => ?_, fun _ => ?_⟩
          · rw [e38] at q
            have := le_of q rfl e3
            omega
          · refine T_moves e3 (by omega) fun M3 d1 d2 d3 => ?_
            refine ih (i + 1) (by omega) (by omega) M3 _ (inN e3) (fun g j i hq => (d1 g j i hq).trans (f1 g j i hq)) (fun g z1 z2 k => ?_) fun k => ?_
            · rw [d2 g z1 z2, f2 g z1 z2, f2 g z1 z2]
              by_cases hki' : k = i
              · subst hki'
                rw [if_pos rfl, if_neg (by omega), if_pos (by omega)]
              · rw [if_neg hki']
                by_cases hk' : k0 ≤ k ∧ k < i
                · rw [if_pos hk', if_pos (by omega)]
                · rw [if_neg hk', if_neg (by omega)]
            · rw [d3, f3, f3]
              by_cases hki' : 132 * i ≤ k ∧ k < 132 * i + 132
              · rw [if_pos hki', if_neg (by omega), if_pos (by omega)]
              · rw [if_neg hki']
                by_cases hk' : 132 * k0 ≤ k ∧ k < 132 * i
                · rw [if_pos hk', if_pos (by omega)]
                · rw [if_neg hk', if_neg (by omega)]
      exact loop (K - 1 - k0) k0 (by omega) (Nat.le_refl _) _ _ rfl (fun _ _ _ _ => rfl) (fun g z1 z2 k => by rw [if_neg (by omega), bU_ne (by omega)]) (fun k => by rw [if_neg (by omega), bU_ne (by omega)])
  · refine S_find_f hL hex ?_
    exact g_X7_strike_0 (T_placeOf_f hL hex ⟨fun q => absurd q (by decide), fun _ => alike rfl hR.same⟩)
