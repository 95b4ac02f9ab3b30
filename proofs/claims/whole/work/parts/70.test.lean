-- needs: 06 08 09 10 11 12 13 14 15 16 17 18 19 26 27 28 29 30 31 32 33 34 35 37 39 41 42 43 45 46 47 48 49 50 51 52 53 54 55 56 57 58 59 60 61 62 63 65 69
theorem iI_nat (x : Int32) : ∃ o : Nat, x = iI (o : Int) := by
  obtain ⟨z, e, h1, h2⟩ := iI_of x
  refine ⟨(z + 4294967296).toNat, ?_⟩
  rw [e, show (((z + 4294967296).toNat : Nat) : Int) = z + 4294967296 by omega, ← iI_add, show iI 4294967296 = (0 : Int32) from by decide]
  exact (Int32.add_zero _).symm
theorem S_addProduct {p : Int} {j1 : Nat} {f g w : Nat → Int} {M0 : bM} {Q : bQ} (hp : M0 1 0 0 = iI p) (h3 : 0 < p) (h4 : p ≤ 997) (h6 : j1 ≠ 6) (hf : ∀ i, i < 32 → M0 7 7 i = iI (f i) ∧ 0 ≤ f i ∧ f i < p) (hg : ∀ i, i < 32 → M0 7 j1 i = iI (g i) ∧ 0 ≤ g i ∧ g i < p) (hw : ∀ i, i < 32 → M0 7 6 i = iI (w i % p)) (K : ∀ M, Fr (fun g j _ => g = 7 ∧ (j = 6 ∨ j = 7)) M0 M → (∀ i, i < 32 → M 7 6 i = iI ((w i + cv f g i) % p)) → Q none M) : bCall 60 [cR 0 0, cR 7 j1] M0 Q := by
  refine g_X6_addProduct_0 (S_multiply hp h3 h4 hf hg fun M1 hB1 => ?_)
  refine S_combine (a := 1) (b := 1) (f := fun i => w i % p) (g := fun i => cv f g i % p) (p := p) (by rw [hB1.keep (by omega)]; exact hp) h3 h4 l1 (by omega) (by omega) l1 (by omega) (by omega) (fun i hi => ⟨by rw [hB1.keep (by omega)]; exact hw i hi, Int.emod_nonneg _ (by omega), Int.emod_lt_of_pos _ h3⟩) (fun i hi => ⟨hB1.at (by omega) hi, Int.emod_nonneg _ (by omega), Int.emod_lt_of_pos _ h3⟩) fun M2 hB2 => ?_
  refine K M2 ((hB1.fr.trans hB2.fr).mono fun g j i z => ?_) fun i hi => ?_
  · simp only [oL] at z
    omega
  · rw [hB2.at (by omega) hi]
    refine iIc (emod_congr ?_)
    have a1 := emod_like (p := p) (w i)
    have a2 := emod_like (p := p) (cv f g i)
    have a3 := emod_like (p := p) 1
    have b1 : p ∣ 1 % p * (w i % p) + 1 % p * (cv f g i % p) - (w i % p + cv f g i % p) := by
      have := Int.dvd_mul_of_dvd_left (c := w i % p + cv f g i % p) a3
      rwa [Int.sub_mul, Int.mul_add, Int.one_mul] at this
    have b2 := Int.dvd_add (Int.dvd_add b1 a1) a2
    have e : 1 % p * (w i % p) + 1 % p * (cv f g i % p) - (w i % p + cv f g i % p) + (w i % p - w i) + (cv f g i % p - cv f g i) = 1 % p * (w i % p) + 1 % p * (cv f g i % p) - (w i + cv f g i) := by omega
    rwa [e] at b2
theorem P_test {n : Nat} {M : bM} {x1 x2 : Int32} (hn : n < 1000000) (h : Rel n M) : bCall 97 [cR 0 0, cI x1, cI x2] M (fun v M1 => bCall 168 [cR 26 0, cI x1, cI x2] M1 (Alike (n + 1) v)) := by
  obtain ⟨p, S, c, u, L, hR⟩ := h
  obtain ⟨K, t, a, G, hL⟩ := hR.2.2.2.2.2.1.led
  have hR' := hR
  obtain ⟨⟨hp1, hp2, h2, h4, hP⟩, hS, r3, r4, r5, r6, r7⟩ := hR'
  refine g_X6_test_0 ?_
  by_cases hs : InR x2 6
  · obtain ⟨s, e2, hs6⟩ := hs
    refine S_isSeries_t e2 hs6 (n1 ?_)
    by_cases hex : ∃ k, k < K ∧ x1 = iI (a k)
    · obtain ⟨k, hk, hx⟩ := hex
      have hL' := hL
      obtain ⟨L1, L2, L3, L4, L5, L6, L7, L8⟩ := hL'
      obtain ⟨ht8, ha0, haG, ⟨⟨c1, c2, c3⟩, ⟨kd, m, q, hkd, hm2, hm4, hq2, hq4, hkm, v3, w47, v4, w48, v8, w52, hC⟩, _⟩⟩ := L6 k hk
      refine S_find_t hL hn hk hx ⟨rfl, ?_⟩
      dsimp only
      rw [v3, v8, v4, hp1]
      have ha : ∀ k, k < 32 → 0 ≤ S s k ∧ S s k < p := fun k hk => (hS s hs6 k hk).2.2
      have hgb := gser_bd (kd := kd) h2 ha
      have hmod : ∀ {Q : bQ} (M' : bM), Fr (fun g j _ => g = 7 ∧ 6 ≤ j ∧ j < 12) M M' → (q ≠ p → Q (some (cI (-2 : Int32))) M') → (q = p → bCall 145 [cR 26 0, cI x2, cI (iI (kd : Int)), cI (iI (m : Int))] M' (fun v M8 => bV0 v (bGo 168 Q 58 [some (cR 26 0), some (cI x1), some (cI x2), some (cI (iI (k : Int))), some (cI (0 : Int32))] [] M8))) → bCall 168 [cR 26 0, cI x1, cI x2] M' Q := by
        intro Q M' hMF k1 k2
        have hM' : ∀ g j i, 26 ≤ g → M' g j i = M g j i := fun g j i hg => hMF g j i (by omega)
        refine g_X7_test_0 (T_isSeries_t e2 hs6 (n1 (T_placeOf_t (hL.fr hMF fun g j i z => by unfold rdL at z; omega) hn hk hx ⟨fun _ => ⟨vin rfl, ?_⟩, fun z => absurd (show (0 : Int32) ≤ iI (k : Int) by rw [l0, iI_le (by omega) (by omega) (by omega) (by omega)]; omega) z⟩)))
        rw [cl_of (n := k) rfl, hM' 47 0 k (by omega), w47, hM' 48 0 k (by omega), w48, hM' 52 0 k (by omega), hM' 26 0 0 (by omega), w52, hp2]
        exact ⟨fun z => ⟨vin rfl, vin rfl, k2 (eq_of z rfl rfl)⟩, fun z => k1 fun w => z (by rw [w])⟩
      refine ⟨fun z => ⟨vin e2, ?_⟩, fun z => hmod M (Fr.refl.mono fun _ _ _ w => w.elim) (fun _ => alike rfl hR.same) fun w => absurd (by rw [w]) z⟩
      have hqp : q = p := eq_of z rfl rfl
      subst hqp
      rw [cl_of e2]
      have hC' : ∃ C : Nat → Nat → Int, ∀ j, j < m → (∀ e, 0 ≤ C j e ∧ C j e < q) ∧ (∀ e, 10 ≤ e → C j e = 0) ∧ (∀ e, e < 10 → M 15 (4 * t k + j) e = iI (C j e)) ∧ ∀ e, e < 33 → M 53 0 (132 * k + 33 * j + e) = iI (C j e) := by
        have : ∀ j, ∃ C : Nat → Int, j < m → (∀ e, 0 ≤ C e ∧ C e < q) ∧ (∀ e, 10 ≤ e → C e = 0) ∧ (∀ e, e < 10 → M 15 (4 * t k + j) e = iI (C e)) ∧ ∀ e, e < 33 → M 53 0 (132 * k + 33 * j + e) = iI (C e) := fun j => by
          by_cases w : j < m
          · obtain ⟨C, hCC⟩ := hC j w
            exact ⟨C, fun _ => hCC⟩
          · exact ⟨fun _ => 0, fun z => absurd z w⟩
        exact Classical.axiomOfChoice this
      obtain ⟨C, hC⟩ := hC'
      refine S_gatherKind (a := S s) hp1 h2 h4 hkd hm4 (by omega) hs6 rfl rfl (fun k hk => ⟨(hS s hs6 k hk).1, ha k hk⟩) fun M1 hF1 g1 => S_fill7 l0 fun M2 hB2 => ?_
      have hF1' : ∀ g j i, ¬ (g = 7 ∧ 8 ≤ j ∧ j < 12) → M1 g j i = M g j i := hF1
      -- the model
      have hend : ∀ (M' : bM), Fr (fun g j _ => g = 7 ∧ 6 ≤ j ∧ j < 12) M M' → bCall 168 [cR 26 0, cI x1, cI x2] M' (Alike (n + 1) (some (cI (iI (lz (fun k => rs m (gser q kd (S s)) C k % q) 32 0 : Nat))))) := by
        intro M' hMF
        have hM' : ∀ g j i, 26 ≤ g → M' g j i = M g j i := fun g j i hg => hMF g j i (by omega)
        refine hmod M' hMF (fun w => absurd rfl w) fun _ => ?_
        refine T_makesSeries (a := S s) (p := q) (by rw [hM' _ _ _ (by omega)]; exact hp2) h2 h4 hkd hm4 (by omega) hs6 e2 rfl rfl (fun k hk => ⟨by rw [hM' _ _ _ (by omega)]; exact (hS s hs6 k hk).2.1, ha k hk⟩) fun M5 hF5 hmy g5 s5 => ?_
        have hF5' : ∀ g j i, ¬ (g = 26 ∧ i = 25 ∨ g = 27 ∨ g = 36 ∨ g = 37) → M5 g j i = M' g j i := hF5
        have loop : ∀ (nn b : Nat), b + nn = 132 → ∀ (M6 : bM) (x4 : Int32), x4 = iI (b : Int) → Blk M5 M6 38 0 0 b (fun i => (M5 53 0 (132 * k + i)).toInt) → bGo 168 (Alike (n + 1) (some (cI (iI (lz (fun k => rs m (gser q kd (S s)) C k % q) 32 0 : Nat))))) 58 [some (cR 26 0), some (cI x1), some (cI x2), some (cI (iI (k : Int))), some (cI x4)] [] M6 := by
          intro nn
          induction nn with
          | zero =>
            intro b hb M6 x4 e4 hB6
            have : b = 132 := by omega
            subst this
            obtain ⟨o, ho⟩ := iI_nat (M6 26 0 26)
            have hMS : MS q m o (fun _ => 0) (gser q kd (S s)) M6 := by
              refine ⟨?_, ?_, ho, fun j hj => ?_, fun j hj k hk => ⟨?_, hgb j k hk⟩⟩
              · rw [hB6.keep (by omega), hF5' _ _ _ (by omega), hM' _ _ _ (by omega)]
                exact hp2
              · rw [hB6.keep (by omega)]
                exact hmy
              · rw [hB6.keep (by omega)]
                exact s5 j (by omega)
              · rw [hB6.keep (by omega)]
                exact g5 j hj k hk
            refine g_X7_test_58 ⟨fun _ => ?_, fun q => absurd (nle_of q (iL 132) e4) (by omega)⟩
            refine T_worksOut (i := 0) (R := C) h2 h4 hm4 hMS (by omega) l0 (fun j hj e he => ⟨?_, (hC j hj).1 e⟩) fun M7 hB7 => ?_
            · rw [hB6.at (by omega) (by omega), tI, hF5' _ _ _ (by omega), hM' _ _ _ (by omega)]
              have := (hC j hj).2.2.2 e he
              rwa [show 132 * k + (132 * 0 + 33 * j + e) = 132 * k + 33 * j + e by omega]
            · refine T_zerosOf_m (f := fun k => rs m (gser q kd (S s)) C k % q) (fun i hi => ⟨hB7.at (by omega) hi, Int.emod_nonneg _ (by omega), by have := Int.emod_lt_of_pos (rs m (gser q kd (S s)) C i) (show 0 < q by omega); omega⟩) ?_
              refine alike rfl (hR.fr (((hMF.trans hF5).trans hB6.fr).trans hB7.fr) fun g j i z => ?_)
              unfold rdF rdS rdC rdT rdB rdL rdH at z
              simp only [oL]
              omega
          | succ nn ih =>
            intro b hb M6 x4 e4 hB6
            have p1 : ((132 : Int32) * iI (k : Int)) + x4 = iI ((132 * k + b : Nat) : Int) := by
              rw [e4, iL 132, iI_mul, iI_add]
              exact iIc (by omega)
            refine g_X7_test_58 ⟨fun q => absurd (le_of q (iL 132) e4) (by omega), fun _ => ⟨vin p1, vin e4, ?_⟩⟩
            rw [cl_of p1, cl_of e4]
            refine ih (b + 1) (by omega) _ _ (inN e4) (hB6.up (by omega) ?_)
            rw [tI, hB6.keep (by omega)]
        exact loop 132 0 rfl M5 _ l0 Blk.start
      -- the class
      have loop : ∀ (nn j : Nat), j + nn = m → ∀ (M3 : bM) (x4 : Int32), x4 = iI (j : Int) → Fr (fun g j _ => g = 7 ∧ (j = 6 ∨ j = 7)) M2 M3 → (∀ i, i < 32 → M3 7 6 i = iI (sm (fun j => cv (C j) (gser q kd (S s) j) i) j % q)) → bGo 97 (fun v M1 => bCall 168 [cR 26 0, cI x1, cI x2] M1 (Alike (n + 1) v)) 71 [some (cR 0 0), some (cI x1), some (cI x2), some (cR 5 (t k)), some (cI x4)] [] M3 := by
        intro nn
        induction nn with
        | zero =>
          intro j hj M3 x4 e4 hF3 hv
          have : j = m := by omega
          subst this
          have hF3' : ∀ g j i, ¬ (g = 7 ∧ (j = 6 ∨ j = 7)) → M3 g j i = M2 g j i := hF3
          have h54 : M3 5 (t k) 4 = iI (j : Int) := by rw [hF3' _ _ _ (by omega), hB2.keep (by omega), hF1' _ _ _ (by omega)]; exact v4
          refine g_X6_test_71 ⟨fun _ => ?_, fun w => absurd (nle_of w h54 e4) (by omega)⟩
          refine S_leadingZeros (f := fun k => rs j (gser q kd (S s)) C k % q) (fun i hi => ⟨hv i hi, Int.emod_nonneg _ (by omega), by have := Int.emod_lt_of_pos (rs j (gser q kd (S s)) C i) (show 0 < q by omega); omega⟩) ?_
          exact hend M3 (((hF1.trans hB2.fr).trans hF3).mono fun g j i z => by simp only [oL] at z; omega)
        | succ nn ih =>
          intro j hj M3 x4 e4 hF3 hv
          have hF3' : ∀ g j i, ¬ (g = 7 ∧ (j = 6 ∨ j = 7)) → M3 g j i = M2 g j i := hF3
          have h54 : M3 5 (t k) 4 = iI (m : Int) := by rw [hF3' _ _ _ (by omega), hB2.keep (by omega), hF1' _ _ _ (by omega)]; exact v4
          refine g_X6_test_71 ⟨fun w => absurd (le_of w h54 e4) (by omega), fun _ => ⟨fun w => absurd (le_of w (iL 4) e4) (by omega), fun _ => ?_⟩⟩
          obtain ⟨d1, d2, d3, d4⟩ := hC j (by omega)
          refine S_copyPolynomial (C := C j) h54 hm4 (show j < m by omega) e4 (fun e he => ?_) d2 fun M4 hB4 => ⟨vin e4, ?_⟩
          · rw [hF3' _ _ _ (by omega), hB2.keep (by omega), hF1' _ _ _ (by omega)]
            exact d3 e he
          rw [cl_of e4]
          refine S_addProduct (p := q) (f := C j) (g := gser q kd (S s) j) (w := fun i => sm (fun j => cv (C j) (gser q kd (S s) j) i) j) (by rw [hB4.keep (by omega), hF3' _ _ _ (by omega), hB2.keep (by omega), hF1' _ _ _ (by omega)]; exact hp1) (by omega) h4 (by omega) (fun i hi => ⟨hB4.at (by omega) hi, d1 i⟩) (fun i hi => ⟨?_, hgb j i hi⟩) (fun i hi => by rw [hB4.keep (by omega)]; exact hv i hi) fun M5 hF5 g5 => ?_
          · rw [hB4.keep (by omega), hF3' _ _ _ (by omega), hB2.keep (by omega)]
            exact g1 j (by omega) i hi
          · refine ih (j + 1) (by omega) M5 _ (inN e4) (((hF3.trans hB4.fr).trans hF5).mono fun g j i z => ?_) g5
            simp only [oL] at z
            omega
      exact loop m 0 (by omega) M2 _ l0 (Fr.refl.mono fun _ _ _ z => z.elim) fun i hi => by
        rw [hB2.at (by omega) hi]
        exact iIc (by show 0 = 0 % q; simp)
    · exact S_find_f hL hex (g_X7_test_0 (T_isSeries_t e2 hs6 (n1 (T_placeOf_f hL hex ⟨fun z => absurd z (by decide), fun _ => alike rfl hR.same⟩))))
  · exact S_isSeries_f hs (n0 (g_X7_test_0 (T_isSeries_f hs (n0 (alike rfl hR.same)))))
