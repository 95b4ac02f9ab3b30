-- needs: 06 08 09 10 11 12 13 14 15 16 17 18 19 26 27 28 29 30 31 32 33 34 35 37 39 41 42 45 46 47 48 49 50 51 52 53 54 55 56 57 58 59 60 61
/-- the rest of row i, as the model works it out, is the class's -/
theorem IsB.row_bd {p : Int} {m o : Nat} {s : Nat → Nat} {f : Nat → Nat → Int} {d : Nat → Nat} {R : Nat → Nat → Nat → Int} {M : bM} (hB : IsB p m o s f d R) (g2 : ∀ i, i < m → ∀ j, j < m → ∀ k, k < 33 → M 38 0 (132 * i + 33 * j + k) = iI (R i j k)) {i : Nat} (hi : i < m) : ∀ j, j < m → ∀ k, k < 33 → M 38 0 (132 * i + 33 * j + k) = iI (R i j k) ∧ 0 ≤ R i j k ∧ R i j k < p := fun j hj k hk => ⟨g2 i hi j hj k hk, hB.1 i hi j hj k⟩
theorem P_rest {n : Nat} {M : bM} {x1 x2 : Int32} (h : Rel n M) : bCall 90 [cR 0 0, cI x1, cI x2] M (fun v M1 => bCall 161 [cR 26 0, cI x1, cI x2] M1 (Alike (n + 1) v)) := by
  obtain ⟨p, S, c, u, L, hR⟩ := h
  have hc5 := hR.2.2.1.1.2.2.2.2
  have h2 := hR.1.2.2.1
  have h4 := hR.1.2.2.2.1
  refine g_X6_rest_0 ?_
  have hbad : ¬ (InR x1 (cnt c) ∧ InR x2 32) → bCall 161 [cR 26 0, cI x1, cI x2] M (Alike (n + 1) (some (cI (-1 : Int32)))) := fun hn => g_X7_rest_0 (T_isRowOfBasis hR fun M2 d R hF hMS hB g1 g2 => ⟨fun h1 => z1 (T_inN_f (n := 32) (fun z => hn ⟨h1, z⟩) (iL 31) (by omega) (n0 (alike rfl (hR.looked hF)))), fun h1 => z0 (alike rfl (hR.looked hF))⟩)
  by_cases h1 : InR x1 (cnt c)
  · obtain ⟨i, hi, hic⟩ := h1
    refine S_isChosen_t hR.2.2.1 hi hic (z1 ?_)
    by_cases h3 : InR x2 32
    · obtain ⟨k, hk, hk32⟩ := h3
      refine S_isTerm_t hk hk32 (z1 (S_current hR fun M1 hR1 hC => ⟨rfl, vin hi, vin hk, ?_⟩))
      refine g_X7_rest_0 (T_isRowOfBasis hR1 fun M2 d' R' hF hMS hB' g1 g2 => ⟨fun _ => z1 ?_, fun z => absurd ⟨i, hi, hic⟩ z⟩)
      have hBS := hC.same hR1 hB'
      refine T_inN_t (n := 32) hk hk32 (iL 31) (by omega) (n1 (T_worksOut h2 h4 hc5 hMS (by omega) hi (hB'.row_bd g2 hic) fun M3 hB3 => ⟨vin hk, ?_⟩))
      rw [cl_of hi, cl_of hk, hBS.2.2.2 i hic k hk32, hB3.at (by omega) hk32]
      refine alike rfl (hR1.fr (hF.trans hB3.fr) fun g j i z => ?_)
      unfold rdF rdS rdC rdT rdB rdL rdH at z
      simp only [oL, frL]
      omega
    · exact S_isTerm_f h3 (z0 (hbad fun z => h3 z.2))
  · exact S_isChosen_f hR.2.2.1 h1 (z0 (hbad fun z => h1 z.1))
theorem P_row {n : Nat} {M : bM} {x1 x2 : Int32} (h : Rel n M) : bCall 91 [cR 0 0, cI x1, cI x2] M (fun v M1 => bCall 162 [cR 26 0, cI x1, cI x2] M1 (Alike (n + 1) v)) := by
  obtain ⟨p, S, c, u, L, hR⟩ := h
  have hc5 := hR.2.2.1.1.2.2.2.2
  have h2 := hR.1.2.2.1
  have h4 := hR.1.2.2.2.1
  refine g_X6_row_0 ?_
  have hbad : ¬ (InR x1 (cnt c) ∧ InR x2 3) → bCall 162 [cR 26 0, cI x1, cI x2] M (Alike (n + 1) (some (cI (-1 : Int32)))) := fun hn => g_X7_row_0 (T_isRowOfBasis hR fun M2 d R hF hMS hB g1 g2 => ⟨fun h1 => z1 (T_inN_f (n := 3) (fun z => hn ⟨h1, z⟩) (iL 2) (by omega) (n0 (alike rfl (hR.looked hF)))), fun h1 => z0 (alike rfl (hR.looked hF))⟩)
  by_cases h1 : InR x1 (cnt c)
  · obtain ⟨i, hi, hic⟩ := h1
    refine S_isChosen_t hR.2.2.1 hi hic (z1 ?_)
    by_cases h3 : InR x2 3
    · obtain ⟨w, hw, hw3⟩ := h3
      refine ⟨fun q => absurd (lt_of q hw l0) (by omega), fun _ => ⟨fun _ => ?_, fun q => absurd (nle_of q hw (iL 2)) (by omega)⟩⟩
      refine S_current hR fun M1 hR1 hC => ⟨rfl, ?_⟩
      have hlift : ∀ i, i < cnt c → L (sel c i) ≤ 9 := fun i hi => (hR.2.2.1.2.2 _ (sel_lt c hR.2.2.1.1.2.2.1 i hi)).2.2
      have hmod : ∀ {Q : bQ}, (∀ (M2 : bM) d' R', Fr frL M1 M2 → MS p (cnt c) u (fun i => L (sel c i)) (fun i => S (sel c i)) M2 → IsB p (cnt c) u (fun i => L (sel c i)) (fun i => S (sel c i)) d' R' → (∀ i, i < cnt c → d' i ≤ 32 ∧ M2 39 0 i = iI (d' i : Int)) → (∀ i, i < cnt c → ∀ j, j < cnt c → ∀ k, k < 33 → M2 38 0 (132 * i + 33 * j + k) = iI (R' i j k)) → ((¬ x2 = (2 : Int32)) → (((¬ x2 = 0) → ((vp_in x1 4) ∧ ((vp_in x1 4) ∧ (Q (some (cI ((M2 39 0 x1.toNatClampNeg) + (M2 37 0 x1.toNatClampNeg)))) M2)))) ∧ (¬ (¬ x2 = 0) → ((vp_in x1 4) ∧ (Q (some (cI (M2 39 0 x1.toNatClampNeg))) M2))))) ∧ (¬ (¬ x2 = (2 : Int32)) → (bCall 126 [cR 26 0, cI x1] M2 (fun v7 M8 => bV0 v7 (bCall 133 [cR 27 0, cI (0 : Int32)] M8 (fun v9 M10 => bV1 v9 fun r11 => (Q (some (cI r11)) M10)))))) ) → bCall 162 [cR 26 0, cI x1, cI x2] M1 Q := fun hk => g_X7_row_0 (T_isRowOfBasis hR1 fun M2 d' R' hF hMS hB' g1 g2 => ⟨fun _ => z1 (T_inN_t (n := 3) hw hw3 (iL 2) (by omega) (n1 (hk M2 d' R' hF hMS hB' g1 g2))), fun z => absurd ⟨i, hi, hic⟩ z⟩)
      refine ⟨fun q0 => ⟨vin hi, hmod fun M2 d' R' hF hMS hB' g1 g2 => ?_⟩, fun q0 => ⟨fun q1 => ?_, fun q1 => ⟨vin hi, ?_⟩⟩⟩
      · have hBS := hC.same hR1 hB'
        refine ⟨fun _ => ⟨fun z => absurd q0 z, fun _ => ⟨vin hi, ?_⟩⟩, fun z => absurd (q0.symm.trans (Decidable.of_not_not z)) (by decide)⟩
        rw [cl_of hi, (hBS.2.1 i hic).1, (g1 i hic).2]
        exact alike rfl (hR1.looked hF)
      · -- the height
        have hC' := hC
        obtain ⟨_, d, R, hB, b2, b3, b4, b5⟩ := hC'
        refine S_height ⟨b2, fun i hi => (b3 i hi).2, b4, b5⟩ hc5 hic hi (hmod fun M2 d' R' hF hMS hB' g1 g2 => ?_)
        refine ⟨fun _ => ⟨fun _ => ⟨vin hi, vin hi, ?_⟩, fun z => absurd (q1.symm.trans (Decidable.of_not_not z)) (by decide)⟩, fun z => absurd (q1.symm.trans (Decidable.of_not_not z)) (by decide)⟩
        rw [cl_of hi, (g1 i hic).2, hMS.2.2.2.1 i hic, iI_add]
        refine alike (iIc ?_) (hR1.looked hF)
        rw [(hB.uniq h2 hc5 hB').1 i hic]
        dsimp only
        omega
      · rw [cl_of hi]
        have hC' := hC
        obtain ⟨_, d, R, hB, b2, b3, b4, b5⟩ := hC'
        refine S_leadingZeros (f := fun k => rs (cnt c) (fun i => S (sel c i)) (R i) k % p) (fun k hk => ⟨b5 i hic k hk, Int.emod_nonneg _ (by omega), by have := Int.emod_lt_of_pos (rs (cnt c) (fun i => S (sel c i)) (R i) k) (show 0 < p by omega); omega⟩) (hmod fun M2 d' R' hF hMS hB' g1 g2 => ?_)
        have hx2 : x2 = 2 := by
          have hz0 : w ≠ 0 := fun z => q0 (by rw [hw, z]; rfl)
          have hz1 : w ≠ 1 := fun z => q1 (by rw [hw, z]; rfl)
          have : w = 2 := by omega
          rw [hw, this]
          rfl
        refine ⟨fun z => absurd hx2 z, fun _ => T_worksOut h2 h4 hc5 hMS (by omega) hi (hB'.row_bd g2 hic) fun M3 hB3 => ?_⟩
        refine T_zerosOf_m (f := fun k => rs (cnt c) (fun i => S (sel c i)) (R' i) k % p) (fun k hk => ⟨hB3.at (by omega) hk, Int.emod_nonneg _ (by omega), by have := Int.emod_lt_of_pos (rs (cnt c) (fun i => S (sel c i)) (R' i) k) (show 0 < p by omega); omega⟩) ?_
        have he : (fun k => rs (cnt c) (fun i => S (sel c i)) (R i) k % p) = fun k => rs (cnt c) (fun i => S (sel c i)) (R' i) k % p := by
          funext k
          rw [rs_congr (fun j hj k _ => (hB.uniq h2 hc5 hB').2 i hic j hj k) (fun _ _ _ _ => rfl)]
        rw [he]
        refine alike rfl (hR1.fr (hF.trans hB3.fr) fun g j i z => ?_)
        unfold rdF rdS rdC rdT rdB rdL rdH at z
        simp only [oL, frL]
        omega
    · obtain ⟨z, e, za, zb⟩ := iI_of x2
      refine ⟨fun _ => hbad fun z => h3 z.2, fun q => ⟨fun q2 => ?_, fun _ => hbad fun z => h3 z.2⟩⟩
      have := nlt_of q e l0
      have := le_of q2 e (iL 2)
      exact absurd (by omega) (nin h3 e)
  · exact S_isChosen_f hR.2.2.1 h1 (z0 (hbad fun z => h1 z.1))
