-- needs: 06 08 09 10 11 12 13 14 15 16 17 18 19 26 27 28 29 30 31 32 33 34 35 37 39 41 42 45 46 47 48 49 50 51 52 53 54 55 56 57 58 59 60 61 62
theorem P_comes {n : Nat} {M : bM} {x1 x2 : Int32} (h : Rel n M) : bCall 69 [cR 0 0, cI x1, cI x2] M (fun v M1 => bCall 128 [cR 26 0, cI x1, cI x2] M1 (Alike (n + 1) v)) := by
  obtain ⟨p, S, c, u, L, hR⟩ := h
  have hc5 := hR.2.2.1.1.2.2.2.2
  have h2 := hR.1.2.2.1
  have h4 := hR.1.2.2.2.1
  refine g_X6_comes_0 ?_
  have hbad : ¬ (InR x1 (cnt c) ∧ InR x2 6) → bCall 128 [cR 26 0, cI x1, cI x2] M (Alike (n + 1) (some (cI (-1 : Int32)))) := fun hn => g_X7_comes_0 (T_isRowOfBasis hR fun M2 d R hF hMS hB g1 g2 => ⟨fun h1 => z1 (T_isSeries_f (fun z => hn ⟨h1, z⟩) (n0 (alike rfl (hR.looked hF)))), fun h1 => z0 (alike rfl (hR.looked hF))⟩)
  by_cases h1 : InR x1 (cnt c)
  · obtain ⟨i, hi, hic⟩ := h1
    refine S_isChosen_t hR.2.2.1 hi hic (z1 ?_)
    by_cases h3 : InR x2 6
    · obtain ⟨t, ht, ht6⟩ := h3
      refine S_isSeries_t ht ht6 (n1 (S_current hR fun M1 hR1 hC => ⟨rfl, vin hi, vin ht, ⟨by decide, by decide, by decide, by decide, by decide⟩, Or.inr rfl, ?_⟩))
      rw [cl_of hi, cl_of ht]
      have hF1 : Fr (fun g j k => g = 7 ∧ j = t ∨ g = 0 ∧ j = 0 ∧ k = 7) M1 (bU (bCp M1 7 (29 + i) 7 t (0 : Int32) (0 : Int32) (32 : Int32)) 0 0 7 (1 : Int32)) := bCp_fr.trans bU_fr
      generalize hM' : bU (bCp M1 7 (29 + i) 7 t (0 : Int32) (0 : Int32) (32 : Int32)) 0 0 7 (1 : Int32) = M' at *
      have hF1' : ∀ g j k, ¬ (g = 7 ∧ j = t ∨ g = 0 ∧ j = 0 ∧ k = 7) → M' g j k = M1 g j k := hF1
      have hm1 : M' 26 0 0 = iI p := by rw [hF1' _ _ _ (by omega)]; exact hR1.1.2.1
      have hm2 : RelSm p S M' := fun s hs k hk => by rw [hF1' _ _ _ (by omega)]; exact (hR1.2.1 s hs k hk).2
      have hm3 : RelC c u L M' := hR1.2.2.1.fr hF1 fun g j i z => by
        unfold rdC at z
        omega
      refine g_X7_comes_0 (T_isRowOfBasisG hm1 h2 h4 hR.1.2.2.2.2 hm2 hm3 fun M2 d' R' hF hMS hB' g1 g2 => ⟨fun _ => z1 ?_, fun z => absurd ⟨i, hi, hic⟩ z⟩)
      have hBS := hC.same hR1 hB'
      refine T_isSeries_t ht ht6 (n1 (T_worksOut h2 h4 hc5 hMS (by omega) hi (hB'.row_bd g2 hic) fun M3 hB3 => ?_))
      refine T_puts (f := fun k => rs (cnt c) (fun i => S (sel c i)) (R' i) k % p) ht ht6 (fun k hk => hB3.at (by omega) hk) fun M4 hB4 => ⟨⟨1, rfl, rfl⟩, ?_⟩
      have hF4 := ((hF1.trans hF).trans hB3.fr).trans hB4.fr
      have hF4' : ∀ g j k, ¬ (((g = 7 ∧ j = t ∨ g = 0 ∧ j = 0 ∧ k = 7) ∨ frL g j k) ∨ g = 27 ∧ j = 0 ∧ 0 ≤ k ∧ k < 32) → ¬ (g = 28 ∧ j = 0 ∧ 32 * t ≤ k ∧ k < 32 * t + 32) → M4 g j k = M1 g j k := fun g j k a b => hF4 g j k fun z => z.elim a b
      have hF24 : ∀ g j k, ¬ frL g j k → ¬ (g = 27 ∧ j = 0 ∧ 0 ≤ k ∧ k < 32) → ¬ (g = 28 ∧ j = 0 ∧ 32 * t ≤ k ∧ k < 32 * t + 32) → M4 g j k = M' g j k := fun g j k a b d => by rw [hB4.keep d, hB3.keep b, hF g j k a]
      refine hR1.set (t := t) (f := fun k => rs (cnt c) (fun i => S (sel c i)) (R' i) k % p) (fun k hk => ⟨?_, ?_, Int.emod_nonneg _ (by omega), Int.emod_lt_of_pos _ (by omega)⟩) ?_ hF4 fun g j k z => ?_
      · rw [hF24 _ _ _ (by simp only [frL]; omega) (by omega) (by omega), ← hM', bU_ne (by omega), bCp_32 hk]
        exact hBS.2.2.2 i hic k hk
      · rw [hB4.at (by omega) (by omega), show 32 * t + k - 32 * t = k by omega]
      · rw [hF24 _ _ _ (by simp only [frL]; omega) (by omega) (by omega), ← hM', bU_at]
        exact l1
      · unfold rdF rdC rdT rdL rdH at z
        simp only [oL, frL]
        omega
    · exact S_isSeries_f h3 (n0 (hbad fun z => h3 z.2))
  · exact S_isChosen_f hR.2.2.1 h1 (z0 (hbad fun z => h1 z.1))
