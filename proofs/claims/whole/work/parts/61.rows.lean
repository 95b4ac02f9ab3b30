-- needs: 06 08 09 10 11 12 13 14 15 16 17 18 19 26 27 28 29 30 31 32 33 34 35 37 39 41 42 45 46 47 48 49 50 51 52 53 54 55 56 57 58 59 60
theorem S_isChosen_t {c u : Nat} {L : Nat → Nat} {M : bM} {Q : bQ} {x : Int32} {i : Nat} (hC : RelC c u L M) (hx : x = iI (i : Int)) (hi : i < cnt c) (K : Q (some (cI (1 : Int32))) M) : bCall 66 [cR 0 0, cI x] M Q := by
  obtain ⟨⟨c1, c2, c3, c4, c5⟩, _⟩ := hC
  refine g_X6_isChosen_0 ⟨fun q => absurd (lt_of q hx l0) (by omega), fun _ => ?_⟩
  rw [c1]
  refine S_bitCount rfl c3 ⟨fun q => absurd (le_of q rfl hx) (by omega), fun _ => ⟨Or.inr rfl, K⟩⟩
theorem S_isChosen_f {c u : Nat} {L : Nat → Nat} {M : bM} {Q : bQ} {x : Int32} (hC : RelC c u L M) (hx : ¬ InR x (cnt c)) (K : Q (some (cI (0 : Int32))) M) : bCall 66 [cR 0 0, cI x] M Q := by
  obtain ⟨⟨c1, c2, c3, c4, c5⟩, _⟩ := hC
  obtain ⟨z, e, z1, z2⟩ := iI_of x
  refine g_X6_isChosen_0 ⟨fun q => ⟨Or.inl rfl, K⟩, fun q => ?_⟩
  rw [c1]
  refine S_bitCount rfl c3 ⟨fun q => ⟨Or.inl rfl, K⟩, fun q2 => ?_⟩
  have := nlt_of q e l0
  have := nle_of q2 rfl e
  exact absurd (by omega) (nin hx e)
/-- after looks nothing has changed that the relation reads -/
abbrev frL : Nat → Nat → Nat → Prop := fun g _ i => 36 ≤ g ∧ g ≤ 45 ∨ g = 26 ∧ (i = 25 ∨ i = 26 ∨ i = 31)
theorem Rels.looked {n : Nat} {p : Int} {S : Nat → Nat → Int} {c u : Nat} {L0 : Nat → Nat} {M M' : bM} (h : Rels n p S c u L0 M) (hf : Fr frL M M') : Rel (n + 1) M' := h.fr hf fun g j i z => by
  unfold rdF rdS rdC rdT rdB rdL rdH at z
  simp only [frL]
  omega
theorem T_isRowOfBasisG {p : Int} {S : Nat → Nat → Int} {c u : Nat} {L : Nat → Nat} {M0 : bM} {Q : bQ} {x : Int32} (hp2 : M0 26 0 0 = iI p) (hp3 : 2 ≤ p) (hp4 : p ≤ 997) (hp5 : isP p) (r2 : RelSm p S M0) (r3 : RelC c u L M0) (K : ∀ (M : bM) d R, Fr frL M0 M → MS p (cnt c) u (fun i => L (sel c i)) (fun i => S (sel c i)) M → IsB p (cnt c) u (fun i => L (sel c i)) (fun i => S (sel c i)) d R → (∀ i, i < cnt c → d i ≤ 32 ∧ M 39 0 i = iI (d i : Int)) → (∀ i, i < cnt c → ∀ j, j < cnt c → ∀ k, k < 33 → M 38 0 (132 * i + 33 * j + k) = iI (R i j k)) → (InR x (cnt c) → Q (some (cI (1 : Int32))) M) ∧ (¬ InR x (cnt c) → Q (some (cI (0 : Int32))) M)) : bCall 125 [cR 26 0, cI x] M0 Q := by
  have hc5 := r3.1.2.2.2.2
  refine g_X7_isRowOfBasis_0 (T_looksG hp2 hp3 hp4 hp5 r2 r3 fun M d R hF hMS hB g1 g2 => ?_)
  obtain ⟨k1, k0⟩ := K M d R hF hMS hB g1 g2
  have es : M 26 0 25 - (1 : Int32) = iI ((cnt c : Int) - 1) := by rw [hMS.2.1, l1, iI_sub]
  by_cases h : InR x (cnt c)
  · obtain ⟨i, hx, hi⟩ := h
    exact T_inN_t hx hi es (by omega) ⟨Or.inr rfl, k1 ⟨i, hx, hi⟩⟩
  · exact T_inN_f h es (by omega) ⟨Or.inl rfl, k0 h⟩
theorem T_isRowOfBasis {n : Nat} {p : Int} {S : Nat → Nat → Int} {c u : Nat} {L : Nat → Nat} {M0 : bM} {Q : bQ} {x : Int32} (hR : Rels n p S c u L M0) (K : ∀ (M : bM) d R, Fr frL M0 M → MS p (cnt c) u (fun i => L (sel c i)) (fun i => S (sel c i)) M → IsB p (cnt c) u (fun i => L (sel c i)) (fun i => S (sel c i)) d R → (∀ i, i < cnt c → d i ≤ 32 ∧ M 39 0 i = iI (d i : Int)) → (∀ i, i < cnt c → ∀ j, j < cnt c → ∀ k, k < 33 → M 38 0 (132 * i + 33 * j + k) = iI (R i j k)) → (InR x (cnt c) → Q (some (cI (1 : Int32))) M) ∧ (¬ InR x (cnt c) → Q (some (cI (0 : Int32))) M)) : bCall 125 [cR 26 0, cI x] M0 Q := T_isRowOfBasisG hR.1.2.1 hR.1.2.2.1 hR.1.2.2.2.1 hR.1.2.2.2.2 hR.2.1.m hR.2.2.1 K
/-- class and model have the same degrees and rows -/
theorem Cur.same {n : Nat} {p : Int} {S : Nat → Nat → Int} {c u : Nat} {L : Nat → Nat} {M : bM} {d' : Nat → Nat} {R' : Nat → Nat → Nat → Int} (hR : Rels n p S c u L M) (hC : Cur p S c u L M) (h : IsB p (cnt c) u (fun i => L (sel c i)) (fun i => S (sel c i)) d' R') : BS p (cnt c) (fun i => L (sel c i)) (fun i => S (sel c i)) d' R' M := by
  obtain ⟨_, d, R, hB, b2, b3, b4, b5⟩ := hC
  obtain ⟨e1, e2⟩ := hB.uniq hR.1.2.2.1 hR.2.2.1.1.2.2.2.2 h
  refine ⟨b2, fun i hi => ?_, fun i hi j hj k hk => ?_, fun i hi k hk => ?_⟩
  · rw [← e1 i hi]
    exact (b3 i hi).2
  · rw [← e2 i hi j hj k]
    exact b4 i hi j hj k hk
  · rw [b5 i hi k hk]
    refine iIc ?_
    rw [rs_congr (fun j hj k _ => e2 i hi j hj k) (fun _ _ _ _ => rfl)]
theorem P_entry {n : Nat} {M : bM} {x1 x2 x3 : Int32} (h : Rel n M) : bCall 73 [cR 0 0, cI x1, cI x2, cI x3] M (fun v M1 => bCall 135 [cR 26 0, cI x1, cI x2, cI x3] M1 (Alike (n + 1) v)) := by
  obtain ⟨p, S, c, u, L, hR⟩ := h
  have hc5 := hR.2.2.1.1.2.2.2.2
  refine g_X6_entry_0 ?_
  have hbad : ¬ (InR x1 (cnt c) ∧ InR x2 (cnt c) ∧ InR x3 33) → bCall 135 [cR 26 0, cI x1, cI x2, cI x3] M (Alike (n + 1) (some (cI (-1 : Int32)))) := fun hn => g_X7_entry_0 (T_isRowOfBasis hR fun M2 d R hF hMS hB g1 g2 => ⟨fun h1 => z1 (by
    have es : M2 26 0 25 - (1 : Int32) = iI ((cnt c : Int) - 1) := by rw [hMS.2.1, l1, iI_sub]
    by_cases h2 : InR x2 (cnt c)
    · obtain ⟨j, hj, hjc⟩ := h2
      exact T_inN_t hj hjc es (by omega) (z1 (T_inN_f (n := 33) (fun z => hn ⟨h1, ⟨j, hj, hjc⟩, z⟩) (iL 32) (by omega) (z0 (alike rfl (hR.looked hF)))))
    · exact T_inN_f h2 es (by omega) (z0 (alike rfl (hR.looked hF)))), fun h1 => z0 (alike rfl (hR.looked hF))⟩)
  by_cases h1 : InR x1 (cnt c)
  · obtain ⟨i, hi, hic⟩ := h1
    refine S_isChosen_t hR.2.2.1 hi hic (z1 ?_)
    by_cases h2 : InR x2 (cnt c)
    · obtain ⟨j, hj, hjc⟩ := h2
      refine S_isChosen_t hR.2.2.1 hj hjc (z1 ?_)
      obtain ⟨z, ez, za, zb⟩ := iI_of x3
      refine ⟨fun q => hbad fun w => ?_, fun q => ⟨fun q2 => ?_, fun q2 => hbad fun w => ?_⟩⟩
      · obtain ⟨k, hk, hk33⟩ := w.2.2
        have := lt_of q hk l0
        omega
      · have := nlt_of q ez l0
        have := le_of q2 ez (iL 32)
        obtain ⟨k, rfl⟩ := Int.eq_ofNat_of_zero_le (show 0 ≤ z by omega)
        have hk33 : k < 33 := by omega
        refine S_current hR fun M1 hR1 hC => ⟨rfl, ?_⟩
        have hC' := hC
        obtain ⟨_, d, R, hB, b2, b3, b4, b5⟩ := hC'
        refine S_coef ⟨b2, fun i hi => (b3 i hi).2, b4, b5⟩ hc5 hic hjc (by omega) hi hj ez ?_
        refine g_X7_entry_0 (T_isRowOfBasis hR1 fun M2 d' R' hF hMS hB' g1 g2 => ⟨fun _ => z1 ?_, fun z => absurd ⟨i, hi, hic⟩ z⟩)
        have es : M2 26 0 25 - (1 : Int32) = iI ((cnt c : Int) - 1) := by rw [hMS.2.1, l1, iI_sub]
        have e := p53 hi hj ez
        refine T_inN_t hj hjc es (by omega) (z1 (T_inN_t (n := 33) ez hk33 (iL 32) (by omega) (z1 ⟨vin e, ?_⟩)))
        rw [cl_of e, g2 i hic j hjc k hk33]
        exact alike (iIc ((hB.uniq hR.1.2.2.1 hc5 hB').2 i hic j hjc k)) (hR1.looked hF)
      · obtain ⟨k, hk, hk33⟩ := w.2.2
        have := nle_of q2 hk (iL 32)
        omega
    · exact S_isChosen_f hR.2.2.1 h2 (z0 (hbad fun z => h2 z.2.1))
  · exact S_isChosen_f hR.2.2.1 h1 (z0 (hbad fun z => h1 z.1))
