-- needs: 06 08 09 10 11 12 13 14 15 16 17 18 19 26 27 28 29 30 31 32 33 34 35 39 41 42 45 46 47 48 49 50 51 52 53 54 55 56 57 58
/-- the class has the basis of the choice -/
def Cur (p : Int) (S : Nat → Nat → Int) (c u : Nat) (L : Nat → Nat) (M : bM) : Prop := M 0 0 7 = iI 0 ∧ BaseIn p (cnt c) u (fun i => L (sel c i)) (fun i => S (sel c i)) M
theorem S_current {n : Nat} {p : Int} {S : Nat → Nat → Int} {c u : Nat} {L : Nat → Nat} {M0 : bM} {Q : bQ} (hR : Rels n p S c u L M0) (K : ∀ M, Rels n p S c u L M → Cur p S c u L M → Q (some (cR 3 0)) M) : bCall 68 [cR 0 0] M0 Q := by
  have hR' := hR
  obtain ⟨⟨hp1, hp2, hp3, hp4, hp5⟩, r2, r3, r4, r5, r6, r7⟩ := hR'
  rcases r5 with h7 | ⟨h7, hB⟩
  · refine g_X6_currentBasis_0 ⟨fun q => absurd q (by rw [h7]; decide), fun _ => ?_⟩
    refine S_gather r2 r3 fun M1 hF1 g1 g2 => ?_
    have hF1' : ∀ g j i, ¬ (g = 7 ∧ 8 ≤ j ∧ j < 12 ∨ g = 9 ∧ j = 0) → M1 g j i = M0 g j i := hF1
    refine S_build (p := p) (m := cnt c) (o := u) (s := fun i => L (sel c i)) (f := fun i => S (sel c i)) (by rw [hF1' _ _ _ (by omega)]; exact hp1) hp3 hp4 hp5 r3.1.2.2.2.2 r3.2.1.2.2.2 (fun i hi => (r3.2.2 _ (sel_lt c r3.1.2.2.1 i hi)).2.2) rfl (by rw [hF1' _ _ _ (by omega)]; exact r3.2.1.1) (fun i hi k hk => ⟨g1 i hi k hk, (r2 _ (sel_lt c r3.1.2.2.1 i hi) k hk).2.2⟩) g2 fun M2 hF2 hB2 => ⟨Or.inl rfl, ?_⟩
    have hF := (hF1.trans hF2).trans (bU_fr (g := 0) (j := 0) (i := 7) (x := (0 : Int32)))
    have hC : Cur p S c u L (bU M2 0 0 7 (0 : Int32)) := by
      obtain ⟨d, R, b1, b2, b3, b4, b5⟩ := hB2
      refine ⟨by rw [bU_at]; exact l0, d, R, b1, ?_, fun i hi => ?_, fun i hi j hj k hk => ?_, fun i hi k hk => ?_⟩
      · rw [bU_ne (by omega)]
        exact b2
      · rw [bU_ne (by omega), bU_ne (by omega)]
        exact b3 i hi
      · rw [bU_ne (by omega)]
        exact b4 i hi j hj k hk
      · rw [bU_ne (by omega)]
        exact b5 i hi k hk
    refine K _ ⟨RelF.fr ⟨hp1, hp2, hp3, hp4, hp5⟩ hF ?_, r2.fr hF ?_, r3.fr hF ?_, r4.fr hF ?_, Or.inr hC, r6.fr hF ?_, r7.fr hF ?_⟩ hC
    · intro g j i h
      unfold rdF at h
      simp only [oL]
      omega
    · intro g j i h
      unfold rdS at h
      simp only [oL]
      omega
    · intro g j i h
      unfold rdC at h
      simp only [oL]
      omega
    · intro g j i h
      unfold rdT at h
      simp only [oL]
      omega
    · intro g j i h
      unfold rdL at h
      simp only [oL]
      omega
    · intro g j i h
      unfold rdH at h
      simp only [oL]
      omega
  · exact g_X6_currentBasis_0 ⟨fun _ => K M0 hR ⟨h7, hB⟩, fun q => absurd (by rw [h7]; rfl) q⟩
/-- the model looks for the basis of the choice -/
theorem T_looksG {p : Int} {S : Nat → Nat → Int} {c u : Nat} {L : Nat → Nat} {M0 : bM} {Q : bQ} (hp2 : M0 26 0 0 = iI p) (hp3 : 2 ≤ p) (hp4 : p ≤ 997) (hp5 : isP p) (r2 : RelSm p S M0) (r3 : RelC c u L M0) (K : ∀ (M : bM) d R, Fr (fun g _ i => 36 ≤ g ∧ g ≤ 45 ∨ g = 26 ∧ (i = 25 ∨ i = 26 ∨ i = 31)) M0 M → MS p (cnt c) u (fun i => L (sel c i)) (fun i => S (sel c i)) M → IsB p (cnt c) u (fun i => L (sel c i)) (fun i => S (sel c i)) d R → (∀ i, i < cnt c → d i ≤ 32 ∧ M 39 0 i = iI (d i : Int)) → (∀ i, i < cnt c → ∀ j, j < cnt c → ∀ k, k < 33 → M 38 0 (132 * i + 33 * j + k) = iI (R i j k)) → Q none M) : bCall 124 [cR 26 0] M0 Q := by
  refine g_X7_looks_0 (T_takesChoice hp2 r2 r3 fun M1 hF1 hMS => ?_)
  refine T_looksForBasis hp3 hp4 hp5 r3.1.2.2.2.2 r3.2.1.2.2.2 (fun i hi => (r3.2.2 _ (sel_lt c r3.1.2.2.1 i hi)).2.2) hMS fun M2 d R hF2 g1 g2 g3 => ?_
  refine K M2 d R ((hF1.trans hF2).mono fun g j i z => ?_) (hMS.fr hF2 fun g j i z => ?_) g1 g2 g3
  · simp only [oL, frT, frS] at z ⊢
    omega
  · simp only [frS]
    omega
theorem T_looks {n : Nat} {p : Int} {S : Nat → Nat → Int} {c u : Nat} {L : Nat → Nat} {M0 : bM} {Q : bQ} (hR : Rels n p S c u L M0) (K : ∀ (M : bM) d R, Fr (fun g _ i => 36 ≤ g ∧ g ≤ 45 ∨ g = 26 ∧ (i = 25 ∨ i = 26 ∨ i = 31)) M0 M → MS p (cnt c) u (fun i => L (sel c i)) (fun i => S (sel c i)) M → IsB p (cnt c) u (fun i => L (sel c i)) (fun i => S (sel c i)) d R → (∀ i, i < cnt c → d i ≤ 32 ∧ M 39 0 i = iI (d i : Int)) → (∀ i, i < cnt c → ∀ j, j < cnt c → ∀ k, k < 33 → M 38 0 (132 * i + 33 * j + k) = iI (R i j k)) → Q none M) : bCall 124 [cR 26 0] M0 Q := by
  obtain ⟨⟨hp1, hp2, hp3, hp4, hp5⟩, r2, r3, r4, r5, r6, r7⟩ := hR
  exact T_looksG hp2 hp3 hp4 hp5 r2.m r3 K
