-- needs: 06 08 09 10 11 12 13 14 15 16 17 18 19 26 27 28 29 30 31 32 33 34 35 39 41 42 43
theorem and255 (y : Int32) : ∃ b : Int, y &&& (255 : Int32) = iI b ∧ 0 ≤ b ∧ b < 256 := by
  have e2 : (y &&& (255 : Int32)).toBitVec.toNat < 256 := by
    rw [Int32.toBitVec_and, BitVec.toNat_and, show (255 : Int32).toBitVec.toNat = 2 ^ 8 - 1 by rfl, Nat.and_two_pow_sub_one_eq_mod]
    omega
  refine ⟨((y &&& (255 : Int32)).toBitVec.toNat : Int), ?_, by omega, by omega⟩
  rw [← Int32.toBitVec_inj]
  show (y &&& (255 : Int32)).toBitVec = BitVec.ofInt 32 _
  rw [BitVec.ofInt_natCast, BitVec.ofNat_toNat, BitVec.setWidth_eq]
theorem shr_byte (x : Int32) : ∀ i : Nat, i < 4 → (aUshr x ((8 : Int32) * iI (i : Int))) &&& (255 : Int32) = (x >>> (((8 : Int32) * iI (i : Int)) &&& (31 : Int32))) &&& (255 : Int32) := by
  have key : ∀ (s : Nat), s ≤ 24 → (BitVec.ushiftRight x.toBitVec s) &&& (255#32) = (BitVec.sshiftRight x.toBitVec s) &&& (255#32) := by
    intro s hs
    ext j hj
    have h255 : ∀ j : Nat, (hj : j < 32) → (255#32)[j] = decide (j < 8) := by decide +kernel
    rw [BitVec.getElem_and, BitVec.getElem_and, h255 j hj]
    by_cases h8 : j < 8
    · have hsj : s + j < 32 := by omega
      simp [h8, BitVec.getElem_sshiftRight, BitVec.getElem_ushiftRight, hsj]
    · simp [h8]
  intro i hi
  have hi : i = 0 ∨ i = 1 ∨ i = 2 ∨ i = 3 := by omega
  rw [← Int32.toBitVec_inj]
  rcases hi with rfl | rfl | rfl | rfl
  · exact key 0 (by omega)
  · exact key 8 (by omega)
  · exact key 16 (by omega)
  · exact key 24 (by omega)
theorem P_feed {n : Nat} {M : bM} {x1 x2 : Int32} (h : Rel n M) : bCall 74 [cR 0 0, cI x1, cI x2] M (fun v M1 => bCall 136 [cR 26 0, cI x1, cI x2] M1 (Alike (n + 1) v)) := by
  obtain ⟨p, S, c, u, L, hR⟩ := h
  obtain ⟨N, hN, eN, eN', b, hb⟩ := hR.2.2.2.1
  obtain ⟨z, ez, za, zb⟩ := iI_of x1
  have hbad : ¬ (1 ≤ z ∧ z ≤ 4) → bCall 136 [cR 26 0, cI x1, cI x2] M (Alike (n + 1) (some (cI (-1 : Int32)))) := fun hn => g_X7_feed_0 (T_in_f ez l1 (iL 4) za zb (by omega) (by omega) (by omega) (by omega) hn (n0 (alike rfl hR.same)))
  refine g_X6_feed_0 ⟨fun q => hbad fun w => ?_, fun q => ⟨fun q2 => ?_, fun q2 => hbad fun w => ?_⟩⟩
  · have := lt_of q ez l1
    omega
  · have w1 := nlt_of q ez l1
    have w2 := le_of q2 ez (iL 4)
    obtain ⟨m, rfl⟩ := Int.eq_ofNat_of_zero_le (show 0 ≤ z by omega)
    have es : (80 : Int32) - M 2 0 2 = iI (80 - (N : Int)) := by rw [eN, iL 80, iI_sub]; rfl
    have es' : M 26 0 7 + x1 = iI ((N : Int) + m) := by rw [eN', ez, iI_add]
    refine g_X4_append_0 ⟨fun q3 => ?_, fun q3 => ⟨Or.inl rfl, z0 ?_⟩⟩
    · have w3 := le_of q3 ez es
      have hby := fun i : Nat => and255 (x2 >>> (((8 : Int32) * iI (i : Int)) &&& (31 : Int32)))
      have modelLoop : ∀ (M0 : bM), Fr (fun g j i => g = 13 ∨ g = 2 ∧ i = 2) M M0 → M0 2 0 2 = iI ((N + m : Nat) : Int) → (∀ i, i < m → M0 13 0 (N + i) = (x2 >>> (((8 : Int32) * iI (i : Int)) &&& (31 : Int32))) &&& (255 : Int32)) → (∀ i, i < N → M0 13 0 i = M 13 0 i) → ∀ (r k : Nat), k + r = m → ∀ (M2 : bM) (x3 : Int32), x3 = iI (k : Int) → Fr (fun g j i => g = 29 ∧ N ≤ i ∨ g = 26 ∧ i = 7) M0 M2 → M2 26 0 7 = iI ((N + k : Nat) : Int) → (∀ i, i < k → M2 29 0 (N + i) = (x2 >>> (((8 : Int32) * iI (i : Int)) &&& (31 : Int32))) &&& (255 : Int32)) → bGo 136 (Alike (n + 1) (some (cI (iI ((N + m : Nat) : Int))))) 27 [some (cR 26 0), some (cI x1), some (cI x2), some (cI x3)] [] M2 := by
        intro M0 hF0 hs0 hb0 hb1 r
        induction r with
        | zero =>
          intro k hk M2 x3 e3 hF hs hbb
          have hkm : k = m := by omega
          subst hkm
          refine g_X7_feed_27 ⟨fun _ => ?_, fun q => ?_⟩
          · obtain ⟨r1, r2, r3, r4, r5, r6, r7⟩ := hR
            have hFF := hF0.trans hF
            refine alike hs.symm ⟨p, S, c, u, L, r1.fr hFF ?_, r2.fr hFF ?_, r3.fr hFF ?_, ⟨N + k, by omega, ?_, hs, fun i => (M2 13 0 i).toInt, fun i hi => ?_⟩, r5.fr hFF ?_, (r6.fr hFF ?_).up (Nat.le_succ n), r7.fr hFF ?_⟩
            · intro g j i h
              unfold rdF at h
              simp only [oL]
              omega
            · intro g j i h
              unfold rdS at h
              simp only [oL]
              omega
            · intro g j i h
              unfold rdC at h
              simp only [oL]
              omega
            · rw [hF _ _ _ (by omega)]
              exact hs0
            · have e13 : M2 13 0 i = M0 13 0 i := hF _ _ _ (by omega)
              show M2 13 0 i = iI (M2 13 0 i).toInt ∧ M2 29 0 i = iI (M2 13 0 i).toInt ∧ 0 ≤ (M2 13 0 i).toInt ∧ (M2 13 0 i).toInt < 256
              rw [tI, e13]
              by_cases hiN : i < N
              · obtain ⟨v1, v2, v3, v4⟩ := hb i hiN
                rw [hb1 i hiN, hF _ _ _ (by omega), hF0 _ _ _ (by omega), v1, v2, iI_toInt (by omega) (by omega)]
                exact ⟨rfl, rfl, v3, v4⟩
              · have w4 := hb0 (i - N) (by omega)
                have w5 := hbb (i - N) (by omega)
                rw [show N + (i - N) = i by omega] at w4 w5
                rw [w4, w5]
                obtain ⟨bb, v1, v2, v3⟩ := hby (i - N)
                rw [v1, iI_toInt (by omega) (by omega)]
                exact ⟨rfl, rfl, v2, v3⟩
            · intro g j i h
              unfold rdB at h
              simp only [oL]
              omega
            · intro g j i h
              unfold rdL at h
              simp only [oL]
              omega
            · intro g j i h
              unfold rdH at h
              simp only [oL]
              omega
          · have := nle_of q ez e3
            omega
        | succ r ih =>
          intro k hk M2 x3 e3 hF hs hbb
          refine g_X7_feed_27 ⟨fun q => ?_, fun _ => ⟨vin hs, ?_⟩⟩
          · have := le_of q ez e3
            omega
          · rw [cl_of hs, bU_ne (by omega), hs]
            refine ih (k + 1) (by omega) _ _ (inN e3) ((hF.trans (bU_fr.trans bU_fr)).mono ?_) ?_ fun i hi => ?_
            · intro g j i h
              simp only [oL] at h
              omega
            · rw [bU_at]
              exact inN rfl
            · by_cases hik : i = k
              · subst hik
                rw [bU_ne (by omega), bU_at, e3]
              · rw [bU_ne (by omega), bU_ne (by omega)]
                exact hbb i (by omega)
      have classLoop : ∀ (r k : Nat), k + r = m → ∀ (M2 : bM) (x3 : Int32), x3 = iI (k : Int) → Fr (fun g j i => g = 13 ∨ g = 2 ∧ i = 2) M M2 → M2 2 0 2 = iI ((N + k : Nat) : Int) → (∀ i, i < k → M2 13 0 (N + i) = (x2 >>> (((8 : Int32) * iI (i : Int)) &&& (31 : Int32))) &&& (255 : Int32)) → (∀ i, i < N → M2 13 0 i = M 13 0 i) → bGo 47 (fun v1 M2 => bV1 v1 fun r3 => (((r3 = 0) → (bCall 136 [cR 26 0, cI x1, cI x2] M2 (Alike (n + 1) (some (cI (-4 : Int32)))))) ∧ (¬ (r3 = 0) → (bCall 136 [cR 26 0, cI x1, cI x2] M2 (Alike (n + 1) (some (cI (M2 2 0 2)))))))) 15 [some (cR 2 0), some (cI x1), some (cI x2), some (cI x3)] [] M2 := by
        intro r
        induction r with
        | zero =>
          intro k hk M2 x3 e3 hF hs hbb hb1
          have hkm : k = m := by omega
          subst hkm
          refine g_X4_append_15 ⟨fun _ => ⟨Or.inr rfl, z1 ?_⟩, fun q => ?_⟩
          · rw [hs]
            refine g_X7_feed_0 (T_in_t ez l1 (iL 4) (by omega) (by omega) (by omega) (by omega) (n1 ?_))
            have e7 : M2 26 0 7 = iI (N : Int) := by rw [hF _ _ _ (by omega)]; exact eN'
            rw [e7, ez, iI_add]
            refine ⟨fun _ => ?_, fun q => absurd (nle_of q rfl (iL 80)) (by omega)⟩
            rw [← ez]
            exact modelLoop M2 hF hs hbb hb1 k 0 (by omega) M2 _ l0 (Fr.refl.mono fun _ _ _ z => z.elim) e7 fun i hi => absurd hi (by omega)
          · have := nle_of q ez e3
            omega
        | succ r ih =>
          intro k hk M2 x3 e3 hF hs hbb hb1
          refine g_X4_append_15 ⟨fun q => ?_, fun _ => ⟨fun q => ?_, fun _ => ⟨vin hs, ?_⟩⟩⟩
          · have := le_of q ez e3
            omega
          · have := le_of q (iL 80) hs
            omega
          · rw [cl_of hs, bU_ne (by omega), hs]
            refine ih (k + 1) (by omega) _ _ (inN e3) ((hF.trans (bU_fr.trans bU_fr)).mono ?_) ?_ (fun i hi => ?_) fun i hi => ?_
            · intro g j i h
              simp only [oL] at h
              omega
            · rw [bU_at]
              exact inN rfl
            · by_cases hik : i = k
              · subst hik
                rw [bU_ne (by omega), bU_at, e3]
                exact shr_byte x2 i (by omega)
              · rw [bU_ne (by omega), bU_ne (by omega)]
                exact hbb i (by omega)
            · rw [bU_ne (by omega), bU_ne (by omega)]
              exact hb1 i hi
      exact classLoop m 0 (by omega) M _ l0 (Fr.refl.mono fun _ _ _ z => z.elim) eN (fun i hi => absurd hi (by omega)) (fun i hi => rfl)
    · have w3 := nle_of q3 ez es
      refine g_X7_feed_0 (T_in_t ez l1 (iL 4) (by omega) (by omega) (by omega) (by omega) (n1 ⟨fun q => ?_, fun _ => alike rfl hR.same⟩))
      rw [es'] at q
      have := le_of q rfl (iL 80)
      omega
  · have := nle_of q2 ez (iL 4)
    omega
/-- what stands in a set of series that aren't 0 -/
def nzF (S : Nat → Nat → Int) : Nat → Nat → Int32 → Int32
  | 0, _, a => a
  | m + 1, k, a => nzF S m (k + 1) (if 32 ≤ lz (S k) 32 0 then a else a ||| ((1 : Int32) <<< (iI (k : Int) &&& (31 : Int32))))
theorem S_seriesNotZero {p : Int} {S : Nat → Nat → Int} {M : bM} {Q : bQ} (hp : p ≤ 997) (h : RelS p S M) (K : Q (some (cI (nzF S 6 0 0))) M) : bCall 71 [cR 0 0] M Q := by
  have loop : ∀ (m k : Nat), k + m = 6 → ∀ (a x2 : Int32), x2 = iI (k : Int) → Q (some (cI (nzF S m k a))) M → bGo 71 Q 4 [some (cR 0 0), some (cI a), some (cI x2)] [] M := by
    intro m
    induction m with
    | zero =>
      intro k hk a x2 e hK
      refine g_X6_seriesNotZero_4 ⟨fun _ => hK, fun c => ?_⟩
      have := nle_of c (iL 6) e
      omega
    | succ m ih =>
      intro k hk a x2 e hK
      refine g_X6_seriesNotZero_4 ⟨fun c => ?_, fun c => ⟨vin e, ?_⟩⟩
      · have := le_of c (iL 6) e
        omega
      · rw [cl_of e]
        have hb := lz_bd (f := S k) (n := 32) (k := 0)
        have hK' : Q (some (cI (nzF S m (k + 1) (if 32 ≤ lz (S k) 32 0 then a else a ||| ((1 : Int32) <<< (iI (k : Int) &&& (31 : Int32))))))) M := hK
        refine S_leadingZeros (f := S k) (fun i hi => ⟨(h k (by omega) i hi).1, (h k (by omega) i hi).2.2.1, by have := (h k (by omega) i hi).2.2.2; omega⟩) ⟨fun q => ?_, fun q => ?_⟩
        · have := le_of q l32 rfl
          refine ih (k + 1) (by omega) _ _ (inN e) ?_
          rw [if_pos (by omega)] at hK'
          exact hK'
        · have := nle_of q l32 rfl
          refine ih (k + 1) (by omega) _ _ (inN e) ?_
          rw [if_neg (by omega)] at hK'
          rw [e]
          exact hK'
  exact g_X6_seriesNotZero_0 (loop 6 0 rfl _ _ l0 K)
theorem T_nz {p : Int} {S : Nat → Nat → Int} {M : bM} {Q : bQ} {x1 : Int32} (hp : p ≤ 997) (h : RelS p S M) (K : Q (some (cI (nzF S 6 0 0))) M) : bGo 134 Q 103 [some (cR 26 0), some (cI x1), some (cI (0 : Int32)), some (cI (0 : Int32))] [] M := by
  have loop : ∀ (m k : Nat), k + m = 6 → ∀ (a x2 : Int32), x2 = iI (k : Int) → Q (some (cI (nzF S m k a))) M → bGo 134 Q 103 [some (cR 26 0), some (cI x1), some (cI a), some (cI x2)] [] M := by
    intro m
    induction m with
    | zero =>
      intro k hk a x2 e hK
      refine g_X7_count_103 ⟨fun _ => hK, fun c => ?_⟩
      have := nle_of c (iL 6) e
      omega
    | succ m ih =>
      intro k hk a x2 e hK
      refine g_X7_count_103 ⟨fun c => ?_, fun c => ?_⟩
      · have := le_of c (iL 6) e
        omega
      · have hb := lz_bd (f := S k) (n := 32) (k := 0)
        have hK' : Q (some (cI (nzF S m (k + 1) (if 32 ≤ lz (S k) 32 0 then a else a ||| ((1 : Int32) <<< (iI (k : Int) &&& (31 : Int32))))))) M := hK
        refine T_zerosOf_t (f := S k) (m32 e) (by omega) (fun i hi => ⟨(h k (by omega) i hi).2.1, (h k (by omega) i hi).2.2.1, by have := (h k (by omega) i hi).2.2.2; omega⟩) ⟨fun q => ?_, fun q => ?_⟩
        · have := le_of q l32 rfl
          refine ih (k + 1) (by omega) _ _ (inN e) ?_
          rw [if_pos (by omega)] at hK'
          rw [Int32.or_zero]
          exact hK'
        · have := nle_of q l32 rfl
          refine ih (k + 1) (by omega) _ _ (inN e) ?_
          rw [if_neg (by omega)] at hK'
          rw [e]
          exact hK'
  exact loop 6 0 rfl _ _ l0 K
/-- how many of the sheets are there -/
def shF (M : bM) : Nat → Nat → Int → Int
  | 0, _, a => a
  | m + 1, k, a => shF M m (k + 1) (if M 54 0 k < 0 then a else a + 1)
theorem S_sheetsThere {M : bM} {Q : bQ} (h : RelH M) (K : Q (some (cI (iI (shF M 3 0 0)))) M) : bCall 70 [cR 0 0] M Q := by
  have loop : ∀ (m k : Nat), k + m = 3 → ∀ (a : Int) (x1 x2 : Int32), x1 = iI a → x2 = iI (k : Int) → Q (some (cI (iI (shF M m k a)))) M → bGo 70 Q 4 [some (cR 0 0), some (cI x1), some (cI x2)] [] M := by
    intro m
    induction m with
    | zero =>
      intro k hk a x1 x2 e1 e hK
      refine g_X6_sheetsThere_4 ⟨fun _ => by rw [e1]; exact hK, fun c => ?_⟩
      have := nle_of c (iL 3) e
      omega
    | succ m ih =>
      intro k hk a x1 x2 e1 e hK
      obtain ⟨h1, ⟨z, za, zb, h2, h3⟩, h4⟩ := h k (by omega)
      have hK' : Q (some (cI (iI (shF M m (k + 1) (if M 54 0 k < 0 then a else a + 1))))) M := hK
      refine g_X6_sheetsThere_4 ⟨fun c => ?_, fun c => ⟨vin e, ?_⟩⟩
      · have := le_of c (iL 3) e
        omega
      · rw [cl_of e]
        by_cases hz : 0 ≤ z
        · rw [if_neg (fun q => absurd (lt_of q h3 l0) (by omega))] at hK'
          exact S_isMissing_f h2 hz zb (z0 (ih (k + 1) (by omega) _ _ _ (inc e1) (inN e) hK'))
        · rw [if_pos (by rw [h3, l0, iI_lt (by omega) (by omega) (by omega) (by omega)]; omega)] at hK'
          exact S_isMissing_t h2 za (by omega) (z1 (ih (k + 1) (by omega) _ _ _ (by rw [e1, l0, iI_add]; exact iIc (by omega)) (inN e) hK'))
  exact g_X6_sheetsThere_0 (loop 3 0 rfl _ _ _ l0 l0 K)
theorem T_sheets {M : bM} {Q : bQ} {x1 : Int32} (h : RelH M) (K : Q (some (cI (iI (shF M 3 0 0)))) M) : bGo 134 Q 61 [some (cR 26 0), some (cI x1), some (cI (0 : Int32)), some (cI (0 : Int32))] [] M := by
  have loop : ∀ (m k : Nat), k + m = 3 → ∀ (a : Int) (x2 x3 : Int32), x2 = iI a → x3 = iI (k : Int) → Q (some (cI (iI (shF M m k a)))) M → bGo 134 Q 61 [some (cR 26 0), some (cI x1), some (cI x2), some (cI x3)] [] M := by
    intro m
    induction m with
    | zero =>
      intro k hk a x1 x2 e1 e hK
      refine g_X7_count_61 ⟨fun _ => by rw [e1]; exact hK, fun c => ?_⟩
      have := nle_of c (iL 3) e
      omega
    | succ m ih =>
      intro k hk a x2 x3 e1 e hK
      have hK' : Q (some (cI (iI (shF M m (k + 1) (if M 54 0 k < 0 then a else a + 1))))) M := hK
      refine g_X7_count_61 ⟨fun c => ?_, fun c => ⟨vin e, fun q => ?_, fun q => ?_⟩⟩
      · have := le_of c (iL 3) e
        omega
      · rw [cl_of e] at q
        rw [if_pos q] at hK'
        exact ih (k + 1) (by omega) _ _ _ (by rw [e1, l0, iI_add]; exact iIc (by omega)) (inN e) hK'
      · rw [cl_of e] at q
        rw [if_neg q] at hK'
        exact ih (k + 1) (by omega) _ _ _ (inc e1) (inN e) hK'
  exact loop 3 0 rfl _ _ _ l0 l0 K
theorem P_count {n : Nat} {M : bM} {x1 : Int32} (h : Rel n M) : bCall 72 [cR 0 0, cI x1] M (fun v M1 => bCall 134 [cR 26 0, cI x1] M1 (Alike (n + 1) v)) := by
  obtain ⟨p, S, c, u, L, hR⟩ := h
  have hR' := hR
  obtain ⟨⟨hp1, hp2, hp3, hp4, hp5⟩, r2, r3, ⟨N, _, t1, t2, _⟩, r5, r6, r7⟩ := hR'
  obtain ⟨K, t, a, G, hL⟩ := r6.led
  obtain ⟨h1, h2, h3, h4, h5, h6, h7, h8⟩ := hL
  refine g_X6_count_0 ⟨fun q0 => ?_, fun q0 => ⟨fun q1 => ?_, fun q1 => ⟨fun q2 => ?_, fun q2 => ⟨fun q3 => ?_, fun q3 => ⟨fun q4 => ?_, fun q4 => ⟨fun q5 => ?_, fun q5 => ⟨fun q6 => ?_, fun q6 => ?_⟩⟩⟩⟩⟩⟩⟩
  · exact g_X7_count_0 ⟨fun _ => alike (by rw [hp1, hp2]) hR.same, fun z => absurd q0 z⟩
  · exact g_X7_count_0 ⟨fun z => absurd z q0, fun _ => ⟨fun _ => alike (by rw [t1, t2]) hR.same, fun z => absurd q1 z⟩⟩
  · refine S_size (n := n) (a := a) (G := G) (t := t) h1 (fun k hk => ⟨(h6 k hk).1, (h6 k hk).2.2.2.1.1⟩) (fun k k' a b => (h7 k k' a b).1) h8 ?_
    exact g_X7_count_0 ⟨fun z => absurd z q0, fun _ => ⟨fun z => absurd z q1, fun _ => ⟨fun _ => alike h3.symm hR.same, fun z => absurd q2 z⟩⟩⟩
  · refine S_sheetsThere r7 ?_
    exact g_X7_count_0 ⟨fun z => absurd z q0, fun _ => ⟨fun z => absurd z q1, fun _ => ⟨fun z => absurd z q2, fun _ => ⟨fun _ => T_sheets r7 (alike rfl hR.same), fun z => absurd q3 z⟩⟩⟩⟩
  · exact g_X7_count_0 ⟨fun z => absurd z q0, fun _ => ⟨fun z => absurd z q1, fun _ => ⟨fun z => absurd z q2, fun _ => ⟨fun z => absurd z q3, fun _ => ⟨fun _ => alike (by rw [h4, h5]) hR.same, fun z => absurd q4 z⟩⟩⟩⟩⟩
  · exact g_X7_count_0 ⟨fun z => absurd z q0, fun _ => ⟨fun z => absurd z q1, fun _ => ⟨fun z => absurd z q2, fun _ => ⟨fun z => absurd z q3, fun _ => ⟨fun z => absurd z q4, fun _ => ⟨fun _ => alike (by rw [r3.1.1, r3.1.2.1]) hR.same, fun z => absurd q5 z⟩⟩⟩⟩⟩⟩
  · refine S_seriesNotZero hp4 r2 ?_
    exact g_X7_count_0 ⟨fun z => absurd z q0, fun _ => ⟨fun z => absurd z q1, fun _ => ⟨fun z => absurd z q2, fun _ => ⟨fun z => absurd z q3, fun _ => ⟨fun z => absurd z q4, fun _ => ⟨fun z => absurd z q5, fun _ => ⟨fun _ => T_nz hp4 r2 (alike rfl hR.same), fun z => absurd q6 z⟩⟩⟩⟩⟩⟩⟩
  · exact g_X7_count_0 ⟨fun z => absurd z q0, fun _ => ⟨fun z => absurd z q1, fun _ => ⟨fun z => absurd z q2, fun _ => ⟨fun z => absurd z q3, fun _ => ⟨fun z => absurd z q4, fun _ => ⟨fun z => absurd z q5, fun _ => ⟨fun z => absurd z q6, fun _ => alike rfl hR.same⟩⟩⟩⟩⟩⟩⟩
