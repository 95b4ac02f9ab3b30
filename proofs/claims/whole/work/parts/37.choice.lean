-- needs: 06 08 09 10 11 12 16 17 18 19 26 27 28 29 30 31 32 33 34 35
def bcE (x : Int32) : Int32 := ((((((((x - ((aUshr x (1 : Int32)) &&& (1431655765 : Int32))) &&& (858993459 : Int32)) + ((aUshr (x - ((aUshr x (1 : Int32)) &&& (1431655765 : Int32))) (2 : Int32)) &&& (858993459 : Int32))) + (aUshr (((x - ((aUshr x (1 : Int32)) &&& (1431655765 : Int32))) &&& (858993459 : Int32)) + ((aUshr (x - ((aUshr x (1 : Int32)) &&& (1431655765 : Int32))) (2 : Int32)) &&& (858993459 : Int32))) (4 : Int32))) &&& (252645135 : Int32)) + (aUshr (((((x - ((aUshr x (1 : Int32)) &&& (1431655765 : Int32))) &&& (858993459 : Int32)) + ((aUshr (x - ((aUshr x (1 : Int32)) &&& (1431655765 : Int32))) (2 : Int32)) &&& (858993459 : Int32))) + (aUshr (((x - ((aUshr x (1 : Int32)) &&& (1431655765 : Int32))) &&& (858993459 : Int32)) + ((aUshr (x - ((aUshr x (1 : Int32)) &&& (1431655765 : Int32))) (2 : Int32)) &&& (858993459 : Int32))) (4 : Int32))) &&& (252645135 : Int32)) (8 : Int32))) + (aUshr ((((((x - ((aUshr x (1 : Int32)) &&& (1431655765 : Int32))) &&& (858993459 : Int32)) + ((aUshr (x - ((aUshr x (1 : Int32)) &&& (1431655765 : Int32))) (2 : Int32)) &&& (858993459 : Int32))) + (aUshr (((x - ((aUshr x (1 : Int32)) &&& (1431655765 : Int32))) &&& (858993459 : Int32)) + ((aUshr (x - ((aUshr x (1 : Int32)) &&& (1431655765 : Int32))) (2 : Int32)) &&& (858993459 : Int32))) (4 : Int32))) &&& (252645135 : Int32)) + (aUshr (((((x - ((aUshr x (1 : Int32)) &&& (1431655765 : Int32))) &&& (858993459 : Int32)) + ((aUshr (x - ((aUshr x (1 : Int32)) &&& (1431655765 : Int32))) (2 : Int32)) &&& (858993459 : Int32))) + (aUshr (((x - ((aUshr x (1 : Int32)) &&& (1431655765 : Int32))) &&& (858993459 : Int32)) + ((aUshr (x - ((aUshr x (1 : Int32)) &&& (1431655765 : Int32))) (2 : Int32)) &&& (858993459 : Int32))) (4 : Int32))) &&& (252645135 : Int32)) (8 : Int32))) (16 : Int32))) &&& (63 : Int32))
theorem bcE_c : ∀ c : Nat, c < 64 → bcE (iI (c : Int)) = iI (cnt c : Int) := by decide +kernel
theorem S_bitCount {M : bM} {Q : bQ} {x : Int32} {c : Nat} (hx : x = iI (c : Int)) (hc : c < 64) (K : Q (some (cI (iI (cnt c : Int)))) M) : bCall 0 [cI x] M Q := by
  refine g_J6_bitCount_0 ?_
  rw [← bcE_c c hc, ← hx] at K
  exact K
def onesF : Nat → Int32 → Int32 → Option Int32
  | 0, _, _ => none
  | n + 1, a, l => if l = 0 then some a else onesF n (a + 1) (l &&& (l - 1))
theorem T_onesF {Q : bQ} {M : bM} {x : Int32} : ∀ (n : Nat) (a l r : Int32), onesF n a l = some r → Q (some (cI r)) M → bGo 115 Q 4 [some (cI x), some (cI a), some (cI l)] [] M
  | 0, _, _, _, h, _ => nomatch h
  | n + 1, a, l, r, h, K => by
    unfold onesF at h
    refine g_X7_ones_4 ⟨fun c => ?_, fun c => ?_⟩
    · rw [if_pos c] at h
      cases h
      exact K
    · rw [if_neg c] at h
      exact T_onesF n _ _ r h K
theorem ones_c : ∀ c : Nat, c < 64 → onesF 7 0 (iI (c : Int)) = some (iI (cnt c : Int)) := by decide +kernel
theorem T_ones {M : bM} {Q : bQ} {x : Int32} {c : Nat} (hx : x = iI (c : Int)) (hc : c < 64) (K : Q (some (cI (iI (cnt c : Int)))) M) : bCall 115 [cI x] M Q := by
  refine g_X7_ones_0 (T_onesF 7 _ _ _ ?_ K)
  rw [hx]
  exact ones_c c hc
theorem and63_c : ∀ c : Nat, c < 64 → (iI (c : Int)) &&& (-64 : Int32) = 0 := by decide +kernel
theorem and63' (x : Int32) (h : x &&& (-64 : Int32) = 0) : x = x &&& (63 : Int32) := by
  have h' : x.toBitVec &&& (-64 : Int32).toBitVec = 0#32 := by rw [← Int32.toBitVec_and, h]; rfl
  rw [← Int32.toBitVec_inj, Int32.toBitVec_and]
  ext i hi
  have h2 : (x.toBitVec &&& (-64 : Int32).toBitVec).getLsbD i = false := by rw [h']; simp
  rw [BitVec.getLsbD_and] at h2
  rw [BitVec.getElem_and]
  have h3 : ∀ i : Nat, (hi : i < 32) → (63 : Int32).toBitVec[i] = !((-64 : Int32).toBitVec.getLsbD i) := by decide +kernel
  rw [h3 i hi]
  rw [BitVec.getLsbD_eq_getElem hi] at h2
  cases hx : x.toBitVec[i] <;> simp_all
theorem and63 {x : Int32} (h : x &&& (-64 : Int32) = 0) : InR x 64 := by
  have e : x = x &&& (63 : Int32) := and63' x h
  have e2 : x.toBitVec.toNat < 64 := by
    rw [e, Int32.toBitVec_and, BitVec.toNat_and, show (63 : Int32).toBitVec.toNat = 2 ^ 6 - 1 by rfl, Nat.and_two_pow_sub_one_eq_mod]
    omega
  refine ⟨x.toBitVec.toNat, ?_, e2⟩
  rw [← Int32.toBitVec_inj]
  show x.toBitVec = BitVec.ofInt 32 _
  rw [BitVec.ofInt_natCast, BitVec.ofNat_toNat, BitVec.setWidth_eq]
theorem P_choose {n : Nat} {M : bM} {x1 : Int32} (h : Rel n M) : bCall 65 [cR 0 0, cI x1] M (fun v M1 => bCall 116 [cR 26 0, cI x1] M1 (Alike (n + 1) v)) := by
  obtain ⟨p, S, c, u, L, hR⟩ := h
  refine g_X6_choose_0 ?_
  by_cases h1 : InR x1 64
  · obtain ⟨c', hc, hc'⟩ := h1
    have hb : cnt c' ≤ 6 := by
      unfold cnt chs
      exact Nat.le_trans (List.length_filter_le _ _) (by decide)
    refine S_bitCount hc hc' ⟨fun q => ?_, fun _ => ⟨fun q => ?_, fun _ => ?_⟩⟩
    · have := lt_of q hc l0
      omega
    · have := le_of q (iL 64) hc
      omega
    have hm : ∀ {Q : bQ} {M : bM}, bCall 115 [cI x1] M (fun v1 M2 => bV1 v1 fun r3 => (bCall 104 [cI r3, cI (1 : Int32), cI (4 : Int32)] M2 (fun v4 M5 => bV1 v4 fun r6 => (((¬ r6 = 0) → (bCall 115 [cI x1] (bU M5 26 0 22 x1) (fun v7 M8 => bV1 v7 fun r9 => (Q (some (cI r9)) M8)))) ∧ (¬ (¬ r6 = 0) → (Q (some (cI (-1 : Int32))) M5)))))) → bCall 116 [cR 26 0, cI x1] M Q := fun h => g_X7_choose_0 ⟨fun q => absurd (by rw [hc]; exact and63_c c' hc') q, fun _ => h⟩
    refine ⟨fun q => ?_, fun q => ⟨fun q2 => ⟨Or.inr rfl, ?_⟩, fun q2 => ?_⟩⟩
    · have := lt_of q rfl l1
      exact hm (T_ones hc hc' (T_in_f rfl l1 (iL 4) (by omega) (by omega) (by omega) (by omega) (by omega) (by omega) (by omega) (n0 (alike rfl hR.same))))
    · have := nlt_of q rfl l1
      have := le_of q2 rfl (iL 4)
      refine hm (T_ones hc hc' (T_in_t rfl l1 (iL 4) (by omega) (by omega) (by omega) (by omega) (n1 (T_ones hc hc' ?_))))
      obtain ⟨h1, h2, h3, h4, h5, h6, h7⟩ := hR
      have hF := ((bU_fr (M := M) (g := 0) (j := 0) (i := 3) (x := x1)).trans (bU_fr (g := 0) (j := 0) (i := 7) (x := (1 : Int32)))).trans (bU_fr (g := 26) (j := 0) (i := 22) (x := x1))
      refine alike rfl ⟨p, S, c', u, L, h1.fr hF ?_, h2.fr hF ?_, ?_, h4.fr hF ?_, Or.inl ?_, (h6.fr hF ?_).up (Nat.le_succ n), h7.fr hF ?_⟩
      · intro g j i h
        unfold rdF at h
        simp only [oL]
        omega
      · intro g j i h
        unfold rdS at h
        simp only [oL]
        omega
      · refine ⟨⟨?_, ?_, hc', by omega, by omega⟩, ⟨?_, ?_, h3.2.1.2.2⟩, fun s hs => ?_⟩
        · rw [bU_ne (by omega), bU_ne (by omega), bU_at, hc]
        · rw [bU_at, hc]
        · rw [bU_ne (by omega), bU_ne (by omega), bU_ne (by omega)]
          exact h3.2.1.1
        · rw [bU_ne (by omega), bU_ne (by omega), bU_ne (by omega)]
          exact h3.2.1.2.1
        · rw [bU_ne (by omega), bU_ne (by omega), bU_ne (by omega), bU_ne (by omega), bU_ne (by omega), bU_ne (by omega)]
          exact h3.2.2 s hs
      · intro g j i h
        unfold rdT at h
        simp only [oL]
        omega
      · rw [bU_ne (by omega), bU_at]
        exact l1
      · intro g j i h
        unfold rdL at h
        simp only [oL]
        omega
      · intro g j i h
        unfold rdH at h
        simp only [oL]
        omega
    · have := nle_of q2 rfl (iL 4)
      exact hm (T_ones hc hc' (T_in_f rfl l1 (iL 4) (by omega) (by omega) (by omega) (by omega) (by omega) (by omega) (by omega) (n0 (alike rfl hR.same))))
  · have hm : ∀ {Q : bQ} {M : bM}, Q (some (cI (-1 : Int32))) M → bCall 116 [cR 26 0, cI x1] M Q := fun h => g_X7_choose_0 ⟨fun _ => h, fun q => absurd (and63 (Decidable.of_not_not q)) h1⟩
    obtain ⟨z, e, z1, z2⟩ := iI_of x1
    refine g_J6_bitCount_0 ⟨fun q => hm (alike rfl hR.same), fun q => ⟨fun q2 => hm (alike rfl hR.same), fun q2 => ?_⟩⟩
    have := nlt_of q e l0
    have := nle_of q2 (iL 64) e
    exact absurd (by omega) (nin h1 e)
theorem P_lift {n : Nat} {M : bM} {x1 x2 : Int32} (h : Rel n M) : bCall 81 [cR 0 0, cI x1, cI x2] M (fun v M1 => bCall 151 [cR 26 0, cI x1, cI x2] M1 (Alike (n + 1) v)) := by
  obtain ⟨p, S, c, u, L, hR⟩ := h
  refine g_X6_lift_0 ?_
  by_cases h1 : InR x1 6
  · obtain ⟨s, hs, hs6⟩ := h1
    refine S_isSeries_t hs hs6 (z1 ?_)
    have hm : ∀ {Q : bQ} {M : bM}, _ → bCall 151 [cR 26 0, cI x1, cI x2] M Q := fun h => g_X7_lift_0 (T_isSeries_t hs hs6 (z1 h))
    by_cases h2 : InR x2 10
    · obtain ⟨b, hb, hb10⟩ := h2
      refine ⟨fun q => ?_, fun _ => ⟨fun _ => ⟨vin hs, vin hs, Or.inr rfl, ?_⟩, fun q => ?_⟩⟩
      · have := lt_of q hb l0
        omega
      · refine g_X7_lift_0 (T_isSeries_t hs hs6 (z1 (T_inN_t (n := 10) hb hb10 (iL 9) (by omega) (n1 ⟨vin hs, vin hs, ?_⟩))))
        rw [cl_of hs]
        obtain ⟨h1, h2, h3, h4, h5, h6, h7⟩ := hR
        have hF := ((bU_fr (M := M) (g := 11) (j := 0) (i := s) (x := x2)).trans (bU_fr (g := 0) (j := 0) (i := 7) (x := (1 : Int32)))).trans (bU_fr (g := 35) (j := 0) (i := s) (x := x2))
        refine alike ?_ ⟨p, S, c, u, fun i => if i = s then b else L i, h1.fr hF ?_, h2.fr hF ?_, ?_, h4.fr hF ?_, Or.inl ?_, (h6.fr hF ?_).up (Nat.le_succ n), h7.fr hF ?_⟩
        · rw [bU_ne (by omega), bU_ne (by omega), (h3.2.2 s hs6).1, (h3.2.2 s hs6).2.1]
        · intro g j i h
          unfold rdF at h
          simp only [oL]
          omega
        · intro g j i h
          unfold rdS at h
          simp only [oL]
          omega
        · refine ⟨⟨?_, ?_, h3.1.2.2⟩, ⟨?_, ?_, h3.2.1.2.2⟩, fun i hi => ?_⟩
          · rw [bU_ne (by omega), bU_ne (by omega), bU_ne (by omega)]
            exact h3.1.1
          · rw [bU_ne (by omega), bU_ne (by omega), bU_ne (by omega)]
            exact h3.1.2.1
          · rw [bU_ne (by omega), bU_ne (by omega), bU_ne (by omega)]
            exact h3.2.1.1
          · rw [bU_ne (by omega), bU_ne (by omega), bU_ne (by omega)]
            exact h3.2.1.2.1
          · by_cases hi' : i = s
            · subst hi'
              simp only [if_true]
              rw [bU_ne (by omega), bU_ne (by omega), bU_at, bU_at, hb]
              exact ⟨rfl, rfl, by omega⟩
            · simp only [if_neg hi']
              rw [bU_ne (by omega), bU_ne (by omega), bU_ne (by omega), bU_ne (by omega), bU_ne (by omega), bU_ne (by omega)]
              exact h3.2.2 i hi
        · intro g j i h
          unfold rdT at h
          simp only [oL]
          omega
        · rw [bU_ne (by omega), bU_at]
          exact l1
        · intro g j i h
          unfold rdL at h
          simp only [oL]
          omega
        · intro g j i h
          unfold rdH at h
          simp only [oL]
          omega
      · have := nle_of q hb (iL 9)
        omega
    · obtain ⟨z, e, za, zb⟩ := iI_of x2
      have hm : ∀ {Q : bQ} {M : bM}, Q (some (cI (-1 : Int32))) M → bCall 151 [cR 26 0, cI x1, cI x2] M Q := fun h => g_X7_lift_0 (T_isSeries_t hs hs6 (z1 (T_inN_f (n := 10) h2 (iL 9) (by omega) (n0 h))))
      refine ⟨fun q => hm (alike rfl hR.same), fun q => ⟨fun q2 => ?_, fun q2 => hm (alike rfl hR.same)⟩⟩
      have := nlt_of q e l0
      have := le_of q2 e (iL 9)
      exact absurd (by omega) (nin h2 e)
  · exact S_isSeries_f h1 (z0 (g_X7_lift_0 (T_isSeries_f h1 (z0 (alike rfl hR.same)))))
theorem P_order {n : Nat} {M : bM} {x1 : Int32} (h : Rel n M) : bCall 86 [cR 0 0, cI x1] M (fun v M1 => bCall 157 [cR 26 0, cI x1] M1 (Alike (n + 1) v)) := by
  obtain ⟨p, S, c, u, L, hR⟩ := h
  obtain ⟨z, e, za, zb⟩ := iI_of x1
  refine g_X6_order_0 ⟨fun q => ?_, fun q => ⟨fun q2 => ⟨Or.inr rfl, ?_⟩, fun q2 => ?_⟩⟩
  · have := lt_of q e l1
    exact g_X7_order_0 (T_in_f e l1 (iL 32) za zb (by omega) (by omega) (by omega) (by omega) (by omega) (n0 (alike rfl hR.same)))
  · have := nlt_of q e l1
    have := le_of q2 e (iL 32)
    refine g_X7_order_0 (T_in_t e l1 (iL 32) (by omega) (by omega) (by omega) (by omega) (n1 ?_))
    obtain ⟨h1, h2, h3, h4, h5, h6, h7⟩ := hR
    have hF := ((bU_fr (M := M) (g := 0) (j := 0) (i := 4) (x := x1)).trans (bU_fr (g := 0) (j := 0) (i := 7) (x := (1 : Int32)))).trans (bU_fr (g := 26) (j := 0) (i := 24) (x := x1))
    have ez : x1 = iI ((z.toNat : Nat) : Int) := by rw [e]; exact iIc (by omega)
    refine alike ?_ ⟨p, S, c, z.toNat, L, h1.fr hF ?_, h2.fr hF ?_, ?_, h4.fr hF ?_, Or.inl ?_, (h6.fr hF ?_).up (Nat.le_succ n), h7.fr hF ?_⟩
    · rw [bU_ne (by omega), bU_ne (by omega), h3.2.1.1, h3.2.1.2.1]
    · intro g j i h
      unfold rdF at h
      simp only [oL]
      omega
    · intro g j i h
      unfold rdS at h
      simp only [oL]
      omega
    · refine ⟨⟨?_, ?_, h3.1.2.2⟩, ⟨?_, ?_, by omega, by omega⟩, fun i hi => ?_⟩
      · rw [bU_ne (by omega), bU_ne (by omega), bU_ne (by omega)]
        exact h3.1.1
      · rw [bU_ne (by omega), bU_ne (by omega), bU_ne (by omega)]
        exact h3.1.2.1
      · rw [bU_ne (by omega), bU_ne (by omega), bU_at]
        exact ez
      · rw [bU_at]
        exact ez
      · rw [bU_ne (by omega), bU_ne (by omega), bU_ne (by omega), bU_ne (by omega), bU_ne (by omega), bU_ne (by omega)]
        exact h3.2.2 i hi
    · intro g j i h
      unfold rdT at h
      simp only [oL]
      omega
    · rw [bU_ne (by omega), bU_at]
      exact l1
    · intro g j i h
      unfold rdL at h
      simp only [oL]
      omega
    · intro g j i h
      unfold rdH at h
      simp only [oL]
      omega
  · have := nle_of q2 e (iL 32)
    exact g_X7_order_0 (T_in_f e l1 (iL 32) za zb (by omega) (by omega) (by omega) (by omega) (by omega) (n0 (alike rfl hR.same)))
