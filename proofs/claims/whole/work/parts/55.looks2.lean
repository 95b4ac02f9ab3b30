-- needs: 06 08 09 10 11 12 13 14 15 16 17 18 19 26 27 28 29 30 31 32 33 34 41 45 46 47 48 49 50 51 52 53 54
def cf (D : Nat → Int) : Nat → Nat
  | 0 => 0
  | n + 1 => cf D n + if D n < 0 then 0 else 1
theorem cf_le {D : Nat → Int} : ∀ n, cf D n ≤ n
  | 0 => Nat.le_refl 0
  | n + 1 => by
    have := cf_le (D := D) n
    unfold cf
    split <;> omega
theorem cf_all {D : Nat → Int} : ∀ {n}, n ≤ cf D n → ∀ j, j < n → 0 ≤ D j
  | 0, _, j, hj => absurd hj (Nat.not_lt_zero _)
  | n + 1, h, j, hj => by
    have h1 := cf_le (D := D) n
    unfold cf at h
    by_cases q : D n < 0
    · rw [if_pos q] at h
      omega
    · by_cases e : j = n
      · rw [e]
        omega
      · exact cf_all (n := n) (by rw [if_neg q] at h; omega) j (by omega)
theorem cf_ex {D : Nat → Int} : ∀ {n}, cf D n < n → ∃ j, j < n ∧ D j < 0
  | 0, h => absurd h (Nat.not_lt_zero _)
  | n + 1, h => by
    by_cases q : D n < 0
    · exact ⟨n, by omega, q⟩
    · unfold cf at h
      rw [if_neg q] at h
      obtain ⟨j, h1, h2⟩ := cf_ex (D := D) (n := n) (by omega)
      exact ⟨j, by omega, h2⟩
theorem cf_0 {D : Nat → Int} : ∀ {n}, (∀ j, j < n → D j < 0) → cf D n = 0
  | 0, _ => rfl
  | n + 1, h => by
    unfold cf
    rw [cf_0 (n := n) (fun j hj => h j (by omega)), if_pos (h n (by omega))]
theorem cf_o {D : Nat → Int} {j : Nat} {k : Int} : ∀ {n}, n ≤ j → cf (fun i => if i = j then k else D i) n = cf D n
  | 0, _ => rfl
  | n + 1, h => by
    unfold cf
    rw [cf_o (n := n) (by omega)]
    simp only [if_neg (show ¬ n = j by omega)]
theorem cf_up {D : Nat → Int} {j : Nat} {k : Int} (h0 : D j < 0) (hk : 0 ≤ k) : ∀ {n}, j < n → cf (fun i => if i = j then k else D i) n = cf D n + 1
  | 0, h => absurd h (Nat.not_lt_zero _)
  | n + 1, h => by
    unfold cf
    by_cases q : n = j
    · subst q
      rw [cf_o (Nat.le_refl _)]
      simp only [if_true]
      rw [if_pos h0, if_neg (by omega)]
    · rw [cf_up h0 hk (n := n) (by omega)]
      simp only [if_neg q]
      omega
abbrev frS : Nat → Nat → Nat → Prop := fun g _ i => g = 26 ∧ i = 31 ∨ 38 ≤ g ∧ g ≤ 45
theorem T_looksForBasis {p : Int} {m o : Nat} {s : Nat → Nat} {f : Nat → Nat → Int} {M0 : bM} {Q : bQ} (h2 : 2 ≤ p) (h4 : p ≤ 997) (hP : isP p) (hm : m ≤ 4) (ho : o ≤ 32) (hs : ∀ i, i < m → s i ≤ 9) (hMS : MS p m o s f M0)
    (K : ∀ (M : bM) d R, Fr frS M0 M → IsB p m o s f d R → (∀ i, i < m → d i ≤ 32 ∧ M 39 0 i = iI (d i : Int)) → (∀ i, i < m → ∀ j, j < m → ∀ k, k < 33 → M 38 0 (132 * i + 33 * j + k) = iI (R i j k)) → Q none M) : bCall 123 [cR 26 0] M0 Q := by
  have outer : ∀ (n h : Nat), h + n = 42 → ∀ (M : bM) (A : Nat) (ja ka hd : Nat → Nat) (lf pa : Nat → Nat → Int) (D : Nat → Int) (x1 x2 : Int32) (o3 o4 : Option bV), x1 = iI (cf D m : Int) → x2 = iI (h : Int) → Fr frS M0 M → LB p m o s f (4 * h) A ja ka hd lf pa D M → bGo 123 Q 32 [some (cR 26 0), some (cI x1), some (cI x2), o3, o4] [] M := by
    intro n
    induction n with
    | zero =>
      intro h hh M A ja ka hd lf pa D x1 x2 o3 o4 e1 e2 hF hL
      have hmany : M 26 0 25 = iI (m : Int) := hL.1.1.2.1
      have hcl := cf_le (D := D) m
      refine g_X7_looksForBasis_32 ⟨fun q => ?_, fun q => ?_⟩
      · have := le_of q hmany e1
        obtain ⟨d, R, g1, g2, g3⟩ := hL.fin h2 h4 hP hm (cf_all (by omega))
        exact K M d R hF g1 g2 g3
      · have := nle_of q hmany e1
        obtain ⟨j, hj, hD⟩ := cf_ex (D := D) (n := m) (by omega)
        have hsj := hs j hj
        obtain ⟨a, ha, _, hk⟩ := hL.2.2.2.2.2.1 j hj 32 (by unfold rk; omega) (Or.inl hD)
        have := (hL.1.2.2.1 a ha).2.1
        omega
    | succ n ih =>
      intro h hh M A ja ka hd lf pa D x1 x2 o3 o4 e1 e2 hF hL
      have inner : ∀ (n' j : Nat), j + n' = m → ∀ (M : bM) (A : Nat) (ja ka hd : Nat → Nat) (lf pa : Nat → Nat → Int) (D : Nat → Int) (x1 x3 : Int32) (o4 : Option bV), x1 = iI (cf D m : Int) → x3 = iI (j : Int) → Fr frS M0 M → LB p m o s f (4 * h + j) A ja ka hd lf pa D M → bGo 123 Q 42 [some (cR 26 0), some (cI x1), some (cI x2), some (cI x3), o4] [] M := by
        intro n'
        induction n' with
        | zero =>
          intro j hj M A ja ka hd lf pa D x1 x3 o4 e1 e3 hF hL
          have hjm : j = m := by omega
          subst hjm
          have hmany : M 26 0 25 = iI (j : Int) := hL.1.1.2.1
          refine g_X7_looksForBasis_42 ⟨fun _ => ?_, fun q => absurd (nle_of q hmany e3) (by omega)⟩
          exact ih (h + 1) (by omega) M A ja ka hd lf pa D _ _ _ _ e1 (inN e2) hF (hL.gap (by omega) fun j' hj' k => by unfold rk; omega)
        | succ n' ihj =>
          intro j hj M A ja ka hd lf pa D x1 x3 o4 e1 e3 hF hL
          have hjm : j < m := by omega
          have hmany : M 26 0 25 = iI (m : Int) := hL.1.1.2.1
          have hsj := hs j hjm
          have e37 : x2 - M 37 0 x3.toNatClampNeg = iI ((h : Int) - s j) := by
            rw [cl_of e3, hL.1.1.2.2.2.1 j hjm, e2, iI_sub]
          have e39 := hL.2.2.2.2.1 j hjm
          refine g_X7_looksForBasis_42 ⟨fun q => absurd (le_of q hmany e3) (by omega), fun _ => ⟨vin e3, ?_⟩⟩
          rw [e37, cl_of e3, e39.1]
          refine ⟨fun q => ?_, fun q => ⟨vin e3, fun q2 => ?_, fun q2 => ?_⟩⟩
          · have := lt_of q rfl l0
            exact ihj (j + 1) (by omega) M A ja ka hd lf pa D _ _ _ e1 (inN e3) hF (hL.skip fun j' hj' k hk => by
              have : j' = j := by unfold rk at hk; omega
              subst this
              unfold rk at hk
              omega)
          · have hD := le_of q2 l0 rfl
            exact ihj (j + 1) (by omega) M A ja ka hd lf pa D _ _ _ e1 (inN e3) hF (hL.skip fun j' hj' k hk => by
              have : j' = j := by unfold rk at hk; omega
              subst this
              have h7 := (hL.2.2.2.2.2.2 j' hjm (D j').toNat (by omega)).1
              unfold rk at *
              omega)
          · have hD := nle_of q2 l0 rfl
            have hk0 := nlt_of q rfl l0
            obtain ⟨k, hk⟩ : ∃ k : Nat, (k : Int) = (h : Int) - s j := ⟨((h : Int) - s j).toNat, by omega⟩
            rw [← hk]
            have hcur : rk s j k = 4 * h + j := by unfold rk; omega
            obtain ⟨⟨L0, L1, L2⟩, L3, L4, L5, L6, L7, L8⟩ := hL
            refine T_isSum h2 h4 hm ho L0 L1 L2 hjm (by omega) e3 rfl fun M2 nw no hF2 g1 g2 g3 g4 g5 g6 => ?_
            have hMS2 : MS p m o s f M2 := L0.fr hF2 (fun g j i z => by omega)
            have hMA2 : MA o A ja ka hd lf pa M2 := L1.fr hF2 (fun g j i z => by omega)
            have hF02 : Fr frS M0 M2 := (hF.trans hF2).mono fun g j i z => by
              simp only [oL, frS] at z ⊢
              omega
            have hA32 := L2.few
            have hkj : ∀ a, a < A → ¬ (ja a = j ∧ ka a = k) := fun a ha z => by
              have := L3 a ha
              rw [z.1, z.2] at this
              omega
            refine ⟨fun hz => ?_, fun hne => ?_⟩
            · -- a row
              have hk32 : k < 33 := Nat.not_le.mp fun z => by
                obtain ⟨a, ha, _, q⟩ := L7 j hjm 32 (by unfold rk at *; omega) (Or.inl hD)
                have := (L2.1 a ha).2.1
                omega
              have hin : ∀ a b, a < A → b < A → ja a = ja b → ka a = ka b → a = b := fun a b ha hb z1 z2 => by
                rcases Nat.lt_trichotomy a b with z | z | z
                · have := L4 a b z hb
                  rw [z1, z2] at this
                  omega
                · exact z
                · have := L4 b a z ha
                  rw [z1, z2] at this
                  omega
              refine z1 (T_makesRow (by omega) hMA2.1 (fun a ha => ⟨(hMA2.2 a ha).1, by have := (L2.1 a ha).1; omega, by have := (L2.1 a ha).2.1; omega⟩) g2 hin hkj (by omega) hk32 e3 rfl fun M3 hF3 k1 k2 => ?_)
              have hF3' : ∀ g j' i, ¬ (g = 38 ∧ 132 * j ≤ i ∧ i < 132 * j + 132 ∨ g = 39 ∧ i = j) → M3 g j' i = M2 g j' i := hF3
              have hF2' : ∀ g j' i, ¬ (g = 44 ∨ g = 45) → M2 g j' i = M g j' i := hF2
              refine ihj (j + 1) (by omega) M3 A ja ka hd lf pa (fun i => if i = j then (k : Int) else D i) _ _ _ (by rw [cf_up hD (by omega) hjm]; exact inN e1) (inN e3) ((hF02.trans hF3).mono fun g j i z => by
                simp only [oL, frS] at z ⊢
                omega) ⟨⟨hMS2.fr hF3 (fun g j i z => by omega), hMA2.fr hF3 (fun g j i z => by omega), L2⟩, fun a ha => by have := L3 a ha; omega, L4, fun a ha => ?_, fun j' hj' => ?_, fun j' hj' k' hk' hD' => ?_, fun j' hj' k' hk' => ?_⟩
              · by_cases q : ja a = j
                · simp only [if_pos q]
                  have := L3 a ha
                  refine Or.inr ?_
                  rw [q] at this
                  unfold rk at *
                  omega
                · simp only [if_neg q]
                  exact L5 a ha
              · by_cases q : j' = j
                · subst q
                  simp only [if_true]
                  exact ⟨k1, by omega, by omega⟩
                · simp only [if_neg q]
                  rw [hF3' _ _ _ (by omega), hF2' _ _ _ (by omega)]
                  exact L6 j' hj'
              · by_cases q : j' = j
                · subst q
                  simp only [if_true] at hD'
                  refine L7 j' hj' k' ?_ (Or.inl hD)
                  unfold rk at *
                  omega
                · simp only [if_neg q] at hD'
                  have : rk s j' k' ≠ 4 * h + j := fun z => q (by unfold rk at z; omega)
                  exact L7 j' hj' k' (by omega) hD'
              · by_cases q : j' = j
                · subst q
                  simp only [if_true] at hk'
                  have hkk : k' = k := by omega
                  subst hkk
                  have hcase : ∀ j2 kk, (j2 = j' ∧ kk = k' ∧ rowR ja ka no j' k' A j2 kk = 1) ∨ (∃ a, a < A ∧ ja a = j2 ∧ ka a = kk ∧ rowR ja ka no j' k' A j2 kk = no a) ∨ rowR ja ka no j' k' A j2 kk = 0 := by
                    intro j2 kk
                    by_cases z1 : ∃ a, a < A ∧ ja a = j2 ∧ ka a = kk
                    · obtain ⟨a, ha, rfl, rfl⟩ := z1
                      exact Or.inr (Or.inl ⟨a, ha, rfl, rfl, rowR_yes (hkj a ha) ha (fun c hc hcb z => hcb (hin c a hc ha z.1.symm z.2.symm))⟩)
                    · have e := rowR_no (ja := ja) (ka := ka) (no := no) (j := j') (k := k') (j' := j2) (k' := kk) (A := A) (fun a ha z => z1 ⟨a, ha, z.1.symm, z.2.symm⟩)
                      by_cases z2 : j2 = j' ∧ kk = k'
                      · exact Or.inl ⟨z2.1, z2.2, by rw [e]; exact if_pos z2⟩
                      · exact Or.inr (Or.inr (by rw [e]; exact if_neg z2))
                  refine ⟨by omega, rowR ja ka no j' k' A, fun j2 hj2 kk => ?_, ?_, fun j2 hj2 kk hr => ?_, fun i hi => ?_, fun j2 hj2 kk hn => ?_, fun j2 hj2 kk hkk2 => k2 j2 (by omega) kk hkk2⟩
                  · rcases hcase j2 kk with ⟨_, _, e⟩ | ⟨a, _, _, _, e⟩ | e
                    · rw [e]
                      omega
                    · rw [e]
                      exact g3 a
                    · rw [e]
                      omega
                  · rw [rowR_no (fun b hb z => hkj b hb ⟨z.1.symm, z.2.symm⟩)]
                    exact if_pos ⟨rfl, rfl⟩
                  · rcases hcase j2 kk with ⟨z1, z2, e⟩ | ⟨a, ha, z1, z2, e⟩ | e
                    · rw [z1, z2] at hr
                      omega
                    · have := L3 a ha
                      rw [z1, z2] at this
                      omega
                    · exact e
                  · rw [rs_rowR hjm (fun a ha => (L2.1 a ha).1)]
                    have w := g5 i hi
                    rw [hz i hi] at w
                    have w2 := Int.dvd_neg.mpr w
                    rwa [Int.neg_sub, Int.sub_zero] at w2
                  · rcases hcase j2 kk with ⟨z1, z2, e⟩ | ⟨a, ha, z1, z2, e⟩ | e
                    · exact Or.inl ⟨z1, z2⟩
                    · exact Or.inr ⟨a, ha, z1, z2⟩
                    · exact absurd e hn
                · simp only [if_neg q] at hk'
                  obtain ⟨w1, R, hR⟩ := L8 j' hj' k' hk'
                  exact ⟨by omega, R, hR.fr (fun a ha => ⟨ha, rfl, rfl⟩) (fun i h1 h2 => by rw [hF3' _ _ _ (by omega), hF2' _ _ _ (by omega)]) hm⟩
            · -- one more ahead
              have hne' := hne
              obtain ⟨i0, hi0, hn0⟩ := hne'
              have hA := (L2.more h2 h4 hP hjm hi0 (fun i hi => (g1 i hi).2) g3 g4 g5 g6 hn0).2.1
              refine z0 (T_standsAhead h2 h4 ho (by omega) hMS2 hMA2 (by omega) (by omega) e3 rfl g1 g2 g3 hne fun M3 t ht ht0 hF3 hMA3 => ?_)
              have hF3' : ∀ g j' i, ¬ (40 ≤ g ∧ g ≤ 43 ∨ g = 26 ∧ i = 31) → M3 g j' i = M2 g j' i := hF3
              have hF2' : ∀ g j' i, ¬ (g = 44 ∨ g = 45) → M2 g j' i = M g j' i := hF2
              obtain ⟨hAH, hAo, hko⟩ := L2.more h2 h4 hP hjm ht (fun i hi => (g1 i hi).2) g3 g4 g5 g6 ht0
              refine ihj (j + 1) (by omega) M3 _ _ _ _ _ _ D _ _ _ e1 (inN e3) ((hF02.trans hF3).mono fun g j i z => by
                simp only [oL, frS] at z ⊢
                omega) ⟨⟨hMS2.fr hF3 (fun g j i z => by omega), hMA3, hAH⟩, fun a ha => ?_, fun a b hab hb => ?_, fun a ha => ?_, fun j' hj' => ?_, fun j' hj' k' hk' hD' => ?_, fun j' hj' k' hk' => ?_⟩
              · by_cases q : a = A
                · simp only [if_pos q]
                  omega
                · simp only [if_neg q]
                  have := L3 a (by omega)
                  omega
              · have qa : a ≠ A := by omega
                by_cases q : b = A
                · simp only [if_pos q, if_neg qa]
                  have := L3 a (by omega)
                  omega
                · simp only [if_neg q, if_neg qa]
                  exact L4 a b hab (by omega)
              · by_cases q : a = A
                · simp only [if_pos q]
                  exact Or.inl hD
                · simp only [if_neg q]
                  exact L5 a (by omega)
              · rw [hF3' _ _ _ (by omega), hF2' _ _ _ (by omega)]
                exact L6 j' hj'
              · by_cases q : rk s j' k' = rk s j k
                · obtain ⟨rfl, rfl⟩ := rk_inj (by omega) (by omega) q
                  exact ⟨A, by omega, if_pos rfl, if_pos rfl⟩
                · obtain ⟨a, ha, z1, z2⟩ := L7 j' hj' k' (by omega) hD'
                  exact ⟨a, by omega, (if_neg (by omega)).trans z1, (if_neg (by omega)).trans z2⟩
              · obtain ⟨w1, R, hR⟩ := L8 j' hj' k' hk'
                exact ⟨by omega, R, hR.fr (fun a ha => ⟨by omega, if_neg (by omega), if_neg (by omega)⟩) (fun i h1 h2 => by rw [hF3' _ _ _ (by omega), hF2' _ _ _ (by omega)]) hm⟩
      have hmany : M 26 0 25 = iI (m : Int) := hL.1.1.2.1
      have hcl := cf_le (D := D) m
      refine g_X7_looksForBasis_32 ⟨fun q => ?_, fun q => ?_⟩
      · have := le_of q hmany e1
        obtain ⟨d, R, g1, g2, g3⟩ := hL.fin h2 h4 hP hm (cf_all (by omega))
        exact K M d R hF g1 g2 g3
      · exact inner m 0 (by omega) M A ja ka hd lf pa D _ _ _ e1 l0 hF hL
  have first : ∀ (n j : Nat), j + n = m → ∀ (M : bM) (x2 : Int32) (o3 o4 : Option bV), x2 = iI (j : Int) → Blk (bU M0 26 0 31 (0 : Int32)) M 39 0 0 j (fun _ => -1) → bGo 123 Q 9 [some (cR 26 0), some (cI (0 : Int32)), some (cI x2), o3, o4] [] M := by
    intro n
    induction n with
    | zero =>
      intro j hj M x2 o3 o4 e2 hB
      have hjm : j = m := by omega
      subst hjm
      have hF : Fr frS M0 M := ((bU_fr (M := M0) (g := 26) (j := 0) (i := 31) (x := (0 : Int32))).trans hB.fr).mono fun g j i z => by
        simp only [oL, frS] at z ⊢
        omega
      have hmany : M 26 0 25 = iI (j : Int) := by rw [hB.keep (by omega), bU_ne (by omega)]; exact hMS.2.1
      refine g_X7_looksForBasis_9 ⟨fun _ => ?_, fun q => absurd (nle_of q hmany e2) (by omega)⟩
      refine outer 42 0 rfl M 0 (fun _ => 0) (fun _ => 0) (fun _ => 0) (fun _ _ => 0) (fun _ _ => 0) (fun _ => -1) _ _ _ _ ?_ l0 hF ⟨⟨hMS.fr hF (fun g j i z => by simp only [frS]; omega), ⟨?_, fun a ha => absurd ha (Nat.not_lt_zero _)⟩, ?_⟩, fun a ha => absurd ha (Nat.not_lt_zero _), fun a b _ hb => absurd hb (Nat.not_lt_zero _), fun a ha => absurd ha (Nat.not_lt_zero _), fun j' hj' => ⟨hB.at (by omega) hj', Int.le_refl _, by show (-1 : Int) ≤ 32; omega⟩, fun j' hj' k hk _ => absurd hk (by omega), fun j' hj' k hk => absurd (show (-1 : Int) = (k : Int) from hk) (by omega)⟩
      · rw [cf_0 (fun _ _ => by omega)]
        exact l0
      · rw [hB.keep (by omega), bU_at]
        exact l0
      · exact ⟨fun a ha => absurd ha (Nat.not_lt_zero _), fun a ha => absurd ha (Nat.not_lt_zero _), fun a ha => absurd ha (Nat.not_lt_zero _), fun a ha => absurd ha (Nat.not_lt_zero _), fun a ha => absurd ha (Nat.not_lt_zero _), fun a b _ ha => absurd ha (Nat.not_lt_zero _), fun a ha => absurd ha (Nat.not_lt_zero _), fun a b ha => absurd ha (Nat.not_lt_zero _)⟩
    | succ n ih =>
      intro j hj M x2 o3 o4 e2 hB
      have hmany : M 26 0 25 = iI (m : Int) := by rw [hB.keep (by omega), bU_ne (by omega)]; exact hMS.2.1
      refine g_X7_looksForBasis_9 ⟨fun q => absurd (le_of q hmany e2) (by omega), fun _ => ⟨vin e2, ?_⟩⟩
      rw [cl_of e2]
      exact ih (j + 1) (by omega) _ _ _ _ (inN e2) (hB.up (by omega) (by decide))
  exact g_X7_looksForBasis_0 (first m 0 (by omega) _ _ _ _ l0 Blk.start)
