-- needs: 06 08 09 10 11 12 13 14 15 16 17 18 19 26 27 28 29 30 31 32 33 34 41 45 46 47 48 49 50 51 52
theorem T_makesRow {A : Nat} {ja ka : Nat → Nat} {no : Nat → Int} {M0 : bM} {Q : bQ} {j k : Nat} {x1 x2 : Int32} (hA : A ≤ 32) (hAm : M0 26 0 31 = iI (A : Int)) (h40 : ∀ a, a < A → M0 40 0 a = iI ((33 * ja a + ka a : Nat) : Int) ∧ ja a < 4 ∧ ka a < 33) (h45 : ∀ b, b < 33 → M0 45 0 b = iI (no b)) (hd : ∀ a b, a < A → b < A → ja a = ja b → ka a = ka b → a = b) (hne : ∀ a, a < A → ¬ (ja a = j ∧ ka a = k)) (hj : j < 4) (hk : k < 33) (e1 : x1 = iI (j : Int)) (e2 : x2 = iI (k : Int))
    (K : ∀ M, Fr (fun g _ i => g = 38 ∧ 132 * j ≤ i ∧ i < 132 * j + 132 ∨ g = 39 ∧ i = j) M0 M → M 39 0 j = iI (k : Int) → (∀ j', j' < 4 → ∀ k', k' < 33 → M 38 0 (132 * j + 33 * j' + k') = iI (rowR ja ka no j k A j' k')) → Q none M) : bCall 120 [cR 26 0, cI x1, cI x2] M0 Q := by
  have second : ∀ (M1 : bM), Blk M0 M1 38 0 (132 * j) (132 * j + 132) (fun _ => 0) → ∀ (n a : Nat), a + n = A → ∀ (M : bM) (x3 : Int32), x3 = iI (a : Int) → Fr (fun g _ i => g = 38 ∧ 132 * j ≤ i ∧ i < 132 * j + 132) M1 M → (∀ b, b < a → M 38 0 (132 * j + 33 * ja b + ka b) = iI (no b)) → (∀ c, c < 132 → (∀ b, b < a → 33 * ja b + ka b ≠ c) → M 38 0 (132 * j + c) = iI 0) → bGo 120 Q 30 [some (cR 26 0), some (cI x1), some (cI x2), some (cI x3)] [] M := by
    intro M1 hB1 n
    induction n with
    | zero =>
      intro a ha M x3 e3 hF g1 g2
      have haA : a = A := by omega
      subst haA
      have hF' : ∀ g j' i, ¬ (g = 38 ∧ 132 * j ≤ i ∧ i < 132 * j + 132) → M g j' i = M1 g j' i := hF
      have hAm2 : M 26 0 31 = iI (a : Int) := by rw [hF' _ _ _ (by omega), hB1.keep (by omega)]; exact hAm
      have ex : ((132 : Int32) * x1) + ((33 : Int32) * x1) + x2 = iI ((132 * j + 33 * j + k : Nat) : Int) := by
        rw [e1, e2, iL 33, iL 132, iI_mul, iI_mul, iI_add, iI_add]
        exact iIc (by omega)
      refine g_X7_makesRow_30 ⟨fun _ => ⟨vin ex, vin e1, ?_⟩, fun q => absurd (nle_of q hAm2 e3) (by omega)⟩
      rw [cl_of ex, cl_of e1]
      refine K _ (((hB1.fr.trans hF).trans (bU_fr.trans bU_fr)).mono ?_) (by rw [bU_at, e2]) fun j' hj' k' hk' => ?_
      · intro g j' i h
        simp only [oL] at h
        omega
      · rw [bU_ne (by omega)]
        by_cases q : j' = j ∧ k' = k
        · obtain ⟨rfl, rfl⟩ := q
          rw [bU_at, rowR_no (fun b hb z => hne b hb ⟨z.1.symm, z.2.symm⟩)]
          unfold un
          rw [if_pos ⟨rfl, rfl⟩]
          exact l1
        · rw [bU_ne (by omega)]
          by_cases q2 : ∃ b, b < a ∧ ja b = j' ∧ ka b = k'
          · obtain ⟨b, hb, rfl, rfl⟩ := q2
            rw [g1 b hb, rowR_yes (hne b hb) hb (fun c hc hcb z => hcb (hd c b hc hb z.1.symm z.2.symm))]
          · rw [rowR_no (fun b hb z => q2 ⟨b, hb, z.1.symm, z.2.symm⟩), show 132 * j + 33 * j' + k' = 132 * j + (33 * j' + k') by omega, g2 (33 * j' + k') (by omega) (fun b hb z => q2 ⟨b, hb, by
              have := h40 b hb
              omega⟩)]
            unfold un
            rw [if_neg q]
    | succ n ih =>
      intro a ha M x3 e3 hF g1 g2
      have hF' : ∀ g j' i, ¬ (g = 38 ∧ 132 * j ≤ i ∧ i < 132 * j + 132) → M g j' i = M1 g j' i := hF
      have hAm2 : M 26 0 31 = iI (A : Int) := by rw [hF' _ _ _ (by omega), hB1.keep (by omega)]; exact hAm
      obtain ⟨u1, u2, u3⟩ := h40 a (by omega)
      have e40 : M 40 0 a = iI ((33 * ja a + ka a : Nat) : Int) := by rw [hF' _ _ _ (by omega), hB1.keep (by omega)]; exact u1
      have ex : (132 : Int32) * x1 + M 40 0 x3.toNatClampNeg = iI ((132 * j + 33 * ja a + ka a : Nat) : Int) := by
        rw [cl_of e3, e40, e1, iL 132, iI_mul, iI_add]
        exact iIc (by omega)
      refine g_X7_makesRow_30 ⟨fun q => absurd (le_of q hAm2 e3) (by omega), fun _ => ⟨vin e3, vin e3, vin ex, ?_⟩⟩
      rw [cl_of ex, cl_of e3, hF' 45 _ _ (by omega), hB1.keep (by omega), h45 a (by omega)]
      refine ih (a + 1) (by omega) _ _ (inN e3) ((hF.trans bU_fr).mono ?_) (fun b hb => ?_) fun c hc hz => ?_
      · intro g j' i h
        simp only [oL] at h
        omega
      · by_cases q : b = a
        · rw [q, bU_at]
        · have hne2 : 132 * j + 33 * ja b + ka b ≠ 132 * j + 33 * ja a + ka a := fun z => q (by
            have := h40 b (by omega)
            exact hd b a (by omega) (by omega) (by omega) (by omega))
          rw [bU_ne (by omega)]
          exact g1 b (by omega)
      · have := hz a (by omega)
        rw [bU_ne (by omega)]
        exact g2 c hc fun b hb => hz b (by omega)
  have first : ∀ (n i : Nat), i + n = 132 → ∀ (M : bM) (x3 : Int32), x3 = iI (i : Int) → Blk M0 M 38 0 (132 * j) (132 * j + i) (fun _ => 0) → bGo 120 Q 2 [some (cR 26 0), some (cI x1), some (cI x2), some (cI x3)] [] M := by
    intro n
    induction n with
    | zero =>
      intro i hi M x3 e3 hB
      have hi : i = 132 := by omega
      subst hi
      exact g_X7_makesRow_2 ⟨fun _ => second M hB A 0 (by omega) M _ l0 (Fr.refl.mono fun _ _ _ z => z.elim) (fun b hb => absurd hb (Nat.not_lt_zero _)) (fun c hc _ => hB.at (by omega) (by omega)), fun q => absurd (nle_of q (iL 132) e3) (by omega)⟩
    | succ n ih =>
      intro i hi M x3 e3 hB
      have ex : (132 : Int32) * x1 + x3 = iI ((132 * j + i : Nat) : Int) := by
        rw [e1, e3, iL 132, iI_mul, iI_add]
        exact iIc (by omega)
      refine g_X7_makesRow_2 ⟨fun q => absurd (le_of q (iL 132) e3) (by omega), fun _ => ⟨vin ex, ?_⟩⟩
      rw [cl_of ex]
      exact ih (i + 1) (by omega) _ _ (inN e3) (hB.up (by omega) l0)
  exact g_X7_makesRow_0 (first 132 0 rfl M0 _ l0 Blk.start)
