-- needs: 06 08 09 10 11 12 13 14 15 16 17 18 19 26 27 28 29 30 31 32 33 34 41 45 46 47 48 49 50 51 52 53
/-- a row that the model has found -/
def RowOK (p : Int) (m o : Nat) (s : Nat → Nat) (f : Nat → Nat → Int) (A : Nat) (ja ka : Nat → Nat) (j k : Nat) (R : Nat → Nat → Int) (M : bM) : Prop :=
  (∀ j', j' < m → ∀ k', 0 ≤ R j' k' ∧ R j' k' < p) ∧ R j k = 1 ∧ (∀ j', j' < m → ∀ k', rk s j k < rk s j' k' → R j' k' = 0) ∧ Rl p m o f R ∧ (∀ j', j' < m → ∀ k', R j' k' ≠ 0 → (j' = j ∧ k' = k) ∨ ∃ a, a < A ∧ ja a = j' ∧ ka a = k') ∧ ∀ j', j' < m → ∀ k', k' < 33 → M 38 0 (132 * j + 33 * j' + k') = iI (R j' k')
/-- the search, when all powers of lower rank than cur have been looked at -/
def LB (p : Int) (m o : Nat) (s : Nat → Nat) (f : Nat → Nat → Int) (cur A : Nat) (ja ka hd : Nat → Nat) (lf pa : Nat → Nat → Int) (D : Nat → Int) (M : bM) : Prop :=
  (MS p m o s f M ∧ MA o A ja ka hd lf pa M ∧ AH p m o f ja ka hd lf pa A) ∧ (∀ a, a < A → rk s (ja a) (ka a) < cur) ∧ (∀ a b, a < b → b < A → rk s (ja a) (ka a) < rk s (ja b) (ka b)) ∧ (∀ a, a < A → D (ja a) < 0 ∨ (ka a : Int) < D (ja a)) ∧ (∀ j, j < m → M 39 0 j = iI (D j) ∧ -1 ≤ D j ∧ D j ≤ 32) ∧ (∀ j, j < m → ∀ k : Nat, rk s j k < cur → (D j < 0 ∨ (k : Int) < D j) → ∃ a, a < A ∧ ja a = j ∧ ka a = k) ∧ ∀ j, j < m → ∀ k : Nat, D j = k → rk s j k < cur ∧ ∃ R, RowOK p m o s f A ja ka j k R M
/-- a power that isn't looked at, or has been already -/
theorem LB.skip {p : Int} {m o : Nat} {s : Nat → Nat} {f : Nat → Nat → Int} {cur A : Nat} {ja ka hd : Nat → Nat} {lf pa : Nat → Nat → Int} {D : Nat → Int} {M : bM} (h : LB p m o s f cur A ja ka hd lf pa D M) (hno : ∀ j, j < m → ∀ k : Nat, rk s j k = cur → 0 ≤ D j ∧ D j ≤ k) : LB p m o s f (cur + 1) A ja ka hd lf pa D M := by
  obtain ⟨h0, h1, h2, h3, h4, h5, h6⟩ := h
  refine ⟨h0, fun a ha => by have := h1 a ha; omega, h2, h3, h4, fun j hj k hk hD => ?_, fun j hj k hk => ⟨by have := (h6 j hj k hk).1; omega, (h6 j hj k hk).2⟩⟩
  by_cases q : rk s j k = cur
  · have := hno j hj k q
    omega
  · exact h5 j hj k (by omega) hD
theorem LB.gap {p : Int} {m o : Nat} {s : Nat → Nat} {f : Nat → Nat → Int} {cur cur' A : Nat} {ja ka hd : Nat → Nat} {lf pa : Nat → Nat → Int} {D : Nat → Int} {M : bM} (h : LB p m o s f cur A ja ka hd lf pa D M) (hle : cur ≤ cur') (hno : ∀ j, j < m → ∀ k : Nat, ¬ (cur ≤ rk s j k ∧ rk s j k < cur')) : LB p m o s f cur' A ja ka hd lf pa D M := by
  obtain ⟨h0, h1, h2, h3, h4, h5, h6⟩ := h
  refine ⟨h0, fun a ha => by have := h1 a ha; omega, h2, h3, h4, fun j hj k hk hD => ?_, fun j hj k hk => ⟨by have := (h6 j hj k hk).1; omega, (h6 j hj k hk).2⟩⟩
  have := hno j hj k
  exact h5 j hj k (by omega) hD
theorem RowOK.fr {p : Int} {m o : Nat} {s : Nat → Nat} {f : Nat → Nat → Int} {A A' : Nat} {ja ka ja' ka' : Nat → Nat} {j k : Nat} {R : Nat → Nat → Int} {M M' : bM} (h : RowOK p m o s f A ja ka j k R M) (hA : ∀ a, a < A → a < A' ∧ ja' a = ja a ∧ ka' a = ka a) (hM : ∀ i, 132 * j ≤ i → i < 132 * j + 132 → M' 38 0 i = M 38 0 i) (hm : m ≤ 4) : RowOK p m o s f A' ja' ka' j k R M' := by
  obtain ⟨h1, h2, h3, h4, h5, h6⟩ := h
  refine ⟨h1, h2, h3, h4, fun j' hj' k' hn => ?_, fun j' hj' k' hk' => ?_⟩
  · rcases h5 j' hj' k' hn with z | ⟨a, ha, e1, e2⟩
    · exact Or.inl z
    · obtain ⟨a1, a2, a3⟩ := hA a ha
      exact Or.inr ⟨a, a1, a2.trans e1, a3.trans e2⟩
  · rw [hM _ (by omega) (by omega)]
    exact h6 j' hj' k' hk'
/-- at the end the rows are the one basis -/
theorem LB.fin {p : Int} {m o : Nat} {s : Nat → Nat} {f : Nat → Nat → Int} {cur A : Nat} {ja ka hd : Nat → Nat} {lf pa : Nat → Nat → Int} {D : Nat → Int} {M : bM} (h2 : 2 ≤ p) (h4 : p ≤ 997) (hP : isP p) (hm : m ≤ 4) (h : LB p m o s f cur A ja ka hd lf pa D M) (hall : ∀ j, j < m → 0 ≤ D j) : ∃ d R, IsB p m o s f d R ∧ (∀ i, i < m → d i ≤ 32 ∧ M 39 0 i = iI (d i : Int)) ∧ ∀ i, i < m → ∀ j, j < m → ∀ k, k < 33 → M 38 0 (132 * i + 33 * j + k) = iI (R i j k) := by
  obtain ⟨⟨hMS, hMA, hAH⟩, h1, h2', h3, h4', h5, h6⟩ := h
  have hd : ∀ j, j < m → D j = (((D j).toNat : Nat) : Int) := fun j hj => by have := hall j hj; omega
  have hR : ∀ j, ∃ R : Nat → Nat → Int, j < m → RowOK p m o s f A ja ka j (D j).toNat R M := fun j => by
    by_cases q : j < m
    · obtain ⟨_, R, hR⟩ := h6 j q _ (hd j q)
      exact ⟨R, fun _ => hR⟩
    · exact ⟨fun _ _ => 0, fun z => absurd z q⟩
  obtain ⟨R, hR⟩ := Classical.axiomOfChoice hR
  refine ⟨fun j => (D j).toNat, R, ⟨fun i hi => (hR i hi).1, ⟨fun i hi => (hR i hi).2.1, fun i hi => (hR i hi).2.2.1⟩, fun i hi => (hR i hi).2.2.2.1, fun i hi j hj hne k hk => ?_, fun q hq hs j hj k => ?_⟩, fun i hi => ?_, fun i hi => (hR i hi).2.2.2.2.2⟩
  · refine Classical.byContradiction fun z => ?_
    rcases (hR i hi).2.2.2.2.1 j hj k z with ⟨e, _⟩ | ⟨a, ha, e1, e2⟩
    · exact hne e
    · have := h3 a ha
      have := hall j hj
      rw [e1, e2] at *
      simp only at hk
      omega
  · -- q is what it is at the powers ahead
    have hin : ∀ a b, a < A → b < A → ja a = ja b → ka a = ka b → a = b := fun a b ha hb e1 e2 => by
      rcases Nat.lt_trichotomy a b with z | z | z
      · have := h2' a b z hb
        rw [e1, e2] at this
        omega
      · exact z
      · have := h2' b a z ha
        rw [e1, e2] at this
        omega
    have hq' : ∀ B, B ≤ A → ∀ j', j' < m → ∀ k', (∃ a, a < B ∧ ja a = j' ∧ ka a = k') ∨ (sm (fun a => q (ja a) (ka a) * un (ja a) (ka a) j' k') B = 0) := by
      intro B hB j' hj' k'
      by_cases z : ∃ a, a < B ∧ ja a = j' ∧ ka a = k'
      · exact Or.inl z
      · refine Or.inr (sm_0 fun a ha => ?_)
        have : un (ja a) (ka a) j' k' = 0 := if_neg fun w => z ⟨a, ha, w.1.symm, w.2.symm⟩
        rw [this, Int.mul_zero]
    have hlin : ∀ B, B ≤ A → ∀ i, rs m f (fun j' k' => sm (fun a => q (ja a) (ka a) * un (ja a) (ka a) j' k') B) i = cmb f ja ka B (fun a => q (ja a) (ka a)) i := by
      intro B
      induction B with
      | zero =>
        intro _ i
        show rs m f (fun _ _ => 0) i = 0
        unfold rs
        refine sm_0 fun j hj => ?_
        unfold cv
        exact sm_0 fun i hi => Int.zero_mul _
      | succ B ih =>
        intro hB i
        have e : (fun j' k' => sm (fun a => q (ja a) (ka a) * un (ja a) (ka a) j' k') (B + 1)) = fun j' k' => (fun j' k' => sm (fun a => q (ja a) (ka a) * un (ja a) (ka a) j' k') B) j' k' - -q (ja B) (ka B) * un (ja B) (ka B) j' k' := by
          funext j' k'
          show sm _ B + q (ja B) (ka B) * un (ja B) (ka B) j' k' = _
          rw [Int.neg_mul, Int.sub_neg]
        rw [e, rs_sub, ih (by omega), rs_un (hAH.1 B (by omega)).1, Int.neg_mul, Int.sub_neg]
        rfl
    have hlike : ∀ j', j' < m → ∀ k', p ∣ q j' k' - sm (fun a => q (ja a) (ka a) * un (ja a) (ka a) j' k') A := by
      intro j' hj' k'
      by_cases z : ∃ a, a < A ∧ ja a = j' ∧ ka a = k'
      · obtain ⟨a, ha, rfl, rfl⟩ := z
        rw [sm_one (n := 0) (i := a) ha]
        · have : un (ja a) (ka a) (ja a) (ka a) = 1 := if_pos ⟨rfl, rfl⟩
          rw [this, Int.mul_one, Int.sub_self]
          exact Int.dvd_zero p
        · intro b hb hne
          have : un (ja b) (ka b) (ja a) (ka a) = 0 := if_neg fun w => hne (hin b a hb ha w.1.symm w.2.symm)
          rw [this, Int.mul_zero]
      · rcases hq' A (Nat.le_refl _) j' hj' k' with w | w
        · exact absurd w z
        · rw [w, Int.sub_zero]
          refine hs j' hj' k' ?_
          refine Nat.not_lt.mp fun hlt => z (h5 j' hj' k' ?_ (Or.inr ?_))
          · have h7 := (h6 j' hj' _ (hd j' hj')).1
            have hlt' : k' < (D j').toNat := hlt
            unfold rk at *
            omega
          · have hlt' : k' < (D j').toNat := hlt
            have := hall j' hj'
            omega
    have hz : ∀ i, i < o → p ∣ cmb f ja ka A (fun a => q (ja a) (ka a)) i := fun i hi => by
      have g1 := rs_like (p := p) (m := m) (f := f) (n := i) (fun j' hj' k' _ => hlike j' hj' k')
      rw [hlin A (Nat.le_refl _)] at g1
      have g2 := Int.dvd_sub (hq i hi) g1
      rwa [Int.sub_sub_self] at g2
    have hzero := hAH.indep h2 h4 hP A (Nat.le_refl _) _ hz
    have g1 := hlike j hj k
    have g2 : p ∣ sm (fun a => q (ja a) (ka a) * un (ja a) (ka a) j k) A := sm_dvd fun a ha => Int.dvd_mul_of_dvd_left (hzero a ha)
    have g3 := Int.dvd_add g1 g2
    rwa [Int.sub_add_cancel] at g3
  · have h7 := h4' i hi
    have h8 := hall i hi
    refine ⟨by show (D i).toNat ≤ 32; omega, ?_⟩
    show M 39 0 i = iI (((D i).toNat : Nat) : Int)
    rw [← hd i hi]
    exact h7.1
