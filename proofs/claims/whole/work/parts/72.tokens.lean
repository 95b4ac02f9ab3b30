-- needs: 06 08 09 10 11 12 13 14 15 16 17 18 19 26 27 28 29 30 31 32 33 34 43
/-! TOKENS of a text b of n bytes, from place a on -/
abbrev isD (v : Int) : Prop := 48 ≤ v ∧ v ≤ 57
abbrev isG (v : Int) : Prop := v = 40 ∨ v = 41 ∨ v = 42 ∨ v = 43 ∨ v = 45 ∨ v = 47 ∨ v = 94 ∨ v = 120
/-- behind the blanks -/
def tSk (b : Nat → Int) (n : Nat) : Nat → Nat → Nat
  | 0, a => a
  | f + 1, a => if a < n ∧ b a = 32 then tSk b n f (a + 1) else a
/-- behind the digits -/
def tDg (b : Nat → Int) (n : Nat) : Nat → Nat → Nat
  | 0, a => a
  | f + 1, a => if a < n ∧ isD (b a) then tDg b n f (a + 1) else a
/-- the number that i digits make -/
def tVl (b : Nat → Int) (e : Nat) : Nat → Int
  | 0 => 0
  | i + 1 => 10 * tVl b e i + b (e + i) - 48
def tPl (b : Nat → Int) (n a : Nat) : Nat := tSk b n (n - a) a
def tEn (b : Nat → Int) (n a : Nat) : Nat := tDg b n (n - tPl b n a) (tPl b n a)
def tTok (b : Nat → Int) (n a : Nat) : Int := if n ≤ tPl b n a then -1 else if isD (b (tPl b n a)) then (if tEn b n a - tPl b n a ≤ 4 then -2 else -3) else if isG (b (tPl b n a)) then b (tPl b n a) else -3
def tNx (b : Nat → Int) (n a : Nat) : Nat := if n ≤ tPl b n a then tPl b n a else if isD (b (tPl b n a)) then tEn b n a else tPl b n a + 1
def tVal (b : Nat → Int) (n a : Nat) : Int := tVl b (tPl b n a) (tEn b n a - tPl b n a)
theorem tSk_bd {b : Nat → Int} {n : Nat} : ∀ {f a : Nat}, a + f ≤ n → a ≤ tSk b n f a ∧ tSk b n f a ≤ a + f
  | 0, a, h => ⟨Nat.le_refl _, Nat.le_refl _⟩
  | f + 1, a, h => by
    have := tSk_bd (b := b) (n := n) (f := f) (a := a + 1) (by omega)
    unfold tSk
    split <;> omega
theorem tDg_bd {b : Nat → Int} {n : Nat} : ∀ {f a : Nat}, a + f ≤ n → a ≤ tDg b n f a ∧ tDg b n f a ≤ a + f
  | 0, a, h => ⟨Nat.le_refl _, Nat.le_refl _⟩
  | f + 1, a, h => by
    have := tDg_bd (b := b) (n := n) (f := f) (a := a + 1) (by omega)
    unfold tDg
    split <;> omega
theorem tVl_bd {b : Nat → Int} {e : Nat} : ∀ {i : Nat}, (∀ t, t < i → isD (b (e + t))) → 0 ≤ tVl b e i ∧ (i ≤ 4 → tVl b e i ≤ 9999) ∧ (i ≤ 3 → tVl b e i ≤ 999) ∧ (i ≤ 2 → tVl b e i ≤ 99) ∧ (i ≤ 1 → tVl b e i ≤ 9) ∧ (i = 0 → tVl b e i = 0)
  | 0, _ => by simp [tVl]
  | i + 1, h => by
    obtain ⟨h0, h1, h2, h3, h4, h5⟩ := tVl_bd (b := b) (e := e) (i := i) fun t ht => h t (by omega)
    have hd := h i (by omega)
    show 0 ≤ 10 * tVl b e i + b (e + i) - 48 ∧ (i + 1 ≤ 4 → 10 * tVl b e i + b (e + i) - 48 ≤ 9999) ∧ (i + 1 ≤ 3 → 10 * tVl b e i + b (e + i) - 48 ≤ 999) ∧ (i + 1 ≤ 2 → 10 * tVl b e i + b (e + i) - 48 ≤ 99) ∧ (i + 1 ≤ 1 → 10 * tVl b e i + b (e + i) - 48 ≤ 9) ∧ (i + 1 = 0 → 10 * tVl b e i + b (e + i) - 48 = 0)
    refine ⟨by omega, fun q => ?_, fun q => ?_, fun q => ?_, fun q => ?_, fun q => by omega⟩
    · have := h2 (by omega)
      omega
    · have := h3 (by omega)
      omega
    · have := h4 (by omega)
      omega
    · have := h5 (by omega)
      omega
theorem tDg_all {b : Nat → Int} {n : Nat} : ∀ {f a : Nat}, ∀ t, a ≤ t → t < tDg b n f a → isD (b t)
  | 0, a, t, h1, h2 => absurd h2 (by unfold tDg; omega)
  | f + 1, a, t, h1, h2 => by
    unfold tDg at h2
    split at h2
    · rename_i q
      by_cases e : t = a
      · rw [e]
        exact q.2
      · exact tDg_all (f := f) (a := a + 1) t (by omega) h2
    · omega
/-- what holds of a token -/
theorem tok_bd {b : Nat → Int} {n a : Nat} (ha : a ≤ n) : a ≤ tPl b n a ∧ tPl b n a ≤ tNx b n a ∧ tNx b n a ≤ n ∧ (tTok b n a = -1 ∨ a < tNx b n a ∧ tPl b n a < n) ∧ (tTok b n a = -1 ∨ tTok b n a = -2 ∨ tTok b n a = -3 ∨ isG (tTok b n a)) ∧ (tTok b n a = -2 → 0 ≤ tVal b n a ∧ tVal b n a ≤ 9999) := by
  have h1 := tSk_bd (b := b) (n := n) (f := n - a) (a := a) (by omega)
  have h2 := tDg_bd (b := b) (n := n) (f := n - tPl b n a) (a := tPl b n a) (by unfold tPl; omega)
  have e1 : tPl b n a = tSk b n (n - a) a := rfl
  have e2 : tEn b n a = tDg b n (n - tPl b n a) (tPl b n a) := rfl
  rw [← e1] at h1
  rw [← e2] at h2
  have h3 : ¬ n ≤ tPl b n a → isD (b (tPl b n a)) → tPl b n a < tEn b n a := fun q1 q2 => by
    have e3 : n - tPl b n a = (n - tPl b n a - 1) + 1 := by omega
    have := tDg_bd (b := b) (n := n) (f := n - tPl b n a - 1) (a := tPl b n a + 1) (by omega)
    rw [e2, e3]
    unfold tDg
    rw [if_pos ⟨by omega, q2⟩]
    omega
  have h4 : tEn b n a - tPl b n a ≤ 4 → 0 ≤ tVal b n a ∧ tVal b n a ≤ 9999 := fun q => by
    have := tVl_bd (b := b) (e := tPl b n a) (i := tEn b n a - tPl b n a) fun t ht => tDg_all (n := n) (f := n - tPl b n a) (a := tPl b n a) _ (by omega) (by rw [← e2]; omega)
    exact ⟨this.1, this.2.1 q⟩
  unfold tTok tNx
  by_cases q1 : n ≤ tPl b n a
  · rw [if_pos q1, if_pos q1]
    exact ⟨h1.1, by omega, by omega, Or.inl rfl, Or.inl rfl, fun q => absurd q (by decide)⟩
  · rw [if_neg q1, if_neg q1]
    by_cases q2 : isD (b (tPl b n a))
    · rw [if_pos q2, if_pos q2]
      have := h3 q1 q2
      by_cases q3 : tEn b n a - tPl b n a ≤ 4
      · rw [if_pos q3]
        exact ⟨h1.1, by omega, by omega, Or.inr ⟨by omega, by omega⟩, Or.inr (Or.inl rfl), fun _ => h4 q3⟩
      · rw [if_neg q3]
        exact ⟨h1.1, by omega, by omega, Or.inr ⟨by omega, by omega⟩, Or.inr (Or.inr (Or.inl rfl)), fun q => absurd q (by decide)⟩
    · rw [if_neg q2, if_neg q2]
      by_cases q3 : isG (b (tPl b n a))
      · rw [if_pos q3]
        exact ⟨h1.1, by omega, by omega, Or.inr ⟨by omega, by omega⟩, Or.inr (Or.inr (Or.inr q3)), fun q => absurd q (by omega)⟩
      · rw [if_neg q3]
        exact ⟨h1.1, by omega, by omega, Or.inr ⟨by omega, by omega⟩, Or.inr (Or.inr (Or.inl rfl)), fun q => absurd q (by decide)⟩
theorem bU_f {M : bM} {g j i : Nat} {x : Int32} {i' : Nat} (h : i' ≠ i) : bU M g j i x g j i' = M g j i' := bU_ne fun z => h z.2.2
theorem S_isDigit {M : bM} {Q : bQ} {x : Int32} {v : Int} (hx : x = iI v) (h1 : 0 ≤ v) (h2 : v < 256) (K1 : isD v → Q (some (cI (1 : Int32))) M) (K0 : ¬ isD v → Q (some (cI (0 : Int32))) M) : bCall 49 [cI x] M Q := by
  refine g_X4_isDigit_0 ⟨fun q => ⟨Or.inl rfl, K0 ?_⟩, fun q => ⟨fun q2 => ⟨Or.inl rfl, K0 ?_⟩, fun q2 => ⟨Or.inr rfl, K1 ?_⟩⟩⟩
  · have := lt_of q hx (iL 48)
    omega
  · have := lt_of q2 (iL 57) hx
    omega
  · have := nlt_of q hx (iL 48)
    have := nlt_of q2 (iL 57) hx
    omega
theorem T_isDigit {M : bM} {Q : bQ} {x : Int32} {v : Int} (hx : x = iI v) (h1 : 0 ≤ v) (h2 : v < 256) (K1 : isD v → Q (some (cI (1 : Int32))) M) (K0 : ¬ isD v → Q (some (cI (0 : Int32))) M) : bCall 108 [cI x] M Q := by
  refine g_X7_isDigit_0 ?_
  by_cases q : isD v
  · exact T_in_t hx (iL 48) (iL 57) q.1 q.2 (by omega) (by omega) ⟨Or.inr rfl, K1 q⟩
  · exact T_in_f hx (iL 48) (iL 57) (by omega) (by omega) (by omega) (by omega) (by omega) (by omega) q ⟨Or.inl rfl, K0 q⟩
theorem S_isSign {M : bM} {Q : bQ} {x : Int32} {v : Int} (hx : x = iI v) (h1 : 0 ≤ v) (h2 : v < 256) (K1 : isG v → Q (some (cI (1 : Int32))) M) (K0 : ¬ isG v → Q (some (cI (0 : Int32))) M) : bCall 50 [cI x] M Q := by
  have e : ∀ w : Int, x = Int32.ofInt w → 0 ≤ w → w < 256 → v = w := fun w q hw0 hw5 => eq_of q hx rfl
  have e' : ∀ w : Int, ¬ x = Int32.ofInt w → v ≠ w := fun w q hw => q (by rw [hx, hw]; rfl)
  refine g_X4_isSign_0 ⟨fun q => ⟨Or.inr rfl, K1 ?_⟩, fun q0 => ⟨fun q => ⟨Or.inr rfl, K1 ?_⟩, fun q1 => ⟨fun q => ⟨Or.inr rfl, K1 ?_⟩, fun q2 => ⟨fun q => ⟨Or.inr rfl, K1 ?_⟩, fun q3 => ⟨fun q => ⟨Or.inr rfl, K1 ?_⟩, fun q4 => ⟨fun q => ⟨Or.inr rfl, K1 ?_⟩, fun q5 => ⟨fun q => ⟨Or.inr rfl, K1 ?_⟩, fun q6 => ⟨fun q => ⟨Or.inr rfl, K1 ?_⟩, fun q7 => ⟨Or.inl rfl, K0 ?_⟩⟩⟩⟩⟩⟩⟩⟩⟩
  · have := e _ q (by omega) (by omega)
    omega
  · have := e _ q (by omega) (by omega)
    omega
  · have := e _ q (by omega) (by omega)
    omega
  · have := e _ q (by omega) (by omega)
    omega
  · have := e _ q (by omega) (by omega)
    omega
  · have := e _ q (by omega) (by omega)
    omega
  · have := e _ q (by omega) (by omega)
    omega
  · have := e _ q (by omega) (by omega)
    omega
  · have := e' _ q0
    have := e' _ q1
    have := e' _ q2
    have := e' _ q3
    have := e' _ q4
    have := e' _ q5
    have := e' _ q6
    have := e' _ q7
    omega
theorem T_isSign {M : bM} {Q : bQ} {x : Int32} {v : Int} (hx : x = iI v) (h1 : 0 ≤ v) (h2 : v < 256) (K1 : isG v → Q (some (cI (1 : Int32))) M) (K0 : ¬ isG v → Q (some (cI (0 : Int32))) M) : bCall 109 [cI x] M Q := by
  have e : ∀ {y : Int32} (w : Nat), y = iI (w : Int) → x = y → w < 256 → v = w := fun {y} w hy q hw => eq_of q hx hy
  have e' : ∀ {y : Int32} (w : Nat), y = iI (w : Int) → ¬ x = y → v ≠ w := fun {y} w hy q hw => q (by rw [hx, hw, hy])
  refine g_X7_isSign_0 ⟨fun q => ⟨Or.inr rfl, K1 ?_⟩, fun q0 => ⟨fun q => ⟨Or.inr rfl, K1 ?_⟩, fun q1 => ⟨fun q => ⟨Or.inr rfl, K1 ?_⟩, fun q2 => ⟨fun q => ⟨Or.inr rfl, K1 ?_⟩, fun q3 => ⟨fun q => ⟨Or.inr rfl, K1 ?_⟩, fun q4 => ⟨fun q => ⟨Or.inr rfl, K1 ?_⟩, fun q5 => ⟨fun q => ⟨Or.inr rfl, K1 ?_⟩, fun q6 => ⟨fun q => ⟨Or.inl rfl, K0 ?_⟩, fun q7 => ⟨Or.inr rfl, K1 ?_⟩⟩⟩⟩⟩⟩⟩⟩⟩
  · have := e _ (iL 120) q (by omega)
    omega
  · have := e _ (iL 43) q (by omega)
    omega
  · have := e _ (iL 45) q (by omega)
    omega
  · have := e _ (iL 42) q (by omega)
    omega
  · have := e _ (iL 47) q (by omega)
    omega
  · have := e _ (iL 94) q (by omega)
    omega
  · have := e _ (iL 40) q (by omega)
    omega
  · have := e' _ (iL 120) q0
    have := e' _ (iL 43) q1
    have := e' _ (iL 45) q2
    have := e' _ (iL 42) q3
    have := e' _ (iL 47) q4
    have := e' _ (iL 94) q5
    have := e' _ (iL 40) q6
    have := e' _ (iL 41) q
    omega
  · have := e _ (iL 41) (Decidable.of_not_not q7) (by omega)
    omega
