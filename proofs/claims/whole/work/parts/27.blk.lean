-- needs: 06 08 09 10 26
/-! WHAT A LOOP LEAVES BEHIND -/
/-- places a .. b - 1 of (g, j) hold r now, all else is as it was -/
def Blk (M0 M : bM) (g j a b : Nat) (r : Nat → Int) : Prop :=
  (∀ g' j', (g', j') ≠ (g, j) → M g' j' = M0 g' j') ∧ (∀ i, a ≤ i → i < b → M g j i = iI (r i)) ∧ (∀ i, ¬ (a ≤ i ∧ i < b) → M g j i = M0 g j i)
theorem bU_at {M : bM} {g j i : Nat} {x : Int32} : bU M g j i x g j i = x := by
  unfold bU
  rw [Nat.beq_refl, Nat.beq_refl, Nat.beq_refl]
  rfl
theorem bU_ne {M : bM} {g j i : Nat} {x : Int32} {g' j' i' : Nat} (h : ¬ (g' = g ∧ j' = j ∧ i' = i)) : bU M g j i x g' j' i' = M g' j' i' := by
  unfold bU
  have hb : (Nat.beq g' g && (Nat.beq j' j && Nat.beq i' i)) = false := by
    cases h1 : Nat.beq g' g with
    | false => rfl
    | true =>
      cases h2 : Nat.beq j' j with
      | false => rfl
      | true =>
        cases h3 : Nat.beq i' i with
        | false => rfl
        | true => exact absurd ⟨Nat.eq_of_beq_eq_true h1, Nat.eq_of_beq_eq_true h2, Nat.eq_of_beq_eq_true h3⟩ h
  rw [hb]
  rfl
theorem bU_row' {M : bM} {g j i : Nat} {x : Int32} {g' j' : Nat} (h : ¬ (g' = g ∧ j' = j)) : bU M g j i x g' j' = M g' j' := by
  funext k
  exact bU_ne (fun z => h ⟨z.1, z.2.1⟩)
theorem Blk.start {M0 : bM} {g j a : Nat} {r : Nat → Int} : Blk M0 M0 g j a a r := ⟨fun _ _ _ => rfl, fun i h1 h2 => absurd h1 (by omega), fun _ _ => rfl⟩
theorem Blk.up {M0 M : bM} {g j a k : Nat} {r : Nat → Int} {x : Int32} (h : Blk M0 M g j a k r) (ha : a ≤ k) (hx : x = iI (r k)) : Blk M0 (bU M g j k x) g j a (k + 1) r := by
  refine ⟨fun g' j' hne => ?_, fun i h1 h2 => ?_, fun i h1 => ?_⟩
  · rw [bU_row' (fun z => hne (by rw [z.1, z.2]))]
    exact h.1 g' j' hne
  · by_cases hi : i = k
    · subst hi
      rw [bU_at, hx]
    · rw [bU_ne (fun z => hi z.2.2)]
      exact h.2.1 i h1 (by omega)
  · rw [bU_ne (fun z => h1 (by omega))]
    exact h.2.2 i (by omega)
theorem Blk.down {M0 M : bM} {g j k b : Nat} {r : Nat → Int} {x : Int32} (h : Blk M0 M g j (k + 1) b r) (hb : k < b) (hx : x = iI (r k)) : Blk M0 (bU M g j k x) g j k b r := by
  refine ⟨fun g' j' hne => ?_, fun i h1 h2 => ?_, fun i h1 => ?_⟩
  · rw [bU_row' (fun z => hne (by rw [z.1, z.2]))]
    exact h.1 g' j' hne
  · by_cases hi : i = k
    · subst hi
      rw [bU_at, hx]
    · rw [bU_ne (fun z => hi z.2.2)]
      exact h.2.1 i (by omega) h2
  · rw [bU_ne (fun z => h1 (by omega))]
    exact h.2.2 i (by omega)
/-- what isn't written yet, in any row -/
theorem Blk.keep {M0 M : bM} {g j a b : Nat} {r : Nat → Int} (h : Blk M0 M g j a b r) {g' j' i : Nat} (hi : ¬ (g' = g ∧ j' = j ∧ a ≤ i ∧ i < b)) : M g' j' i = M0 g' j' i := by
  by_cases hne : g' = g ∧ j' = j
  · obtain ⟨rfl, rfl⟩ := hne
    exact h.2.2 i (fun z => hi ⟨rfl, rfl, z⟩)
  · rw [h.1 g' j' (fun z => hne (by cases z; exact ⟨rfl, rfl⟩))]
theorem Blk.row {M0 M : bM} {g j a b : Nat} {r : Nat → Int} (h : Blk M0 M g j a b r) {g' j' : Nat} (hi : ¬ (g' = g ∧ j' = j)) : M g' j' = M0 g' j' := h.1 g' j' (fun z => hi (by cases z; exact ⟨rfl, rfl⟩))
theorem Blk.at {M0 M : bM} {g j a b : Nat} {r : Nat → Int} (h : Blk M0 M g j a b r) {i : Nat} (h1 : a ≤ i) (h2 : i < b) : M g j i = iI (r i) := h.2.1 i h1 h2
/-- products of numbers of the field are small -/
theorem mul_bd {a b p : Int} (ha : 0 ≤ a) (ha' : a < p) (hb : 0 ≤ b) (hb' : b < p) (hp : p ≤ 997) : 0 ≤ a * b ∧ a * b ≤ 992016 := by
  refine ⟨Int.mul_nonneg ha hb, ?_⟩
  have h1 : a * b ≤ 996 * b := Int.mul_le_mul_of_nonneg_right (by omega) hb
  omega
/-- sums of finitely many -/
def sm (f : Nat → Int) : Nat → Int
  | 0 => 0
  | n + 1 => sm f n + f n
theorem sm_bd {f : Nat → Int} {B : Int} (h0 : 0 ≤ B) : ∀ {n : Nat}, (∀ i, i < n → 0 ≤ f i ∧ f i ≤ B) → 0 ≤ sm f n ∧ sm f n ≤ n * B
  | 0, _ => ⟨Int.le_refl 0, by simp [sm]⟩
  | n + 1, h => by
    have h1 := sm_bd h0 (n := n) (fun i hi => h i (by omega))
    have h2 := h n (by omega)
    have h3 : ((n + 1 : Nat) : Int) * B = n * B + B := by rw [Int.natCast_add, Int.add_mul]; simp
    unfold sm
    omega
theorem sm_congr {f g : Nat → Int} : ∀ {n : Nat}, (∀ i, i < n → f i = g i) → sm f n = sm g n
  | 0, _ => rfl
  | n + 1, h => by
    unfold sm
    rw [sm_congr (n := n) (fun i hi => h i (by omega)), h n (by omega)]
/-- conditions of a branch, at images -/
theorem le_of {x y : Int32} {a b : Int} (h : x ≤ y) (hx : x = iI a) (hy : y = iI b) (h1 : -2147483648 ≤ a := by omega) (h2 : a < 2147483648 := by omega) (h3 : -2147483648 ≤ b := by omega) (h4 : b < 2147483648 := by omega) : a ≤ b := by
  subst hx; subst hy
  exact (iI_le h1 h2 h3 h4).mp h
theorem nle_of {x y : Int32} {a b : Int} (h : ¬ x ≤ y) (hx : x = iI a) (hy : y = iI b) (h1 : -2147483648 ≤ a := by omega) (h2 : a < 2147483648 := by omega) (h3 : -2147483648 ≤ b := by omega) (h4 : b < 2147483648 := by omega) : b < a := by
  subst hx; subst hy
  rw [iI_le h1 h2 h3 h4] at h
  omega
theorem lt_of {x y : Int32} {a b : Int} (h : x < y) (hx : x = iI a) (hy : y = iI b) (h1 : -2147483648 ≤ a := by omega) (h2 : a < 2147483648 := by omega) (h3 : -2147483648 ≤ b := by omega) (h4 : b < 2147483648 := by omega) : a < b := by
  subst hx; subst hy
  exact (iI_lt h1 h2 h3 h4).mp h
theorem nlt_of {x y : Int32} {a b : Int} (h : ¬ x < y) (hx : x = iI a) (hy : y = iI b) (h1 : -2147483648 ≤ a := by omega) (h2 : a < 2147483648 := by omega) (h3 : -2147483648 ≤ b := by omega) (h4 : b < 2147483648 := by omega) : b ≤ a := by
  subst hx; subst hy
  rw [iI_lt h1 h2 h3 h4] at h
  omega
theorem eq_of {x y : Int32} {a b : Int} (h : x = y) (hx : x = iI a) (hy : y = iI b) (h1 : -2147483648 ≤ a := by omega) (h2 : a < 2147483648 := by omega) (h3 : -2147483648 ≤ b := by omega) (h4 : b < 2147483648 := by omega) : a = b := by
  subst hx; subst hy
  exact (iI_eq h1 h2 h3 h4).mp h
theorem ne_of' {x y : Int32} {a b : Int} (h : ¬ x = y) (hx : x = iI a) (hy : y = iI b) : a ≠ b := fun z => h (by rw [hx, hy, z])
theorem l0 : (0 : Int32) = iI 0 := iL 0
theorem l1 : (1 : Int32) = iI 1 := iL 1
theorem l32 : (32 : Int32) = iI 32 := iL 32
theorem inc {x : Int32} {n : Int} (h : x = iI n) : x + (1 : Int32) = iI (n + 1) := by rw [h, l1, iI_add]
theorem inN {x : Int32} {n : Nat} (h : x = iI (n : Int)) : x + (1 : Int32) = iI ((n + 1 : Nat) : Int) := by rw [inc h]; exact iIc (by omega)
theorem vin {x : Int32} {a : Int} {n : Nat} (h : x = iI a) (h0 : 0 ≤ a := by omega) (h1 : a < n := by omega) (h2 : n ≤ 2147483648 := by omega) : vp_in x n := by
  subst h
  exact iI_in h0 h1 h2
theorem cl_of {x : Int32} {n : Nat} (h : x = iI (n : Int)) (hn : n < 2147483648 := by omega) : x.toNatClampNeg = n := by
  subst h
  exact iI_cl hn
theorem bCp_o {M : bM} {g j g' j' : Nat} {sp dp n : Int32} {a b : Nat} (h : (a, b) ≠ (g', j')) : bCp M g j g' j' sp dp n a b = M a b := by
  funext k
  unfold bCp
  have hb : (Nat.beq a g' && Nat.beq b j') = false := by
    cases h1 : Nat.beq a g' with
    | false => rfl
    | true =>
      cases h2 : Nat.beq b j' with
      | false => rfl
      | true => exact absurd (by rw [Nat.eq_of_beq_eq_true h1, Nat.eq_of_beq_eq_true h2]) h
  rw [hb]
  rfl
theorem bCp_r {M : bM} {g j g' j' : Nat} {sp dp n : Int32} : bCp M g j g' j' sp dp n g' j' = va_cpy (M g j) (M g' j') sp.toNatClampNeg dp.toNatClampNeg n.toNatClampNeg := by
  funext k
  unfold bCp
  rw [Nat.beq_refl, Nat.beq_refl]
  rfl
/-- a copy of 32 places from the first on -/
theorem bCp_32 {M : bM} {g j g' j' i : Nat} (hi : i < 32) : bCp M g j g' j' (0 : Int32) (0 : Int32) (32 : Int32) g' j' i = M g j i := by
  rw [bCp_r, show (0 : Int32).toNatClampNeg = 0 from rfl, show (32 : Int32).toNatClampNeg = 32 from rfl]
  exact sb_cpy0 hi
