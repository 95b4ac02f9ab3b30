-- needs: 06 08 09 10 11 12 13 14 15 16 17 18 19 26 27 28 29 30 31 32 33 34 35 39 41 42 45 46 47 48 49 50 51 52 53 54 55 56 57 58 59
/-- the first of the lowest -/
def lowF (h : Nat → Nat) : Nat → Nat → Nat → Nat
  | 0, _, b => b
  | n + 1, i, b => lowF h n (i + 1) (if h i < h b then i else b)
theorem lowF_lt {h : Nat → Nat} {m : Nat} : ∀ {n i b : Nat}, i + n ≤ m → b < m → lowF h n i b < m
  | 0, _, _, _, hb => hb
  | n + 1, i, b, hi, hb => by
    unfold lowF
    refine lowF_lt (by omega) ?_
    split <;> omega
theorem S_leastRow {p : Int} {m : Nat} {s : Nat → Nat} {f : Nat → Nat → Int} {d : Nat → Nat} {R : Nat → Nat → Nat → Int} {M : bM} {Q : bQ} (h : BS p m s f d R M) (hm : m ≤ 4) (hm1 : 1 ≤ m) (hb : ∀ i, i < m → d i ≤ 32 ∧ s i ≤ 9) (K : Q (some (cI (iI (lowF (fun i => d i + s i) (m - 1) 1 0 : Int)))) M) : bCall 19 [cR 3 0] M Q := by
  have loop : ∀ (n i b : Nat), i + n = m → b < m → ∀ (x1 x2 : Int32), x1 = iI (b : Int) → x2 = iI (i : Int) → Q (some (cI (iI (lowF (fun i => d i + s i) n i b : Int)))) M → bGo 19 Q 4 [some (cR 3 0), some (cI x1), some (cI x2)] [] M := by
    intro n
    induction n with
    | zero =>
      intro i b hi hbm x1 x2 e1 e2 hK
      refine g_X0_leastRow_4 ⟨fun _ => by rw [e1]; exact hK, fun q => absurd (nle_of q h.1 e2) (by omega)⟩
    | succ n ih =>
      intro i b hi hbm x1 x2 e1 e2 hK
      have b1 := hb i (by omega)
      have b2 := hb b hbm
      have hK' : Q (some (cI (iI (lowF (fun i => d i + s i) n (i + 1) (if d i + s i < d b + s b then i else b) : Int)))) M := hK
      refine g_X0_leastRow_4 ⟨fun q => absurd (le_of q h.1 e2) (by omega), fun _ => S_height h hm (by omega) e2 (S_height h hm hbm e1 ⟨fun q => ?_, fun q => ?_⟩)⟩
      · have := le_of q rfl rfl
        rw [if_neg (by omega)] at hK'
        exact ih (i + 1) b (by omega) hbm _ _ e1 (inN e2) hK'
      · have := nle_of q rfl rfl
        rw [if_pos (by omega)] at hK'
        exact ih (i + 1) i (by omega) (by omega) _ _ e2 (inN e2) hK'
  exact g_X0_leastRow_0 (loop (m - 1) 1 0 (by omega) (by omega) _ _ l0 l1 K)
theorem T_lowestRow {p : Int} {m o : Nat} {s : Nat → Nat} {f : Nat → Nat → Int} {d : Nat → Nat} {M : bM} {Q : bQ} (hMS : MS p m o s f M) (hm : m ≤ 4) (hm1 : 1 ≤ m) (hd : ∀ i, i < m → d i ≤ 32 ∧ M 39 0 i = iI (d i : Int)) (hs : ∀ i, i < m → s i ≤ 9) (K : Q (some (cI (iI (lowF (fun i => d i + s i) (m - 1) 1 0 : Int)))) M) : bCall 146 [cR 26 0] M Q := by
  obtain ⟨s1, s2, s3, s4, s5⟩ := hMS
  have hh : ∀ {i : Nat} {x : Int32}, i < m → x = iI (i : Int) → M 39 0 x.toNatClampNeg + M 37 0 x.toNatClampNeg = iI ((d i + s i : Nat) : Int) := fun {i x} hi e => by
    rw [cl_of e, (hd i hi).2, s4 i hi, iI_add]
    exact iIc (by omega)
  have loop : ∀ (n i b : Nat), i + n = m → b < m → ∀ (x1 x2 : Int32), x1 = iI (b : Int) → x2 = iI (i : Int) → Q (some (cI (iI (lowF (fun i => d i + s i) n i b : Int)))) M → bGo 146 Q 4 [some (cR 26 0), some (cI x1), some (cI x2)] [] M := by
    intro n
    induction n with
    | zero =>
      intro i b hi hbm x1 x2 e1 e2 hK
      refine g_X7_lowestRow_4 ⟨fun _ => by rw [e1]; exact hK, fun q => absurd (nle_of q s2 e2) (by omega)⟩
    | succ n ih =>
      intro i b hi hbm x1 x2 e1 e2 hK
      have b1 := (hd i (by omega)).1
      have b2 := (hd b hbm).1
      have b3 := hs i (by omega)
      have b4 := hs b hbm
      have hK' : Q (some (cI (iI (lowF (fun i => d i + s i) n (i + 1) (if d i + s i < d b + s b then i else b) : Int)))) M := hK
      refine g_X7_lowestRow_4 ⟨fun q => absurd (le_of q s2 e2) (by omega), fun _ => ⟨vin e2, vin e2, vin e1, vin e1, fun q => ?_, fun q => ?_⟩⟩
      · have := le_of q (hh hbm e1) (hh (by omega) e2)
        rw [if_neg (by omega)] at hK'
        exact ih (i + 1) b (by omega) hbm _ _ e1 (inN e2) hK'
      · have := nle_of q (hh hbm e1) (hh (by omega) e2)
        rw [if_pos (by omega)] at hK'
        exact ih (i + 1) i (by omega) (by omega) _ _ e2 (inN e2) hK'
  exact g_X7_lowestRow_0 (loop (m - 1) 1 0 (by omega) (by omega) _ _ l0 l1 K)
