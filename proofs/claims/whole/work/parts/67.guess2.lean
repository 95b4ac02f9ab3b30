-- needs: 06 08 09 10 11 12 13 14 15 16 17 18 19 26 27 28 29 30 31 32 33 34 35 37 39 41 42 43 45 46 47 48 49 50 51 52 53 54 55 56 57 58 59 60 65 66
theorem S_keepRow {p : Int} {m r t : Nat} {s : Nat → Nat} {f : Nat → Nat → Int} {d : Nat → Nat} {R : Nat → Nat → Nat → Int} {M0 : bM} {Q : bQ} {x2 : Int32} (h2 : 2 ≤ p) (h4 : p ≤ 997) (hm : m ≤ 4) (hr : r < m) (ht : t < 8) (e2 : x2 = iI (r : Int)) (hB : BS p m s f d R M0) (K : ∀ M, Fr (fun g j i => g = 5 ∧ j = t ∧ (i = 4 ∨ i = 6 ∨ i = 7) ∨ g = 15 ∧ 4 * t ≤ j ∧ j < 4 * t + 4) M0 M → M 5 t 4 = iI (m : Int) → M 5 t 6 = iI ((d r + s r : Nat) : Int) → M 5 t 7 = iI (lz (fun k => rs m f (R r) k % p) 32 0 : Nat) → (∀ j, j < m → ∀ k, k < 10 → M 15 (4 * t + j) k = iI (R r j k)) → Q none M) : bCall 38 [cR 5 t, cR 3 0, cI x2] M0 Q := by
  have hBfr : ∀ {M : bM} {L : Nat → Nat → Nat → Prop}, Fr L M0 M → (∀ g j i, L g j i → g = 5 ∨ g = 15) → BS p m s f d R M := fun {M L} hF hL => hB.fr hF fun g j i z w => by
    have := hL g j i w
    unfold rdB at z
    omega
  have hF0 := bU_fr (M := M0) (g := 5) (j := t) (i := 4) (x := M0 3 0 5)
  refine g_X3_keepRow_0 (S_height (hBfr hF0 fun g j i z => by omega) hm hr e2 ⟨vin e2, ?_⟩)
  rw [cl_of e2]
  refine S_leadingZeros (f := fun k => rs m f (R r) k % p) (fun k hk => ⟨by rw [bU_ne (by omega), bU_ne (by omega)]; exact hB.2.2.2 r hr k hk, Int.emod_nonneg _ (by omega), by have := Int.emod_lt_of_pos (rs m f (R r) k) (show 0 < p by omega); omega⟩) ?_
  have hF1 : Fr (fun g j i => g = 5 ∧ j = t ∧ (i = 4 ∨ i = 6 ∨ i = 7)) M0 (bU (bU (bU M0 5 t 4 (M0 3 0 5)) 5 t 6 (iI ((d r + s r : Nat) : Int))) 5 t 7 (iI (lz (fun k => rs m f (R r) k % p) 32 0 : Nat))) := ((hF0.trans bU_fr).trans bU_fr).mono fun g j i z => by
    simp only [oL] at z
    omega
  have q4 : (bU (bU (bU M0 5 t 4 (M0 3 0 5)) 5 t 6 (iI ((d r + s r : Nat) : Int))) 5 t 7 (iI (lz (fun k => rs m f (R r) k % p) 32 0 : Nat))) 5 t 4 = iI (m : Int) := by
    rw [bU_ne (by omega), bU_ne (by omega), bU_at]
    exact hB.1
  have q6 : (bU (bU (bU M0 5 t 4 (M0 3 0 5)) 5 t 6 (iI ((d r + s r : Nat) : Int))) 5 t 7 (iI (lz (fun k => rs m f (R r) k % p) 32 0 : Nat))) 5 t 6 = iI ((d r + s r : Nat) : Int) := by
    rw [bU_ne (by omega), bU_at]
  have q7 : (bU (bU (bU M0 5 t 4 (M0 3 0 5)) 5 t 6 (iI ((d r + s r : Nat) : Int))) 5 t 7 (iI (lz (fun k => rs m f (R r) k % p) 32 0 : Nat))) 5 t 7 = iI (lz (fun k => rs m f (R r) k % p) 32 0 : Nat) := bU_at
  show bGo 38 Q 32 [some (cR 5 t), some (cR 3 0), some (cI x2), some (cI (0 : Int32)), none] [] (bU (bU (bU M0 5 t 4 (M0 3 0 5)) 5 t 6 (iI ((d r + s r : Nat) : Int))) 5 t 7 (iI (lz (fun k => rs m f (R r) k % p) 32 0 : Nat)))
  generalize (bU (bU (bU M0 5 t 4 (M0 3 0 5)) 5 t 6 (iI ((d r + s r : Nat) : Int))) 5 t 7 (iI (lz (fun k => rs m f (R r) k % p) 32 0 : Nat))) = M1 at hF1 q4 q6 q7 ⊢
  have outer : ∀ (n j : Nat), j + n = m → ∀ (M : bM) (x3 : Int32) (o4 : Option bV), x3 = iI (j : Int) → Fr (fun g j i => g = 15 ∧ 4 * t ≤ j ∧ j < 4 * t + 4) M1 M → (∀ j', j' < j → ∀ k, k < 10 → M 15 (4 * t + j') k = iI (R r j' k)) → bGo 38 Q 32 [some (cR 5 t), some (cR 3 0), some (cI x2), some (cI x3), o4] [] M := by
    intro n
    induction n with
    | zero =>
      intro j hj M x3 o4 e3 hF hg
      have : j = m := by omega
      subst this
      have hF' : ∀ g j i, ¬ (g = 15 ∧ 4 * t ≤ j ∧ j < 4 * t + 4) → M g j i = M1 g j i := hF
      refine g_X3_keepRow_32 ⟨fun _ => K M ((hF1.trans hF).mono fun g j i z => z) ?_ ?_ ?_ hg, fun q => absurd (nle_of q (show M 5 t 4 = iI (j : Int) by rw [hF' _ _ _ (by omega)]; exact q4) e3) (by omega)⟩
      · rw [hF' _ _ _ (by omega)]; exact q4
      · rw [hF' _ _ _ (by omega)]; exact q6
      · rw [hF' _ _ _ (by omega)]; exact q7
    | succ n ih =>
      intro j hj M x3 o4 e3 hF hg
      have hF' : ∀ g j i, ¬ (g = 15 ∧ 4 * t ≤ j ∧ j < 4 * t + 4) → M g j i = M1 g j i := hF
      refine g_X3_keepRow_32 ⟨fun q => absurd (le_of q (show M 5 t 4 = iI (m : Int) by rw [hF' _ _ _ (by omega)]; exact q4) e3) (by omega), fun _ => ⟨fun q => absurd (le_of q (iL 4) e3) (by omega), fun _ => ?_⟩⟩
      have inner : ∀ (n k : Nat), k + n = 10 → ∀ (M2 : bM) (x4 : Int32), x4 = iI (k : Int) → Blk M M2 15 (4 * t + j) 0 k (fun k => R r j k) → bGo 38 Q 48 [some (cR 5 t), some (cR 3 0), some (cI x2), some (cI x3), some (cI x4)] [] M2 := by
        intro n
        induction n with
        | zero =>
          intro k hk M2 x4 e4 hB2
          have : k = 10 := by omega
          subst this
          refine g_X3_keepRow_48 ⟨fun _ => ih (j + 1) (by omega) M2 _ _ (inN e3) ((hF.trans hB2.fr).mono fun g j i z => ?_) (fun j' hj' k hk => ?_), fun q => absurd (nle_of q (iL 10) e4) (by omega)⟩
          · simp only [oL] at z
            omega
          · by_cases q : j' = j
            · subst q
              exact hB2.at (by omega) hk
            · rw [hB2.keep (by omega)]
              exact hg j' (by omega) k hk
        | succ n ihn =>
          intro k hk M2 x4 e4 hB2
          refine g_X3_keepRow_48 ⟨fun q => absurd (le_of q (iL 10) e4) (by omega), fun _ => ⟨vin e3, ?_⟩⟩
          have hBS : BS p m s f d R M2 := hBfr ((hF1.trans hF).trans hB2.fr) fun g j i z => by
            simp only [oL] at z
            omega
          refine S_coef hBS hm hr (by omega) (by omega) e2 e3 e4 ⟨vin e4, ?_⟩
          rw [cl_of e3, cl_of e4]
          exact ihn (k + 1) (by omega) _ _ (inN e4) (hB2.up (Nat.zero_le _) rfl)
      exact inner 10 0 rfl M _ l0 Blk.start
  exact outer m 0 (by omega) M1 _ _ l0 (Fr.refl.mono fun _ _ _ z => z.elim) fun j hj => absurd hj (Nat.not_lt_zero _)
theorem T_guess_keep {p : Int} {m K G low : Nat} {f : Nat → Int} {M0 : bM} {Q : bQ} {x1 x2 x3 x4 x5 x6 : Int32} {o7 : Option bV} (hK : M0 26 0 38 = iI (K : Int)) (hK8 : K < 8) (hG : M0 26 0 39 = iI (G : Int)) (hp : M0 26 0 0 = iI p) (hmy : M0 26 0 25 = iI (m : Int)) (e6 : x6 = iI (low : Int)) (hlow : low < 4) (hf : ∀ i, i < 32 → M0 27 0 i = iI (f i) ∧ 0 ≤ f i ∧ f i < 997)
    (Kc : ∀ M, Fr (fun g j i => 46 ≤ g ∧ g ≤ 53 ∨ g = 26 ∧ (i = 38 ∨ i = 39)) M0 M → M 26 0 38 = iI ((K + 1 : Nat) : Int) → M 26 0 39 = iI ((G + 1 : Nat) : Int) → (∀ g i, 46 ≤ g → g ≤ 52 → i ≠ K → M g 0 i = M0 g 0 i) → (∀ i, ¬ (132 * K ≤ i ∧ i < 132 * K + 132) → M 53 0 i = M0 53 0 i) → (M 46 0 K = iI (G : Int) ∧ M 47 0 K = x2 ∧ M 48 0 K = iI (m : Int) ∧ M 49 0 K = x4 ∧ M 50 0 K = M0 39 0 low ∧ M 51 0 K = iI (lz f 32 0 : Nat) ∧ M 52 0 K = iI p) → (∀ a, a < 132 → M 53 0 (132 * K + a) = M0 38 0 (132 * low + a)) → Q (some (cI (iI (G : Int)))) M) : bGo 147 Q 119 [some (cR 26 0), some (cI x1), some (cI x2), some (cI x3), some (cI x4), some (cI x5), some (cI x6), o7] [] M0 := by
  refine g_X7_guess_119 ?_
  simp only [bU_g (show 26 ≠ 46 by decide), bU_g (show 26 ≠ 47 by decide), bU_g (show 26 ≠ 48 by decide), bU_g (show 26 ≠ 49 by decide), bU_g (show 26 ≠ 50 by decide), bU_g (show 26 ≠ 51 by decide), bU_g (show 39 ≠ 46 by decide), bU_g (show 39 ≠ 47 by decide), bU_g (show 39 ≠ 48 by decide), bU_g (show 39 ≠ 49 by decide), hK, hG, hp, hmy, cl_of (n := K) rfl, cl_of e6]
  have vK : vp_in (iI (K : Int)) 8 := vin rfl
  refine ⟨vK, vK, vK, vK, vin e6, vK, ?_⟩
  refine T_zerosOf_m (f := f) (fun i hi => ⟨by rw [bU_g (by decide), bU_g (by decide), bU_g (by decide), bU_g (by decide), bU_g (by decide)]; exact (hf i hi).1, (hf i hi).2⟩) ?_
  simp only [bU_g (show 26 ≠ 46 by decide), bU_g (show 26 ≠ 47 by decide), bU_g (show 26 ≠ 48 by decide), bU_g (show 26 ≠ 49 by decide), bU_g (show 26 ≠ 50 by decide), bU_g (show 26 ≠ 51 by decide), hK, hp, cl_of (n := K) rfl]
  refine ⟨vK, vK, ?_⟩
  have hF1 : Fr (fun g j i => 46 ≤ g ∧ g ≤ 52 ∧ j = 0 ∧ i = K) M0 (bU (bU (bU (bU (bU (bU (bU M0 46 0 K (iI (G : Int))) 47 0 K x2) 48 0 K (iI (m : Int))) 49 0 K x4) 50 0 K (M0 39 0 low)) 51 0 K (iI (lz f 32 0 : Nat))) 52 0 K (iI p)) := ((((((bU_fr.trans bU_fr).trans bU_fr).trans bU_fr).trans bU_fr).trans bU_fr).trans bU_fr).mono fun g j i z => by
    simp only [oL] at z
    omega
  have hv : ∀ M, M = (bU (bU (bU (bU (bU (bU (bU M0 46 0 K (iI (G : Int))) 47 0 K x2) 48 0 K (iI (m : Int))) 49 0 K x4) 50 0 K (M0 39 0 low)) 51 0 K (iI (lz f 32 0 : Nat))) 52 0 K (iI p)) → M 46 0 K = iI (G : Int) ∧ M 47 0 K = x2 ∧ M 48 0 K = iI (m : Int) ∧ M 49 0 K = x4 ∧ M 50 0 K = M0 39 0 low ∧ M 51 0 K = iI (lz f 32 0 : Nat) ∧ M 52 0 K = iI p := fun M e => by
    subst e
    refine ⟨?_, ?_, ?_, ?_, ?_, ?_, bU_at⟩
    · rw [bU_g (by decide), bU_g (by decide), bU_g (by decide), bU_g (by decide), bU_g (by decide), bU_g (by decide), bU_at]
    · rw [bU_g (by decide), bU_g (by decide), bU_g (by decide), bU_g (by decide), bU_g (by decide), bU_at]
    · rw [bU_g (by decide), bU_g (by decide), bU_g (by decide), bU_g (by decide), bU_at]
    · rw [bU_g (by decide), bU_g (by decide), bU_g (by decide), bU_at]
    · rw [bU_g (by decide), bU_g (by decide), bU_at]
    · rw [bU_g (by decide), bU_at]
  generalize (bU (bU (bU (bU (bU (bU (bU M0 46 0 K (iI (G : Int))) 47 0 K x2) 48 0 K (iI (m : Int))) 49 0 K x4) 50 0 K (M0 39 0 low)) 51 0 K (iI (lz f 32 0 : Nat))) 52 0 K (iI p)) = M1 at hF1 hv ⊢
  have hv := hv M1 rfl
  have hF1' : ∀ g j i, ¬ (46 ≤ g ∧ g ≤ 52 ∧ j = 0 ∧ i = K) → M1 g j i = M0 g j i := hF1
  have loop : ∀ (n a : Nat), a + n = 132 → ∀ (M : bM) (x7 : Int32), x7 = iI (a : Int) → Blk M1 M 53 0 (132 * K) (132 * K + a) (fun i => (M0 38 0 (132 * low + (i - 132 * K))).toInt) → bGo 147 Q 215 [some (cR 26 0), some (cI x1), some (cI x2), some (cI x3), some (cI x4), some (cI x5), some (cI x6), some (cI x7)] [] M := by
    intro n
    induction n with
    | zero =>
      intro a ha M x7 e7 hB
      have : a = 132 := by omega
      subst this
      have k38 : M 26 0 38 = iI (K : Int) := by rw [hB.keep (by omega), hF1' _ _ _ (by omega)]; exact hK
      have k39 : M 26 0 39 = iI (G : Int) := by rw [hB.keep (by omega), hF1' _ _ _ (by omega)]; exact hG
      refine g_X7_guess_215 ⟨fun _ => ?_, fun q => absurd (nle_of q (iL 132) e7) (by omega)⟩
      rw [bU_at, bU_ne (by omega), k38, k39]
      have er : iI (G : Int) + (1 : Int32) - (1 : Int32) = iI (G : Int) := by
        rw [l1, iI_add, iI_sub]
        exact iIc (by omega)
      rw [er]
      have hk : ∀ g j i, ¬ (g = 26) → ¬ (g = 53 ∧ j = 0 ∧ 132 * K ≤ i ∧ i < 132 * K + 132) → (bU (bU M 26 0 38 (iI (K : Int) + 1)) 26 0 39 (iI (G : Int) + 1)) g j i = M1 g j i := fun g j i a b => by
        rw [bU_ne (by omega), bU_ne (by omega), hB.keep b]
      refine Kc _ (((hF1.trans hB.fr).trans (bU_fr.trans bU_fr)).mono fun g j i z => ?_) ?_ ?_ (fun g i g1 g2 hi => ?_) (fun i hi => ?_) ?_ fun a ha => ?_
      · simp only [oL] at z
        omega
      · rw [bU_ne (by omega), bU_at, l1, iI_add]
        exact iIc (by omega)
      · rw [bU_at, l1, iI_add]
        exact iIc (by omega)
      · rw [hk _ _ _ (by omega) (by omega), hF1' _ _ _ (by omega)]
      · rw [hk _ _ _ (by omega) (by omega), hF1' _ _ _ (by omega)]
      · rw [hk _ _ _ (by omega) (by omega), hk _ _ _ (by omega) (by omega), hk _ _ _ (by omega) (by omega), hk _ _ _ (by omega) (by omega), hk _ _ _ (by omega) (by omega), hk _ _ _ (by omega) (by omega), hk _ _ _ (by omega) (by omega)]
        exact hv
      · rw [bU_ne (by omega), bU_ne (by omega), hB.at (by omega) (by omega), tI, show 132 * K + a - 132 * K = a by omega]
    | succ n ih =>
      intro a ha M x7 e7 hB
      have k38 : M 26 0 38 = iI (K : Int) := by rw [hB.keep (by omega), hF1' _ _ _ (by omega)]; exact hK
      have p1 : ((132 : Int32) * x6) + x7 = iI ((132 * low + a : Nat) : Int) := by
        rw [e6, e7, iL 132, iI_mul, iI_add]
        exact iIc (by omega)
      have p2 : ((132 : Int32) * M 26 0 38) + x7 = iI ((132 * K + a : Nat) : Int) := by
        rw [k38, e7, iL 132, iI_mul, iI_add]
        exact iIc (by omega)
      refine g_X7_guess_215 ⟨fun q => absurd (le_of q (iL 132) e7) (by omega), fun _ => ⟨vin p1, vin p2, ?_⟩⟩
      rw [cl_of p1, cl_of p2]
      refine ih (a + 1) (by omega) _ _ (inN e7) (hB.up (by omega) ?_)
      rw [tI, hB.keep (by omega), hF1' _ _ _ (by omega), show 132 * K + a - 132 * K = a by omega]
  exact loop 132 0 rfl M1 _ l0 Blk.start
