-- needs: 06 08 09 10 11 12 13 14 15 16 17 18 19 26 27 28 29 30 31 32 33 34 35 37 39 41 42 43 45 46 47 48 49 50 51 52 53 54 55 56 57 58 59 60 65
/-- a guess that is not refused -/
def GOK (x1 x2 x3 x4 x5 : Int32) (s kd m o hi : Nat) : Prop := (x1 = iI (s : Int) ∧ s < 6) ∧ (x2 = iI (kd : Int) ∧ kd ≤ 2) ∧ (kd = 0 ∧ m = 2 ∨ kd ≠ 0 ∧ x3 = iI ((m : Int) - 1) ∧ 2 ≤ m ∧ m ≤ 4) ∧ (x4 = iI (o : Int) ∧ 1 ≤ o ∧ o ≤ 32) ∧ x5 = iI (hi : Int) ∧ hi ≤ 9
theorem GOK.mk' {x1 x2 x3 x4 x5 : Int32} {b c d e : Int} (h1 : InR x1 6) (h2 : x2 = iI b) (h3 : x3 = iI c) (h4 : x4 = iI d) (h5 : x5 = iI e) (g2 : 0 ≤ b ∧ b ≤ 2) (g3 : b = 0 ∨ 1 ≤ c ∧ c ≤ 3) (g4 : 1 ≤ d ∧ d ≤ 32) (g5 : 0 ≤ e ∧ e ≤ 9) : ∃ s kd m o hi, GOK x1 x2 x3 x4 x5 s kd m o hi := by
  obtain ⟨s, e1, hs⟩ := h1
  by_cases q : b = 0
  · refine ⟨s, 0, 2, d.toNat, e.toNat, ⟨e1, hs⟩, ⟨by rw [h2, q]; rfl, by omega⟩, Or.inl ⟨rfl, rfl⟩, ⟨by rw [h4]; exact iIc (by omega), by omega, by omega⟩, by rw [h5]; exact iIc (by omega), by omega⟩
  · refine ⟨s, b.toNat, (c + 1).toNat, d.toNat, e.toNat, ⟨e1, hs⟩, ⟨by rw [h2]; exact iIc (by omega), by omega⟩, Or.inr ⟨by omega, by rw [h3]; exact iIc (by omega), by omega, by omega⟩, ⟨by rw [h4]; exact iIc (by omega), by omega, by omega⟩, by rw [h5]; exact iIc (by omega), by omega⟩
theorem S_guess_bad {M : bM} {Q : bQ} {x1 x2 x3 x4 x5 : Int32} (hn : ¬ ∃ s kd m o hi, GOK x1 x2 x3 x4 x5 s kd m o hi) (K : Q (some (cI (-1 : Int32))) M) : bCall 77 [cR 0 0, cI x1, cI x2, cI x3, cI x4, cI x5] M Q := by
  obtain ⟨b, eb, b1, b2⟩ := iI_of x2
  obtain ⟨c, ec, c1, c2⟩ := iI_of x3
  obtain ⟨d, ed, d1, d2⟩ := iI_of x4
  obtain ⟨e, ee, e1, e2⟩ := iI_of x5
  refine g_X6_guess_0 ?_
  by_cases h1 : InR x1 6
  · obtain ⟨s, hs, hs6⟩ := h1
    refine S_isSeries_t hs hs6 (z1 ⟨fun _ => K, fun g1 => ⟨fun g2 => ⟨fun g3 => ⟨fun _ => K, fun g4 => ⟨fun _ => K, fun g5 => ⟨fun _ => K, fun g6 => ⟨fun g7 => ?_, fun _ => K⟩⟩⟩⟩, fun g3 => ⟨fun _ => K, fun g3b => ⟨fun g3c => ⟨fun _ => K, fun g4 => ⟨fun _ => K, fun g5 => ⟨fun _ => K, fun g6 => ⟨fun g7 => ?_, fun _ => K⟩⟩⟩⟩, fun _ => K⟩⟩⟩, fun _ => K⟩⟩)
    · have a1 := nlt_of g1 eb l0
      have a2 := le_of g2 eb (iL 2)
      have a3 := eq_of g3 eb l0
      have a4 := nlt_of g4 ed l1
      have a5 := nlt_of g5 l32 ed
      have a6 := nlt_of g6 ee l0
      have a7 := le_of g7 ee (iL 9)
      exact absurd (GOK.mk' ⟨s, hs, hs6⟩ eb ec ed ee ⟨a1, a2⟩ (Or.inl a3) ⟨a4, a5⟩ ⟨a6, a7⟩) hn
    · have a1 := nlt_of g1 eb l0
      have a2 := le_of g2 eb (iL 2)
      have a3 := nlt_of g3b ec l1
      have a3' := le_of g3c ec (iL 3)
      have a4 := nlt_of g4 ed l1
      have a5 := nlt_of g5 l32 ed
      have a6 := nlt_of g6 ee l0
      have a7 := le_of g7 ee (iL 9)
      exact absurd (GOK.mk' ⟨s, hs, hs6⟩ eb ec ed ee ⟨a1, a2⟩ (Or.inr ⟨a3, a3'⟩) ⟨a4, a5⟩ ⟨a6, a7⟩) hn
  · exact S_isSeries_f h1 (z0 K)
theorem S_guess_ok {M : bM} {Q : bQ} {x1 x2 x3 x4 x5 : Int32} {s kd m o hi : Nat} (h : GOK x1 x2 x3 x4 x5 s kd m o hi) (K : ∀ xm, xm = iI (m : Int) → bCall 21 [cR 4 0] M (fun v M5 => bV5 v 5 (Q (some (cI (-4 : Int32))) M5) (fun q6 => bGo 77 Q 91 [some (cR 0 0), some (cI x1), some (cI x2), some (cI x3), some (cI x4), some (cI x5), some (cR 5 q6), some (cI xm), none] [] M5))) : bCall 77 [cR 0 0, cI x1, cI x2, cI x3, cI x4, cI x5] M Q := by
  obtain ⟨⟨e1, h1⟩, ⟨e2, h2⟩, h3, ⟨e4, h4, h4'⟩, e5, h5⟩ := h
  refine g_X6_guess_0 (S_isSeries_t e1 h1 (z1 ⟨fun q => absurd (lt_of q e2 l0) (by omega), fun _ => ⟨fun _ => ⟨fun q0 => ⟨fun q => absurd (lt_of q e4 l1) (by omega), fun _ => ⟨fun q => absurd (lt_of q l32 e4) (by omega), fun _ => ⟨fun q => absurd (lt_of q e5 l0) (by omega), fun _ => ⟨fun _ => ?_, fun q => absurd (nle_of q e5 (iL 9)) (by omega)⟩⟩⟩⟩, fun q0 => ?_⟩, fun q => absurd (nle_of q e2 (iL 2)) (by omega)⟩⟩))
  · have hk := eq_of q0 e2 l0
    have hm : m = 2 := by omega
    refine bCall_mono (fun v M5 z => bV5_mono id (fun q6 z => ?_) z) (K (2 : Int32) (by rw [hm]; exact iL 2))
    exact ⟨fun w => absurd q0 w, fun _ => z⟩
  · have hk : kd ≠ 0 := fun z => q0 (by rw [e2, z]; rfl)
    rcases h3 with z | ⟨_, e3, g1, g2⟩
    · omega
    have em : x3 + (1 : Int32) = iI (m : Int) := by
      rw [e3, l1, iI_add]
      exact iIc (by omega)
    refine ⟨fun q => absurd (lt_of q e3 l1) (by omega), fun _ => ⟨fun _ => ⟨fun q => absurd (lt_of q e4 l1) (by omega), fun _ => ⟨fun q => absurd (lt_of q l32 e4) (by omega), fun _ => ⟨fun q => absurd (lt_of q e5 l0) (by omega), fun _ => ⟨fun _ => ?_, fun q => absurd (nle_of q e5 (iL 9)) (by omega)⟩⟩⟩⟩, fun q => absurd (nle_of q e3 (iL 3)) (by omega)⟩⟩
    refine bCall_mono (fun v M5 z => bV5_mono id (fun q6 z => ?_) z) (K _ em)
    exact ⟨fun _ => z, fun w => absurd q0 w⟩
theorem T_guess_bad {M : bM} {Q : bQ} {x1 x2 x3 x4 x5 : Int32} (hn : ¬ ∃ s kd m o hi, GOK x1 x2 x3 x4 x5 s kd m o hi) (K : Q (some (cI (-1 : Int32))) M) : bCall 147 [cR 26 0, cI x1, cI x2, cI x3, cI x4, cI x5] M Q := by
  obtain ⟨b, eb, b1, b2⟩ := iI_of x2
  obtain ⟨c, ec, c1, c2⟩ := iI_of x3
  obtain ⟨d, ed, d1, d2⟩ := iI_of x4
  obtain ⟨e, ee, e1, e2⟩ := iI_of x5
  refine g_X7_guess_0 ?_
  by_cases h1 : InR x1 6
  · obtain ⟨s, hs, hs6⟩ := h1
    refine T_isSeries_t hs hs6 (z1 ?_)
    by_cases g2 : 0 ≤ b ∧ b ≤ 2
    · refine T_in_t eb l0 (iL 2) g2.1 g2.2 (by omega) (by omega) (z1 ?_)
      have tail : (b = 0 ∨ 1 ≤ c ∧ c ≤ 3) → ∀ {A : bQ}, bCall 104 [cI x4, cI (1 : Int32), cI (32 : Int32)] M (fun v7 M8 => bV1 v7 fun r9 => (((r9 = 0) → (Q (some (cI (-1 : Int32))) M8)) ∧ (¬ (r9 = 0) → (bCall 104 [cI x5, cI (0 : Int32), cI (9 : Int32)] M8 (fun v10 M11 => bV1 v10 fun r12 => (((¬ r12 = 0) → A v10 M11) ∧ (¬ (¬ r12 = 0) → (Q (some (cI (-1 : Int32))) M11)))))))) := fun g3 A => by
        by_cases g4 : 1 ≤ d ∧ d ≤ 32
        · refine T_in_t ed l1 l32 g4.1 g4.2 (by omega) (by omega) (z1 ?_)
          by_cases g5 : 0 ≤ e ∧ e ≤ 9
          · exact absurd (GOK.mk' ⟨s, hs, hs6⟩ eb ec ed ee g2 g3 g4 g5) hn
          · exact T_in_f ee l0 (iL 9) e1 e2 (by omega) (by omega) (by omega) (by omega) g5 (n0 K)
        · exact T_in_f ed l1 l32 d1 d2 (by omega) (by omega) (by omega) (by omega) g4 (z0 K)
      refine ⟨fun q => ?_, fun q => ?_⟩
      · have := le_of q eb l0
        exact tail (Or.inl (by omega)) (A := fun v10 M11 => _)
      · have := nle_of q eb l0
        by_cases g3 : 1 ≤ c ∧ c ≤ 3
        · exact T_in_t ec l1 (iL 3) g3.1 g3.2 (by omega) (by omega) (z1 (tail (Or.inr g3) (A := fun v10 M11 => _)))
        · exact T_in_f ec l1 (iL 3) c1 c2 (by omega) (by omega) (by omega) (by omega) g3 (z0 K)
    · exact T_in_f eb l0 (iL 2) b1 b2 (by omega) (by omega) (by omega) (by omega) g2 (z0 K)
  · exact T_isSeries_f h1 (z0 K)
theorem T_guess_ok {M : bM} {Q : bQ} {x1 x2 x3 x4 x5 : Int32} {s kd m o hi : Nat} (h : GOK x1 x2 x3 x4 x5 s kd m o hi) (K : ∀ xm, xm = iI (m : Int) → (¬ (M 26 0 38) = (8 : Int32) → bCall 145 [cR 26 0, cI x1, cI x2, cI xm] M (fun v M1 => bV0 v (bGo 147 Q 82 [some (cR 26 0), some (cI x1), some (cI x2), some (cI x3), some (cI x4), some (cI x5), none, none] [] M1))) ∧ (¬ ¬ (M 26 0 38) = (8 : Int32) → Q (some (cI (-4 : Int32))) M)) : bCall 147 [cR 26 0, cI x1, cI x2, cI x3, cI x4, cI x5] M Q := by
  obtain ⟨⟨e1, h1⟩, ⟨e2, h2⟩, h3, ⟨e4, h4, h4'⟩, e5, h5⟩ := h
  refine g_X7_guess_0 (T_isSeries_t e1 h1 (z1 (T_in_t e2 l0 (iL 2) (by omega) (by omega) (by omega) (by omega) (z1 ⟨fun q0 => ?_, fun q0 => ?_⟩))))
  · have hk := le_of q0 e2 l0
    have hm : m = 2 := by omega
    have k0 : x2 = 0 := by rw [e2, show kd = 0 by omega]; rfl
    refine T_in_t e4 l1 l32 (by omega) (by omega) (by omega) (by omega) (z1 (T_in_t e5 l0 (iL 9) (by omega) (by omega) (by omega) (by omega) (n1 ?_)))
    obtain ⟨K1, K2⟩ := K (2 : Int32) (by rw [hm]; exact iL 2)
    exact ⟨fun z => ⟨fun w => absurd k0 w, fun _ => K1 z⟩, K2⟩
  · have hk := nle_of q0 e2 l0
    rcases h3 with z | ⟨_, e3, g1, g2⟩
    · omega
    have em : x3 + (1 : Int32) = iI (m : Int) := by
      rw [e3, l1, iI_add]
      exact iIc (by omega)
    have k0 : ¬ x2 = 0 := fun z => by
      have := eq_of z e2 l0
      omega
    refine T_in_t e3 l1 (iL 3) (by omega) (by omega) (by omega) (by omega) (z1 (T_in_t e4 l1 l32 (by omega) (by omega) (by omega) (by omega) (z1 (T_in_t e5 l0 (iL 9) (by omega) (by omega) (by omega) (by omega) (n1 ?_)))))
    obtain ⟨K1, K2⟩ := K _ em
    exact ⟨fun z => ⟨fun _ => K1 z, fun w => absurd k0 w⟩, K2⟩
theorem S_freePlace {n K : Nat} {t : Nat → Nat} {a : Nat → Int} {G : Nat} {M : bM} {Q : bQ} (h : Led n K t a G M) (K0 : K = 8 → Q (some cN) M) (K1 : K < 8 → ∀ i, i < 8 → (∀ k, k < K → t k ≠ i) → Q (some (cR 5 i)) M) : bCall 21 [cR 4 0] M Q := by
  obtain ⟨h1, h2, h3, h4, h5, h6, h7, h8⟩ := h
  have loop : ∀ (m i : Nat), i + m = 8 → ∀ (x1 : Int32), x1 = iI (i : Int) → (∀ j, j < i → ∃ k, k < K ∧ t k = j) → bGo 21 Q 2 [some (cR 4 0), some (cI x1)] [] M := by
    intro m
    induction m with
    | zero =>
      intro i hi x1 e1 hall
      refine g_X1_freePlace_2 ⟨fun _ => K0 ?_, fun q => absurd (nle_of q (iL 8) e1) (by omega)⟩
      -- all eight are taken
      obtain ⟨f, hf⟩ : ∃ f : Nat → Nat, ∀ j, j < 8 → f j < K ∧ t (f j) = j := by
        have : ∀ j, ∃ k, j < 8 → k < K ∧ t k = j := fun j => by
          by_cases q : j < 8
          · obtain ⟨k, hk⟩ := hall j (by omega)
            exact ⟨k, fun _ => hk⟩
          · exact ⟨0, fun z => absurd z q⟩
        obtain ⟨f, hf⟩ := Classical.axiomOfChoice this
        exact ⟨f, hf⟩
      have := pigeon (t := f) (k := 8) (n := K) (fun i j hij hj z => by
        have a1 := (hf i (by omega)).2
        have a2 := (hf j hj).2
        rw [z, a2] at a1
        omega) fun j hj => (hf j hj).1
      omega
    | succ m ih =>
      intro i hi x1 e1 hall
      refine g_X1_freePlace_2 ⟨fun q => absurd (le_of q (iL 8) e1) (by omega), fun _ => ⟨vin e1, fun q => ?_, fun q => ⟨vin e1, ?_⟩⟩⟩
      · rw [cl_of e1] at q
        refine ih (i + 1) (by omega) _ (inN e1) fun j hj => ?_
        by_cases hji : j = i
        · subst hji
          exact Classical.byContradiction fun z => q (h8 j (by omega) fun k hk w => z ⟨k, hk, w⟩)
        · exact hall j (by omega)
      · rw [cl_of e1] at q ⊢
        have hno : ∀ k, k < K → t k ≠ i := fun k hk z => by
          have := (h6 k hk).2.2.2.1.1
          rw [z, Decidable.of_not_not q] at this
          exact absurd this (by decide)
        have hlt : K < 8 := by
          refine Nat.lt_of_le_of_ne h1 fun z => ?_
          -- eight numbers other than i below eight
          have := pigeon (t := fun k => if t k < i then t k else t k - 1) (k := K) (n := 7) (fun k k' hkk hk' w => by
            have b1 := hno k (by omega)
            have b2 := hno k' hk'
            have b3 := (h7 k k' hkk hk').1
            have w' : (if t k < i then t k else t k - 1) = (if t k' < i then t k' else t k' - 1) := w
            split at w' <;> split at w' <;> omega) fun k hk => by
              have b1 := hno k hk
              have b2 := (h6 k hk).1
              show (if t k < i then t k else t k - 1) < 7
              split <;> omega
          omega
        exact K1 hlt i (by omega) hno
  exact g_X1_freePlace_0 (loop 8 0 rfl _ l0 fun j hj => absurd hj (Nat.not_lt_zero _))
