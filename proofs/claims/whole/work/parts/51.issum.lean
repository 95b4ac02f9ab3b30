-- needs: 06 08 09 10 11 12 13 14 15 16 17 18 19 26 27 28 29 30 31 32 33 34 41 45 46 50
/-- what the model's search for the basis reads: field, how many series, to which order, lifts, series -/
def MS (p : Int) (m o : Nat) (s : Nat → Nat) (f : Nat → Nat → Int) (M : bM) : Prop := M 26 0 0 = iI p ∧ M 26 0 25 = iI (m : Int) ∧ M 26 0 26 = iI (o : Int) ∧ (∀ j, j < m → M 37 0 j = iI (s j : Int)) ∧ ∀ j, j < m → ∀ k, k < 32 → M 36 0 (32 * j + k) = iI (f j k) ∧ 0 ≤ f j k ∧ f j k < p
theorem MS.fr {p : Int} {m o : Nat} {s : Nat → Nat} {f : Nat → Nat → Int} {M M' : bM} {L : Nat → Nat → Nat → Prop} (h : MS p m o s f M) (hf : Fr L M M') (hd : ∀ g j i, g = 26 ∧ (i = 0 ∨ i = 25 ∨ i = 26) ∨ g = 36 ∨ g = 37 → ¬ L g j i) : MS p m o s f M' := by
  have e := fun g j i z => hf g j i (hd g j i z)
  obtain ⟨h1, h2, h3, h4, h5⟩ := h
  refine ⟨(e _ _ _ (by omega)).trans h1, (e _ _ _ (by omega)).trans h2, (e _ _ _ (by omega)).trans h3, fun j hj => (e _ _ _ (by omega)).trans (h4 j hj), fun j hj k hk => ?_⟩
  rw [e 36 0 _ (by omega)]
  exact h5 j hj k hk
def MA (o A : Nat) (ja ka hd : Nat → Nat) (lf pa : Nat → Nat → Int) (M : bM) : Prop := M 26 0 31 = iI (A : Int) ∧ ∀ a, a < A → M 40 0 a = iI ((33 * ja a + ka a : Nat) : Int) ∧ M 43 0 a = iI (hd a : Int) ∧ (∀ i, i < o → M 41 0 (32 * a + i) = iI (lf a i)) ∧ ∀ b, b < 32 → M 42 0 (32 * a + b) = iI (pa a b)
theorem MA.fr {o A : Nat} {ja ka hd : Nat → Nat} {lf pa : Nat → Nat → Int} {M M' : bM} {L : Nat → Nat → Nat → Prop} (h : MA o A ja ka hd lf pa M) (hf : Fr L M M') (hd' : ∀ g j i, g = 26 ∧ i = 31 ∨ 40 ≤ g ∧ g ≤ 43 → ¬ L g j i) : MA o A ja ka hd lf pa M' := by
  have e := fun g j i z => hf g j i (hd' g j i z)
  obtain ⟨h1, h2⟩ := h
  refine ⟨(e _ _ _ (by omega)).trans h1, fun a ha => ?_⟩
  rw [e 40 0 _ (by omega), e 43 0 _ (by omega)]
  refine ⟨(h2 a ha).1, (h2 a ha).2.1, fun i hi => ?_, fun b hb => ?_⟩
  · rw [e 41 0 _ (by omega)]
    exact (h2 a ha).2.2.1 i hi
  · rw [e 42 0 _ (by omega)]
    exact (h2 a ha).2.2.2 b hb
theorem T_isSum {p : Int} {m o A : Nat} {s : Nat → Nat} {f : Nat → Nat → Int} {ja ka hd : Nat → Nat} {lf pa : Nat → Nat → Int} {M0 : bM} {Q : bQ} {j k : Nat} {x1 x2 : Int32} (h2 : 2 ≤ p) (h4 : p ≤ 997) (hm : m ≤ 4) (ho : o ≤ 32) (hMS : MS p m o s f M0) (hMA : MA o A ja ka hd lf pa M0) (hAH : AH p m o f ja ka hd lf pa A) (hj : j < m) (hk : k < 1000) (e1 : x1 = iI (j : Int)) (e2 : x2 = iI (k : Int))
    (K : ∀ (M : bM) (nw no : Nat → Int), Fr (fun g _ _ => g = 44 ∨ g = 45) M0 M → (∀ i, i < o → M 44 0 i = iI (nw i) ∧ 0 ≤ nw i ∧ nw i < p) → (∀ b, b < 33 → M 45 0 b = iI (no b)) → (∀ b, 0 ≤ no b ∧ no b < p) → (∀ b, A ≤ b → no b = 0) → (∀ i, i < o → p ∣ nw i - (vec f j k i + cmb f ja ka A no i)) → (∀ a, a < A → nw (hd a) = 0) → ((∀ i, i < o → nw i = 0) → Q (some (cI (1 : Int32))) M) ∧ ((∃ i, i < o ∧ nw i ≠ 0) → Q (some (cI (0 : Int32))) M)) : bCall 119 [cR 26 0, cI x1, cI x2] M0 Q := by
  have hA := hAH.few
  obtain ⟨a1, a2, a3, a4, a5, a6, a7, a8⟩ := hAH
  obtain ⟨s1, s2, s3, s4, s5⟩ := hMS
  obtain ⟨t1, t2⟩ := hMA
  -- is nothing left?
  have last : ∀ (M : bM) (nw no : Nat → Int), Fr (fun g _ _ => g = 44 ∨ g = 45) M0 M → (∀ i, i < o → M 44 0 i = iI (nw i) ∧ 0 ≤ nw i ∧ nw i < p) → (∀ b, b < 33 → M 45 0 b = iI (no b)) → (∀ b, 0 ≤ no b ∧ no b < p) → (∀ b, A ≤ b → no b = 0) → (∀ i, i < o → p ∣ nw i - (vec f j k i + cmb f ja ka A no i)) → (∀ a, a < A → nw (hd a) = 0) → ∀ (n i : Nat), i + n = o → ∀ (x3 : Int32) (o4 o5 : Option bV), x3 = iI (i : Int) → (∀ i', i' < i → nw i' = 0) → bGo 119 Q 212 [some (cR 26 0), some (cI x1), some (cI x2), some (cI x3), o4, o5] [] M := by
    intro M nw no hF g1 g2 g3 g4 g5 g6 n
    have hto : M 26 0 26 = iI (o : Int) := by rw [hF _ _ _ (by omega)]; exact s3
    obtain ⟨k1, k0⟩ := K M nw no hF g1 g2 g3 g4 g5 g6
    induction n with
    | zero =>
      intro i hi x3 o4 o5 e3 hz
      have hio : i = o := by omega
      subst hio
      refine g_X7_isSum_212 ⟨fun _ => ⟨fun q => absurd (by rw [e3, hto]) q, fun _ => ⟨Or.inr rfl, k1 hz⟩⟩, fun q => ?_⟩
      have := nle_of q hto e3
      omega
    | succ n ih =>
      intro i hi x3 o4 o5 e3 hz
      have hne : ¬ x3 = M 26 0 26 := fun z => by
        have := eq_of z e3 hto
        omega
      refine g_X7_isSum_212 ⟨fun q => ?_, fun _ => ⟨vin e3, fun q => ⟨fun _ => ⟨Or.inl rfl, k0 ⟨i, by omega, ?_⟩⟩, fun q2 => absurd hne q2⟩, fun q => ?_⟩⟩
      · have := le_of q hto e3
        omega
      · rw [cl_of e3] at q
        exact ne_of' q (g1 i (by omega)).1 l0
      · rw [cl_of e3] at q
        have hb := (g1 i (by omega)).2
        have := eq_of (Decidable.of_not_not q) (g1 i (by omega)).1 l0
        refine ih (i + 1) (by omega) _ _ _ (inN e3) fun i' hi' => ?_
        by_cases hii : i' = i
        · rw [hii]
          exact this
        · exact hz i' (by omega)
  -- less what those ahead make of it
  have main : ∀ (n a : Nat), a + n = A → ∀ (M : bM) (nw no : Nat → Int) (x3 : Int32) (o4 o5 : Option bV), x3 = iI (a : Int) → Fr (fun g _ _ => g = 44 ∨ g = 45) M0 M → (∀ i, i < o → M 44 0 i = iI (nw i) ∧ 0 ≤ nw i ∧ nw i < p) → (∀ b, b < 33 → M 45 0 b = iI (no b)) → (∀ b, 0 ≤ no b ∧ no b < p) → (∀ b, A ≤ b → no b = 0) → (∀ i, i < o → p ∣ nw i - (vec f j k i + cmb f ja ka A no i)) → (∀ b, b < a → nw (hd b) = 0) → bGo 119 Q 67 [some (cR 26 0), some (cI x1), some (cI x2), some (cI x3), o4, o5] [] M := by
    intro n
    induction n with
    | zero =>
      intro a ha M nw no x3 o4 o5 e3 hF g1 g2 g3 g4 g5 g6
      have haA : a = A := by omega
      subst haA
      have hAm : M 26 0 31 = iI (a : Int) := by rw [hF _ _ _ (by omega)]; exact t1
      refine g_X7_isSum_67 ⟨fun _ => last M nw no hF g1 g2 g3 g4 g5 g6 o 0 (by omega) _ _ _ l0 fun i hi => absurd hi (Nat.not_lt_zero _), fun q => ?_⟩
      have := nle_of q hAm e3
      omega
    | succ n ih =>
      intro a ha M nw no x3 o4 o5 e3 hF g1 g2 g3 g4 g5 g6
      have haA : a < A := by omega
      have hAm : M 26 0 31 = iI (A : Int) := by rw [hF _ _ _ (by omega)]; exact t1
      have hto : M 26 0 26 = iI (o : Int) := by rw [hF _ _ _ (by omega)]; exact s3
      have hhd : M 43 0 a = iI (hd a : Int) := by rw [hF _ _ _ (by omega)]; exact (t2 a haA).2.1
      have hh := (a1 a haA).2.2
      have hv := g1 (hd a) hh
      refine g_X7_isSum_67 ⟨fun q => absurd (le_of q hAm e3) (by omega), fun _ => ⟨vin e3, ?_, ?_⟩⟩
      · rw [cl_of e3]
        exact vin hhd
      · rw [cl_of e3, cl_of hhd, hv.1]
        by_cases hv0 : nw (hd a) = 0
        · rw [hv0]
          have hgo : ∀ x5, bGo 119 Q 149 [some (cR 26 0), some (cI x1), some (cI x2), some (cI x3), some (cI (iI 0)), some (cI x5)] [] M := fun x5 => by
            have hnx := fun o4 o5 => ih (a + 1) (by omega) M nw no (x3 + 1) o4 o5 (inN e3) hF g1 g2 g3 g4 g5 fun b hb => by
              by_cases q : b = a
              · rw [q]; exact hv0
              · exact g6 b (by omega)
            exact g_X7_isSum_149 ⟨fun _ => hnx _ _, fun _ => ⟨fun _ => hnx _ _, fun q => absurd rfl q⟩⟩
          exact g_X7_isSum_91 ⟨fun _ => hgo _, fun _ => ⟨fun _ => hgo _, fun q => absurd rfl q⟩⟩
        · have hvne : ¬ iI (nw (hd a)) = 0 := fun z => hv0 (eq_of z rfl l0)
          generalize hv' : nw (hd a) = v at *
          have hvb := hv.2
          -- the coefficients
          have coefs : ∀ (M1 : bM), Blk M M1 44 0 0 o (fun i => (nw i - v * lf a i) % p) → ∀ (n b : Nat), b + n = A → ∀ (M2 : bM) (x5 : Int32), x5 = iI (b : Int) → Blk M1 M2 45 0 0 b (fun b => (no b - v * pa a b) % p) → bGo 119 Q 149 [some (cR 26 0), some (cI x1), some (cI x2), some (cI x3), some (cI (iI v)), some (cI x5)] [] M2 := by
            intro M1 hB1 n
            induction n with
            | zero =>
              intro b hb M2 x5 e5 hB
              have hbA : b = A := by omega
              subst hbA
              have hAm2 : M2 26 0 31 = iI (b : Int) := by rw [hB.keep (by omega), hB1.keep (by omega)]; exact hAm
              refine g_X7_isSum_149 ⟨fun _ => ?_, fun q => absurd (nle_of q hAm2 e5) (by omega)⟩
              refine ih (a + 1) (by omega) M2 (fun i => (nw i - v * lf a i) % p) (fun c => if c < b then (no c - v * pa a c) % p else 0) _ _ _ (inN e3) ((hF.trans (hB1.fr.trans hB.fr)).mono ?_) (fun i hi => ⟨?_, Int.emod_nonneg _ (by omega), Int.emod_lt_of_pos _ (by omega)⟩) (fun c hc => ?_) (fun c => ?_) (fun c hc => if_neg (by omega)) (fun i hi => ?_) fun c hc => ?_
              · intro g j i h
                simp only [oL] at h
                omega
              · rw [hB.keep (by omega), hB1.at (by omega) hi]
              · by_cases q : c < b
                · rw [if_pos q, hB.at (by omega) q]
                · rw [if_neg q, hB.keep (by omega), hB1.keep (by omega), g2 c hc, g4 c (by omega)]
              · split
                · exact ⟨Int.emod_nonneg _ (by omega), Int.emod_lt_of_pos _ (by omega)⟩
                · omega
              · have w1 := emod_like (p := p) (nw i - v * lf a i)
                have w2 := g5 i hi
                have w3 := a4 a haA i hi
                rw [← cmb_ext (A := a + 1) (B := b) (by omega) (fun c h1 h2 => a8 a c haA (by omega))] at w3
                have w4 : p ∣ cmb f ja ka b (fun c => if c < b then (no c - v * pa a c) % p else 0) i - cmb f ja ka b (fun c => no c - v * pa a c) i := cmb_like fun c hc => by
                  show p ∣ (if c < b then _ else _) - (no c - v * pa a c)
                  rw [if_pos hc]
                  exact emod_like _
                rw [cmb_sub] at w4
                show p ∣ (nw i - v * lf a i) % p - _
                generalize (nw i - v * lf a i) % p = Z at *
                generalize cmb f ja ka b (fun c => if c < b then (no c - v * pa a c) % p else 0) i = X at *
                generalize cmb f ja ka b no i = Y at *
                generalize cmb f ja ka b (pa a) i = W at *
                have w5 := Int.dvd_sub (Int.dvd_sub (Int.dvd_add w1 w2) (Int.dvd_mul_of_dvd_right (b := v) w3)) w4
                have e : Z - (nw i - v * lf a i) + (nw i - (vec f j k i + Y)) - v * (lf a i - W) - (X - (Y - v * W)) = Z - (vec f j k i + X) := by
                  rw [Int.mul_sub]
                  omega
                rwa [e] at w5
              · by_cases q : c = a
                · subst q
                  show (nw (hd c) - v * lf c (hd c)) % p = 0
                  rw [hv', a5 c haA, Int.mul_one, Int.sub_self, Int.zero_emod]
                · show (nw (hd c) - v * lf a (hd c)) % p = 0
                  rw [g6 c (by omega), a6 a c (by omega) haA, Int.mul_zero, Int.sub_zero, Int.zero_emod]
            | succ n ihn =>
              intro b hb M2 x5 e5 hB
              have hAm2 : M2 26 0 31 = iI (A : Int) := by rw [hB.keep (by omega), hB1.keep (by omega)]; exact hAm
              have r1 := g3 b
              have r2 := a3 a haA b
              have r3 := mul_bd hvb.1 hvb.2 r2.1 r2.2 h4
              refine g_X7_isSum_149 ⟨fun q => absurd (le_of q hAm2 e5) (by omega), fun _ => ⟨fun q => absurd q hvne, fun _ => ⟨vin e5, vin (s32 e3 e5), ?_⟩⟩⟩
              rw [cl_of e5, cl_of (s32 e3 e5)]
              refine T_mod (p := p) (z := no b - v * pa a b) ?_ (iI_long ?_ (by omega) (by omega)) (by omega) (by omega) (by omega) h4 ⟨vin e5, ?_⟩
              · rw [hB.keep (by omega), hB1.keep (by omega), hF _ _ _ (by omega)]
                exact s1
              · rw [hB.keep (by omega), hB1.keep (by omega), g2 b (by omega), hB.keep (by omega), hB1.keep (by omega), hF _ _ _ (by omega), (t2 a haA).2.2.2 b (by omega), iI_mul, iI_sub]
              · exact ihn (b + 1) (by omega) _ _ (inN e5) (hB.up (by omega) rfl)
          have terms : ∀ (n i : Nat), i + n = o → ∀ (M1 : bM) (x5 : Int32), x5 = iI (i : Int) → Blk M M1 44 0 0 i (fun i => (nw i - v * lf a i) % p) → bGo 119 Q 91 [some (cR 26 0), some (cI x1), some (cI x2), some (cI x3), some (cI (iI v)), some (cI x5)] [] M1 := by
            intro n
            induction n with
            | zero =>
              intro i hi M1 x5 e5 hB
              have hio : i = o := by omega
              subst hio
              have hto2 : M1 26 0 26 = iI (i : Int) := by rw [hB.keep (by omega)]; exact hto
              exact g_X7_isSum_91 ⟨fun _ => coefs M1 hB A 0 (by omega) M1 _ l0 Blk.start, fun q => absurd (nle_of q hto2 e5) (by omega)⟩
            | succ n ihn =>
              intro i hi M1 x5 e5 hB
              have hto2 : M1 26 0 26 = iI (o : Int) := by rw [hB.keep (by omega)]; exact hto
              have r1 := (g1 i (by omega)).2
              have r2 := a2 a haA i (by omega)
              have r3 := mul_bd hvb.1 hvb.2 r2.1 r2.2 h4
              refine g_X7_isSum_91 ⟨fun q => absurd (le_of q hto2 e5) (by omega), fun _ => ⟨fun q => absurd q hvne, fun _ => ⟨vin e5, vin (s32 e3 e5), ?_⟩⟩⟩
              rw [cl_of e5, cl_of (s32 e3 e5)]
              refine T_mod (p := p) (z := nw i - v * lf a i) ?_ (iI_long ?_ (by omega) (by omega)) (by omega) (by omega) (by omega) h4 ⟨vin e5, ?_⟩
              · rw [hB.keep (by omega), hF _ _ _ (by omega)]
                exact s1
              · rw [hB.keep (by omega), (g1 i (by omega)).1, hB.keep (by omega), hF _ _ _ (by omega), (t2 a haA).2.2.1 i (by omega), iI_mul, iI_sub]
              · exact ihn (i + 1) (by omega) _ _ (inN e5) (hB.up (by omega) rfl)
          exact terms o 0 (by omega) M _ l0 Blk.start
  -- zeros
  have zeros : ∀ (M1 : bM), Blk M0 M1 44 0 0 o (vec f j k) → ∀ (n b : Nat), b + n = 33 → ∀ (M : bM) (x3 : Int32) (o4 o5 : Option bV), x3 = iI (b : Int) → Blk M1 M 45 0 0 b (fun _ => 0) → bGo 119 Q 46 [some (cR 26 0), some (cI x1), some (cI x2), some (cI x3), o4, o5] [] M := by
    intro M1 hB1 n
    induction n with
    | zero =>
      intro b hb M x3 o4 o5 e3 hB
      have hb33 : b = 33 := by omega
      subst hb33
      refine g_X7_isSum_46 ⟨fun _ => ?_, fun q => absurd (nle_of q (iL 33) e3) (by omega)⟩
      refine main A 0 (by omega) M (vec f j k) (fun _ => 0) _ _ _ l0 ((hB1.fr.trans hB.fr).mono ?_) (fun i hi => ⟨?_, ?_⟩) (fun c hc => hB.at (by omega) hc) (fun c => ⟨Int.le_refl _, by show (0 : Int) < p; omega⟩) (fun _ _ => rfl) (fun i hi => ?_) fun c hc => absurd hc (Nat.not_lt_zero _)
      · intro g j i h
        simp only [oL] at h
        omega
      · rw [hB.keep (by omega), hB1.at (by omega) hi]
      · unfold vec
        split
        · omega
        · exact (s5 j hj (i - k) (by omega)).2
      · have e0 : cmb f ja ka A (fun _ => 0) i = 0 := by
          unfold cmb
          exact sm_0 fun b hb => Int.zero_mul _
        rw [e0, Int.add_zero, Int.sub_self]
        exact Int.dvd_zero p
    | succ n ih =>
      intro b hb M x3 o4 o5 e3 hB
      refine g_X7_isSum_46 ⟨fun q => absurd (le_of q (iL 33) e3) (by omega), fun _ => ⟨vin e3, ?_⟩⟩
      rw [cl_of e3]
      exact ih (b + 1) (by omega) _ _ _ _ (inN e3) (hB.up (by omega) l0)
  have first : ∀ (n i : Nat), i + n = o → ∀ (M : bM) (x3 : Int32) (o4 o5 : Option bV), x3 = iI (i : Int) → Blk M0 M 44 0 0 i (vec f j k) → bGo 119 Q 2 [some (cR 26 0), some (cI x1), some (cI x2), some (cI x3), o4, o5] [] M := by
    intro n
    induction n with
    | zero =>
      intro i hi M x3 o4 o5 e3 hB
      have hio : i = o := by omega
      subst hio
      have hto : M 26 0 26 = iI (i : Int) := by rw [hB.keep (by omega)]; exact s3
      exact g_X7_isSum_2 ⟨fun _ => zeros M hB 33 0 rfl M _ _ _ l0 Blk.start, fun q => absurd (nle_of q hto e3) (by omega)⟩
    | succ n ih =>
      intro i hi M x3 o4 o5 e3 hB
      have hto : M 26 0 26 = iI (o : Int) := by rw [hB.keep (by omega)]; exact s3
      refine g_X7_isSum_2 ⟨fun q => absurd (le_of q hto e3) (by omega), fun _ => ⟨fun q => ?_, fun q => ⟨vin e3, ?_⟩⟩⟩
      · have hki := le_of q e2 e3
        have ep : (32 : Int32) * x1 + x3 - x2 = iI ((32 * j + (i - k) : Nat) : Int) := by
          rw [s32 e1 e3, e2, iI_sub]
          exact iIc (by omega)
        refine ⟨vin ep, vin e3, ?_⟩
        rw [cl_of ep, cl_of e3]
        refine ih (i + 1) (by omega) _ _ _ _ (inN e3) (hB.up (by omega) ?_)
        rw [hB.keep (by omega), (s5 j hj (i - k) (by omega)).1]
        unfold vec
        rw [if_neg (by omega)]
      · have hki := nle_of q e2 e3
        rw [cl_of e3]
        refine ih (i + 1) (by omega) _ _ _ _ (inN e3) (hB.up (by omega) ?_)
        unfold vec
        rw [if_pos (by omega)]
        exact l0
  exact g_X7_isSum_0 (first o 0 (by omega) M0 _ _ _ l0 Blk.start)
