-- needs: 06 08 09 10 11 12 13 14 15 16 17 18 19 26 27 28 29 30 31 32 33 34 35 37 39 41 42 43 45 46 47 48 49 50 51 52 53 54 55 56 57 58 59 60 61 62 63 65
theorem S_copyPolynomial {t j jr m : Nat} {C : Nat → Int} {M0 : bM} {Q : bQ} {x1 : Int32} (h4 : M0 5 t 4 = iI (m : Int)) (hm : m ≤ 4) (hj : j < m) (e1 : x1 = iI (j : Int)) (hC : ∀ e, e < 10 → M0 15 (4 * t + j) e = iI (C e)) (h0 : ∀ e, 10 ≤ e → C e = 0) (K : ∀ M, Blk M0 M 7 jr 0 32 C → Q none M) : bCall 37 [cR 5 t, cI x1, cR 7 jr] M0 Q := by
  refine g_X3_copyPolynomial_0 (S_fill7 l0 fun M1 hB1 => ?_)
  have loop : ∀ (n k : Nat), k + n = 10 → ∀ (M : bM) (x3 : Int32), x3 = iI (k : Int) → Blk M1 M 7 jr 0 k C → bGo 37 Q 7 [some (cR 5 t), some (cI x1), some (cR 7 jr), some (cI x3)] [] M := by
    intro n
    induction n with
    | zero =>
      intro k hk M x3 e3 hB
      have : k = 10 := by omega
      subst this
      refine g_X3_copyPolynomial_7 ⟨fun _ => K M ⟨fun g' j' hne => ?_, fun i h1 h2 => ?_, fun i h1 => ?_⟩, fun q => absurd (nle_of q (iL 10) e3) (by omega)⟩
      · rw [hB.1 g' j' hne, hB1.1 g' j' hne]
      · by_cases q : i < 10
        · exact hB.at (by omega) q
        · rw [hB.keep (by omega), hB1.at (by omega) h2, h0 i (by omega)]
      · rw [hB.keep (by omega), hB1.keep (by omega)]
    | succ n ih =>
      intro k hk M x3 e3 hB
      refine g_X3_copyPolynomial_7 ⟨fun q => absurd (le_of q (iL 10) e3) (by omega), fun _ => ?_⟩
      refine S_coefficient_t (m := m) (by rw [hB.keep (by omega), hB1.keep (by omega)]; exact h4) hm e1 hj e3 (by omega) ⟨vin e3, ?_⟩
      rw [cl_of e3]
      refine ih (k + 1) (by omega) _ _ (inN e3) (hB.up (Nat.zero_le _) ?_)
      rw [hB.keep (by omega), hB1.keep (by omega)]
      exact hC k (by omega)
  exact loop 10 0 rfl M1 _ l0 Blk.start
theorem dv_neg {p : Int} {f g : Nat → Int} : ∀ (n k : Nat), k < n → dv p (fun e => (-f e) % p) g k = (-dv p f g k) % p
  | 0, k, h => absurd h (Nat.not_lt_zero k)
  | n + 1, k, h => by
    rw [dv_eq, dv_eq k]
    refine emod_congr ?_
    have h1 : sm (fun t => g (t + 1) * dv p (fun e => (-f e) % p) g (k - (t + 1))) k = sm (fun t => g (t + 1) * ((-dv p f g (k - (t + 1))) % p)) k := sm_congr fun i hi => by
      rw [dv_neg n (k - (i + 1)) (by omega)]
    rw [h1]
    -- all by p
    have h2 : p ∣ sm (fun t => g (t + 1) * ((-dv p f g (k - (t + 1))) % p)) k - -1 * sm (fun t => g (t + 1) * dv p f g (k - (t + 1))) k := by
      rw [← sm_sub]
      refine sm_dvd fun i hi => ?_
      have h3 := emod_like (p := p) (-dv p f g (k - (i + 1)))
      have h4 : p ∣ g (i + 1) * ((-dv p f g (k - (i + 1))) % p - -dv p f g (k - (i + 1))) := Int.dvd_mul_of_dvd_right h3
      have e : g (i + 1) * ((-dv p f g (k - (i + 1))) % p) - -1 * (g (i + 1) * dv p f g (k - (i + 1))) = g (i + 1) * ((-dv p f g (k - (i + 1))) % p - -dv p f g (k - (i + 1))) := by
        rw [Int.mul_sub, Int.mul_neg]
        omega
      rw [e]
      exact h4
    generalize sm (fun t => g (t + 1) * ((-dv p f g (k - (t + 1))) % p)) k = X at *
    generalize sm (fun t => g (t + 1) * dv p f g (k - (t + 1))) k = Y at *
    have a1 := emod_like (p := p) ((-f k) % p - X)
    have a2 := emod_like (p := p) (-f k)
    have a3 := emod_like (p := p) (f k - Y)
    have a4 := emod_like (p := p) ((f k - Y) % p * ivN p (g 0))
    have b1 : p ∣ ((-f k) % p - X) % p + (f k - Y) % p := by
      have s1 := Int.dvd_add a1 a2
      have s2 := Int.dvd_add s1 a3
      have s3 := Int.dvd_sub s2 h2
      have e : ((-f k) % p - X) % p - ((-f k) % p - X) + ((-f k) % p - -f k) + ((f k - Y) % p - (f k - Y)) - (X - -1 * Y) = ((-f k) % p - X) % p + (f k - Y) % p := by omega
      rwa [e] at s3
    have b2 := Int.dvd_mul_of_dvd_left (c := ivN p (g 0)) b1
    have b3 := Int.dvd_add b2 a4
    have e : (((-f k) % p - X) % p + (f k - Y) % p) * ivN p (g 0) + ((f k - Y) % p * ivN p (g 0) % p - (f k - Y) % p * ivN p (g 0)) = ((-f k) % p - X) % p * ivN p (g 0) - -((f k - Y) % p * ivN p (g 0) % p) := by
      rw [Int.add_mul]
      omega
    rwa [e] at b3
theorem Led.fr {n K : Nat} {t : Nat → Nat} {a : Nat → Int} {G : Nat} {M M' : bM} {L : Nat → Nat → Nat → Prop} (h : Led n K t a G M) (hf : Fr L M M') (hd : ∀ g j i, rdL g j i → ¬ L g j i) : Led n K t a G M' := by
  have e := fun g j i z => hf g j i (hd g j i z)
  obtain ⟨h1, h2, h3, h4, h5, h6, h7, h8⟩ := h
  refine ⟨h1, h2, (e 26 0 38 (by unfold rdL; omega)).trans h3, (e 26 0 39 (by unfold rdL; omega)).trans h4, (e 4 0 1 (by unfold rdL; omega)).trans h5, fun k hk => ?_, h7, fun i hi hn => (e 5 i 1 (by unfold rdL; omega)).trans (h8 i hi hn)⟩
  obtain ⟨a1, a2, a3, a4⟩ := h6 k hk
  exact ⟨a1, a2, a3, a4.fr hf hd⟩
theorem P_toldOn {n : Nat} {M : bM} {x1 x2 : Int32} (hn : n < 1000000) (h : Rel n M) : bCall 101 [cR 0 0, cI x1, cI x2] M (fun v M1 => bCall 173 [cR 26 0, cI x1, cI x2] M1 (Alike (n + 1) v)) := by
  obtain ⟨p, S, c, u, L, hR⟩ := h
  obtain ⟨K, t, a, G, hL⟩ := hR.2.2.2.2.2.1.led
  have hR' := hR
  obtain ⟨⟨hp1, hp2, h2, h4, hP⟩, hS, r3, r4, r5, r6, r7⟩ := hR'
  refine g_X6_toldOn_0 ?_
  by_cases hs : InR x2 6
  · obtain ⟨s, e2, hs6⟩ := hs
    refine S_isSeries_t e2 hs6 (n1 ?_)
    by_cases hex : ∃ k, k < K ∧ x1 = iI (a k)
    · obtain ⟨k, hk, hx⟩ := hex
      have hL' := hL
      obtain ⟨L1, L2, L3, L4, L5, L6, L7, L8⟩ := hL'
      obtain ⟨ht8, ha0, haG, ⟨⟨c1, c2, c3⟩, ⟨kd, m, q, hkd, hm2, hm4, hq2, hq4, hkm, v3, w47, v4, w48, v8, w52, hC⟩, _⟩⟩ := L6 k hk
      refine S_find_t hL hn hk hx ⟨rfl, ?_⟩
      dsimp only
      rw [v3, v8, hp1]
      -- the model, up to its answer, at any state with the model's own part as it was
      have hend : ∀ {Q : bQ} (M' : bM), Fr (fun g _ i => g = 7 ∨ g = 0 ∧ i = 7) M M' → ((kd ≠ 0 ∨ q ≠ p ∨ (∃ C : Nat → Int, (∀ e, e < 33 → M 53 0 (132 * k + 33 * 1 + e) = iI (C e)) ∧ (∀ e, 0 ≤ C e ∧ C e < q) ∧ C 0 = 0)) → Q (some (cI (-2 : Int32))) M') → ((kd = 0 → q = p → ¬ M 53 0 (132 * k + 33) = 0 → bGo 173 Q 66 [some (cR 26 0), some (cI x1), some (cI x2), some (cI (iI (k : Int))), some (cI (0 : Int32))] [] M')) → bCall 173 [cR 26 0, cI x1, cI x2] M' Q := by
        intro Q M' hMF k1 k2
        have hM' : ∀ g j i, 26 ≤ g → M' g j i = M g j i := fun g j i hg => hMF g j i (by omega)
        refine g_X7_toldOn_0 (T_isSeries_t e2 hs6 (n1 ?_))
        -- the place of the number
        have hplace : ∀ {Q : bQ}, Q (some (cI (iI (k : Int)))) M' → bCall 113 [cR 26 0, cI x1] M' Q := fun {Q} h => T_placeOf_t (hL.fr hMF fun g j i z => by unfold rdL at z; omega) hn hk hx h
        refine hplace ⟨fun _ => ⟨vin rfl, ?_⟩, fun z => absurd (show (0 : Int32) ≤ iI (k : Int) by rw [l0, iI_le (by omega) (by omega) (by omega) (by omega)]; omega) z⟩
        rw [cl_of (n := k) rfl, hM' 47 0 k (by omega), w47]
        refine ⟨fun z => k1 (Or.inl fun w => z (by rw [w]; rfl)), fun z => ⟨vin rfl, ?_⟩⟩
        have hk0 : kd = 0 := by
          have := eq_of (Decidable.of_not_not z) rfl l0
          omega
        rw [hM' 52 0 k (by omega), hM' 26 0 0 (by omega), w52, hp2]
        refine ⟨fun z => k1 (Or.inr (Or.inl fun w => z (by rw [w]))), fun z => ?_⟩
        have hqp : q = p := eq_of (Decidable.of_not_not z) rfl rfl
        have p1 : ((132 : Int32) * iI (k : Int)) + (33 : Int32) = iI ((132 * k + 33 : Nat) : Int) := by
          rw [iL 132, iL 33, iI_mul, iI_add]
          exact iIc (by omega)
        refine ⟨vin p1, ?_⟩
        rw [cl_of p1, hM' 53 0 _ (by omega)]
        refine ⟨fun z => k2 hk0 hqp z, fun z => k1 (Or.inr (Or.inr ?_))⟩
        obtain ⟨C, d1, d2, d3, d4⟩ := hC 1 (by omega)
        refine ⟨C, d4, d1, ?_⟩
        have := d4 0 (by omega)
        rw [show 132 * k + 33 * 1 + 0 = 132 * k + 33 by omega, Decidable.of_not_not z] at this
        have b := d1 0
        exact (eq_of this l0 rfl).symm
      refine ⟨fun z => ?_, fun z => ⟨fun w => ?_, fun w => ?_⟩⟩
      · refine hend M (Fr.refl.mono fun _ _ _ z => z.elim) (fun _ => alike rfl hR.same) fun k0 _ _ => absurd (show iI (kd : Int) = 0 by rw [k0]; rfl) z
      · refine hend M (Fr.refl.mono fun _ _ _ z => z.elim) (fun _ => alike rfl hR.same) fun _ k0 _ => absurd (by rw [k0]) w
      · have hk0 : kd = 0 := by
          have := eq_of (Decidable.of_not_not z) rfl l0
          omega
        have hqp : q = p := eq_of (Decidable.of_not_not w) rfl rfl
        have hm : m = 2 := hkm hk0
        subst hqp
        subst hm
        obtain ⟨C0, d1, d2, d3, d4⟩ := hC 0 (by omega)
        obtain ⟨C1, f1, f2, f3, f4⟩ := hC 1 (by omega)
        refine S_coefficient_t (m := 2) (j := 1) (k := 0) v4 (by omega) (iL 1) (by omega) l0 (by omega) ⟨fun y => ?_, fun y => ?_⟩
        · rw [f3 0 (by omega)] at y
          refine S_copyPolynomial (m := 2) (j := 0) (C := C0) v4 (by omega) (by omega) l0 d3 d2 fun M1 hB1 => S_copyPolynomial (m := 2) (j := 1) (C := C1) (by rw [hB1.keep (by omega)]; exact v4) (by omega) (by omega) (iL 1) (fun e he => by rw [hB1.keep (by omega)]; exact f3 e he) f2 fun M2 hB2 => ?_
          refine S_divide (f := C0) (g := C1) (by rw [hB2.keep (by omega), hB1.keep (by omega)]; exact hp1) h2 h4 (by decide) (by decide) (by decide) (fun i hi => ⟨by rw [hB2.keep (by omega), hB1.at (by omega) hi], d1 i⟩) (fun i hi => ⟨hB2.at (by omega) hi, f1 i⟩) fun M3 hF3 g3 => ⟨vin e2, ?_⟩
          have hF3' : ∀ g j i, ¬ (g = 7 ∧ (j = 12 ∨ j = 6)) → M3 g j i = M2 g j i := fun g j i hh => congrFun (hF3 g j (fun z => hh (by cases z; exact ⟨rfl, Or.inl rfl⟩)) (fun z => hh (by cases z; exact ⟨rfl, Or.inr rfl⟩))) i
          rw [cl_of e2]
          have hdb := fun i => dv_bd (p := q) (f := C0) (g := C1) (by omega) i
          refine S_combine (a := -1) (b := 0) (f := dv q C0 C1) (g := dv q C0 C1) (p := q) (by rw [hF3' _ _ _ (by omega), hB2.keep (by omega), hB1.keep (by omega)]; exact hp1) (by omega) h4 rfl (by omega) (by omega) l0 (by omega) (by omega) (fun i hi => ⟨g3 i hi, hdb i⟩) (fun i hi => ⟨g3 i hi, hdb i⟩) fun M4 hB4 => ⟨Or.inr rfl, ?_⟩
          have hFc := (((hB1.fr.trans hB2.fr).trans (L := _) (L' := fun g j _ => g = 7 ∧ (j = 12 ∨ j = 6)) hF3').trans hB4.fr).trans (bU_fr (g := 0) (j := 0) (i := 7) (x := (1 : Int32)))
          have hFc' : ∀ g j i, 26 ≤ g → (bU M4 0 0 7 (1 : Int32)) g j i = M g j i := fun g j i hg => hFc g j i (by simp only [oL]; omega)
          have h7s : ∀ i, i < 32 → (bU M4 0 0 7 (1 : Int32)) 7 s i = iI ((-dv q C0 C1 i) % q) := fun i hi => by
            rw [bU_ne (by omega), hB4.at (by omega) hi]
            refine iIc ?_
            refine emod_congr ?_
            have := emod_like (p := q) (-1)
            have h6 := Int.dvd_mul_of_dvd_left (c := dv q C0 C1 i) this
            rw [Int.sub_mul] at h6
            have e : (-1) % q * dv q C0 C1 i + 0 % q * dv q C0 C1 i - -dv q C0 C1 i = (-1) % q * dv q C0 C1 i - -1 * dv q C0 C1 i := by
              rw [Int.zero_emod]
              omega
            rw [e]
            exact h6
          have h07 : (bU M4 0 0 7 (1 : Int32)) 0 0 7 = iI 1 := by
            rw [bU_at]
            exact l1
          have hFcm : Fr (fun g j i => g = 7 ∧ (j = 6 ∨ j = 7 ∨ j = 12 ∨ j = s) ∨ g = 0 ∧ i = 7) M (bU M4 0 0 7 (1 : Int32)) := hFc.mono fun g j i z => by
            simp only [oL] at z
            omega
          generalize (bU M4 0 0 7 (1 : Int32)) = M' at *
          refine hend M' (hFcm.mono fun g j i z => by omega) (fun z => ?_) fun _ _ _ => ?_
          · rcases z with z | z | ⟨C, z1, z2, z3⟩
            · exact absurd hk0 z
            · exact absurd rfl z
            · refine absurd ?_ y
              have e1 := z1 0 (by omega)
              have e2' := f4 0 (by omega)
              rw [e1, z3] at e2'
              rw [← e2']
              exact l0.symm
          · have loop : ∀ (nn e : Nat), e + nn = 32 → ∀ (M2 : bM) (x4 : Int32), x4 = iI (e : Int) → Fr (fun g j i => g = 27 ∧ (j = 1 ∨ j = 2)) M' M2 → (∀ i, i < e → M2 27 1 i = iI ((-C0 i) % q) ∧ M2 27 2 i = iI (C1 i)) → bGo 173 (Alike (n + 1) (some (cI (1 : Int32)))) 66 [some (cR 26 0), some (cI x1), some (cI x2), some (cI (iI (k : Int))), some (cI x4)] [] M2 := by
              intro nn
              induction nn with
              | zero =>
                intro e he M2 x4 e4 hF hv
                have : e = 32 := by omega
                subst this
                have hF' : ∀ g j i, ¬ (g = 27 ∧ (j = 1 ∨ j = 2)) → M2 g j i = M' g j i := hF
                refine g_X7_toldOn_66 ⟨fun _ => ?_, fun q => absurd (nle_of q l32 e4) (by omega)⟩
                refine T_divides (f := fun e => (-C0 e) % q) (g := C1) (p := q) (by rw [hF' _ _ _ (by omega), hFc' _ _ _ (by omega)]; exact hp2) h2 h4 (by decide) (by decide) (fun i hi => ⟨(hv i hi).1, Int.emod_nonneg _ (by omega), Int.emod_lt_of_pos _ (by omega)⟩) (fun i hi => ⟨(hv i hi).2, f1 i⟩) fun M5 hB5 => T_puts (f := dv q (fun e => (-C0 e) % q) C1) e2 hs6 (fun i hi => hB5.at (by omega) hi) fun M6 hB6 => ⟨⟨1, rfl, rfl⟩, ?_⟩
                refine hR.set (t := s) (f := fun i => (-dv q C0 C1 i) % q) (fun i hi => ⟨?_, ?_, Int.emod_nonneg _ (by omega), Int.emod_lt_of_pos _ (by omega)⟩) ?_ (((hFcm.trans hF).trans hB5.fr).trans hB6.fr) fun g j i z => ?_
                · rw [hB6.keep (by omega), hB5.keep (by omega), hF' _ _ _ (by omega)]
                  exact h7s i hi
                · rw [hB6.at (by omega) (by omega), show 32 * s + i - 32 * s = i by omega, dv_neg (i + 1) i (by omega)]
                · rw [hB6.keep (by omega), hB5.keep (by omega), hF' _ _ _ (by omega)]
                  exact h07
                · unfold rdF rdC rdT rdL rdH at z
                  simp only [oL]
                  omega
              | succ nn ih =>
                intro e he M2 x4 e4 hF hv
                have hF' : ∀ g j i, ¬ (g = 27 ∧ (j = 1 ∨ j = 2)) → M2 g j i = M' g j i := hF
                have p1 : ((132 : Int32) * iI (k : Int)) + x4 = iI ((132 * k + e : Nat) : Int) := by
                  rw [e4, iL 132, iI_mul, iI_add]
                  exact iIc (by omega)
                have p2 : (((132 : Int32) * iI (k : Int)) + (33 : Int32)) + x4 = iI ((132 * k + 33 + e : Nat) : Int) := by
                  rw [e4, iL 132, iL 33, iI_mul, iI_add, iI_add]
                  exact iIc (by omega)
                have k0 := hk
                have g0 : M2 53 0 (132 * k + e) = iI (C0 e) := by
                  rw [hF' _ _ _ (by omega), hFc' _ _ _ (by omega)]
                  have := d4 e (by omega)
                  rwa [show 132 * k + 33 * 0 + e = 132 * k + e by omega] at this
                have g1 : M2 53 0 (132 * k + 33 + e) = iI (C1 e) := by
                  rw [hF' _ _ _ (by omega), hFc' _ _ _ (by omega)]
                  have := f4 e (by omega)
                  rwa [show 132 * k + 33 * 1 + e = 132 * k + 33 + e by omega] at this
                refine g_X7_toldOn_66 ⟨fun q => absurd (le_of q l32 e4) (by omega), fun _ => ⟨vin p1, ?_⟩⟩
                have b0 := d1 e
                refine T_mod (z := -C0 e) (p := q) (by rw [hF' _ _ _ (by omega), hFc' _ _ _ (by omega)]; exact hp2) (by rw [cl_of p1, g0, iI_neg]; exact iI_long rfl (by omega) (by omega)) (by omega) (by omega) (by omega) h4 ⟨vin e4, vin p2, vin e4, ?_⟩
                rw [cl_of e4, cl_of p2, bU_ne (by omega), g1]
                refine ih (e + 1) (by omega) _ _ (inN e4) (((hF.trans bU_fr).trans bU_fr).mono fun g j i z => ?_) fun i hi => ?_
                · simp only [oL] at z
                  omega
                · by_cases qq : i = e
                  · subst qq
                    rw [bU_ne (by omega), bU_at, bU_at]
                    exact ⟨rfl, rfl⟩
                  · rw [bU_ne (by omega), bU_ne (by omega), bU_ne (by omega), bU_ne (by omega)]
                    exact hv i (by omega)
            exact loop 32 0 rfl M' _ l0 (Fr.refl.mono fun _ _ _ z => z.elim) fun i hi => absurd hi (Nat.not_lt_zero _)
        · have y' := Decidable.of_not_not y
          refine hend M (Fr.refl.mono fun _ _ _ z => z.elim) (fun _ => alike rfl hR.same) fun _ _ hne => absurd ?_ hne
          have e1 := f4 0 (by omega)
          rw [show 132 * k + 33 * 1 + 0 = 132 * k + 33 by omega, ← f3 0 (by omega), y'] at e1
          exact e1
    · exact S_find_f hL hex (g_X7_toldOn_0 (T_isSeries_t e2 hs6 (n1 (T_placeOf_f hL hex ⟨fun z => absurd z (by decide), fun _ => alike rfl hR.same⟩))))
  · exact S_isSeries_f hs (n0 (g_X7_toldOn_0 (T_isSeries_f hs (n0 (alike rfl hR.same)))))
