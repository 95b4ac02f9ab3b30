-- needs: 06 08 09 10 11 12 13 14 15 16 17 18 19 26 27 28 29 30 31 32 33 34
/-! THE CLASS'S BASIS while it is built -/
def BS (p : Int) (m : Nat) (s : Nat → Nat) (f : Nat → Nat → Int) (d : Nat → Nat) (R : Nat → Nat → Nat → Int) (M : bM) : Prop := M 3 0 5 = iI (m : Int) ∧ (∀ i, i < m → M 9 1 i = iI (d i : Int) ∧ M 9 2 i = iI (s i : Int)) ∧ (∀ i, i < m → ∀ j, j < m → ∀ k, k < 42 → M 8 i (42 * j + k) = iI (R i j k)) ∧ ∀ i, i < m → ∀ k, k < 32 → M 7 (29 + i) k = iI (rs m f (R i) k % p)
theorem BS.fr {p : Int} {m : Nat} {s : Nat → Nat} {f : Nat → Nat → Int} {d : Nat → Nat} {R : Nat → Nat → Nat → Int} {M M' : bM} {L : Nat → Nat → Nat → Prop} (h : BS p m s f d R M) (hf : Fr L M M') (hd : ∀ g j i, rdB g j i → ¬ L g j i) : BS p m s f d R M' := by
  have e := fun g j i z => hf g j i (hd g j i z)
  obtain ⟨h2, h3, h4, h5⟩ := h
  refine ⟨(e 3 0 5 (by unfold rdB; omega)).trans h2, fun i hi => ?_, fun i hi j hj k hk => ?_, fun i hi k hk => ?_⟩
  · rw [e 9 1 i (by unfold rdB; omega), e 9 2 i (by unfold rdB; omega)]
    exact h3 i hi
  · rw [e 8 i _ (by unfold rdB; omega)]
    exact h4 i hi j hj k hk
  · rw [e 7 _ k (by unfold rdB; omega)]
    exact h5 i hi k hk
theorem S_height {p : Int} {m : Nat} {s : Nat → Nat} {f : Nat → Nat → Int} {d : Nat → Nat} {R : Nat → Nat → Nat → Int} {M : bM} {Q : bQ} {i : Nat} {x : Int32} (h : BS p m s f d R M) (hm : m ≤ 4) (hi : i < m) (hx : x = iI (i : Int)) (K : Q (some (cI (iI ((d i + s i : Nat) : Int)))) M) : bCall 8 [cR 3 0, cI x] M Q := by
  refine g_X0_height_0 ⟨vin hx, vin hx, ?_⟩
  rw [cl_of hx, (h.2.1 i hi).1, (h.2.1 i hi).2, iI_add, iIc (Int.natCast_add _ _).symm]
  exact K
theorem m42 {x y : Int32} {j k : Nat} (hx : x = iI (j : Int)) (hy : y = iI (k : Int)) : x * (42 : Int32) + y = iI ((42 * j + k : Nat) : Int) := by
  rw [hx, hy, iL 42, iI_mul, iI_add]
  exact iIc (by omega)
theorem S_coef {p : Int} {m : Nat} {s : Nat → Nat} {f : Nat → Nat → Int} {d : Nat → Nat} {R : Nat → Nat → Nat → Int} {M : bM} {Q : bQ} {i j k : Nat} {x y z : Int32} (h : BS p m s f d R M) (hm : m ≤ 4) (hi : i < m) (hj : j < m) (hk : k < 42) (hx : x = iI (i : Int)) (hy : y = iI (j : Int)) (hz : z = iI (k : Int)) (K : Q (some (cI (iI (R i j k)))) M) : bCall 14 [cR 3 0, cI x, cI y, cI z] M Q := by
  have e := m42 hy hz
  refine g_X0_coefficient_0 ⟨vin hx, vin e, ?_⟩
  rw [cl_of hx, cl_of e, h.2.2.1 i hi j hj k hk]
  exact K
/-- row i less c x^u times row j -/
def sub1 (p : Int) (i : Nat) (c : Int) (j u : Nat) (R : Nat → Nat → Nat → Int) : Nat → Nat → Nat → Int := fun i' j' k => if i' = i then (R i j' k - c * sh u (R j) j' k) % p else R i' j' k
theorem emod_like {p : Int} (a : Int) : p ∣ a % p - a := by
  have h1 := Int.emod_add_mul_ediv a p
  exact ⟨-(a / p), by rw [Int.mul_neg]; omega⟩
theorem emod_congr {p a b : Int} (h : p ∣ a - b) : a % p = b % p := Int.emod_eq_emod_iff_emod_sub_eq_zero.mpr (Int.emod_eq_zero_of_dvd h)
theorem sub1_rs {p : Int} {m : Nat} {f : Nat → Nat → Int} {i : Nat} {c : Int} {j u : Nat} {R : Nat → Nat → Nat → Int} (k : Nat) : p ∣ rs m f (sub1 p i c j u R i) k - (rs m f (R i) k - c * rs m f (sh u (R j)) k) := by
  rw [← rs_sub]
  refine rs_like fun j' hj' k' hk' => ?_
  show p ∣ (if i = i then (R i j' k' - c * sh u (R j) j' k') % p else R i j' k') - (R i j' k' - c * sh u (R j) j' k')
  rw [if_pos rfl]
  exact emod_like _
theorem S_subtract {p c : Int} {m : Nat} {s : Nat → Nat} {f : Nat → Nat → Int} {d : Nat → Nat} {R : Nat → Nat → Nat → Int} {M0 : bM} {Q : bQ} {i j u : Nat} {x1 x2 x3 x4 : Int32} (h : BS p m s f d R M0) (hm : m ≤ 4) (hp : M0 1 0 0 = iI p) (h2 : 2 ≤ p) (h4 : p ≤ 997) (hi : i < m) (hj : j < m) (hij : j ≠ i) (hu : u ≤ 42) (hc : 0 ≤ c) (hc' : c < p) (hb : ∀ i, i < m → ∀ j, j < m → ∀ k, 0 ≤ R i j k ∧ R i j k < p) (e1 : x1 = iI (i : Int)) (e2 : x2 = iI c) (e3 : x3 = iI (j : Int)) (e4 : x4 = iI (u : Int))
    (K : ∀ M, Fr (fun g j i' => g = 8 ∨ g = 7 ∧ j = 29 + i) M0 M → BS p m s f d (sub1 p i c j u R) M → Q none M) : bCall 11 [cR 3 0, cI x1, cI x2, cI x3, cI x4] M0 Q := by
  obtain ⟨b1, b2, b3, b4⟩ := h
  have rbd : ∀ i k, 0 ≤ rs m f (R i) k % p ∧ rs m f (R i) k % p < p := fun i k => ⟨Int.emod_nonneg _ (by omega), Int.emod_lt_of_pos _ (by omega)⟩
  -- the loop over the rests
  have rests : ∀ (M1 : bM), Fr (fun g j' _ => g = 8 ∧ j' = i) M0 M1 → (∀ j', j' < m → ∀ k, k < 42 → M1 8 i (42 * j' + k) = iI (sub1 p i c j u R i j' k)) → ∀ (n k : Nat), (n = 0 ∧ 32 ≤ k ∨ k + n = 32) → u ≤ k → ∀ (M : bM) (x5 : Int32) (o6 o7 : Option bV), x5 = iI (k : Int) → k ≤ 42 → Blk M1 M 7 (29 + i) u k (fun k => (rs m f (R i) k % p - c * (rs m f (R j) (k - u) % p)) % p) → bGo 11 Q 101 [some (cR 3 0), some (cI x1), some (cI x2), some (cI x3), some (cI x4), some (cI x5), o6, o7] [] M := by
    intro M1 hF hR n
    induction n with
    | zero =>
      intro k hk huk M x5 o6 o7 e5 hk42 hB
      refine g_X0_subtract_101 ⟨fun _ => ?_, fun q => ?_⟩
      · have hF' : ∀ g j' i', ¬ (g = 8 ∧ j' = i) → M1 g j' i' = M0 g j' i' := hF
        refine K M ?_ ⟨?_, fun i' hi' => ?_, fun i' hi' j' hj' k' hk' => ?_, fun i' hi' k' hk' => ?_⟩
        · intro g j' i' hn
          rw [hB.keep (by omega), hF' _ _ _ (by omega)]
        · rw [hB.keep (by omega), hF' _ _ _ (by omega)]
          exact b1
        · rw [hB.keep (by omega), hF' _ _ _ (by omega), hB.keep (by omega), hF' _ _ _ (by omega)]
          exact b2 i' hi'
        · rw [hB.keep (by omega)]
          by_cases hii : i' = i
          · subst hii
            exact hR j' hj' k' hk'
          · rw [hF' _ _ _ (by omega), b3 i' hi' j' hj' k' hk']
            unfold sub1
            rw [if_neg hii]
        · by_cases hii : i' = i
          · subst hii
            have hs := sub1_rs (p := p) (m := m) (f := f) (i := i') (c := c) (j := j) (u := u) (R := R) k'
            by_cases huk' : u ≤ k'
            · rw [hB.at huk' (by omega)]
              refine iIc (emod_congr ?_)
              have e : rs m f (sh u (R j)) k' = rs m f (R j) (k' - u) := by
                have := rs_sh (m := m) (f := f) (r := R j) (n := k' - u) (t := u)
                rwa [show k' - u + u = k' by omega] at this
              rw [e] at hs
              obtain ⟨w1, h1⟩ := emod_like (p := p) (rs m f (R i') k')
              obtain ⟨w2, h2⟩ := emod_like (p := p) (rs m f (R j) (k' - u))
              obtain ⟨w3, h3⟩ := hs
              refine ⟨w1 - c * w2 - w3, ?_⟩
              rw [Int.mul_sub, Int.mul_sub, ← h1, ← h3, Int.mul_left_comm, ← h2, Int.mul_sub]
              omega
            · rw [hB.keep (by omega), hF' _ _ _ (by omega), b4 i' hi' k' hk']
              refine iIc (emod_congr ?_)
              rw [rs_sh0 (by omega), Int.mul_zero, Int.sub_zero] at hs
              have := Int.dvd_neg.mpr hs
              rwa [Int.neg_sub] at this
          · rw [hB.keep (by omega), hF' _ _ _ (by omega), b4 i' hi' k' hk']
            have : sub1 p i c j u R i' = R i' := by
              funext j' k''
              unfold sub1
              rw [if_neg hii]
            rw [this]
      · have := nle_of q l32 e5
        omega
    | succ n ih =>
      intro k hk huk M x5 o6 o7 e5 hk42 hB
      have hF' : ∀ g j' i', ¬ (g = 8 ∧ j' = i) → M1 g j' i' = M0 g j' i' := hF
      have hk32 : k < 32 := by omega
      have e54 : x5 - x4 = iI ((k - u : Nat) : Int) := by
        rw [e5, e4, iI_sub]
        exact iIc (by omega)
      refine g_X0_subtract_101 ⟨fun q => ?_, fun _ => ⟨vin e1, vin e1, vin e5, vin e3, vin e54, ?_⟩⟩
      · have := le_of q l32 e5
        omega
      · rw [cl_of e1, cl_of e3, cl_of e5, cl_of e54]
        have r1 := rbd i k
        have r2 := rbd j (k - u)
        have hmul := mul_bd hc hc' r2.1 r2.2 h4
        refine S_taken (p := p) (z := rs m f (R i) k % p - c * (rs m f (R j) (k - u) % p)) ?_ ?_ (by omega) (by omega) (by omega) h4 ⟨vin e5, ?_⟩
        · rw [hB.keep (by omega), hF' _ _ _ (by omega)]
          exact hp
        · rw [hB.keep (by omega), hB.keep (by omega), hF' _ _ _ (by omega), hF' _ _ _ (by omega), b4 i hi k hk32, b4 j hj (k - u) (by omega), e2, iI_mul, iI_sub]
        · exact ih (k + 1) (by omega) (by omega) _ _ _ _ (inN e5) (by omega) (hB.up huk rfl)
  -- the loops over the polynomials
  have hrow : ∀ (n j1 : Nat), j1 + n = m → ∀ (M : bM) (x5 : Int32) (o6 o7 : Option bV), x5 = iI (j1 : Int) → Fr (fun g j' _ => g = 8 ∧ j' = i) M0 M → (∀ j', j' < j1 → ∀ k, k < 42 → M 8 i (42 * j' + k) = iI (sub1 p i c j u R i j' k)) → (∀ j', j1 ≤ j' → ∀ k, k < 42 → M 8 i (42 * j' + k) = M0 8 i (42 * j' + k)) → bGo 11 Q 3 [some (cR 3 0), some (cI x1), some (cI x2), some (cI x3), some (cI x4), some (cI x5), o6, o7] [] M := by
    intro n
    induction n with
    | zero =>
      intro j1 hj1 M x5 o6 o7 e5 hF hR hR'
      have hF' : ∀ g j' i', ¬ (g = 8 ∧ j' = i) → M g j' i' = M0 g j' i' := hF
      have hjm : j1 = m := by omega
      subst hjm
      refine g_X0_subtract_3 ⟨fun _ => ?_, fun q => ?_⟩
      · by_cases hu32 : u ≤ 32
        · exact rests M hF hR (32 - u) u (by omega) (Nat.le_refl _) M _ _ _ e4 hu Blk.start
        · exact rests M hF hR 0 u (by omega) (Nat.le_refl _) M _ _ _ e4 hu Blk.start
      · rw [hF' _ _ _ (by omega)] at q
        have := nle_of q b1 e5
        omega
    | succ n ih =>
      intro j1 hj1 M x5 o6 o7 e5 hF hR hR'
      have hF' : ∀ g j' i', ¬ (g = 8 ∧ j' = i) → M g j' i' = M0 g j' i' := hF
      have inner : ∀ (n k : Nat), k + n = 42 → u ≤ k → ∀ (M2 : bM) (x6 : Int32) (o7 : Option bV), x6 = iI (k : Int) → Blk M M2 8 i (42 * j1 + u) (42 * j1 + k) (fun t => sub1 p i c j u R i j1 (t - 42 * j1)) → bGo 11 Q 16 [some (cR 3 0), some (cI x1), some (cI x2), some (cI x3), some (cI x4), some (cI x5), some (cI x6), o7] [] M2 := by
        intro n
        induction n with
        | zero =>
          intro k hk huk M2 x6 o7 e6 hB
          have hk42 : k = 42 := by omega
          subst hk42
          refine g_X0_subtract_16 ⟨fun _ => ?_, fun q => ?_⟩
          · refine ih (j1 + 1) (by omega) M2 _ _ _ (inN e5) ((hF.trans hB.fr).mono ?_) (fun j' hj' k hk => ?_) fun j' hj' k hk => ?_
            · intro g j' i' hz
              simp only [oL] at hz
              omega
            · by_cases hjj : j' = j1
              · subst hjj
                by_cases huk' : u ≤ k
                · rw [hB.at (by omega) (by omega), show 42 * j' + k - 42 * j' = k by omega]
                · rw [hB.keep (by omega), hR' j' (Nat.le_refl _) k hk, b3 i hi j' (by omega) k hk]
                  refine iIc ?_
                  unfold sub1 sh
                  rw [if_pos rfl, if_neg huk', Int.mul_zero, Int.sub_zero]
                  have := hb i hi j' (by omega) k
                  exact (Int.emod_eq_of_lt this.1 this.2).symm
              · rw [hB.keep (by omega)]
                exact hR j' (by omega) k hk
            · rw [hB.keep (by omega)]
              exact hR' j' (by omega) k hk
          · have := nle_of q (iL 42) e6
            omega
        | succ n ihn =>
          intro k hk huk M2 x6 o7 e6 hB
          have hk42 : k < 42 := by omega
          have e56 := m42 e5 e6
          have e564 : x5 * (42 : Int32) + x6 - x4 = iI ((42 * j1 + (k - u) : Nat) : Int) := by
            rw [e56, e4, iI_sub]
            exact iIc (by omega)
          refine g_X0_subtract_16 ⟨fun q => ?_, fun _ => ⟨vin e1, vin e56, vin e3, vin e564, vin e1, ?_⟩⟩
          · have := le_of q (iL 42) e6
            omega
          · rw [cl_of e1, cl_of e3, cl_of e56, cl_of e564]
            have r1 := hb i hi j1 (by omega) k
            have r2 := hb j hj j1 (by omega) (k - u)
            have hmul := mul_bd hc hc' r2.1 r2.2 h4
            refine S_taken (p := p) (z := R i j1 k - c * R j j1 (k - u)) ?_ ?_ (by omega) (by omega) (by omega) h4 ⟨vin e56, ?_⟩
            · rw [hB.keep (by omega), hF' _ _ _ (by omega)]
              exact hp
            · rw [hB.keep (by omega), hB.keep (by omega), hR' j1 (Nat.le_refl _) k hk42, hF' 8 j _ (by omega), b3 i hi j1 (by omega) k hk42, b3 j hj j1 (by omega) (k - u) (by omega), e2, iI_mul, iI_sub]
            · refine ihn (k + 1) (by omega) (by omega) _ _ _ (inN e6) (hB.up (by omega) (iIc ?_))
              show _ = sub1 p i c j u R i j1 (42 * j1 + k - 42 * j1)
              rw [show 42 * j1 + k - 42 * j1 = k by omega]
              unfold sub1 sh
              rw [if_pos rfl, if_pos huk]
      refine g_X0_subtract_3 ⟨fun q => ?_, fun _ => ?_⟩
      · rw [hF' _ _ _ (by omega)] at q
        have := le_of q b1 e5
        omega
      · exact inner (42 - u) u (by omega) (Nat.le_refl _) M _ _ e4 Blk.start
  exact g_X0_subtract_0 (hrow m 0 (by omega) M0 _ _ _ l0 (Fr.refl.mono fun _ _ _ z => z.elim) (fun j' hj' => absurd hj' (Nat.not_lt_zero _)) fun _ _ _ _ => rfl)
