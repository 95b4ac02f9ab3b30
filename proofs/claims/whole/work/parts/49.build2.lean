-- needs: 06 08 09 10 11 12 13 14 15 16 17 18 19 26 27 28 29 30 31 32 33 34 45 46 47 48
theorem S_reduce {p : Int} {m o : Nat} {s : Nat → Nat} {f : Nat → Nat → Int} {d : Nat → Nat} {R : Nat → Nat → Nat → Int} {M0 : bM} {Q : bQ} {i : Nat} {x1 : Int32} (hp : M0 1 0 0 = iI p) (h2 : 2 ≤ p) (h4 : p ≤ 997) (h : BS p m s f d R M0) (hm : m ≤ 4) (hi : i < m) (hs : ∀ i, i < m → s i ≤ 9) (hd : ∀ i, i < m → d i ≤ 32) (i1 : ∀ i, i < m → ∀ j, j < m → ∀ k, 0 ≤ R i j k ∧ R i j k < p) (i2 : Ld p m s d R) (i3 : ∀ i, i < m → Rl p m o f (R i)) (e1 : x1 = iI (i : Int))
    (K : ∀ M R', Fr frB M0 M → BS p m s f d R' M → (∀ i, i < m → ∀ j, j < m → ∀ k, 0 ≤ R' i j k ∧ R' i j k < p) → Ld p m s d R' → (∀ i, i < m → Rl p m o f (R' i)) → (∀ i', i' ≠ i → R' i' = R i') → (∀ j, j < m → j ≠ i → ∀ k, d j ≤ k → R' i j k = 0) → Q none M) : bCall 15 [cR 3 0, cI x1] M0 Q := by
  have hsi := hs i hi
  have hdi := hd i hi
  have outer : ∀ (hn : Nat), hn ≤ d i + s i + 1 → ∀ (M : bM) (R' : Nat → Nat → Nat → Int) (x2 : Int32) (o3 o4 : Option bV), x2 = iI ((hn : Int) - 1) → Fr frB M0 M → BS p m s f d R' M → (∀ i, i < m → ∀ j, j < m → ∀ k, 0 ≤ R' i j k ∧ R' i j k < p) → Ld p m s d R' → (∀ i, i < m → Rl p m o f (R' i)) → (∀ i', i' ≠ i → R' i' = R i') → (∀ j, j < m → j ≠ i → ∀ k, d j ≤ k → hn ≤ k + s j → R' i j k = 0) → bGo 15 Q 6 [some (cR 3 0), some (cI x1), some (cI x2), o3, o4] [] M := by
    intro hn
    induction hn with
    | zero =>
      intro _ M R' x2 o3 o4 e2 hF hB r1 r2 r3 r4 r5
      exact g_X0_reduce_6 ⟨fun _ => K M R' hF hB r1 r2 r3 r4 fun j hj hne k hk => r5 j hj hne k hk (Nat.zero_le _), fun q => absurd (nlt_of q e2 l0) (by omega)⟩
    | succ hn ih =>
      intro hle M R' x2 o3 o4 e2 hF hB r1 r2 r3 r4 r5
      have e2' : x2 = iI (hn : Int) := by rw [e2]; exact iIc (by omega)
      have inner : ∀ (jn : Nat), jn ≤ m → ∀ (M : bM) (R' : Nat → Nat → Nat → Int) (x3 : Int32) (o4 : Option bV), x3 = iI ((jn : Int) - 1) → Fr frB M0 M → BS p m s f d R' M → (∀ i, i < m → ∀ j, j < m → ∀ k, 0 ≤ R' i j k ∧ R' i j k < p) → Ld p m s d R' → (∀ i, i < m → Rl p m o f (R' i)) → (∀ i', i' ≠ i → R' i' = R i') → (∀ j, j < m → j ≠ i → ∀ k, d j ≤ k → (hn < k + s j ∨ hn = k + s j ∧ jn ≤ j) → R' i j k = 0) → bGo 15 Q 17 [some (cR 3 0), some (cI x1), some (cI x2), some (cI x3), o4] [] M := by
        intro jn
        induction jn with
        | zero =>
          intro _ M R' x3 o4 e3 hF hB r1 r2 r3 r4 r5
          refine g_X0_reduce_17 ⟨fun _ => ?_, fun q => absurd (nlt_of q e3 l0) (by omega)⟩
          refine ih (by omega) M R' _ _ _ ?_ hF hB r1 r2 r3 r4 fun j hj hne k hk hh => r5 j hj hne k hk (by omega)
          rw [e2', show (-1 : Int32) = iI (-1) by decide, iI_add]
          exact iIc (by omega)
        | succ j ihj =>
          intro hjm M R' x3 o4 e3 hF hB r1 r2 r3 r4 r5
          have e3' : x3 = iI (j : Int) := by rw [e3]; exact iIc (by omega)
          have hj : j < m := by omega
          have hsj := hs j hj
          have hdj := hd j hj
          have ex : x3 + (-1 : Int32) = iI ((j : Int) - 1) := by
            rw [e3', show (-1 : Int32) = iI (-1) by decide, iI_add]
            exact iIc (by omega)
          have ek : x2 - M 9 2 x3.toNatClampNeg = iI ((hn : Int) - s j) := by
            rw [cl_of e3', (hB.2.1 j hj).2, e2', iI_sub]
          have next : (j ≠ i → ∀ k, d j ≤ k → hn = k + s j → R' i j k = 0) → ∀ o4, bGo 15 Q 17 [some (cR 3 0), some (cI x1), some (cI x2), some (cI (x3 + (-1 : Int32))), o4] [] M := fun hz o4 => ihj (by omega) M R' _ _ ex hF hB r1 r2 r3 r4 fun j' hj' hne k hk hh => by
            by_cases hjj : j' = j
            · subst hjj
              by_cases hh2 : hn = k + s j'
              · exact hz hne k hk hh2
              · exact r5 j' hj' hne k hk (by omega)
            · exact r5 j' hj' hne k hk (by omega)
          refine g_X0_reduce_17 ⟨fun q => absurd (lt_of q e3' l0) (by omega), fun _ => ⟨vin e3', fun q => next (fun hne => absurd (eq_of q e3' e1) (by omega)) _, fun q => ⟨vin e3', ?_⟩⟩⟩
          have hji : j ≠ i := fun z => q (by rw [e3', e1, z])
          rw [ek, cl_of e3', (hB.2.1 j hj).1]
          refine ⟨fun q1 => next (fun _ k hk hh => ?_) _, fun q1 => ⟨fun q2 => ?_, fun q2 => ?_⟩⟩
          · have := lt_of q1 rfl rfl
            omega
          · have := le_of q2 (iL 42) rfl
            omega
          · have w1 := nlt_of q1 rfl rfl
            obtain ⟨k, hk⟩ : ∃ k : Nat, (k : Int) = (hn : Int) - s j := ⟨((hn : Int) - s j).toNat, by omega⟩
            rw [← hk] at w1 ⊢
            have hk42 : k < 42 := by omega
            have hkd : d j ≤ k := by omega
            refine S_coef hB hm hi hj hk42 e1 e3' rfl ⟨fun q3 => ?_, fun q3 => ?_⟩
            · have hb := r1 i hi j hj k
              have hz := eq_of q3 rfl l0
              refine next (fun _ k' hk' hh => ?_) _
              rw [show k' = k by omega]
              exact hz
            · have hb := r1 i hi j hj k
              have hz := ne_of' q3 rfl l0
              refine S_coef hB hm hi hj hk42 e1 e3' rfl ⟨vin e3', ?_⟩
              rw [(hB.2.1 j hj).1]
              have eu : iI (k : Int) - iI (d j : Int) = iI ((k - d j : Nat) : Int) := by
                rw [iI_sub]
                exact iIc (by omega)
              have hrk : rk s j (d j + (k - d j)) = rk s j k := by rw [show d j + (k - d j) = k by omega]
              have hlt : rk s j (d j + (k - d j)) < rk s i (d i) := by
                rw [hrk]
                rcases Nat.lt_or_ge (rk s j k) (rk s i (d i)) with z | z
                · exact z
                · rcases Nat.lt_or_ge (rk s i (d i)) (rk s j k) with z2 | z2
                  · exact absurd (r2.2 i hi j hj k z2) hz
                  · exact absurd (rk_inj (by omega) (by omega) (Nat.le_antisymm z z2)).1.symm hji
              have hp' : M 1 0 0 = iI p := by rw [hF _ _ _ (by simp only [frB]; omega)]; exact hp
              refine S_subtract (c := R' i j k) (u := k - d j) hB hm hp' h2 h4 hi hj hji (by omega) hb.1 hb.2 r1 e1 rfl e3' eu fun M2 hF2 hB2 => ?_
              refine ihj (by omega) M2 _ _ _ ex ((hF.trans hF2).mono fun g j i h => ?_) hB2 (sub1_bd h2 r1) (Ld_sub1 h2 r2 hi hj hlt) (fun i' hi' => ?_) (fun i' hii => ?_) fun j' hj' hne k' hk' hh => ?_
              · simp only [oL, frB] at h ⊢
                omega
              · by_cases hii : i' = i
                · subst hii
                  exact sub1_Rl (r3 i' hi') (r3 j hj)
                · rw [sub1_ne hii]
                  exact r3 i' hi'
              · rw [sub1_ne hii]
                exact r4 i' hii
              · unfold sub1
                rw [if_pos rfl]
                by_cases hjk : j' = j ∧ k' = k
                · obtain ⟨rfl, rfl⟩ := hjk
                  have : sh (k' - d j') (R' j') j' k' = 1 := by
                    unfold sh
                    rw [if_pos (by omega), show k' - (k' - d j') = d j' by omega]
                    exact r2.1 j' hj
                  rw [this, Int.mul_one, Int.sub_self, Int.zero_emod]
                · have hgt : rk s j k < rk s j' k' := by
                    unfold rk
                    by_cases hjj : j' = j
                    · subst hjj
                      have : k' ≠ k := fun z => hjk ⟨rfl, z⟩
                      omega
                    · omega
                  have hz2 : sh (k - d j) (R' j) j' k' = 0 := by
                    unfold sh
                    split
                    · refine r2.2 j hj j' hj' _ ?_
                      unfold rk at *
                      omega
                    · rfl
                  rw [hz2, Int.mul_zero, Int.sub_zero, r5 j' hj' hne k' hk' (by
                    unfold rk at hgt
                    by_cases hjj : j' = j
                    · subst hjj
                      omega
                    · omega), Int.zero_emod]
      refine g_X0_reduce_6 ⟨fun q => absurd (lt_of q e2' l0) (by omega), fun _ => ?_⟩
      refine inner m (Nat.le_refl _) M R' _ _ ?_ hF hB r1 r2 r3 r4 fun j hj hne k hk hh => r5 j hj hne k hk (by omega)
      rw [hB.1, l1, iI_sub]
  refine g_X0_reduce_0 (S_height h hm hi e1 ?_)
  refine outer (d i + s i + 1) (Nat.le_refl _) M0 R _ _ _ (iIc (by omega)) (Fr.refl.mono fun _ _ _ z => z.elim) h i1 i2 i3 (fun _ _ => rfl) fun j hj hne k hk hh => ?_
  refine i2.2 i hi j hj k ?_
  unfold rk
  omega
/-- the rows at the beginning -/
def unit0 : Nat → Nat → Nat → Int := fun i j k => if j = i ∧ k = 0 then 1 else 0
theorem sm_one {n i : Nat} {g : Nat → Int} : ∀ {n : Nat}, i < n → (∀ j, j < n → j ≠ i → g j = 0) → sm g n = g i
  | 0, h, _ => absurd h (Nat.not_lt_zero _)
  | n + 1, h, hz => by
    unfold sm
    by_cases q : i = n
    · subst q
      rw [sm_0 (fun j hj => hz j (by omega) (by omega))]
      omega
    · rw [sm_one (n := n) (by omega) (fun j hj hne => hz j (by omega) hne), hz n (by omega) (fun z => q z.symm)]
      omega
theorem rs_unit {m i k : Nat} {f : Nat → Nat → Int} (hi : i < m) : rs m f (unit0 i) k = f i k := by
  unfold rs
  rw [sm_one (n := 0) (i := i) hi]
  · unfold cv
    rw [sm_one (n := 0) (i := 0) (by omega)]
    · show (if i = i ∧ 0 = 0 then (1 : Int) else 0) * f i (k - 0) = f i k
      rw [if_pos ⟨rfl, rfl⟩, Int.one_mul, Nat.sub_zero]
    · intro j hj hne
      show (if i = i ∧ j = 0 then (1 : Int) else 0) * f i (k - j) = 0
      rw [if_neg (fun z => hne z.2), Int.zero_mul]
  · intro j hj hne
    unfold cv
    refine sm_0 fun e he => ?_
    show (if j = i ∧ e = 0 then (1 : Int) else 0) * f j (k - e) = 0
    rw [if_neg (fun z => hne z.1), Int.zero_mul]
theorem Inv.zero {p : Int} {m : Nat} {s : Nat → Nat} {f : Nat → Nat → Int} (h2 : 2 ≤ p) : Inv p m 0 s f (fun _ => 0) unit0 := by
  refine ⟨fun i hi j hj k => ?_, ⟨fun i hi => ?_, fun i hi j hj k hk => ?_⟩, fun i hi n hn => absurd hn (Nat.not_lt_zero _), fun q hq hs j hj k => hs j hj k (Nat.zero_le _), ?_⟩
  · unfold unit0
    split <;> omega
  · unfold unit0
    rw [if_pos ⟨rfl, rfl⟩]
  · unfold unit0
    refine if_neg fun z => ?_
    obtain ⟨rfl, rfl⟩ := z
    exact Nat.lt_irrefl _ hk
  · have : ∀ n, ds (fun _ => 0) n = 0 := by
      intro n
      induction n with
      | zero => rfl
      | succ n ih => unfold ds; rw [ih]
    rw [this]
    exact Nat.le_refl 0
theorem S_build {p : Int} {m o : Nat} {s : Nat → Nat} {f : Nat → Nat → Int} {M0 : bM} {Q : bQ} {x3 x4 : Int32} (hp : M0 1 0 0 = iI p) (h2 : 2 ≤ p) (h4 : p ≤ 997) (hP : isP p) (hm : m ≤ 4) (ho : o ≤ 32) (hs : ∀ i, i < m → s i ≤ 9) (e3 : x3 = iI (m : Int)) (e4 : x4 = iI (o : Int)) (hf : ∀ i, i < m → ∀ k, k < 32 → M0 7 (8 + i) k = iI (f i k) ∧ 0 ≤ f i k ∧ f i k < p) (hl : ∀ i, i < m → M0 9 0 i = iI (s i : Int))
    (K : ∀ M, Fr (fun g j _ => g = 3 ∨ g = 8 ∨ g = 7 ∧ 29 ≤ j ∨ g = 9 ∧ (j = 1 ∨ j = 2)) M0 M → BaseIn p m o s f M → Q none M) : bCall 16 [cR 3 0, cR 17 0, cR 9 0, cI x3, cI x4] M0 Q := by
  have c0 : (0 : Int32).toNatClampNeg = 0 := rfl
  have hfrB : ∀ {M M' : bM}, Fr (fun g j _ => g = 3 ∨ g = 8 ∨ g = 7 ∧ 29 ≤ j ∨ g = 9 ∧ (j = 1 ∨ j = 2)) M0 M → Fr frB M M' → Fr (fun g j _ => g = 3 ∨ g = 8 ∨ g = 7 ∧ 29 ≤ j ∨ g = 9 ∧ (j = 1 ∨ j = 2)) M0 M' := fun h h' => (h.trans h').mono fun g j i z => by
    simp only [oL, frB] at z
    omega
  -- reducing the rows
  have third : ∀ (n i : Nat), i + n = m → ∀ (M : bM) (d : Nat → Nat) (R : Nat → Nat → Nat → Int) (x5 : Int32), x5 = iI (i : Int) → Fr (fun g j _ => g = 3 ∨ g = 8 ∨ g = 7 ∧ 29 ≤ j ∨ g = 9 ∧ (j = 1 ∨ j = 2)) M0 M → BS p m s f d R M → (∀ i, i < m → d i ≤ 32) → (∀ i, i < m → ∀ j, j < m → ∀ k, 0 ≤ R i j k ∧ R i j k < p) → Ld p m s d R → (∀ i, i < m → Rl p m o f (R i)) → Mn p m o f d → (∀ i', i' < i → ∀ j, j < m → j ≠ i' → ∀ k, d j ≤ k → R i' j k = 0) → bGo 16 Q 121 [some (cR 3 0), some (cR 17 0), some (cR 9 0), some (cI x3), some (cI x4), some (cI x5)] [] M := by
    intro n
    induction n with
    | zero =>
      intro i hi M d R x5 e5 hF hB hd r1 r2 r3 r4 r5
      have him : i = m := by omega
      subst him
      refine g_X0_build_121 ⟨fun _ => K M hF ⟨d, R, ⟨r1, r2, r3, fun i hi j hj hne k hk => r5 i hi j hj hne k hk, r4⟩, hB.1, fun i hi => ⟨hd i hi, (hB.2.1 i hi).1, (hB.2.1 i hi).2⟩, hB.2.2.1, hB.2.2.2⟩, fun q => ?_⟩
      have := nle_of q hB.1 e5
      omega
    | succ n ih =>
      intro i hi M d R x5 e5 hF hB hd r1 r2 r3 r4 r5
      refine g_X0_build_121 ⟨fun q => ?_, fun _ => ?_⟩
      · have := le_of q hB.1 e5
        omega
      · refine S_reduce (by rw [hF _ _ _ (by omega)]; exact hp) h2 h4 hB hm (by omega) hs hd r1 r2 r3 e5 fun M2 R' hF2 hB2 t1 t2 t3 t4 t5 => ?_
        refine ih (i + 1) (by omega) M2 d R' _ (inN e5) (hfrB hF hF2) hB2 hd t1 t2 t3 r4 fun i' hi' j hj hne k hk => ?_
        by_cases hii : i' = i
        · subst hii
          exact t5 j hj hne k hk
        · rw [t4 i' hii]
          exact r5 i' (by omega) j hj hne k hk
  have second : ∀ (n i : Nat), i + n = o → ∀ (M : bM) (d : Nat → Nat) (R : Nat → Nat → Nat → Int) (x5 : Int32), x5 = iI (i : Int) → Fr (fun g j _ => g = 3 ∨ g = 8 ∨ g = 7 ∧ 29 ≤ j ∨ g = 9 ∧ (j = 1 ∨ j = 2)) M0 M → BS p m s f d R M → Inv p m i s f d R → bGo 16 Q 92 [some (cR 3 0), some (cR 17 0), some (cR 9 0), some (cI x3), some (cI x4), some (cI x5)] [] M := by
    intro n
    induction n with
    | zero =>
      intro i hi M d R x5 e5 hF hB hI
      have him : i = o := by omega
      subst him
      have hgo := third m 0 (by omega) M d R _ l0 hF hB (fun i' hi' => by have := ds_le (d := d) hi'; have := hI.2.2.2.2; omega) hI.1 hI.2.1 hI.2.2.1 hI.2.2.2.1 fun i' hi' => absurd hi' (Nat.not_lt_zero _)
      exact g_X0_build_92 ⟨fun _ => hgo, fun q => absurd (nle_of q e4 e5) (by omega)⟩
    | succ n ih =>
      intro i hi M d R x5 e5 hF hB hI
      refine g_X0_build_92 ⟨fun q => absurd (le_of q e4 e5) (by omega), fun _ => ⟨fun q => absurd (le_of q l32 e5) (by omega), fun _ => ?_⟩⟩
      refine S_clearTerm (by rw [hF _ _ _ (by omega)]; exact hp) h2 h4 hP hB hI hm (by omega) hs e5 fun M2 d' R' hF2 hB2 hI2 => ?_
      exact ih (i + 1) (by omega) M2 d' R' _ (inN e5) (hfrB hF hF2) hB2 hI2
  have first : ∀ (n i : Nat), i + n = m → ∀ (M : bM) (x5 : Int32), x5 = iI (i : Int) → Fr (fun g j _ => g = 3 ∨ g = 8 ∨ g = 7 ∧ 29 ≤ j ∨ g = 9 ∧ (j = 1 ∨ j = 2)) M0 M → M 3 0 5 = iI (m : Int) → (∀ i', i' < i → M 9 1 i' = iI ((0 : Nat) : Int) ∧ M 9 2 i' = iI (s i' : Int)) → (∀ i', i' < i → ∀ j, j < m → ∀ k, k < 42 → M 8 i' (42 * j + k) = iI (unit0 i' j k)) → (∀ i', i' < i → ∀ k, k < 32 → M 7 (29 + i') k = iI (rs m f (unit0 i') k % p)) → bGo 16 Q 12 [some (cR 3 0), some (cR 17 0), some (cR 9 0), some (cI x3), some (cI x4), some (cI x5)] [] M := by
    intro n
    induction n with
    | zero =>
      intro i hi M x5 e5 hF t1 t2 t3 t4
      have him : i = m := by omega
      subst him
      refine g_X0_build_12 ⟨fun _ => second o 0 (by omega) M (fun _ => 0) unit0 _ l0 hF ⟨t1, t2, t3, t4⟩ (Inv.zero h2), fun q => ?_⟩
      have := nle_of q t1 e5
      omega
    | succ n ih =>
      intro i hi M x5 e5 hF t1 t2 t3 t4
      have him : i < m := by omega
      have p0 : x5 * (42 : Int32) = iI ((42 * i : Nat) : Int) := by
        rw [e5, iL 42, iI_mul]
        exact iIc (by omega)
      refine g_X0_build_12 ⟨fun q => ?_, fun _ => ⟨vin e5, ?_⟩⟩
      · have := le_of q t1 e5
        omega
      · rw [cl_of e5]
        refine S_fill8 l0 fun M2 hB2 => ⟨vin e5, vin p0, vin e5, vin e5, ⟨by decide, by decide, by decide, by decide, by decide⟩, vin e5, vin e5, vin e5, ?_⟩
        rw [cl_of p0]
        have hcp : ∀ g j t, ¬ (g = 7 ∧ j = 29 + i) → (bCp (bU M2 8 i (42 * i) 1) 7 (8 + i) 7 (29 + i) 0 0 32) g j t = (bU M2 8 i (42 * i) 1) g j t := fun g j t hn => bCp_fr _ _ _ hn
        refine ih (i + 1) (by omega) _ _ (inN e5) ?_ ?_ (fun i' hi' => ?_) (fun i' hi' j hj k hk => ?_) fun i' hi' k hk => ?_
        · intro g j t hn
          rw [bU_ne (by omega), bU_ne (by omega), hcp _ _ _ (by omega), bU_ne (by omega), hB2.keep (by omega)]
          exact hF _ _ _ (by omega)
        · rw [bU_ne (by omega), bU_ne (by omega), hcp _ _ _ (by omega), bU_ne (by omega), hB2.keep (by omega)]
          exact t1
        · by_cases hii : i' = i
          · subst hii
            refine ⟨?_, ?_⟩
            · rw [bU_ne (by omega), bU_at]
              exact l0
            · rw [bU_at, bU_ne (by omega), hcp _ _ _ (by omega), bU_ne (by omega), hB2.keep (by omega), hF _ _ _ (by omega)]
              exact hl i' him
          · rw [bU_ne (by omega), bU_ne (by omega), hcp _ _ _ (by omega), bU_ne (by omega), hB2.keep (by omega), bU_ne (by omega), bU_ne (by omega), hcp _ _ _ (by omega), bU_ne (by omega), hB2.keep (by omega)]
            exact t2 i' (by omega)
        · rw [bU_ne (by omega), bU_ne (by omega), hcp _ _ _ (by omega)]
          by_cases hii : i' = i
          · subst hii
            by_cases hjk : j = i' ∧ k = 0
            · obtain ⟨rfl, rfl⟩ := hjk
              rw [Nat.add_zero, bU_at]
              unfold unit0
              rw [if_pos ⟨rfl, rfl⟩]
              exact l1
            · rw [bU_ne (by omega), hB2.at (by omega) (by omega)]
              unfold unit0
              rw [if_neg hjk]
          · rw [bU_ne (by omega), hB2.keep (by omega)]
            exact t3 i' (by omega) j hj k hk
        · rw [bU_ne (by omega), bU_ne (by omega)]
          by_cases hii : i' = i
          · subst hii
            rw [bCp_32 hk, bU_ne (by omega), hB2.keep (by omega), hF _ _ _ (by omega), (hf i' him k hk).1, rs_unit him]
            exact iIc (Int.emod_eq_of_lt (hf i' him k hk).2.1 (hf i' him k hk).2.2).symm
          · rw [hcp _ _ _ (by omega), bU_ne (by omega), hB2.keep (by omega)]
            exact t4 i' (by omega) k hk
  refine g_X0_build_0 (S_min (a := m) (b := 4) e3 (iL 4) (by omega) (by omega) (by omega) (by omega) ?_)
  refine first m 0 (by omega) _ _ l0 ?_ ?_ (fun i' hi' => absurd hi' (Nat.not_lt_zero _)) (fun i' hi' => absurd hi' (Nat.not_lt_zero _)) fun i' hi' => absurd hi' (Nat.not_lt_zero _)
  · intro g j t hn
    rw [bU_ne (by omega)]
  · rw [bU_at]
    exact iIc (by rw [if_neg (by omega)])
