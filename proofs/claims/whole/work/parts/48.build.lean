-- needs: 06 08 09 10 11 12 13 14 15 16 17 18 19 26 27 28 29 30 31 32 33 34 45 46 47
theorem clear_c {p a e : Int} (hp : 2 ≤ p) (hp' : p ≤ 997) (hP : isP p) (he : ¬ p ∣ e) : p ∣ a - (a % p * ivN p (e % p)) % p * e := by
  have hb1 := Int.emod_nonneg e (by omega : p ≠ 0)
  have hb2 := Int.emod_lt_of_pos e (by omega : 0 < p)
  have hb3 : e % p ≠ 0 := fun z => he (Int.dvd_of_emod_eq_zero z)
  have h1 := emod_like (p := p) (a % p * ivN p (e % p))
  have h2 := emod_like (p := p) a
  have h3 := emod_like (p := p) e
  have h4 : p ∣ ivN p (e % p) * (e % p) - 1 := by
    have := ivN_mul hp hp' hP (v := e % p) (by omega) hb2
    exact Int.dvd_of_emod_eq_zero (by rw [Int.sub_emod, this, Int.emod_eq_of_lt (show (0:Int) ≤ 1 by omega) (by omega)]; simp)
  generalize (a % p * ivN p (e % p)) % p = c at *
  generalize ivN p (e % p) = iv at *
  generalize a % p = a' at *
  generalize e % p = e' at *
  have g1 := Int.dvd_mul_of_dvd_left (c := e) h1
  have g2 := Int.dvd_mul_of_dvd_right (b := a' * iv) h3
  have g3 := Int.dvd_mul_of_dvd_right (b := a') h4
  have g := Int.dvd_sub (Int.dvd_sub (Int.dvd_sub g2 g1) g3) h2
  have eq : a' * iv * (e' - e) - (c - a' * iv) * e - a' * (iv * e' - 1) - (a' - a) = a - c * e := by
    simp only [Int.mul_sub, Int.sub_mul, Int.mul_assoc, Int.mul_one]
    omega
  rwa [eq] at g
abbrev frB : Nat → Nat → Nat → Prop := fun g j _ => g = 8 ∨ g = 7 ∧ 29 ≤ j ∨ g = 9 ∧ j = 1
theorem S_clearTerm {p : Int} {m o : Nat} {s : Nat → Nat} {f : Nat → Nat → Int} {d : Nat → Nat} {R : Nat → Nat → Nat → Int} {M0 : bM} {Q : bQ} {x1 : Int32} (hp : M0 1 0 0 = iI p) (h2 : 2 ≤ p) (h4 : p ≤ 997) (hP : isP p) (h : BS p m s f d R M0) (hI : Inv p m o s f d R) (hm : m ≤ 4) (ho : o < 32) (hs : ∀ i, i < m → s i ≤ 9) (e1 : x1 = iI (o : Int)) (K : ∀ M d' R', Fr frB M0 M → BS p m s f d' R' M → Inv p m (o + 1) s f d' R' → Q none M) : bCall 13 [cR 3 0, cI x1] M0 Q := by
  have hI' := hI
  obtain ⟨i1, i2, i3, i4, i5⟩ := hI'
  obtain ⟨b1, b2, b3, b4⟩ := h
  have hd : ∀ i, i < m → d i ≤ 31 := fun i hi => by have := ds_le (d := d) hi; omega
  have rbd : ∀ (R : Nat → Nat → Nat → Int) i, 0 ≤ rs m f (R i) o % p ∧ rs m f (R i) o % p < p := fun R i => ⟨Int.emod_nonneg _ (by omega), Int.emod_lt_of_pos _ (by omega)⟩
  -- the others are cleared by row l
  have second : ∀ l, l < m → rs m f (R l) o % p ≠ 0 → (∀ i, i < m → rs m f (R i) o % p ≠ 0 → rk s l (d l) ≤ rk s i (d i)) → ∀ (n i : Nat), i + n = m → ∀ (M : bM) (R' : Nat → Nat → Nat → Int) (x2 x3 x4 : Int32), x2 = iI (l : Int) → x3 = iI (ivN p (rs m f (R l) o % p)) → x4 = iI (i : Int) → Fr frB M0 M → BS p m s f d R' M → (∀ i, i < m → ∀ j, j < m → ∀ k, 0 ≤ R' i j k ∧ R' i j k < p) → Ld p m s d R' → (∀ i, i < m → Rl p m o f (R' i)) → R' l = R l → (∀ i', i' < i → i' ≠ l → p ∣ rs m f (R' i') o) → (∀ i', i ≤ i' → R' i' = R i') → bGo 13 Q 72 [some (cR 3 0), some (cI x1), some (cI x2), some (cI x3), some (cI x4)] [] M := by
    intro l hl hl0 hmin n
    induction n with
    | zero =>
      intro i hi M R' x2 x3 x4 e2 e3 e4 hF hB r1 r2 r3 r4 r5 r6
      have him : i = m := by omega
      subst him
      refine g_X0_clearTerm_72 ⟨fun _ => ?_, fun q => ?_⟩
      · refine S_raise hB hm hl e2 fun M2 hF2 hB2 => K M2 _ _ ((hF.trans hF2).mono fun g j i h => ?_) hB2 ?_
        · simp only [oL] at h
          exact h.elim id id
        · refine Inv.step h2 h4 hP hm hl r1 r2 r3 i4 i5 (fun i hi hne => r5 i hi hne) ?_
          rw [r4]
          exact fun z => hl0 (Int.emod_eq_zero_of_dvd z)
      · have := nle_of q hB.1 e4
        omega
    | succ n ih =>
      intro i hi M R' x2 x3 x4 e2 e3 e4 hF hB r1 r2 r3 r4 r5 r6
      have him : i < m := by omega
      refine g_X0_clearTerm_72 ⟨fun q => ?_, fun _ => ⟨fun q => ?_, fun q => ⟨vin e4, vin e1, fun q2 => ?_, fun q2 => ⟨vin e4, vin e1, ?_⟩⟩⟩⟩
      · have := le_of q hB.1 e4
        omega
      · have hil := eq_of q e4 e2
        refine ih (i + 1) (by omega) M R' _ _ _ e2 e3 (inN e4) hF hB r1 r2 r3 r4 (fun i' hi' hne => r5 i' (by omega) hne) fun i' hi' => r6 i' (by omega)
      · have hil : i ≠ l := fun z => q (by rw [e4, e2, z])
        rw [cl_of e4, cl_of e1, hB.2.2.2 i him o ho] at q2
        have hz := eq_of q2 rfl l0 (by have := rbd R' i; omega) (by have := rbd R' i; omega)
        refine ih (i + 1) (by omega) M R' _ _ _ e2 e3 (inN e4) hF hB r1 r2 r3 r4 (fun i' hi' hne => ?_) fun i' hi' => r6 i' (by omega)
        by_cases hii : i' = i
        · subst hii
          exact Int.dvd_of_emod_eq_zero hz
        · exact r5 i' (by omega) hne
      · have hil : i ≠ l := fun z => q (by rw [e4, e2, z])
        rw [cl_of e4, cl_of e1, hB.2.2.2 i him o ho] at q2 ⊢
        have hz := ne_of' q2 rfl l0
        have a1 := rbd R' i
        have a2 := ivN_bd (p := p) (v := rs m f (R l) o % p) h2
        have a3 := mul_bd a1.1 a1.2 a2.1 a2.2 h4
        have hp' : M 1 0 0 = iI p := by rw [hF _ _ _ (by simp only [frB]; omega)]; exact hp
        refine S_taken (p := p) (z := rs m f (R' i) o % p * ivN p (rs m f (R l) o % p)) hp' (by rw [e3, iI_mul]) (by omega) (by omega) (by omega) h4 ?_
        have c1 := Int.emod_nonneg (rs m f (R' i) o % p * ivN p (rs m f (R l) o % p)) (by omega : p ≠ 0)
        have c2 := Int.emod_lt_of_pos (rs m f (R' i) o % p * ivN p (rs m f (R l) o % p)) (by omega : 0 < p)
        have hlt : rk s l (d l + 0) < rk s i (d i) := by
          have := hmin i him (by rw [← r6 i (Nat.le_refl _)]; exact hz)
          rcases Nat.lt_or_ge (rk s l (d l)) (rk s i (d i)) with z | z
          · exact z
          · exact absurd (rk_inj (by omega) (by omega) (Nat.le_antisymm z this)).1 hil
        refine S_subtract (c := _) (u := 0) hB hm hp' h2 h4 him hl (fun z => hil z.symm) (by omega) c1 c2 r1 e4 rfl e2 l0 fun M2 hF2 hB2 => ?_
        refine ih (i + 1) (by omega) M2 _ _ _ _ e2 e3 (inN e4) ((hF.trans hF2).mono fun g j i h => ?_) hB2 (sub1_bd h2 r1) (Ld_sub1 h2 r2 him hl hlt) (fun i' hi' => ?_) ?_ (fun i' hi' hne => ?_) fun i' hi' => ?_
        · simp only [oL, frB] at h ⊢
          omega
        · by_cases hii : i' = i
          · subst hii
            exact sub1_Rl (r3 i' hi') (r3 l hl)
          · rw [sub1_ne hii]
            exact r3 i' hi'
        · rw [sub1_ne (fun z => hil z.symm)]
          exact r4
        · by_cases hii : i' = i
          · subst hii
            have g1 := sub1_rs (p := p) (m := m) (f := f) (i := i') (c := (rs m f (R' i') o % p * ivN p (rs m f (R l) o % p)) % p) (j := l) (u := 0) (R := R') o
            rw [sh0, r4] at g1
            have g2 := clear_c (a := rs m f (R' i') o) h2 h4 hP (e := rs m f (R l) o) (fun z => hl0 (Int.emod_eq_zero_of_dvd z))
            have g3 := Int.dvd_add g1 g2
            rwa [Int.sub_add_cancel] at g3
          · rw [sub1_ne hii]
            exact r5 i' (by omega) hne
        · rw [sub1_ne (by omega)]
          exact r6 i' (by omega)
  have hgo : ∀ l, l < m → rs m f (R l) o % p ≠ 0 → (∀ i, i < m → rs m f (R i) o % p ≠ 0 → rk s l (d l) ≤ rk s i (d i)) → ∀ (x2 : Int32), x2 = iI (l : Int) → bCall 9 [cR 1 0, cI (M0 7 (29 + x2.toNatClampNeg) x1.toNatClampNeg)] M0 (fun v1 M2 => bV1 v1 fun r3 => (bGo 13 Q 72 [some (cR 3 0), some (cI x1), some (cI x2), some (cI r3), some (cI (0 : Int32))] [] M2)) := by
    intro l hl hl0 hmin x2 e2
    rw [cl_of e2, cl_of e1, b4 l hl o ho]
    refine S_reciprocal hp h2 h4 rfl (rbd R l).1 (rbd R l).2 ?_
    exact second l hl hl0 hmin m 0 (by omega) M0 R _ _ _ e2 rfl l0 (Fr.refl.mono fun _ _ _ z => z.elim) ⟨b1, b2, b3, b4⟩ i1 i2 i3 rfl (fun i hi => absurd hi (Nat.not_lt_zero _)) fun _ _ => rfl
  -- the lowest of those with something there
  have first : ∀ (n i : Nat), i + n = m → ∀ (x2 x3 : Int32) (o4 : Option bV), x3 = iI (i : Int) → ((x2 = iI (-1) ∧ ∀ i', i' < i → rs m f (R i') o % p = 0) ∨ ∃ l, x2 = iI ((l : Nat) : Int) ∧ l < i ∧ rs m f (R l) o % p ≠ 0 ∧ ∀ i', i' < i → rs m f (R i') o % p ≠ 0 → rk s l (d l) ≤ rk s i' (d i')) → bGo 13 Q 4 [some (cR 3 0), some (cI x1), some (cI x2), some (cI x3), o4] [] M0 := by
    intro n
    induction n with
    | zero =>
      intro i hi x2 x3 o4 e3 hl
      have him : i = m := by omega
      subst him
      refine g_X0_clearTerm_4 ⟨fun _ => ?_, fun q => ?_⟩
      · rcases hl with ⟨e2, hz⟩ | ⟨l, e2, hl, hl0, hmin⟩
        · refine ⟨fun q => absurd (le_of q l0 e2) (by omega), fun _ => K M0 d R (Fr.refl.mono fun _ _ _ z => z.elim) ⟨b1, b2, b3, b4⟩ (hI.skip fun i hi => Int.dvd_of_emod_eq_zero (hz i hi))⟩
        · exact ⟨fun _ => ⟨vin e2, vin e1, hgo l hl hl0 hmin x2 e2⟩, fun q => absurd (nle_of q l0 e2) (by omega)⟩
      · have := nle_of q b1 e3
        omega
    | succ n ih =>
      intro i hi x2 x3 o4 e3 hl
      have him : i < m := by omega
      refine g_X0_clearTerm_4 ⟨fun q => ?_, fun _ => ⟨vin e3, vin e1, fun q => ?_, fun q => ?_⟩⟩
      · have := le_of q b1 e3
        omega
      · rw [cl_of e3, cl_of e1, b4 i him o ho] at q
        have hz := eq_of q rfl l0 (by have := rbd R i; omega) (by have := rbd R i; omega)
        refine ih (i + 1) (by omega) _ _ _ (inN e3) ?_
        rcases hl with ⟨e2, hz'⟩ | ⟨l, e2, hl, hl0, hmin⟩
        · refine Or.inl ⟨e2, fun i' hi' => ?_⟩
          by_cases hii : i' = i
          · subst hii
            exact hz
          · exact hz' i' (by omega)
        · refine Or.inr ⟨l, e2, by omega, hl0, fun i' hi' hne => ?_⟩
          by_cases hii : i' = i
          · subst hii
            exact absurd hz hne
          · exact hmin i' (by omega) hne
      · rw [cl_of e3, cl_of e1, b4 i him o ho] at q
        have hz := ne_of' q rfl l0
        rcases hl with ⟨e2, hz'⟩ | ⟨l, e2, hl, hl0, hmin⟩
        · refine ⟨fun _ => ih (i + 1) (by omega) _ _ _ (inN e3) (Or.inr ⟨i, e3, by omega, hz, fun i' hi' hne => ?_⟩), fun q => absurd (nlt_of q e2 l0) (by omega)⟩
          by_cases hii : i' = i
          · subst hii
            exact Nat.le_refl _
          · exact absurd (hz' i' (by omega)) hne
        · have hs1 := hs i him
          have hs2 := hs l (by omega)
          have hd1 := hd i him
          have hd2 := hd l (by omega)
          refine ⟨fun q => absurd (lt_of q e2 l0) (by omega), fun _ => S_height ⟨b1, b2, b3, b4⟩ hm him e3 (S_height ⟨b1, b2, b3, b4⟩ hm (by omega) e2 ⟨fun q => ?_, fun q => ?_⟩)⟩
          · have hle := le_of q rfl rfl
            refine ih (i + 1) (by omega) _ _ _ (inN e3) (Or.inr ⟨l, e2, by omega, hl0, fun i' hi' hne => ?_⟩)
            by_cases hii : i' = i
            · subst hii
              unfold rk
              omega
            · exact hmin i' (by omega) hne
          · have hlt := nle_of q rfl rfl
            refine ih (i + 1) (by omega) _ _ _ (inN e3) (Or.inr ⟨i, e3, by omega, hz, fun i' hi' hne => ?_⟩)
            by_cases hii : i' = i
            · subst hii
              exact Nat.le_refl _
            · have := hmin i' (by omega) hne
              unfold rk at *
              omega
  exact g_X0_clearTerm_0 (first m 0 (by omega) _ _ _ l0 (Or.inl ⟨rfl, fun i hi => absurd hi (Nat.not_lt_zero _)⟩))
