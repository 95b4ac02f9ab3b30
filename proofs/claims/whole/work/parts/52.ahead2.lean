-- needs: 06 08 09 10 11 12 13 14 15 16 17 18 19 26 27 28 29 30 31 32 33 34 41 45 46 47 48 49 50 51
theorem T_standsAhead {p : Int} {m o A : Nat} {s : Nat → Nat} {f : Nat → Nat → Int} {ja ka hd : Nat → Nat} {lf pa : Nat → Nat → Int} {nw no : Nat → Int} {M0 : bM} {Q : bQ} {j k : Nat} {x1 x2 : Int32} (h2 : 2 ≤ p) (h4 : p ≤ 997) (ho : o ≤ 32) (hA : A < 32) (hMS : MS p m o s f M0) (hMA : MA o A ja ka hd lf pa M0) (hj : j < 4) (hk : k < 1000) (e1 : x1 = iI (j : Int)) (e2 : x2 = iI (k : Int)) (g1 : ∀ i, i < o → M0 44 0 i = iI (nw i) ∧ 0 ≤ nw i ∧ nw i < p) (g2 : ∀ b, b < 33 → M0 45 0 b = iI (no b)) (g3 : ∀ b, 0 ≤ no b ∧ no b < p) (hne : ∃ i, i < o ∧ nw i ≠ 0)
    (K : ∀ (M : bM) (t : Nat), t < o → nw t ≠ 0 → Fr (fun g _ i => 40 ≤ g ∧ g ≤ 43 ∨ g = 26 ∧ i = 31) M0 M → MA o (A + 1) (fun a => if a = A then j else ja a) (fun a => if a = A then k else ka a) (fun a => if a = A then t else hd a) (fun a i => if a = A then nw i * ivN p (nw t) % p else lf a i) (fun a b => if a = A then (if b = A then ivN p (nw t) else no b * ivN p (nw t) % p) else pa a b) M → Q none M) : bCall 122 [cR 26 0, cI x1, cI x2] M0 Q := by
  obtain ⟨s1, s2, s3, s4, s5⟩ := hMS
  obtain ⟨t1, t2⟩ := hMA
  have third : ∀ (t : Nat), t < o → nw t ≠ 0 → ∀ (M1 : bM), Blk M0 M1 41 0 (32 * A) (32 * A + o) (fun z => nw (z - 32 * A) * ivN p (nw t) % p) → ∀ (x3 : Int32), x3 = iI (t : Int) → ∀ (n b : Nat), b + n = 32 → ∀ (M : bM) (x5 : Int32), x5 = iI (b : Int) → Blk M1 M 42 0 (32 * A) (32 * A + b) (fun z => if z - 32 * A = A then ivN p (nw t) else no (z - 32 * A) * ivN p (nw t) % p) → bGo 122 Q 80 [some (cR 26 0), some (cI x1), some (cI x2), some (cI x3), some (cI (iI (ivN p (nw t)))), some (cI x5)] [] M := by
    intro t ht ht0 M1 hB1 x3 e3 n
    have hiv := ivN_bd (p := p) (v := nw t) h2
    induction n with
    | zero =>
      intro b hb M x5 e5 hB
      have hb32 : b = 32 := by omega
      subst hb32
      have hAm : M 26 0 31 = iI (A : Int) := by rw [hB.keep (by omega), hB1.keep (by omega)]; exact t1
      have ex : (33 : Int32) * x1 + x2 = iI ((33 * j + k : Nat) : Int) := by
        rw [e1, e2, iL 33, iI_mul, iI_add]
        exact iIc (by omega)
      refine g_X7_standsAhead_80 ⟨fun _ => ⟨vin hAm, ?_, ?_⟩, fun q => absurd (nle_of q l32 e5) (by omega)⟩
      · rw [bU_ne (by omega)]
        exact vin hAm
      · rw [bU_ne (by omega), bU_ne (by omega), hAm, cl_of (n := A) rfl]
        refine K _ t ht ht0 (((hB1.fr.trans hB.fr).trans ((bU_fr.trans bU_fr).trans bU_fr)).mono ?_) ⟨?_, fun a ha => ?_⟩
        · intro g j i h
          simp only [oL] at h
          omega
        · rw [bU_at, bU_ne (by omega), hAm]
          exact inN rfl
        · by_cases q : a = A
          · subst q
            refine ⟨?_, ?_, fun i hi => ?_, fun b hb => ?_⟩
            · rw [bU_ne (by omega), bU_at, ex]
              simp only [if_true]
            · rw [bU_ne (by omega), bU_ne (by omega), bU_at, e3]
              simp only [if_true]
            · rw [bU_ne (by omega), bU_ne (by omega), bU_ne (by omega), hB.keep (by omega), hB1.at (by omega) (by omega), show 32 * a + i - 32 * a = i by omega]
              simp only [if_true]
            · rw [bU_ne (by omega), bU_ne (by omega), bU_ne (by omega), hB.at (by omega) (by omega), show 32 * a + b - 32 * a = b by omega]
              simp only [if_true]
          · have haA : a < A := by omega
            obtain ⟨u1, u2, u3, u4⟩ := t2 a haA
            simp only [if_neg q]
            refine ⟨?_, ?_, fun i hi => ?_, fun b hb => ?_⟩
            · rw [bU_ne (by omega), bU_ne (by omega), bU_ne (by omega), hB.keep (by omega), hB1.keep (by omega)]
              exact u1
            · rw [bU_ne (by omega), bU_ne (by omega), bU_ne (by omega), hB.keep (by omega), hB1.keep (by omega)]
              exact u2
            · rw [bU_ne (by omega), bU_ne (by omega), bU_ne (by omega), hB.keep (by omega), hB1.keep (by omega)]
              exact u3 i hi
            · rw [bU_ne (by omega), bU_ne (by omega), bU_ne (by omega), hB.keep (by omega), hB1.keep (by omega)]
              exact u4 b hb
    | succ n ih =>
      intro b hb M x5 e5 hB
      have hAm : M 26 0 31 = iI (A : Int) := by rw [hB.keep (by omega), hB1.keep (by omega)]; exact t1
      have hp' : M 26 0 0 = iI p := by rw [hB.keep (by omega), hB1.keep (by omega)]; exact s1
      have ex : (32 : Int32) * M 26 0 31 + x5 = iI ((32 * A + b : Nat) : Int) := s32 hAm e5
      refine g_X7_standsAhead_80 ⟨fun q => absurd (le_of q l32 e5) (by omega), fun _ => ⟨fun q => ⟨vin e5, fun z => ?_, vin ex, ?_⟩, fun q => ⟨vin ex, ?_⟩⟩⟩
      · have := eq_of z hp' l0
        omega
      · have hbA : b ≠ A := fun z => q (by rw [e5, hAm, z])
        have r1 := g3 b
        have r3 := mul_bd r1.1 r1.2 hiv.1 hiv.2 h4
        rw [cl_of ex, cl_of e5]
        refine ih (b + 1) (by omega) _ _ (inN e5) (hB.up (by omega) ?_)
        rw [hB.keep (by omega), hB1.keep (by omega), g2 b (by omega), hp', iI_mul, iI_remN (by omega) (by omega) (by omega) (by omega)]
        refine iIc ?_
        rw [show 32 * A + b - 32 * A = b by omega, if_neg hbA]
      · have hbA : b = A := by
          have := eq_of (Decidable.of_not_not q) e5 hAm
          omega
        rw [cl_of ex]
        refine ih (b + 1) (by omega) _ _ (inN e5) (hB.up (by omega) ?_)
        rw [show 32 * A + b - 32 * A = b by omega, if_pos hbA]
  have second : ∀ (t : Nat), t < o → nw t ≠ 0 → ∀ (x3 : Int32), x3 = iI (t : Int) → ∀ (n i : Nat), i + n = o → ∀ (M : bM) (x5 : Int32), x5 = iI (i : Int) → Blk M0 M 41 0 (32 * A) (32 * A + i) (fun z => nw (z - 32 * A) * ivN p (nw t) % p) → bGo 122 Q 32 [some (cR 26 0), some (cI x1), some (cI x2), some (cI x3), some (cI (iI (ivN p (nw t)))), some (cI x5)] [] M := by
    intro t ht ht0 x3 e3 n
    have hiv := ivN_bd (p := p) (v := nw t) h2
    induction n with
    | zero =>
      intro i hi M x5 e5 hB
      have hio : i = o := by omega
      subst hio
      have hto : M 26 0 26 = iI (i : Int) := by rw [hB.keep (by omega)]; exact s3
      exact g_X7_standsAhead_32 ⟨fun _ => third t ht ht0 M hB x3 e3 32 0 rfl M _ l0 Blk.start, fun q => absurd (nle_of q hto e5) (by omega)⟩
    | succ n ih =>
      intro i hi M x5 e5 hB
      have hto : M 26 0 26 = iI (o : Int) := by rw [hB.keep (by omega)]; exact s3
      have hAm : M 26 0 31 = iI (A : Int) := by rw [hB.keep (by omega)]; exact t1
      have hp' : M 26 0 0 = iI p := by rw [hB.keep (by omega)]; exact s1
      have ex : (32 : Int32) * M 26 0 31 + x5 = iI ((32 * A + i : Nat) : Int) := s32 hAm e5
      have r1 := (g1 i (by omega)).2
      have r3 := mul_bd r1.1 r1.2 hiv.1 hiv.2 h4
      refine g_X7_standsAhead_32 ⟨fun q => absurd (le_of q hto e5) (by omega), fun _ => ⟨vin e5, fun z => ?_, vin ex, ?_⟩⟩
      · have := eq_of z hp' l0
        omega
      · rw [cl_of ex, cl_of e5]
        refine ih (i + 1) (by omega) _ _ (inN e5) (hB.up (by omega) ?_)
        rw [hB.keep (by omega), (g1 i (by omega)).1, hp', iI_mul, iI_remN (by omega) (by omega) (by omega) (by omega)]
        refine iIc ?_
        rw [show 32 * A + i - 32 * A = i by omega]
  have first : ∀ (n i : Nat), i + n = o → (∃ i', i ≤ i' ∧ i' < o ∧ nw i' ≠ 0) → ∀ (x3 : Int32) (o4 o5 : Option bV), x3 = iI (i : Int) → bGo 122 Q 2 [some (cR 26 0), some (cI x1), some (cI x2), some (cI x3), o4, o5] [] M0 := by
    intro n
    induction n with
    | zero =>
      intro i hi hex
      obtain ⟨i', h1, h2, _⟩ := hex
      omega
    | succ n ih =>
      intro i hi hex x3 o4 o5 e3
      refine g_X7_standsAhead_2 ⟨vin e3, fun q => ⟨vin e3, ?_⟩, fun q => ?_⟩
      · rw [cl_of e3] at q ⊢
        have hb := g1 i (by omega)
        have hz := ne_of' q hb.1 l0
        refine T_inverseOf s1 h2 h4 hb.1 hb.2.1 hb.2.2 ?_
        exact second i (by omega) hz x3 e3 o 0 (by omega) M0 _ l0 Blk.start
      · rw [cl_of e3] at q
        have hb := g1 i (by omega)
        have hz := eq_of (Decidable.of_not_not q) hb.1 l0
        refine ih (i + 1) (by omega) ?_ _ _ _ (inN e3)
        obtain ⟨i', h1, h2, h3⟩ := hex
        refine ⟨i', ?_, h2, h3⟩
        by_cases hii : i' = i
        · rw [hii] at h3
          exact absurd hz h3
        · omega
  obtain ⟨i, hi, hn⟩ := hne
  exact g_X7_standsAhead_0 (first o 0 (by omega) ⟨i, Nat.zero_le _, hi, hn⟩ _ _ _ l0)
/-- one thing at place k of polynomial j -/
def un (j k : Nat) : Nat → Nat → Int := fun j' k' => if j' = j ∧ k' = k then 1 else 0
/-- the row that the model makes -/
def rowR (ja ka : Nat → Nat) (no : Nat → Int) (j k : Nat) : Nat → Nat → Nat → Int
  | 0 => un j k
  | a + 1 => fun j' k' => rowR ja ka no j k a j' k' - -no a * un (ja a) (ka a) j' k'
theorem rs_un {m j k i : Nat} {f : Nat → Nat → Int} (hj : j < m) : rs m f (un j k) i = vec f j k i := by
  unfold rs
  rw [sm_one (n := 0) (i := j) hj]
  · unfold cv vec
    by_cases q : i < k
    · rw [if_pos q]
      refine sm_0 fun e he => ?_
      unfold un
      rw [if_neg (by omega), Int.zero_mul]
    · rw [if_neg q, sm_one (n := 0) (i := k) (by omega)]
      · unfold un
        rw [if_pos ⟨rfl, rfl⟩, Int.one_mul]
      · intro e he hne
        unfold un
        rw [if_neg (by omega), Int.zero_mul]
  · intro j' hj' hne
    unfold cv
    refine sm_0 fun e he => ?_
    unfold un
    rw [if_neg (by omega), Int.zero_mul]
theorem rs_rowR {m j k i : Nat} {f : Nat → Nat → Int} {ja ka : Nat → Nat} {no : Nat → Int} (hj : j < m) : ∀ {A : Nat}, (∀ a, a < A → ja a < m) → rs m f (rowR ja ka no j k A) i = vec f j k i + cmb f ja ka A no i
  | 0, _ => by
    show rs m f (un j k) i = vec f j k i + 0
    rw [rs_un hj, Int.add_zero]
  | A + 1, h => by
    show rs m f (fun j' k' => rowR ja ka no j k A j' k' - -no A * un (ja A) (ka A) j' k') i = vec f j k i + (cmb f ja ka A no i + no A * vec f (ja A) (ka A) i)
    rw [rs_sub, rs_rowR hj (fun a ha => h a (by omega)), rs_un (h A (by omega)), Int.neg_mul]
    omega
theorem rowR_no {ja ka : Nat → Nat} {no : Nat → Int} {j k j' k' : Nat} : ∀ {A : Nat}, (∀ a, a < A → ¬ (j' = ja a ∧ k' = ka a)) → rowR ja ka no j k A j' k' = un j k j' k'
  | 0, _ => rfl
  | A + 1, h => by
    show rowR ja ka no j k A j' k' - -no A * un (ja A) (ka A) j' k' = _
    rw [rowR_no (fun a ha => h a (by omega))]
    have : un (ja A) (ka A) j' k' = 0 := if_neg (h A (by omega))
    rw [this, Int.mul_zero, Int.sub_zero]
theorem rowR_yes {ja ka : Nat → Nat} {no : Nat → Int} {j k a : Nat} (hne : ¬ (ja a = j ∧ ka a = k)) : ∀ {A : Nat}, a < A → (∀ b, b < A → b ≠ a → ¬ (ja a = ja b ∧ ka a = ka b)) → rowR ja ka no j k A (ja a) (ka a) = no a
  | 0, h, _ => absurd h (Nat.not_lt_zero _)
  | A + 1, h, hd => by
    show rowR ja ka no j k A (ja a) (ka a) - -no A * un (ja A) (ka A) (ja a) (ka a) = _
    by_cases q : a = A
    · subst q
      rw [rowR_no (fun b hb => hd b (by omega) (by omega))]
      unfold un
      rw [if_neg hne, if_pos ⟨rfl, rfl⟩]
      omega
    · rw [rowR_yes hne (by omega) (fun b hb hba => hd b (by omega) hba)]
      have : un (ja A) (ka A) (ja a) (ka a) = 0 := if_neg (hd A (by omega) (fun z => q z.symm))
      rw [this, Int.mul_zero, Int.sub_zero]
