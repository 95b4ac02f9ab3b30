-- needs: 06 08 09 10 11 12 16 17 26 27 28 29 30 31 32 33 34
/-! THE CALLS ON SERIES: class and model answer alike -/
theorem P_at {n : Nat} {M : bM} {x1 x2 : Int32} (h : Rel n M) : bCall 63 [cR 0 0, cI x1, cI x2] M (fun v M1 => bCall 106 [cR 26 0, cI x1, cI x2] M1 (Alike (n + 1) v)) := by
  obtain ⟨p, S, c, u, L, hR⟩ := h
  refine g_X6_at_0 ?_
  by_cases h1 : InR x1 6
  · obtain ⟨s, hs, hs6⟩ := h1
    refine S_isSeries_t hs hs6 (z1 ?_)
    by_cases h2 : InR x2 32
    · obtain ⟨k, hk, hk32⟩ := h2
      refine S_isTerm_t hk hk32 (z1 ⟨vin hs, vin hk, ?_⟩)
      refine g_X7_at_0 (T_isSeries_t hs hs6 (z1 (T_inN_t (n := 32) hk hk32 (iL 31) (by omega) (z1 ⟨vin (s32 hs hk), ?_⟩))))
      have hS := hR.2.1 s hs6 k hk32
      refine alike ?_ hR.same
      rw [cl_of hs, cl_of hk, cl_of (s32 hs hk), hS.1, hS.2.1]
    · refine S_isTerm_f h2 (z0 ?_)
      exact g_X7_at_0 (T_isSeries_t hs hs6 (z1 (T_inN_f (n := 32) h2 (iL 31) (by omega) (z0 (alike rfl hR.same)))))
  · exact S_isSeries_f h1 (z0 (g_X7_at_0 (T_isSeries_f h1 (z0 (alike rfl hR.same)))))
theorem P_term {n : Nat} {M : bM} {x1 x2 x3 : Int32} (h : Rel n M) : bCall 96 [cR 0 0, cI x1, cI x2, cI x3] M (fun v M1 => bCall 167 [cR 26 0, cI x1, cI x2, cI x3] M1 (Alike (n + 1) v)) := by
  obtain ⟨p, S, c, u, L, hR⟩ := h
  obtain ⟨hp1, hp2, hp3, hp4, hp5⟩ := hR.1
  refine g_X6_term_0 ?_
  by_cases h1 : InR x1 6
  · obtain ⟨s, hs, hs6⟩ := h1
    refine S_isSeries_t hs hs6 (z1 ?_)
    by_cases h2 : InR x2 32
    · obtain ⟨k, hk, hk32⟩ := h2
      obtain ⟨z, e3, z1', z2'⟩ := iI_of x3
      have hS := hR.2.1 s hs6 k hk32
      have hsk := s32 hs hk
      refine S_isTerm_t hk hk32 (n1 ⟨vin hs, vin hk, vin hs, ?_⟩)
      refine S_taken hp1 e3 z1' z2' (by omega) hp4 ⟨vin hk, Or.inr rfl, ?_⟩
      refine g_X7_term_0 (T_isSeries_t hs hs6 (z1 (T_inN_t (n := 32) hk hk32 (iL 31) (by omega) (n1 ⟨vin hsk, ?_⟩))))
      refine T_mod (p := p) ?_ (iI_long e3 z1' z2') (by omega) (by omega) (by omega) hp4 ⟨vin hsk, ?_⟩
      · rw [bU_ne (by omega), bU_ne (by omega)]
        exact hp2
      · have hb1 := Int.emod_nonneg z (by omega : p ≠ 0)
        have hb2 := Int.emod_lt_of_pos z (by omega : 0 < p)
        rw [cl_of hs, cl_of hk, cl_of hsk]
        refine alike ?_ (hR.set (t := s) (f := fun i => if i = k then z % p else S s i) ?_ ?_ ((bU_fr.trans bU_fr).trans bU_fr) ?_)
        · rw [bU_ne (by omega), bU_ne (by omega), hS.1, hS.2.1]
        · intro i hi
          have hSi := hR.2.1 s hs6 i hi
          by_cases hik : i = k
          · subst hik
            rw [bU_ne (by omega), bU_ne (by omega), bU_at, bU_at]
            simp only [if_true]
            exact ⟨trivial, trivial, hb1, hb2⟩
          · rw [bU_ne (by omega), bU_ne (by omega), bU_ne (by omega), bU_ne (by omega), bU_ne (by omega), bU_ne (by omega)]
            simp only [if_neg hik]
            exact hSi
        · rw [bU_ne (by omega), bU_at]
          exact l1
        · intro g j i h
          unfold rdF rdC rdT rdL rdH at h
          simp only [oL]
          omega
    · refine S_isTerm_f h2 (n0 ?_)
      exact g_X7_term_0 (T_isSeries_t hs hs6 (z1 (T_inN_f (n := 32) h2 (iL 31) (by omega) (n0 (alike rfl hR.same)))))
  · exact S_isSeries_f h1 (z0 (g_X7_term_0 (T_isSeries_f h1 (z0 (alike rfl hR.same)))))
theorem T_zerosOf_t {M : bM} {Q : bQ} {x : Int32} {a : Nat} {f : Nat → Int} (hx : x = iI (a : Int)) (ha : a + 32 ≤ 192) (hf : ∀ i, i < 32 → M 28 0 (a + i) = iI (f i) ∧ 0 ≤ f i ∧ f i < 997) (K : Q (some (cI (iI (lz f 32 0 : Nat)))) M) : bCall 133 [cR 28 0, cI x] M Q := by
  have loop : ∀ (n k : Nat), k + n = 32 → ∀ (x1 : Int32), x1 = iI (k : Int) → Q (some (cI (iI (lz f n k : Nat)))) M → bGo 133 Q 2 [some (cR 28 0), some (cI x), some (cI x1)] [] M := by
    intro n
    induction n with
    | zero =>
      intro k hk x1 h1 hK
      refine g_X7_zerosOf_t_2 ⟨fun c => ?_, fun c => ?_⟩
      · have : k = 32 := by omega
        subst this
        rw [h1]
        exact hK
      · have := nle_of c l32 h1
        omega
    | succ n ih =>
      intro k hk x1 h1 hK
      obtain ⟨f1, f2, f3⟩ := hf k (by omega)
      have hs : x + x1 = iI ((a + k : Nat) : Int) := by rw [hx, h1, iI_add]; exact iIc (by omega)
      refine g_X7_zerosOf_t_2 ⟨fun c => ?_, fun c => ⟨vin hs, fun d => ?_, fun d => ?_⟩⟩
      · have := le_of c l32 h1
        omega
      · rw [cl_of hs] at d
        have hz := ne_of' d f1 l0
        have : lz f (n + 1) k = k := by
          show (if f k = 0 then _ else _) = _
          rw [if_neg hz]
        rw [this] at hK
        rw [h1]
        exact hK
      · rw [cl_of hs] at d
        have hz := eq_of (Decidable.of_not_not d) f1 l0
        refine ih (k + 1) (by omega) _ (inN h1) ?_
        have : lz f (n + 1) k = lz f n (k + 1) := by
          show (if f k = 0 then _ else _) = _
          rw [if_pos hz]
        rw [← this]
        exact hK
  exact g_X7_zerosOf_t_0 (loop 32 0 rfl _ l0 K)
theorem T_zerosOf_m {M : bM} {Q : bQ} {f : Nat → Int} (hf : ∀ i, i < 32 → M 27 0 i = iI (f i) ∧ 0 ≤ f i ∧ f i < 997) (K : Q (some (cI (iI (lz f 32 0 : Nat)))) M) : bCall 133 [cR 27 0, cI (0 : Int32)] M Q := by
  have loop : ∀ (n k : Nat), k + n = 32 → ∀ (x1 : Int32), x1 = iI (k : Int) → Q (some (cI (iI (lz f n k : Nat)))) M → bGo 133 Q 2 [some (cR 27 0), some (cI (0 : Int32)), some (cI x1)] [] M := by
    intro n
    induction n with
    | zero =>
      intro k hk x1 h1 hK
      refine g_X7_zerosOf_m_2 ⟨fun c => ?_, fun c => ?_⟩
      · have : k = 32 := by omega
        subst this
        rw [h1]
        exact hK
      · have := nle_of c l32 h1
        omega
    | succ n ih =>
      intro k hk x1 h1 hK
      obtain ⟨f1, f2, f3⟩ := hf k (by omega)
      have hs : (0 : Int32) + x1 = iI (k : Int) := by rw [h1, l0, iI_add]; exact iIc (by omega)
      refine g_X7_zerosOf_m_2 ⟨fun c => ?_, fun c => ⟨vin hs, fun d => ?_, fun d => ?_⟩⟩
      · have := le_of c l32 h1
        omega
      · rw [cl_of hs] at d
        have hz := ne_of' d f1 l0
        have : lz f (n + 1) k = k := by
          show (if f k = 0 then _ else _) = _
          rw [if_neg hz]
        rw [this] at hK
        rw [h1]
        exact hK
      · rw [cl_of hs] at d
        have hz := eq_of (Decidable.of_not_not d) f1 l0
        refine ih (k + 1) (by omega) _ (inN h1) ?_
        have : lz f (n + 1) k = lz f n (k + 1) := by
          show (if f k = 0 then _ else _) = _
          rw [if_pos hz]
        rw [← this]
        exact hK
  exact g_X7_zerosOf_m_0 (loop 32 0 rfl _ l0 K)
theorem m32 {x : Int32} {s : Nat} (hx : x = iI (s : Int)) : (32 : Int32) * x = iI ((32 * s : Nat) : Int) := by
  rw [hx, l32, iI_mul]
  exact iIc (by omega)
theorem P_zeros {n : Nat} {M : bM} {x1 : Int32} (h : Rel n M) : bCall 103 [cR 0 0, cI x1] M (fun v M1 => bCall 175 [cR 26 0, cI x1] M1 (Alike (n + 1) v)) := by
  obtain ⟨p, S, c, u, L, hR⟩ := h
  obtain ⟨hp1, hp2, hp3, hp4, hp5⟩ := hR.1
  refine g_X6_zeros_0 ?_
  by_cases h1 : InR x1 6
  · obtain ⟨s, hs, hs6⟩ := h1
    have hS := hR.2.1 s hs6
    refine S_isSeries_t hs hs6 (z1 ⟨vin hs, ?_⟩)
    rw [cl_of hs]
    refine S_leadingZeros (f := S s) (fun i hi => ⟨(hS i hi).1, (hS i hi).2.2.1, by have := (hS i hi).2.2.2; omega⟩) ?_
    refine g_X7_zeros_0 (T_isSeries_t hs hs6 (z1 ?_))
    refine T_zerosOf_t (m32 hs) (by omega) (f := S s) (fun i hi => ⟨(hS i hi).2.1, (hS i hi).2.2.1, by have := (hS i hi).2.2.2; omega⟩) ?_
    exact alike rfl hR.same
  · exact S_isSeries_f h1 (z0 (g_X7_zeros_0 (T_isSeries_f h1 (z0 (alike rfl hR.same)))))
theorem P_times {n : Nat} {M : bM} {x1 x2 x3 : Int32} (h : Rel n M) : bCall 99 [cR 0 0, cI x1, cI x2, cI x3] M (fun v M1 => bCall 171 [cR 26 0, cI x1, cI x2, cI x3] M1 (Alike (n + 1) v)) := by
  obtain ⟨p, S, c, u, L, hR⟩ := h
  obtain ⟨hp1, hp2, hp3, hp4, hp5⟩ := hR.1
  refine g_X6_times_0 ?_
  by_cases h1 : InR x1 6
  · obtain ⟨s, hs, hs6⟩ := h1
    refine S_isSeries_t hs hs6 (z1 ?_)
    by_cases h2 : InR x2 6
    · obtain ⟨r, hr, hr6⟩ := h2
      refine S_isSeries_t hr hr6 (z1 ?_)
      by_cases h3 : InR x3 6
      · obtain ⟨t, ht, ht6⟩ := h3
        have hS := hR.2.1 s hs6
        have hS' := hR.2.1 r hr6
        refine S_isSeries_t ht ht6 (n1 ⟨vin hs, vin hr, vin ht, ?_⟩)
        rw [cl_of hs, cl_of hr, cl_of ht]
        refine S_multiply hp1 (by omega) hp4 (fun i hi => ⟨(hS i hi).1, (hS i hi).2.2⟩) (fun i hi => ⟨(hS' i hi).1, (hS' i hi).2.2⟩) fun M1 hB1 => ⟨Or.inr rfl, ?_⟩
        refine g_X7_times_0 (T_isSeries_t hs hs6 (z1 (T_isSeries_t hr hr6 (z1 (T_isSeries_t ht ht6 (n1 ?_))))))
        refine T_takes (f := S s) hs hs6 (fun i hi => ?_) fun M2 hB2 => ?_
        · rw [bU_ne (by omega), hB1.keep (by omega)]
          exact (hS i hi).2.1
        refine T_takes (f := S r) hr hr6 (fun i hi => ?_) fun M3 hB3 => ?_
        · rw [hB2.keep (by omega), bU_ne (by omega), hB1.keep (by omega)]
          exact (hS' i hi).2.1
        refine T_multiplies (p := p) (f := S s) (g := S r) ?_ (by omega) hp4 (by omega) (by omega) (fun i hi => ⟨?_, (hS i hi).2.2⟩) (fun i hi => ⟨?_, (hS' i hi).2.2⟩) fun M4 hB4 => ?_
        · rw [hB3.keep (by omega), hB2.keep (by omega), bU_ne (by omega), hB1.keep (by omega)]
          exact hp2
        · rw [hB3.keep (by omega), hB2.at (by omega) hi]
        · rw [hB3.at (by omega) hi]
        refine T_puts ht ht6 (f := fun i => cv (S s) (S r) i % p) (fun i hi => hB4.at (by omega) hi) fun M5 hB5 => ?_
        refine alike l1.symm (hR.set (t := t) (f := fun i => cv (S s) (S r) i % p) ?_ ?_ (hB1.fr.trans (bU_fr.trans (hB2.fr.trans (hB3.fr.trans (hB4.fr.trans hB5.fr))))) ?_)
        · intro i hi
          refine ⟨?_, ?_, Int.emod_nonneg _ (by omega), Int.emod_lt_of_pos _ (by omega)⟩
          · rw [hB5.keep (by omega), hB4.keep (by omega), hB3.keep (by omega), hB2.keep (by omega), bU_ne (by omega), hB1.at (by omega) hi]
          · rw [hB5.at (by omega) (by omega), show 32 * t + i - 32 * t = i by omega]
        · rw [hB5.keep (by omega), hB4.keep (by omega), hB3.keep (by omega), hB2.keep (by omega), bU_at]
          exact l1
        · intro g j i h
          unfold rdF rdC rdT rdL rdH at h
          simp only [oL]
          omega
      · exact S_isSeries_f h3 (n0 (g_X7_times_0 (T_isSeries_t hs hs6 (z1 (T_isSeries_t hr hr6 (z1 (T_isSeries_f h3 (n0 (alike rfl hR.same)))))))))
    · exact S_isSeries_f h2 (z0 (g_X7_times_0 (T_isSeries_t hs hs6 (z1 (T_isSeries_f h2 (z0 (alike rfl hR.same)))))))
  · exact S_isSeries_f h1 (z0 (g_X7_times_0 (T_isSeries_f h1 (z0 (alike rfl hR.same)))))
