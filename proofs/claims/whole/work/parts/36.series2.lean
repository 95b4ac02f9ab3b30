-- needs: 06 08 09 10 11 12 16 17 18 19 26 27 28 29 30 31 32 33 34 35
theorem rows_fr {M M' : bM} {a b : Nat} (h : ∀ g' j', (g', j') ≠ (7, a) → (g', j') ≠ (7, b) → M' g' j' = M g' j') : ∀ g j i, ¬ (g = 7 ∧ (j = a ∨ j = b)) → M' g j i = M g j i := fun g j i hn => by rw [h g j (fun z => hn (by cases z; exact ⟨rfl, Or.inl rfl⟩)) (fun z => hn (by cases z; exact ⟨rfl, Or.inr rfl⟩))]
theorem P_inverse {n : Nat} {M : bM} {x1 x2 : Int32} (h : Rel n M) : bCall 79 [cR 0 0, cI x1, cI x2] M (fun v M1 => bCall 149 [cR 26 0, cI x1, cI x2] M1 (Alike (n + 1) v)) := by
  obtain ⟨p, S, c, u, L, hR⟩ := h
  obtain ⟨hp1, hp2, hp3, hp4, hp5⟩ := hR.1
  refine g_X6_inverse_0 ?_
  by_cases h1 : InR x1 6
  · obtain ⟨s, hs, hs6⟩ := h1
    refine S_isSeries_t hs hs6 (z1 ?_)
    by_cases h2 : InR x2 6
    · obtain ⟨t, ht, ht6⟩ := h2
      have hS := hR.2.1 s hs6
      refine S_isSeries_t ht ht6 (n1 ⟨vin hs, vin l0, ?_⟩)
      rw [cl_of hs, cl_of ht, cl_of (n := 0) l0, (hS 0 (by omega)).1]
      have hm0 : M 28 0 ((32 : Int32) * x1).toNatClampNeg = iI (S s 0) := by rw [cl_of (m32 hs)]; exact (hS 0 (by omega)).2.1
      refine ⟨fun q => ?_, fun q => ?_⟩
      · refine S_constant hp1 (by omega) hp4 l1 (by omega) (by omega) fun M1 hB1 => ⟨vin hs, vin ht, ?_⟩
        rw [show (1 : Int) % p = 1 from Int.emod_eq_of_lt (by omega) (by omega)] at hB1
        refine S_divide (p := p) (f := cst 1) (g := S s) (by rw [hB1.keep (by omega)]; exact hp1) hp3 hp4 (by omega) (by omega) (by omega) (fun i hi => ⟨hB1.at (by omega) hi, ?_, ?_⟩) (fun i hi => ⟨?_, (hS i hi).2.2⟩) fun M3 hB2 hV => ⟨Or.inr rfl, ?_⟩
        · unfold cst; split <;> omega
        · unfold cst; split <;> omega
        · rw [hB1.keep (by omega)]
          exact (hS i hi).1
        have hF := rows_fr hB2
        have hFF : Fr (fun g j i => g = 7 ∧ (j = 12 ∨ j = t)) M1 M3 := hF
        refine g_X7_inverse_0 (T_isSeries_t hs hs6 (z1 (T_isSeries_t ht ht6 (n1 ⟨vin (m32 hs), ?_⟩))))
        rw [bU_ne (by omega), hF _ _ _ (by omega), hB1.keep (by omega), hm0]
        refine ⟨fun _ => ?_, fun q' => absurd q q'⟩
        refine T_setsTo (z := 1) l1 fun M4 hB4 => ?_
        refine T_takes (f := S s) hs hs6 (fun i hi => ?_) fun M5 hB5 => ?_
        · rw [hB4.keep (by omega), bU_ne (by omega), hF _ _ _ (by omega), hB1.keep (by omega)]
          exact (hS i hi).2.1
        refine T_divides (p := p) (f := cst 1) (g := S s) ?_ hp3 hp4 (by omega) (by omega) (fun i hi => ⟨?_, ?_, ?_⟩) (fun i hi => ⟨hB5.at (by omega) hi, (hS i hi).2.2⟩) fun M6 hB6 => ?_
        · rw [hB5.keep (by omega), hB4.keep (by omega), bU_ne (by omega), hF _ _ _ (by omega), hB1.keep (by omega)]
          exact hp2
        · rw [hB5.keep (by omega), hB4.at (by omega) hi]
        · unfold cst; split <;> omega
        · unfold cst; split <;> omega
        refine T_puts ht ht6 (f := dv p (cst 1) (S s)) (fun i hi => hB6.at (by omega) hi) fun M7 hB7 => ?_
        refine alike l1.symm (hR.set (t := t) (f := dv p (cst 1) (S s)) ?_ ?_ (hB1.fr.trans (hFF.trans (bU_fr.trans (hB4.fr.trans (hB5.fr.trans (hB6.fr.trans hB7.fr)))))) ?_)
        · intro i hi
          refine ⟨?_, ?_, dv_bd (by omega) i⟩
          · rw [hB7.keep (by omega), hB6.keep (by omega), hB5.keep (by omega), hB4.keep (by omega), bU_ne (by omega), hV i hi]
          · rw [hB7.at (by omega) (by omega), show 32 * t + i - 32 * t = i by omega]
        · rw [hB7.keep (by omega), hB6.keep (by omega), hB5.keep (by omega), hB4.keep (by omega), bU_at]
          exact l1
        · intro g j i h
          unfold rdF rdC rdT rdL rdH at h
          simp only [oL]
          omega
      · refine g_X7_inverse_0 (T_isSeries_t hs hs6 (z1 (T_isSeries_t ht ht6 (n1 ⟨vin (m32 hs), ?_⟩))))
        rw [hm0]
        exact ⟨fun q' => absurd q' q, fun _ => alike rfl hR.same⟩
    · exact S_isSeries_f h2 (n0 (g_X7_inverse_0 (T_isSeries_t hs hs6 (z1 (T_isSeries_f h2 (n0 (alike rfl hR.same)))))))
  · exact S_isSeries_f h1 (z0 (g_X7_inverse_0 (T_isSeries_f h1 (z0 (alike rfl hR.same)))))
theorem P_weigh {n : Nat} {M : bM} {x1 x2 : Int32} (h : Rel n M) : bCall 102 [cR 0 0, cI x1, cI x2] M (fun v M1 => bCall 174 [cR 26 0, cI x1, cI x2] M1 (Alike (n + 1) v)) := by
  obtain ⟨p, S, c, u, L, hR⟩ := h
  obtain ⟨hp1, hp2, hp3, hp4, hp5⟩ := hR.1
  refine g_X6_weigh_0 ?_
  by_cases h1 : InR x1 6
  · obtain ⟨s, hs, hs6⟩ := h1
    refine S_isSeries_t hs hs6 (z1 ?_)
    by_cases h2 : InR x2 6
    · obtain ⟨t, ht, ht6⟩ := h2
      have hS := hR.2.1 s hs6
      refine S_isSeries_t ht ht6 (n1 ⟨vin hs, vin ht, ?_⟩)
      rw [cl_of hs, cl_of ht]
      refine S_weight hp1 (by omega) hp4 (fun i hi => ⟨(hS i hi).1, (hS i hi).2.2⟩) fun M1 hB1 => ⟨Or.inr rfl, ?_⟩
      refine g_X7_weigh_0 (T_isSeries_t hs hs6 (z1 (T_isSeries_t ht ht6 (n1 ?_))))
      have loop : ∀ (m k : Nat), k + m = 32 → ∀ (M2 : bM) (x3 : Int32), x3 = iI (k : Int) → Blk (bU M1 0 0 7 (1 : Int32)) M2 28 0 (32 * t) (32 * t + k) (fun i => ((i - 32 * t : Nat) : Int) * S s (i - 32 * t) % p) → bGo 174 (Alike (n + 1) (some (cI (1 : Int32)))) 18 [some (cR 26 0), some (cI x1), some (cI x2), some (cI x3)] [] M2 := by
        intro m
        induction m with
        | zero =>
          intro k hk M2 x3 h3 hB
          refine g_X7_weigh_18 ⟨fun c => ?_, fun c => ?_⟩
          · have : k = 32 := by omega
            subst this
            refine alike rfl (hR.set (t := t) (f := fun i => (i : Int) * S s i % p) ?_ ?_ (hB1.fr.trans (bU_fr.trans hB.fr)) ?_)
            · intro i hi
              refine ⟨?_, ?_, Int.emod_nonneg _ (by omega), Int.emod_lt_of_pos _ (by omega)⟩
              · rw [hB.keep (by omega), bU_ne (by omega), hB1.at (by omega) hi]
              · rw [hB.at (by omega) (by omega), show 32 * t + i - 32 * t = i by omega]
            · rw [hB.keep (by omega), bU_at]
              exact l1
            · intro g j i h
              unfold rdF rdC rdT rdL rdH at h
              simp only [oL]
              omega
          · have := nle_of c l32 h3
            omega
        | succ m ih =>
          intro k hk M2 x3 h3 hB
          have hk32 : k < 32 := by omega
          refine g_X7_weigh_18 ⟨fun c => ?_, fun c => ⟨vin (s32 hs h3), fun q => ?_, vin (s32 ht h3), ?_⟩⟩
          · have := le_of c l32 h3
            omega
          · rw [hB.keep (by omega), bU_ne (by omega), hB1.keep (by omega)] at q
            have := eq_of q hp2 l0
            omega
          · rw [cl_of (s32 hs h3), cl_of (s32 ht h3)]
            refine ih (k + 1) (by omega) _ _ (inN h3) (hB.up (by omega) ?_)
            have hSk := hS k hk32
            have hm : 0 ≤ S s k * (k : Int) ∧ S s k * (k : Int) ≤ 992016 := mul_bd hSk.2.2.1 (by omega : S s k < 997) (by omega) (by omega : (k : Int) < 997) (by omega)
            rw [hB.keep (by omega : ¬ ((26 : Nat) = 28 ∧ (0 : Nat) = 0 ∧ 32 * t ≤ 0 ∧ 0 < 32 * t + k)), bU_ne (by omega), hB1.keep (by omega), hp2]
            have e28 : M2 28 0 (32 * s + k) = iI (S s k) := by
              rw [hB.keep (by omega), bU_ne (by omega), hB1.keep (by omega)]
              exact hSk.2.1
            rw [e28, h3, iI_mul, iI_remN hm.1 (by omega) (by omega) (by omega)]
            refine iIc ?_
            rw [show 32 * t + k - 32 * t = k by omega, Int.mul_comm]
      exact loop 32 0 rfl _ _ l0 Blk.start
    · exact S_isSeries_f h2 (n0 (g_X7_weigh_0 (T_isSeries_t hs hs6 (z1 (T_isSeries_f h2 (n0 (alike rfl hR.same)))))))
  · exact S_isSeries_f h1 (z0 (g_X7_weigh_0 (T_isSeries_f h1 (z0 (alike rfl hR.same)))))
theorem P_mix {n : Nat} {M : bM} {x1 x2 x3 x4 x5 : Int32} (h : Rel n M) : bCall 84 [cR 0 0, cI x1, cI x2, cI x3, cI x4, cI x5] M (fun v M1 => bCall 154 [cR 26 0, cI x1, cI x2, cI x3, cI x4, cI x5] M1 (Alike (n + 1) v)) := by
  obtain ⟨p, S, c, u, L, hR⟩ := h
  obtain ⟨hp1, hp2, hp3, hp4, hp5⟩ := hR.1
  refine g_X6_mix_0 ?_
  by_cases h1 : InR x1 6
  · obtain ⟨s, hs, hs6⟩ := h1
    refine S_isSeries_t hs hs6 (z1 ?_)
    by_cases h2 : InR x3 6
    · obtain ⟨r, hr, hr6⟩ := h2
      refine S_isSeries_t hr hr6 (z1 ?_)
      by_cases h3 : InR x5 6
      · obtain ⟨t, ht, ht6⟩ := h3
        obtain ⟨a, ea, a1, a2⟩ := iI_of x2
        obtain ⟨b, eb, b1, b2⟩ := iI_of x4
        have hS := hR.2.1 s hs6
        have hS' := hR.2.1 r hr6
        refine S_isSeries_t ht ht6 (n1 ⟨vin hs, vin hr, vin ht, ?_⟩)
        rw [cl_of hs, cl_of hr, cl_of ht]
        refine S_combine hp1 (by omega) hp4 ea a1 a2 eb b1 b2 (fun i hi => ⟨(hS i hi).1, (hS i hi).2.2⟩) (fun i hi => ⟨(hS' i hi).1, (hS' i hi).2.2⟩) fun M1 hB1 => ⟨Or.inr rfl, ?_⟩
        refine g_X7_mix_0 (T_isSeries_t hs hs6 (z1 (T_isSeries_t hr hr6 (z1 (T_isSeries_t ht ht6 (n1 ?_))))))
        have am1 := Int.emod_nonneg a (by omega : p ≠ 0)
        have am2 := Int.emod_lt_of_pos a (by omega : 0 < p)
        have bm1 := Int.emod_nonneg b (by omega : p ≠ 0)
        have bm2 := Int.emod_lt_of_pos b (by omega : 0 < p)
        have loop : ∀ (m k : Nat), k + m = 32 → ∀ (M2 : bM) (x6 : Int32), x6 = iI (k : Int) → Blk (bU M1 0 0 7 (1 : Int32)) M2 27 0 0 k (fun i => (a % p * S s i + b % p * S r i) % p) → bGo 154 (Alike (n + 1) (some (cI (1 : Int32)))) 27 [some (cR 26 0), some (cI x1), some (cI x2), some (cI x3), some (cI x4), some (cI x5), some (cI x6)] [] M2 := by
          intro m
          induction m with
          | zero =>
            intro k hk M2 x6 h6 hB
            refine g_X7_mix_27 ⟨fun c => ?_, fun c => ?_⟩
            · have : k = 32 := by omega
              subst this
              refine T_puts ht ht6 (fun i hi => hB.at (by omega) hi) fun M5 hB5 => ?_
              refine alike rfl (hR.set (t := t) (f := fun i => (a % p * S s i + b % p * S r i) % p) ?_ ?_ (hB1.fr.trans (bU_fr.trans (hB.fr.trans hB5.fr))) ?_)
              · intro i hi
                refine ⟨?_, ?_, Int.emod_nonneg _ (by omega), Int.emod_lt_of_pos _ (by omega)⟩
                · rw [hB5.keep (by omega), hB.keep (by omega), bU_ne (by omega), hB1.at (by omega) hi]
                · rw [hB5.at (by omega) (by omega), show 32 * t + i - 32 * t = i by omega]
              · rw [hB5.keep (by omega), hB.keep (by omega), bU_at]
                exact l1
              · intro g j i h
                unfold rdF rdC rdT rdL rdH at h
                simp only [oL]
                omega
            · have := nle_of c l32 h6
              omega
          | succ m ih =>
            intro k hk M2 x6 h6 hB
            have hk32 : k < 32 := by omega
            have hp' : M2 26 0 0 = iI p := by rw [hB.keep (by omega), bU_ne (by omega), hB1.keep (by omega)]; exact hp2
            have e1 : M2 28 0 (32 * s + k) = iI (S s k) := by
              rw [hB.keep (by omega), bU_ne (by omega), hB1.keep (by omega)]
              exact (hS k hk32).2.1
            have e2 : M2 28 0 (32 * r + k) = iI (S r k) := by
              rw [hB.keep (by omega), bU_ne (by omega), hB1.keep (by omega)]
              exact (hS' k hk32).2.1
            have hSk := (hS k hk32).2.2
            have hSk' := (hS' k hk32).2.2
            have m1 := mul_bd am1 am2 hSk.1 hSk.2 hp4
            have m2 := mul_bd bm1 bm2 hSk'.1 hSk'.2 hp4
            refine g_X7_mix_27 ⟨fun c => ?_, fun c => ?_⟩
            · have := le_of c l32 h6
              omega
            · refine T_mod hp' (iI_long ea a1 a2) (by omega) (by omega) (by omega) hp4 ⟨vin (s32 hs h6), ?_⟩
              refine T_mod hp' (iI_long eb b1 b2) (by omega) (by omega) (by omega) hp4 ⟨vin (s32 hr h6), ?_⟩
              rw [cl_of (s32 hs h6), cl_of (s32 hr h6), e1, e2]
              refine T_mod (z := a % p * S s k + b % p * S r k) hp' ?_ (by omega) (by omega) (by omega) hp4 ⟨vin h6, ?_⟩
              · rw [iI_long (z := a % p) rfl (by omega) (by omega), iI_long (z := b % p) rfl (by omega) (by omega), iI_long (z := S s k) rfl (by omega) (by omega), iI_long (z := S r k) rfl (by omega) (by omega), jI_mul, jI_mul, jI_add]
              · rw [cl_of h6]
                exact ih (k + 1) (by omega) _ _ (inN h6) (hB.up (by omega) rfl)
        exact loop 32 0 rfl _ _ l0 Blk.start
      · exact S_isSeries_f h3 (n0 (g_X7_mix_0 (T_isSeries_t hs hs6 (z1 (T_isSeries_t hr hr6 (z1 (T_isSeries_f h3 (n0 (alike rfl hR.same)))))))))
    · exact S_isSeries_f h2 (z0 (g_X7_mix_0 (T_isSeries_t hs hs6 (z1 (T_isSeries_f h2 (z0 (alike rfl hR.same)))))))
  · exact S_isSeries_f h1 (z0 (g_X7_mix_0 (T_isSeries_f h1 (z0 (alike rfl hR.same)))))
