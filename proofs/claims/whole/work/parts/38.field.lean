-- needs: 06 08 09 10 11 12 16 17 18 19 26 27 28 29 30 31 32 33 34 35
theorem T_isPrime {M : bM} {Q : bQ} {x : Int32} {n : Int} (hx : x = iI n) (hn1 : -2147483648 ≤ n) (hn2 : n < 2147483648) (Kt : 2 ≤ n → n ≤ 997 → isP n → Q (some (cI (1 : Int32))) M) (Kf : ¬ (2 ≤ n ∧ n ≤ 997 ∧ isP n) → Q (some (cI (0 : Int32))) M) : bCall 137 [cI x] M Q := by
  by_cases hb : 2 ≤ n ∧ n ≤ 997
  · obtain ⟨h2, h4⟩ := hb
    have loop : ∀ (t d : Nat), d + t = 34 → 2 ≤ d → ∀ (x1 : Int32), x1 = iI (d : Int) → (∀ e : Nat, 2 ≤ e → e < d → (e : Int) * e ≤ n → n % e ≠ 0) → bGo 137 Q 15 [some (cI x), some (cI x1)] [] M := by
      intro t
      induction t with
      | zero =>
        intro d hd h2d x1 h1 hI
        have hdd : x1 * x1 = iI (1156 : Int) := by rw [h1, iI_mul, show d = 34 by omega]; rfl
        refine g_X7_isPrime_15 ⟨fun c => ⟨fun e => ?_, fun e => ⟨Or.inr rfl, ?_⟩⟩, fun c => ?_⟩
        · have := le_of e hdd hx
          omega
        · refine Kt h2 h4 fun e he1 he2 => hI e he1 ?_ he2
          have h5 : ¬ 34 ≤ e := fun q => by
            have h6 : (34 : Int) * 34 ≤ (e : Int) * e := Int.mul_le_mul (by omega) (by omega) (by omega) (by omega)
            omega
          omega
        · have := nlt_of c hx hdd
          omega
      | succ t ih =>
        intro d hd h2d x1 h1 hI
        have hsq : (d : Int) * d ≤ 1156 := by
          have h6 : (d : Int) * d ≤ (34 : Int) * 34 := Int.mul_le_mul (by omega) (by omega) (by omega) (by omega)
          omega
        have hsq0 : 0 ≤ (d : Int) * d := Int.mul_nonneg (by omega) (by omega)
        have hdd : x1 * x1 = iI ((d : Int) * d) := by rw [h1, iI_mul]
        have hr : aRem x x1 = iI (n % d) := by rw [hx, h1, iI_remN (by omega) (by omega) (by omega) (by omega)]
        refine g_X7_isPrime_15 ⟨fun c => ⟨fun e => ?_, fun e => ⟨Or.inr rfl, ?_⟩⟩, fun c => ⟨fun q => ?_, fun nd => ⟨fun e => ⟨Or.inl rfl, ?_⟩, fun e => ?_⟩, fun nd => ?_⟩⟩
        · have h5 := le_of e hdd hx
          have h6 := lt_of c hx hdd
          omega
        · have hlt := lt_of c hx hdd
          refine Kt h2 h4 fun e he1 he2 => ?_
          by_cases h5 : e < d
          · exact hI e he1 h5 he2
          · have h6 : (d : Int) * d ≤ (e : Int) * e := Int.mul_le_mul (by omega) (by omega) (by omega) (by omega)
            omega
        · have := eq_of q h1 l0
          omega
        · have hle := le_of e hdd hx
          have h6 := Int.emod_nonneg n (by omega : (d : Int) ≠ 0)
          have h7 := Int.emod_lt_of_pos n (by omega : 0 < (d : Int))
          have hz := eq_of nd hr l0
          exact Kf fun hP => hP.2.2 d h2d hle hz
        · have h5 := nle_of e hdd hx
          have h6 := nlt_of c hx hdd
          omega
        · have hne : n % d ≠ 0 := ne_of' nd hr l0
          refine ih (d + 1) (by omega) (by omega) _ (inN h1) fun e he1 he2 he3 => ?_
          by_cases h5 : e = d
          · subst h5
            exact hne
          · exact hI e he1 (by omega) he3
    exact g_X7_isPrime_0 (T_in_t hx (iL 2) (iL 997) (by omega) (by omega) (by omega) (by omega) (n1 (loop 32 2 rfl (Nat.le_refl _) _ (iL 2) (fun e h1 h2 => by omega))))
  · exact g_X7_isPrime_0 (T_in_f hx (iL 2) (iL 997) hn1 hn2 (by omega) (by omega) (by omega) (by omega) (fun q => hb q) (n0 ⟨Or.inl rfl, Kf fun q => hb ⟨q.1, q.2.1⟩⟩))
theorem P_field {n : Nat} {M : bM} {x1 : Int32} (h : Rel n M) : bCall 75 [cR 0 0, cI x1] M (fun v M1 => bCall 138 [cR 26 0, cI x1] M1 (Alike (n + 1) v)) := by
  obtain ⟨p, S, c, u, L, hR⟩ := h
  obtain ⟨hp1, hp2, hp3, hp4, hp5⟩ := hR.1
  obtain ⟨q, e, q1, q2⟩ := iI_of x1
  have hbad : ¬ (2 ≤ q ∧ q ≤ 997 ∧ isP q) → bCall 138 [cR 26 0, cI x1] M (Alike (n + 1) (some (cI (-1 : Int32)))) := fun hn => g_X7_field_0 (T_isPrime e q1 q2 (fun a b c => absurd ⟨a, b, c⟩ hn) (fun _ => n0 (alike rfl hR.same)))
  refine g_X6_field_0 ⟨fun c => ?_, fun c => ⟨fun c2 => ?_, fun c2 => ?_⟩⟩
  · have := lt_of c e (iL 2)
    exact hbad fun z => by omega
  · have := lt_of c2 (iL 997) e
    exact hbad fun z => by omega
  have h2 := nlt_of c e (iL 2)
  have h4 := nlt_of c2 (iL 997) e
  refine S_isPrime e h2 h4 (fun hP => n1 ?_) (fun hP => n0 (hbad fun z => hP z.2.2))
  rw [hp1]
  have modelLoop : ∀ (M0 : bM), M0 26 0 0 = iI p → (∀ M2, Blk (bU M0 26 0 0 x1) M2 28 0 0 192 (fun _ => 0) → Rel (n + 1) M2) → bCall 138 [cR 26 0, cI x1] M0 (Alike (n + 1) (some (cI (iI p)))) := by
    intro M0 hM0 hK
    have loop : ∀ (m k : Nat), k + m = 192 → ∀ (M2 : bM) (x3 : Int32), x3 = iI (k : Int) → Blk (bU M0 26 0 0 x1) M2 28 0 0 k (fun _ => 0) → bGo 138 (Alike (n + 1) (some (cI (iI p)))) 21 [some (cR 26 0), some (cI x1), some (cI (iI p)), some (cI x3)] [] M2 := by
      intro m
      induction m with
      | zero =>
        intro k hk M2 x3 h3 hB
        refine g_X7_field_21 ⟨fun c => ?_, fun c => ?_⟩
        · have : k = 192 := by omega
          subst this
          exact alike rfl (hK _ hB)
        · have := nle_of c (iL 192) h3
          omega
      | succ m ih =>
        intro k hk M2 x3 h3 hB
        refine g_X7_field_21 ⟨fun c => ?_, fun c => ⟨vin h3, ?_⟩⟩
        · have := le_of c (iL 192) h3
          omega
        · rw [cl_of h3]
          exact ih (k + 1) (by omega) _ _ (inN h3) (hB.up (Nat.zero_le _) l0)
    refine g_X7_field_0 (T_isPrime e q1 q2 (fun a b c => n1 ?_) (fun hn => absurd ⟨h2, h4, hP⟩ hn))
    rw [hM0]
    exact loop 192 0 rfl _ _ l0 Blk.start
  have loop : ∀ (m k : Nat), k + m = 6 → ∀ (M2 : bM) (x3 : Int32), x3 = iI (k : Int) → Fr (fun g j i => g = 7 ∧ j < k ∨ g = 1 ∧ j = 0 ∧ i = 0) M M2 → M2 1 0 0 = x1 → (∀ j, j < k → ∀ i, i < 32 → M2 7 j i = iI 0) → bGo 75 (fun v M1 => bCall 138 [cR 26 0, cI x1] M1 (Alike (n + 1) v)) 39 [some (cR 0 0), some (cI x1), some (cI (iI p)), some (cI x3)] [] M2 := by
    intro m
    induction m with
    | zero =>
      intro k hk M2 x3 h3 hF hp hZ
      have hk6 : k = 6 := by omega
      subst hk6
      refine g_X6_field_39 ⟨fun c => ⟨Or.inr rfl, ?_⟩, fun c => ?_⟩
      · refine modelLoop _ ?_ fun M3 hB => ?_
        · rw [bU_ne (by omega), hF _ _ _ (by omega)]
          exact hp2
        · obtain ⟨h1, h2', h3', h4', h5', h6', h7'⟩ := hR
          have hFF := (hF.trans (bU_fr (g := 0) (j := 0) (i := 7) (x := (1 : Int32)))).trans ((bU_fr (g := 26) (j := 0) (i := 0) (x := x1)).trans hB.fr)
          refine ⟨q, fun _ _ => 0, _, _, _, ⟨?_, ?_, h2, h4, hP⟩, ?_, h3'.fr hFF ?_, h4'.fr hFF ?_, Or.inl ?_, (h6'.fr hFF ?_).up (Nat.le_succ n), h7'.fr hFF ?_⟩
          · rw [hB.keep (by omega), bU_ne (by omega), bU_ne (by omega), hp, e]
          · rw [hB.keep (by omega), bU_at, e]
          · intro s hs k hk
            refine ⟨?_, ?_, Int.le_refl _, by show (0 : Int) < q; omega⟩
            · rw [hB.keep (by omega), bU_ne (by omega), bU_ne (by omega)]
              exact hZ s hs k hk
            · rw [hB.at (by omega) (by omega)]
          · intro g j i h
            unfold rdC at h
            simp only [oL]
            omega
          · intro g j i h
            unfold rdT at h
            simp only [oL]
            omega
          · rw [hB.keep (by omega), bU_ne (by omega), bU_at]
            exact l1
          · intro g j i h
            unfold rdL at h
            simp only [oL]
            omega
          · intro g j i h
            unfold rdH at h
            simp only [oL]
            omega
      · have := nle_of c (iL 6) h3
        omega
    | succ m ih =>
      intro k hk M2 x3 h3 hF hp hZ
      refine g_X6_field_39 ⟨fun c => ?_, fun c => ⟨vin h3, ?_⟩⟩
      · have := le_of c (iL 6) h3
        omega
      · rw [cl_of h3]
        refine S_fill7 l0 fun M4 hB => ih (k + 1) (by omega) _ _ (inN h3) ((hF.trans hB.fr).mono ?_) ?_ fun j hj i hi => ?_
        · intro g j i h
          simp only [oL] at h
          omega
        · rw [hB.keep (by omega)]
          exact hp
        · by_cases hjk : j = k
          · subst hjk
            exact hB.at (by omega) hi
          · rw [hB.keep (by omega)]
            exact hZ j (by omega) i hi
  refine loop 6 0 rfl _ _ l0 (bU_fr.mono fun g j i h => Or.inr h) bU_at fun j hj => absurd hj (by omega)
theorem P_shift {n : Nat} {M : bM} {x1 x2 x3 : Int32} (h : Rel n M) : bCall 93 [cR 0 0, cI x1, cI x2, cI x3] M (fun v M1 => bCall 164 [cR 26 0, cI x1, cI x2, cI x3] M1 (Alike (n + 1) v)) := by
  obtain ⟨p, S, c, u, L, hR⟩ := h
  obtain ⟨hp1, hp2, hp3, hp4, hp5⟩ := hR.1
  refine g_X6_shift_0 ?_
  by_cases h1 : InR x1 6
  · obtain ⟨s, hs, hs6⟩ := h1
    refine S_isSeries_t hs hs6 (z1 ?_)
    by_cases h2 : InR x2 32
    · obtain ⟨b, hb, hb32⟩ := h2
      refine S_isTerm_t hb hb32 (z1 ?_)
      by_cases h3 : InR x3 6
      · obtain ⟨t, ht, ht6⟩ := h3
        have hS := hR.2.1 s hs6
        have hrest : (32 : Int32) - x2 = iI ((32 - b : Nat) : Int) := by rw [hb, l32, iI_sub]; exact iIc (by omega)
        refine S_isSeries_t ht ht6 (n1 ⟨vin hs, vin ht, ⟨fun q => ?_, fun q => ?_, fun q => ?_, ?_, ?_⟩, vin ht, ?_⟩)
        · have := lt_of q l0 l0
          omega
        · have := lt_of q hb l0
          omega
        · have := lt_of q hrest l0
          omega
        · rw [cl_of hrest, cl_of (n := 0) l0]
          omega
        · rw [cl_of hrest, cl_of hb]
          omega
        rw [cl_of hs, cl_of ht]
        refine S_fill4 (a := 0) l0 hb l0 (Nat.zero_le b) (by omega) fun M1 hB1 => ⟨Or.inr rfl, ?_⟩
        refine g_X7_shift_0 (T_isSeries_t hs hs6 (z1 (T_inN_t (n := 32) hb hb32 (iL 31) (by omega) (z1 (T_isSeries_t ht ht6 (n1 ?_))))))
        have hC : ∀ i, i < 32 → M1 7 t i = iI (if i < b then 0 else S s (i - b)) := by
          intro i hi
          by_cases hib : i < b
          · rw [if_pos hib]
            exact hB1.at (by omega) hib
          · rw [if_neg hib, hB1.keep (by omega), bCp_r, cl_of hrest, cl_of hb, cl_of (n := 0) l0]
            unfold va_cpy
            rw [if_pos (by omega), show 0 + (i - b) = i - b by omega]
            exact (hS (i - b) (by omega)).1
        have hfr : ∀ g j i, ¬ (g = 7 ∧ j = t ∨ g = 0 ∧ i = 7) → (bU M1 0 0 7 (1 : Int32)) g j i = M g j i := fun g j i hn => by
          rw [bU_ne (by omega), hB1.keep (by omega)]
          exact bCp_fr _ _ _ (by omega)
        refine T_takes (f := S s) hs hs6 (fun i hi => ?_) fun M2 hB2 => ?_
        · rw [hfr _ _ _ (by omega)]
          exact (hS i hi).2.1
        have hF0 : Fr (fun g j i => g = 7 ∧ j = t ∨ g = 0 ∧ i = 7) M (bU M1 0 0 7 (1 : Int32)) := hfr
        have loop : ∀ (m k : Nat), k + m = 32 → ∀ (M3 : bM) (x4 : Int32), x4 = iI (k : Int) → Blk M2 M3 28 0 (32 * t) (32 * t + k) (fun i => if i - 32 * t < b then 0 else S s (i - 32 * t - b)) → bGo 164 (Alike (n + 1) (some (cI (1 : Int32)))) 38 [some (cR 26 0), some (cI x1), some (cI x2), some (cI x3), some (cI x4)] [] M3 := by
          intro m
          induction m with
          | zero =>
            intro k hk M3 x4 h4 hB
            refine g_X7_shift_38 ⟨fun c => ?_, fun c => ?_⟩
            · have : k = 32 := by omega
              subst this
              refine alike rfl (hR.set (t := t) (f := fun i => if i < b then 0 else S s (i - b)) ?_ ?_ (hF0.trans (hB2.fr.trans hB.fr)) ?_)
              · intro i hi
                have e2 : M3 28 0 (32 * t + i) = iI (if i < b then 0 else S s (i - b)) := by
                  rw [hB.at (by omega) (by omega), show 32 * t + i - 32 * t = i by omega]
                refine ⟨?_, e2, ?_⟩
                · rw [hB.keep (by omega), hB2.keep (by omega), bU_ne (by omega)]
                  exact hC i hi
                · by_cases hib : i < b
                  · simp only [if_pos hib]
                    omega
                  · simp only [if_neg hib]
                    exact (hS (i - b) (by omega)).2.2
              · rw [hB.keep (by omega), hB2.keep (by omega), bU_at]
                exact l1
              · intro g j i h
                unfold rdF rdC rdT rdL rdH at h
                simp only [oL]
                omega
            · have := nle_of c l32 h4
              omega
          | succ m ih =>
            intro k hk M3 x4 h4 hB
            have hk32 : k < 32 := by omega
            refine g_X7_shift_38 ⟨fun c => ?_, fun c => ⟨fun d => ?_, fun d => ?_⟩⟩
            · have := le_of c l32 h4
              omega
            · have hle := le_of d hb h4
              have hkb : x4 - x2 = iI ((k - b : Nat) : Int) := by rw [hb, h4, iI_sub]; exact iIc (by omega)
              refine ⟨vin hkb, vin (s32 ht h4), ?_⟩
              rw [cl_of (s32 ht h4), cl_of hkb]
              refine ih (k + 1) (by omega) _ _ (inN h4) (hB.up (by omega) ?_)
              rw [show 32 * t + k - 32 * t = k by omega, if_neg (by omega), hB.keep (by omega), hB2.at (by omega) (by omega)]
            · have hlt := nle_of d hb h4
              refine ⟨vin (s32 ht h4), ?_⟩
              rw [cl_of (s32 ht h4)]
              refine ih (k + 1) (by omega) _ _ (inN h4) (hB.up (by omega) ?_)
              rw [show 32 * t + k - 32 * t = k by omega, if_pos (by omega)]
              exact l0
        exact loop 32 0 rfl _ _ l0 Blk.start
      · exact S_isSeries_f h3 (n0 (g_X7_shift_0 (T_isSeries_t hs hs6 (z1 (T_inN_t (n := 32) hb hb32 (iL 31) (by omega) (z1 (T_isSeries_f h3 (n0 (alike rfl hR.same)))))))))
    · exact S_isTerm_f h2 (z0 (g_X7_shift_0 (T_isSeries_t hs hs6 (z1 (T_inN_f (n := 32) h2 (iL 31) (by omega) (z0 (alike rfl hR.same)))))))
  · exact S_isSeries_f h1 (z0 (g_X7_shift_0 (T_isSeries_f h1 (z0 (alike rfl hR.same)))))
