-- needs: 06 08 09 10 11 12 13 14 15 16 17 18 19 26 27 28 29 30 31 32 33 34 35 39
theorem P_move {n : Nat} {M : bM} {x1 x2 x3 x4 x5 : Int32} (h : Rel n M) : bCall 85 [cR 0 0, cI x1, cI x2, cI x3, cI x4, cI x5] M (fun v M1 => bCall 155 [cR 26 0, cI x1, cI x2, cI x3, cI x4, cI x5] M1 (Alike (n + 1) v)) := by
  obtain ⟨p, S, c, u, L, hR⟩ := h
  refine g_X6_move_0 ?_
  by_cases h1 : InR x1 3
  · obtain ⟨r, hr, hr3⟩ := h1
    refine S_isSheet_t hr hr3 (z1 ?_)
    by_cases h2 : InR x3 3
    · obtain ⟨t, ht, ht3⟩ := h2
      obtain ⟨e1, ⟨z, za, zb, e2, e3⟩, e4⟩ := hR.2.2.2.2.2.2 r hr3
      obtain ⟨d1, ⟨y, ya, yb, d2, d3⟩, d4⟩ := hR.2.2.2.2.2.2 t ht3
      obtain ⟨a, ea, a1, a2⟩ := iI_of x2
      obtain ⟨b, eb, b1, b2⟩ := iI_of x4
      obtain ⟨m, em, m1, m2⟩ := iI_of x5
      refine S_isSheet_t ht ht3 (n1 ⟨vin hr, vin ht, ?_⟩)
      rw [cl_of hr, cl_of ht]
      have hm : ∀ {Q : bQ}, _ → bCall 155 [cR 26 0, cI x1, cI x2, cI x3, cI x4, cI x5] M Q := fun h => g_X7_move_0 (T_isRow_t hr hr3 (z1 (T_isRow_t ht ht3 (n1 ⟨vin hr, h⟩))))
      rw [cl_of hr, cl_of ht, e3, d3] at hm
      by_cases hz : 0 ≤ z
      · by_cases hy : 0 ≤ y
        · have hm2 : ∀ {Q : bQ}, _ → bCall 155 [cR 26 0, cI x1, cI x2, cI x3, cI x4, cI x5] M Q := fun h => hm ⟨fun q => absurd (lt_of q rfl l0) (by omega), fun _ => ⟨vin ht, fun _ => ⟨vin hr, vin ht, h⟩, fun q => absurd (nle_of q l0 rfl) (by omega)⟩⟩
          refine S_isMissing_f e2 hz zb (n0 ?_)
          refine S_isMissing_f d2 hy yb (z0 ?_)
          rw [e1, d1]
          refine ⟨fun qs => ?_, fun qs => hm2 ⟨fun q => absurd q qs, fun _ => alike rfl hR.same⟩⟩
          have s1 : iI z - x2 = iI (z - a) := by rw [ea, iI_sub]
          have s2 : iI y - x4 = iI (y - b) := by rw [eb, iI_sub]
          by_cases g1 : 0 ≤ a ∧ 0 ≤ m ∧ m ≤ z - a
          · refine S_hasPlaces_t e2 hz zb ea em g1.1 g1.2.1 g1.2.2 (z1 ?_)
            by_cases g2 : 0 ≤ b ∧ 0 ≤ m ∧ m ≤ y - b
            · refine S_hasPlaces_t d2 hy yb eb em g2.1 g2.2.1 g2.2.2 (n1 ?_)
              obtain ⟨A, rfl⟩ := Int.eq_ofNat_of_zero_le g1.1
              obtain ⟨N, rfl⟩ := Int.eq_ofNat_of_zero_le g1.2.1
              obtain ⟨B, rfl⟩ := Int.eq_ofNat_of_zero_le g2.1
              refine ⟨⟨fun q => ?_, fun q => ?_, fun q => ?_, ?_, ?_⟩, ?_⟩
              · have := lt_of q ea l0
                omega
              · have := lt_of q eb l0
                omega
              · have := lt_of q em l0
                omega
              · rw [cl_of ea, cl_of em]
                omega
              · rw [cl_of eb, cl_of em]
                omega
              have f1 : Fr (fun g j _ => g = 12 ∧ j = t) M (bCp M 12 r 12 t x2 x4 x5) := bCp_fr
              have f1' : ∀ g j i, ¬ (g = 12 ∧ j = t) → (bCp M 12 r 12 t x2 x4 x5) g j i = M g j i := f1
              refine g_X7_move_0 (T_isRow_t hr hr3 (z1 (T_isRow_t ht ht3 (n1 ⟨vin hr, ?_⟩))))
              rw [cl_of hr, cl_of ht, f1' 54 0 r (by omega), f1' 54 0 t (by omega), f1' 55 0 r (by omega), f1' 55 0 t (by omega), e3, d3, s1, s2]
              refine ⟨fun q => absurd (lt_of q rfl l0) (by omega), fun _ => ⟨vin ht, fun _ => ⟨vin hr, vin ht, fun _ => ⟨fun q => absurd (lt_of q em l0) (by omega), fun _ => ⟨fun q => absurd (lt_of q ea l0) (by omega), fun _ => ⟨fun q => absurd (lt_of q eb l0) (by omega), fun _ => ⟨vin hr, fun q => absurd (lt_of q rfl em) (by omega), fun _ => ⟨vin ht, fun _ => ?_, fun q => absurd (nle_of q em rfl) (by omega)⟩⟩⟩⟩⟩, fun q => absurd qs q⟩, fun q => absurd (nle_of q l0 rfl) (by omega)⟩⟩
              have p1 : ∀ {k : Nat} {x6 : Int32}, x6 = iI (k : Int) → (((40 : Int32) * x1) + x2) + x6 = iI ((40 * r + A + k : Nat) : Int) := fun h6 => by
                rw [s40 hr ea, h6, iI_add]
                exact iIc (by omega)
              have p2 : ∀ {k : Nat} {x6 : Int32}, x6 = iI (k : Int) → (((40 : Int32) * x3) + x4) + x6 = iI ((40 * t + B + k : Nat) : Int) := fun h6 => by
                rw [s40 ht eb, h6, iI_add]
                exact iIc (by omega)
              have loop2 : ∀ (M2 : bM), Blk (bCp M 12 r 12 t x2 x4 x5) M2 57 0 0 N (fun i => (M 56 0 (40 * r + A + i)).toInt) → ∀ (m k : Nat), k + m = N → ∀ (M3 : bM) (x6 : Int32), x6 = iI (k : Int) → Blk M2 M3 56 0 (40 * t + B) (40 * t + B + k) (fun i => (M 56 0 (40 * r + A + (i - (40 * t + B)))).toInt) → bGo 155 (Alike (n + 1) (some (cI x5))) 139 [some (cR 26 0), some (cI x1), some (cI x2), some (cI x3), some (cI x4), some (cI x5), some (cI x6)] [] M3 := by
                intro M2 hB2 m
                induction m with
                | zero =>
                  intro k hk M3 x6 h6 hB
                  refine g_X7_move_139 ⟨fun c => ?_, fun c => ?_⟩
                  · have : k = N := by omega
                    subst this
                    refine alike rfl (hR.sheets (RelH.set (r := t) hR.2.2.2.2.2.2 ?_ ⟨y, ya, yb, ?_, ?_⟩ ?_ ?_) (f1.trans (hB2.fr.trans hB.fr)) ?_)
                    · rw [hB.keep (by omega), hB2.keep (by omega), f1' _ _ _ (by omega), hB.keep (by omega), hB2.keep (by omega), f1' _ _ _ (by omega), d1]
                    · rw [hB.keep (by omega), hB2.keep (by omega), f1' _ _ _ (by omega), d2]
                    · rw [hB.keep (by omega), hB2.keep (by omega), f1' _ _ _ (by omega), d3]
                    · intro i hi
                      rw [hB.keep (by omega), hB2.keep (by omega), bCp_r, cl_of ea, cl_of eb, cl_of em]
                      unfold va_cpy
                      by_cases hin : B ≤ i ∧ i < B + k
                      · rw [if_pos (by omega), hB.at (by omega) (by omega), tI, e4 _ (by omega), show 40 * r + A + (40 * t + i - (40 * t + B)) = 40 * r + (A + (i - B)) by omega]
                      · rw [if_neg (by omega), hB.keep (by omega), hB2.keep (by omega), f1' _ _ _ (by omega)]
                        exact d4 i hi
                    · intro i hi
                      refine ⟨?_, ?_, ?_, ?_, fun k hk => ⟨?_, ?_⟩⟩ <;> rw [hB.keep (by omega), hB2.keep (by omega), f1' _ _ _ (by omega)]
                    · intro g j i h
                      unfold rdF rdS rdC rdT rdB rdL at h
                      simp only [oL]
                      omega
                  · have := nle_of c em h6
                    omega
                | succ m ih =>
                  intro k hk M3 x6 h6 hB
                  refine g_X7_move_139 ⟨fun c => ?_, fun c => ⟨vin h6, vin (p2 h6), ?_⟩⟩
                  · have := le_of c em h6
                    omega
                  · rw [cl_of (p2 h6), cl_of h6]
                    refine ih (k + 1) (by omega) _ _ (inN h6) (hB.up (by omega) ?_)
                    rw [hB.keep (by omega), hB2.at (by omega) (by omega), show 40 * t + B + k - (40 * t + B) = k by omega]
              have loop1 : ∀ (m k : Nat), k + m = N → ∀ (M2 : bM) (x6 : Int32), x6 = iI (k : Int) → Blk (bCp M 12 r 12 t x2 x4 x5) M2 57 0 0 k (fun i => (M 56 0 (40 * r + A + i)).toInt) → bGo 155 (Alike (n + 1) (some (cI x5))) 102 [some (cR 26 0), some (cI x1), some (cI x2), some (cI x3), some (cI x4), some (cI x5), some (cI x6)] [] M2 := by
                intro m
                induction m with
                | zero =>
                  intro k hk M2 x6 h6 hB
                  refine g_X7_move_102 ⟨fun c => ?_, fun c => ?_⟩
                  · have : k = N := by omega
                    subst this
                    exact loop2 _ hB k 0 (by omega) _ _ l0 Blk.start
                  · have := nle_of c em h6
                    omega
                | succ m ih =>
                  intro k hk M2 x6 h6 hB
                  refine g_X7_move_102 ⟨fun c => ?_, fun c => ⟨vin (p1 h6), vin h6, ?_⟩⟩
                  · have := le_of c em h6
                    omega
                  · rw [cl_of (p1 h6), cl_of h6]
                    refine ih (k + 1) (by omega) _ _ (inN h6) (hB.up (by omega) ?_)
                    rw [hB.keep (by omega), f1' _ _ _ (by omega), tI]
              exact loop1 N 0 (by omega) _ _ l0 Blk.start
            · refine S_hasPlaces_f d2 hy yb eb em b1 b2 m1 m2 g2 (n0 ?_)
              refine hm2 ⟨fun _ => ?_, fun q => absurd qs q⟩
              refine ⟨fun q => alike rfl hR.same, fun q => ⟨fun q => alike rfl hR.same, fun q1 => ⟨fun q => alike rfl hR.same, fun q2 => ⟨vin hr, fun q => alike rfl hR.same, fun q3 => ⟨vin ht, fun q4 => ?_, fun _ => alike rfl hR.same⟩⟩⟩⟩⟩
              have := nlt_of q2 eb l0
              rw [s2] at q4
              have := le_of q4 em rfl
              exact absurd (by omega) g2
          · refine S_hasPlaces_f e2 hz zb ea em a1 a2 m1 m2 g1 (z0 ?_)
            refine hm2 ⟨fun _ => ?_, fun q => absurd qs q⟩
            refine ⟨fun q => alike rfl hR.same, fun q => ⟨fun q => alike rfl hR.same, fun q1 => ⟨fun q => alike rfl hR.same, fun q2 => ⟨vin hr, fun q => alike rfl hR.same, fun q3 => ?_⟩⟩⟩⟩
            have := nlt_of q em l0
            have := nlt_of q1 ea l0
            rw [s1] at q3
            have := nlt_of q3 rfl em
            exact absurd (by omega) g1
        · refine S_isMissing_f e2 hz zb (n0 ?_)
          refine S_isMissing_t d2 ya (by omega) (z1 ?_)
          exact hm ⟨fun q => alike rfl hR.same, fun _ => ⟨vin ht, fun q => absurd (le_of q l0 rfl) (by omega), fun q => alike rfl hR.same⟩⟩
      · refine S_isMissing_t e2 za (by omega) (n1 ?_)
        refine hm ⟨fun _ => alike rfl hR.same, fun q => absurd (nlt_of q rfl l0) (by omega)⟩
    · exact S_isSheet_f h2 (n0 (g_X7_move_0 (T_isRow_t hr hr3 (z1 (T_isRow_f h2 (n0 (alike rfl hR.same)))))))
  · exact S_isSheet_f h1 (z0 (g_X7_move_0 (T_isRow_f h1 (z0 (alike rfl hR.same)))))
theorem P_loads {n : Nat} {M : bM} {x1 x2 : Int32} (h : Rel n M) : bCall 83 [cR 0 0, cI x1, cI x2] M (fun v M1 => bCall 153 [cR 26 0, cI x1, cI x2] M1 (Alike (n + 1) v)) := by
  obtain ⟨p, S, c, u, L, hR⟩ := h
  obtain ⟨hp1, hp2, hp3, hp4, hp5⟩ := hR.1
  refine g_X6_loads_0 ?_
  by_cases h1 : InR x1 6
  · obtain ⟨s, hs, hs6⟩ := h1
    refine S_isSeries_t hs hs6 (z1 ?_)
    by_cases h2 : InR x2 3
    · obtain ⟨r, hr, hr3⟩ := h2
      obtain ⟨e1, ⟨z, za, zb, e2, e3⟩, e4⟩ := hR.2.2.2.2.2.2 r hr3
      refine S_isSheet_t hr hr3 (n1 ⟨vin hr, ?_⟩)
      rw [cl_of hr]
      have hm : ∀ {Q : bQ} {M : bM}, M 54 0 r = iI z → ((0 ≤ iI z → bGo 153 Q 30 [some (cR 26 0), some (cI x1), some (cI x2), some (cI (0 : Int32))] [] M) ∧ (¬0 ≤ iI z → Q (some (cI (-11 : Int32))) M)) → bCall 153 [cR 26 0, cI x1, cI x2] M Q := fun {Q M} e3 h => g_X7_loads_0 (T_isSeries_t hs hs6 (z1 (T_isRow_t hr hr3 (n1 ⟨vin hr, by rw [cl_of hr, e3]; exact h⟩))))
      by_cases hz : 0 ≤ z
      · refine S_isMissing_f e2 hz zb (z0 ?_)
        have hfb : ∀ k : Nat, 0 ≤ (if (k : Int) < z then (M 12 r k).toInt % p else 0) ∧ (if (k : Int) < z then (M 12 r k).toInt % p else 0) < p := by
          intro k
          split
          · exact ⟨Int.emod_nonneg _ (by omega), Int.emod_lt_of_pos _ (by omega)⟩
          · omega
        have loop2 : ∀ (M1 : bM), Blk M M1 7 s 0 32 (fun k => if (k : Int) < z then (M 12 r k).toInt % p else 0) → ∀ (m k : Nat), k + m = 32 → ∀ (M2 : bM) (x3 : Int32), x3 = iI (k : Int) → Blk (bU M1 0 0 7 (1 : Int32)) M2 28 0 (32 * s) (32 * s + k) (fun i => if ((i - 32 * s : Nat) : Int) < z then (M 12 r (i - 32 * s)).toInt % p else 0) → bGo 153 (Alike (n + 1) (some (cI (iI (if 32 < z then 32 else z))))) 30 [some (cR 26 0), some (cI x1), some (cI x2), some (cI x3)] [] M2 := by
          intro M1 hB1 m
          induction m with
          | zero =>
            intro k hk M2 x3 h3 hB
            have e54 : M2 54 0 r = iI z := by rw [hB.keep (by omega), bU_ne (by omega), hB1.keep (by omega), e3]
            have hRel : Rel (n + 1) M2 := by
              have : k = 32 := by omega
              subst this
              refine hR.set (t := s) (f := fun k => if (k : Int) < z then (M 12 r k).toInt % p else 0) ?_ ?_ (hB1.fr.trans (bU_fr.trans hB.fr)) ?_
              · intro i hi
                refine ⟨?_, ?_, hfb i⟩
                · rw [hB.keep (by omega), bU_ne (by omega), hB1.at (by omega) hi]
                · rw [hB.at (by omega) (by omega), show 32 * s + i - 32 * s = i by omega]
              · rw [hB.keep (by omega), bU_at]
                exact l1
              · intro g j i h
                unfold rdF rdC rdT rdL rdH at h
                simp only [oL]
                omega
            refine g_X7_loads_30 ⟨fun c => ⟨vin hr, ?_⟩, fun c => ?_⟩
            · rw [cl_of hr, e54]
              refine ⟨fun q => alike ?_ hRel, fun q => ⟨vin hr, alike ?_ hRel⟩⟩
              · have := le_of q l32 rfl
                rw [l32]
                exact iIc (by split <;> omega)
              · have := nle_of q l32 rfl
                rw [if_neg (by omega)]
            · have := nle_of c l32 h3
              omega
          | succ m ih =>
            intro k hk M2 x3 h3 hB
            have hk32 : k < 32 := by omega
            have e54 : M2 54 0 r = iI z := by rw [hB.keep (by omega), bU_ne (by omega), hB1.keep (by omega), e3]
            refine g_X7_loads_30 ⟨fun c => ?_, fun c => ⟨vin hr, ?_⟩⟩
            · have := le_of c l32 h3
              omega
            · rw [cl_of hr, e54]
              refine ⟨fun q => ⟨vin (s32 hs h3), ?_⟩, fun q => ⟨vin (s40 hr h3), ?_⟩⟩
              · have := le_of q rfl h3
                rw [cl_of (s32 hs h3)]
                refine ih (k + 1) (by omega) _ _ (inN h3) (hB.up (by omega) ?_)
                rw [show 32 * s + k - 32 * s = k by omega, if_neg (by omega)]
                exact l0
              · have := nle_of q rfl h3
                obtain ⟨w, ew, w1, w2⟩ := iI_of (M 12 r k)
                rw [cl_of (s40 hr h3)]
                refine T_mod (z := (M 12 r k).toInt) (p := p) ?_ (iI_long ?_ ?_ ?_) ?_ ?_ (by omega) hp4 ⟨vin (s32 hs h3), ?_⟩
                · rw [hB.keep (by omega), bU_ne (by omega), hB1.keep (by omega)]
                  exact hp2
                · rw [hB.keep (by omega), bU_ne (by omega), hB1.keep (by omega), tI]
                  exact (e4 k (by omega)).symm
                · have := Int32.le_toInt (M 12 r k)
                  omega
                · have := Int32.toInt_lt (M 12 r k)
                  omega
                · have := Int32.le_toInt (M 12 r k)
                  omega
                · have := Int32.toInt_lt (M 12 r k)
                  omega
                · rw [cl_of (s32 hs h3)]
                  refine ih (k + 1) (by omega) _ _ (inN h3) (hB.up (by omega) ?_)
                  rw [show 32 * s + k - 32 * s = k by omega, if_pos (by omega)]
        have loop1 : ∀ (m k : Nat), k + m = 32 → ∀ (M1 : bM) (x3 : Int32), x3 = iI (k : Int) → Blk M M1 7 s 0 k (fun k => if (k : Int) < z then (M 12 r k).toInt % p else 0) → bGo 83 (fun v M1 => bCall 153 [cR 26 0, cI x1, cI x2] M1 (Alike (n + 1) v)) 33 [some (cR 0 0), some (cI x1), some (cI x2), some (cI x3)] [] M1 := by
          intro m
          induction m with
          | zero =>
            intro k hk M1 x3 h3 hB
            refine g_X6_loads_33 ⟨fun c => ⟨Or.inr rfl, vin hr, ?_⟩, fun c => ?_⟩
            · have : k = 32 := by omega
              subst this
              rw [cl_of hr]
              refine S_min (a := z) (b := 32) ?_ (iL 32) (by omega) (by omega) (by omega) (by omega) ?_
              · rw [bU_ne (by omega), hB.keep (by omega), e2]
              · refine hm ?_ ⟨fun _ => loop2 M1 hB 32 0 rfl _ _ l0 Blk.start, fun q => absurd (nle_of q l0 rfl) (by omega)⟩
                rw [bU_ne (by omega), hB.keep (by omega), e3]
            · have := nle_of c l32 h3
              omega
          | succ m ih =>
            intro k hk M1 x3 h3 hB
            refine g_X6_loads_33 ⟨fun c => ?_, fun c => ⟨vin hs, vin hr, ?_⟩⟩
            · have := le_of c l32 h3
              omega
            · rw [cl_of hr, cl_of hs]
              refine S_numberOrZero (z := z) (k := k) ?_ za zb h3 (by omega) ?_
              · rw [hB.keep (by omega), e2]
              · refine S_taken (p := p) (z := if (k : Int) < z then (M 12 r k).toInt else 0) ?_ ?_ ?_ ?_ (by omega) hp4 ⟨vin h3, ?_⟩
                · rw [hB.keep (by omega)]
                  exact hp1
                · rw [hB.keep (by omega)]
                  split
                  · exact tI.symm
                  · exact l0
                · have := Int32.le_toInt (M 12 r k)
                  split <;> omega
                · have := Int32.toInt_lt (M 12 r k)
                  split <;> omega
                · rw [cl_of h3]
                  refine ih (k + 1) (by omega) _ _ (inN h3) (hB.up (by omega) (iIc ?_))
                  show _ = if (k : Int) < z then (M 12 r k).toInt % p else 0
                  split
                  · rfl
                  · simp
        exact loop1 32 0 rfl _ _ l0 Blk.start
      · refine S_isMissing_t e2 za (by omega) (z1 ?_)
        exact hm e3 ⟨fun q => absurd (le_of q l0 rfl) (by omega), fun q => alike rfl hR.same⟩
    · exact S_isSheet_f h2 (n0 (g_X7_loads_0 (T_isSeries_t hs hs6 (z1 (T_isRow_f h2 (n0 (alike rfl hR.same)))))))
  · exact S_isSeries_f h1 (z0 (g_X7_loads_0 (T_isSeries_f h1 (z0 (alike rfl hR.same)))))
theorem P_spills {n : Nat} {M : bM} {x1 x2 : Int32} (h : Rel n M) : bCall 94 [cR 0 0, cI x1, cI x2] M (fun v M1 => bCall 165 [cR 26 0, cI x1, cI x2] M1 (Alike (n + 1) v)) := by
  obtain ⟨p, S, c, u, L, hR⟩ := h
  refine g_X6_spills_0 ?_
  by_cases h1 : InR x1 6
  · obtain ⟨s, hs, hs6⟩ := h1
    have hS := hR.2.1 s hs6
    refine S_isSeries_t hs hs6 (z1 ?_)
    by_cases h2 : InR x2 3
    · obtain ⟨r, hr, hr3⟩ := h2
      obtain ⟨e1, ⟨z, za, zb, e2, e3⟩, e4⟩ := hR.2.2.2.2.2.2 r hr3
      refine S_isSheet_t hr hr3 (n1 ⟨vin hr, ?_⟩)
      rw [cl_of hr]
      have hm : ∀ {Q : bQ} {M : bM}, M 54 0 r = iI z → ((0 ≤ iI z → vp_in x2 3 ∧ (32 ≤ iI z → bGo 165 Q 54 [some (cR 26 0), some (cI x1), some (cI x2), some (cI (32 : Int32)), some (cI (0 : Int32))] [] M) ∧ (¬32 ≤ iI z → vp_in x2 3 ∧ bGo 165 Q 54 [some (cR 26 0), some (cI x1), some (cI x2), some (cI (iI z)), some (cI (0 : Int32))] [] M)) ∧ (¬0 ≤ iI z → Q (some (cI (-11 : Int32))) M)) → bCall 165 [cR 26 0, cI x1, cI x2] M Q := fun {Q M} e3 h => g_X7_spills_0 (T_isSeries_t hs hs6 (z1 (T_isRow_t hr hr3 (n1 ⟨vin hr, by rw [cl_of hr, e3]; exact h⟩))))
      by_cases hz : 0 ≤ z
      · refine S_isMissing_f e2 hz zb (z0 ⟨vin hr, ?_⟩)
        refine S_min (a := z) (b := 32) e2 (iL 32) (by omega) (by omega) (by omega) (by omega) ?_
        obtain ⟨N, hN⟩ := Int.eq_ofNat_of_zero_le (show 0 ≤ if 32 < z then 32 else z by split <;> omega)
        have hN32 : N ≤ 32 := by split at hN <;> omega
        have hNz : (N : Int) ≤ z := by split at hN <;> omega
        rw [hN]
        have loop2 : ∀ (M1 : bM), Blk M M1 12 r 0 N (fun k => (kp (M 55 0 r) (iI (S s k))).toInt) → ∀ (m k : Nat), k + m = N → ∀ (M2 : bM) (x4 : Int32), x4 = iI (k : Int) → Blk M1 M2 56 0 (40 * r) (40 * r + k) (fun i => (kp (M 55 0 r) (iI (S s (i - 40 * r)))).toInt) → bGo 165 (Alike (n + 1) (some (cI (iI (N : Int))))) 54 [some (cR 26 0), some (cI x1), some (cI x2), some (cI (iI (N : Int))), some (cI x4)] [] M2 := by
          intro M1 hB1 m
          induction m with
          | zero =>
            intro k hk M2 x4 h4 hB
            refine g_X7_spills_54 ⟨fun c => ?_, fun c => ?_⟩
            · have : k = N := by omega
              subst this
              refine alike rfl (hR.sheets (RelH.set (r := r) hR.2.2.2.2.2.2 ?_ ⟨z, za, zb, ?_, ?_⟩ ?_ ?_) (hB1.fr.trans hB.fr) ?_)
              · rw [hB.keep (by omega), hB1.keep (by omega), hB.keep (by omega), hB1.keep (by omega), e1]
              · rw [hB.keep (by omega), hB1.keep (by omega), e2]
              · rw [hB.keep (by omega), hB1.keep (by omega), e3]
              · intro i hi
                by_cases hik : i < k
                · rw [hB.keep (by omega), hB1.at (by omega) hik, hB.at (by omega) (by omega), show 40 * r + i - 40 * r = i by omega]
                · rw [hB.keep (by omega), hB1.keep (by omega), hB.keep (by omega), hB1.keep (by omega)]
                  exact e4 i hi
              · intro i hi
                refine ⟨?_, ?_, ?_, ?_, fun k hk => ⟨?_, ?_⟩⟩ <;> rw [hB.keep (by omega), hB1.keep (by omega)]
              · intro g j i h
                unfold rdF rdS rdC rdT rdB rdL at h
                simp only [oL]
                omega
            · have := nle_of c rfl h4
              omega
          | succ m ih =>
            intro k hk M2 x4 h4 hB
            refine g_X7_spills_54 ⟨fun c => ?_, fun c => ⟨vin (s32 hs h4), ?_⟩⟩
            · have := le_of c rfl h4
              omega
            · refine T_keeps hr hr3 h4 (by omega) ?_
              refine ih (k + 1) (by omega) _ _ (inN h4) (hB.up (by omega) ?_)
              rw [cl_of (s32 hs h4), hB.keep (by omega), hB1.keep (by omega), hB.keep (by omega), hB1.keep (by omega), tI, show 40 * r + k - 40 * r = k by omega, (hS k (by omega)).2.1]
        have loop1 : ∀ (m k : Nat), k + m = N → ∀ (M1 : bM) (x4 : Int32), x4 = iI (k : Int) → Blk M M1 12 r 0 k (fun k => (kp (M 55 0 r) (iI (S s k))).toInt) → bGo 94 (fun v M1 => bCall 165 [cR 26 0, cI x1, cI x2] M1 (Alike (n + 1) v)) 49 [some (cR 0 0), some (cI x1), some (cI x2), some (cI (iI (N : Int))), some (cI x4)] [] M1 := by
          intro m
          induction m with
          | zero =>
            intro k hk M1 x4 h4 hB
            refine g_X6_spills_49 ⟨fun c => ?_, fun c => ?_⟩
            · have : k = N := by omega
              subst this
              have e3' : M1 54 0 r = iI z := by rw [hB.keep (by omega), e3]
              refine hm e3' ⟨fun _ => ⟨vin hr, ?_⟩, fun q => absurd (nle_of q l0 rfl) (by omega)⟩
              have hb := loop2 M1 hB k 0 (by omega) M1 _ l0 Blk.start
              refine ⟨fun q => ?_, fun q => ⟨vin hr, ?_⟩⟩
              · have := le_of q l32 rfl
                have : k = 32 := by split at hN <;> omega
                subst this
                exact hb
              · have := nle_of q l32 rfl
                have : z = k := by rw [if_neg (by omega)] at hN; exact hN
                rw [this]
                exact hb
            · have := nle_of c rfl h4
              omega
          | succ m ih =>
            intro k hk M1 x4 h4 hB
            refine g_X6_spills_49 ⟨fun c => ?_, fun c => ⟨vin hr, vin hs, vin h4, ?_⟩⟩
            · have := le_of c rfl h4
              omega
            · rw [cl_of hr, cl_of hs, cl_of h4]
              refine S_keep h4 (by omega) ?_
              refine ih (k + 1) (by omega) _ _ (inN h4) (hB.up (by omega) ?_)
              rw [hB.keep (by omega), hB.keep (by omega), tI, e1, (hS k (by omega)).1]
        exact loop1 N 0 (by omega) _ _ l0 Blk.start
      · refine S_isMissing_t e2 za (by omega) (z1 ?_)
        exact hm e3 ⟨fun q => absurd (le_of q l0 rfl) (by omega), fun q => alike rfl hR.same⟩
    · exact S_isSheet_f h2 (n0 (g_X7_spills_0 (T_isSeries_t hs hs6 (z1 (T_isRow_f h2 (n0 (alike rfl hR.same)))))))
  · exact S_isSeries_f h1 (z0 (g_X7_spills_0 (T_isSeries_f h1 (z0 (alike rfl hR.same)))))
