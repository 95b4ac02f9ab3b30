-- needs: 06 08 09 10 11 12 13 14 15 16 17 18 19 26 27 28 29 30 31 32 33 34 35
theorem tI {x : Int32} : iI x.toInt = x := Int32.ofInt_toInt x
theorem s40 {x y : Int32} {s k : Nat} (hx : x = iI (s : Int)) (hy : y = iI (k : Int)) : (40 : Int32) * x + y = iI ((40 * s + k : Nat) : Int) := by
  rw [hx, hy, iL 40, iI_mul, iI_add]
  exact iIc (by omega)
theorem RelH.set {M M' : bM} {r : Nat} (h : RelH M) (h1 : M' 6 r 1 = M' 55 0 r) (h2 : ∃ z : Int, -1 ≤ z ∧ z ≤ 40 ∧ M' 6 r 2 = iI z ∧ M' 54 0 r = iI z) (h3 : ∀ k, k < 40 → M' 12 r k = M' 56 0 (40 * r + k)) (h4 : ∀ i, i ≠ r → M' 6 i 1 = M 6 i 1 ∧ M' 6 i 2 = M 6 i 2 ∧ M' 55 0 i = M 55 0 i ∧ M' 54 0 i = M 54 0 i ∧ ∀ k, k < 40 → M' 12 i k = M 12 i k ∧ M' 56 0 (40 * i + k) = M 56 0 (40 * i + k)) : RelH M' := by
  intro i hi
  by_cases he : i = r
  · subst he
    exact ⟨h1, h2, h3⟩
  · obtain ⟨a, b, c, d, e⟩ := h4 i he
    rw [a, b, c, d]
    refine ⟨(h i hi).1, (h i hi).2.1, fun k hk => ?_⟩
    rw [(e k hk).1, (e k hk).2]
    exact (h i hi).2.2 k hk
/-- only the sheets have changed -/
theorem Rels.sheets {n : Nat} {p : Int} {S : Nat → Nat → Int} {c u : Nat} {L0 : Nat → Nat} {M M' : bM} {L : Nat → Nat → Nat → Prop} (h : Rels n p S c u L0 M) (hH : RelH M') (hF : Fr L M M') (hd : ∀ g j i, rdF g j i ∨ rdS g j i ∨ rdC g j i ∨ rdT g j i ∨ rdB g j i ∨ rdL g j i → ¬ L g j i) : Rel (n + 1) M' := by
  obtain ⟨h1, h2, h3, h4, h5, h6, h7⟩ := h
  exact ⟨p, S, c, u, L0, h1.fr hF (fun g j i z => hd g j i (Or.inl z)), h2.fr hF (fun g j i z => hd g j i (Or.inr (Or.inl z))), h3.fr hF (fun g j i z => hd g j i (Or.inr (Or.inr (Or.inl z)))), h4.fr hF (fun g j i z => hd g j i (Or.inr (Or.inr (Or.inr (Or.inl z))))), h5.fr hF (fun g j i z => hd g j i (Or.inr (Or.inr (Or.inr (Or.inr (Or.inl z)))))), (h6.fr hF (fun g j i z => hd g j i (Or.inr (Or.inr (Or.inr (Or.inr (Or.inr z))))))).up (Nat.le_succ n), hH⟩
theorem S_isMissing_t {M : bM} {Q : bQ} {j : Nat} {z : Int} (hz : M 6 j 2 = iI z) (h1 : -1 ≤ z) (h2 : z < 0) (K : Q (some (cI (1 : Int32))) M) : bCall 57 [cR 6 j] M Q := by
  refine g_X5_isMissing_0 ⟨fun c => ?_, fun _ => ⟨Or.inr rfl, K⟩⟩
  have := le_of c l0 hz
  omega
theorem S_isMissing_f {M : bM} {Q : bQ} {j : Nat} {z : Int} (hz : M 6 j 2 = iI z) (h1 : 0 ≤ z) (h2 : z ≤ 40) (K : Q (some (cI (0 : Int32))) M) : bCall 57 [cR 6 j] M Q := by
  refine g_X5_isMissing_0 ⟨fun _ => ⟨Or.inl rfl, K⟩, fun c => ?_⟩
  have := nle_of c l0 hz
  omega
theorem S_hasPlaces_t {M : bM} {Q : bQ} {j : Nat} {z a b : Int} {x y : Int32} (hz : M 6 j 2 = iI z) (hz1 : 0 ≤ z) (hz2 : z ≤ 40) (hx : x = iI a) (hy : y = iI b) (ha : 0 ≤ a) (hb : 0 ≤ b) (hab : b ≤ z - a) (K : Q (some (cI (1 : Int32))) M) : bCall 55 [cR 6 j, cI x, cI y] M Q := by
  have hs : M 6 j 2 - x = iI (z - a) := by rw [hz, hx, iI_sub]
  refine g_X5_hasPlaces_0 ⟨fun c => ?_, fun _ => ⟨fun c => ?_, fun _ => ⟨fun c => ?_, fun _ => ⟨Or.inr rfl, K⟩⟩⟩⟩
  · have := lt_of c hx l0
    omega
  · have := lt_of c hy l0
    omega
  · have := lt_of c hs hy
    omega
theorem S_hasPlaces_f {M : bM} {Q : bQ} {j : Nat} {z a b : Int} {x y : Int32} (hz : M 6 j 2 = iI z) (hz1 : 0 ≤ z) (hz2 : z ≤ 40) (hx : x = iI a) (hy : y = iI b) (ha1 : -2147483648 ≤ a) (ha2 : a < 2147483648) (hb1 : -2147483648 ≤ b) (hb2 : b < 2147483648) (hn : ¬ (0 ≤ a ∧ 0 ≤ b ∧ b ≤ z - a)) (K : Q (some (cI (0 : Int32))) M) : bCall 55 [cR 6 j, cI x, cI y] M Q := by
  have hs : M 6 j 2 - x = iI (z - a) := by rw [hz, hx, iI_sub]
  refine g_X5_hasPlaces_0 ⟨fun c => ⟨Or.inl rfl, K⟩, fun c => ⟨fun c => ⟨Or.inl rfl, K⟩, fun c2 => ⟨fun c => ⟨Or.inl rfl, K⟩, fun c3 => ?_⟩⟩⟩
  have h1 := nlt_of c hx l0
  have := nlt_of c2 hy l0
  have := nlt_of c3 hs hy
  exact absurd (by omega) hn
theorem S_numberOrZero {M : bM} {Q : bQ} {j k : Nat} {z : Int} {x : Int32} (hz : M 6 j 2 = iI z) (hz1 : -1 ≤ z) (hz2 : z ≤ 40) (hx : x = iI (k : Int)) (hk : k < 1000) (K : Q (some (cI (if (k : Int) < z then M 12 j k else (0 : Int32)))) M) : bCall 59 [cR 6 j, cI x] M Q := by
  refine g_X5_numberOrZero_0 ⟨fun c => ?_, fun _ => ⟨fun c => ?_, fun c => ⟨fun c2 => ?_, fun c2 => ⟨vin hx ?_ ?_, ?_⟩⟩⟩⟩
  · have := lt_of c hx l0
    omega
  · have := le_of c hz hx
    rwa [if_neg (by omega)] at K
  · have := nle_of c hz hx
    have := le_of c2 (iL 40) hx
    omega
  · omega
  · have := nle_of c2 (iL 40) hx
    omega
  · have := nle_of c hz hx
    rwa [if_pos (by omega), ← cl_of hx] at K
def kp (so x : Int32) : Int32 := if so = 0 then x.toInt8.toInt32 else x
theorem S_keep {M : bM} {Q : bQ} {j k : Nat} {x y : Int32} (hx : x = iI (k : Int)) (hk : k < 40) (K : Q none (bU M 12 j k (kp (M 6 j 1) y))) : bCall 58 [cR 6 j, cI x, cI y] M Q := by
  refine g_X5_keep_0 ⟨fun c => ?_, fun _ => ⟨fun c => ?_, fun _ => ⟨fun c => ⟨vin hx, ?_⟩, fun c => ⟨vin hx, ?_⟩⟩⟩⟩
  · have := lt_of c hx l0
    omega
  · have := le_of c (iL 40) hx
    omega
  · unfold kp at K
    rwa [if_neg c, ← cl_of hx] at K
  · unfold kp at K
    rwa [if_pos (Decidable.of_not_not c), ← cl_of hx] at K
theorem T_keeps {M : bM} {Q : bQ} {r k : Nat} {x1 x2 y : Int32} (h1 : x1 = iI (r : Int)) (hr : r < 3) (hx : x2 = iI (k : Int)) (hk : k < 40) (K : Q none (bU M 56 0 (40 * r + k) (kp (M 55 0 r) y))) : bCall 150 [cR 26 0, cI x1, cI x2, cI y] M Q := by
  have hs := s40 h1 hx
  refine g_X7_keeps_0 ⟨vin h1, fun c => ⟨vin hs, ?_⟩, fun c => ⟨vin hs, ?_⟩⟩
  · rw [cl_of h1] at c
    unfold kp at K
    rwa [if_neg c, ← cl_of hs] at K
  · rw [cl_of h1] at c
    unfold kp at K
    rwa [if_pos (Decidable.of_not_not c), ← cl_of hs] at K
theorem P_sheet {n : Nat} {M : bM} {x1 x2 x3 : Int32} (h : Rel n M) : bCall 92 [cR 0 0, cI x1, cI x2, cI x3] M (fun v M1 => bCall 163 [cR 26 0, cI x1, cI x2, cI x3] M1 (Alike (n + 1) v)) := by
  obtain ⟨p, S, c, u, L, hR⟩ := h
  refine g_X6_sheet_0 ?_
  by_cases h1 : InR x1 3
  · obtain ⟨r, hr, hr3⟩ := h1
    refine S_isSheet_t hr hr3 (z1 ?_)
    by_cases h2 : InR x2 2
    · obtain ⟨b, hb, hb2⟩ := h2
      obtain ⟨z, ez, za, zb⟩ := iI_of x3
      have hm : ∀ {Q : bQ} {M : bM}, _ → bCall 163 [cR 26 0, cI x1, cI x2, cI x3] M Q := fun h => g_X7_sheet_0 (T_isRow_t hr hr3 (z1 (T_inN_t (n := 2) hb hb2 (iL 1) (by omega) (z1 h))))
      refine ⟨fun q => ?_, fun _ => ⟨fun q => ?_, fun _ => ⟨fun q => ⟨fun q2 => ⟨vin hr, ?_⟩, fun q2 => ?_⟩, fun q => ?_⟩⟩⟩
      · have := lt_of q hb l0
        omega
      · have := lt_of q l1 hb
        omega
      · have hz0 := le_of q2 l0 ez
        have hz40 := le_of q ez (iL 40)
        rw [cl_of hr]
        refine g_X5_begin_0 (S_fill12 l0 fun M1 hB1 => ?_)
        refine hm ⟨fun _ => ⟨fun _ => ⟨vin hr, vin hr, ?_⟩, fun q' => absurd q2 q'⟩, fun q' => absurd q q'⟩
        rw [cl_of hr]
        have loop : ∀ (m k : Nat), k + m = 40 → ∀ (M3 : bM) (x4 : Int32), x4 = iI (k : Int) → Blk (bU (bU M1 54 0 r x3) 55 0 r x2) M3 56 0 (40 * r) (40 * r + k) (fun _ => 0) → bGo 163 (Alike (n + 1) (some (cI (1 : Int32)))) 48 [some (cR 26 0), some (cI x1), some (cI x2), some (cI x3), some (cI x4)] [] M3 := by
          intro m
          induction m with
          | zero =>
            intro k hk M3 x4 h4 hB
            refine g_X7_sheet_48 ⟨fun c => ?_, fun c => ?_⟩
            · have : k = 40 := by omega
              subst this
              refine alike rfl (hR.sheets (RelH.set (r := r) hR.2.2.2.2.2.2 ?_ ⟨z, by omega, hz40, ?_, ?_⟩ ?_ ?_) (((bU_fr.trans bU_fr).trans hB1.fr).trans ((bU_fr.trans bU_fr).trans hB.fr)) ?_)
              · rw [hB.keep (by omega), hB.keep (by omega), bU_at, bU_ne (by omega), bU_ne (by omega), hB1.keep (by omega), bU_ne (by omega), bU_at]
              · rw [hB.keep (by omega), bU_ne (by omega), bU_ne (by omega), hB1.keep (by omega), bU_at, ez]
              · rw [hB.keep (by omega), bU_ne (by omega), bU_at, ez]
              · intro k hk
                rw [hB.at (by omega) (by omega), hB.keep (by omega), bU_ne (by omega), bU_ne (by omega), hB1.at (by omega) hk]
              · intro i hi
                refine ⟨?_, ?_, ?_, ?_, fun k hk => ⟨?_, ?_⟩⟩ <;> rw [hB.keep (by omega), bU_ne (by omega), bU_ne (by omega), hB1.keep (by omega), bU_ne (by omega), bU_ne (by omega)]
              · intro g j i h
                unfold rdF rdS rdC rdT rdB rdL at h
                simp only [oL]
                omega
            · have := nle_of c (iL 40) h4
              omega
          | succ m ih =>
            intro k hk M3 x4 h4 hB
            refine g_X7_sheet_48 ⟨fun c => ?_, fun c => ⟨vin (s40 hr h4), ?_⟩⟩
            · have := le_of c (iL 40) h4
              omega
            · rw [cl_of (s40 hr h4)]
              exact ih (k + 1) (by omega) _ _ (inN h4) (hB.up (by omega) l0)
        exact loop 40 0 rfl _ _ l0 Blk.start
      · exact hm ⟨fun _ => ⟨fun q' => absurd q' q2, fun _ => alike rfl hR.same⟩, fun q' => absurd q q'⟩
      · exact hm ⟨fun q' => absurd q' q, fun _ => alike rfl hR.same⟩
    · obtain ⟨z, e, za, zb⟩ := iI_of x2
      have hm : bCall 163 [cR 26 0, cI x1, cI x2, cI x3] M (Alike (n + 1) (some (cI (-1 : Int32)))) := g_X7_sheet_0 (T_isRow_t hr hr3 (z1 (T_inN_f (n := 2) h2 (iL 1) (by omega) (z0 (alike rfl hR.same)))))
      refine ⟨fun q => hm, fun q => ⟨fun q2 => hm, fun q2 => ?_⟩⟩
      have := nlt_of q e l0
      have := nlt_of q2 l1 e
      exact absurd (by omega) (nin h2 e)
  · exact S_isSheet_f h1 (z0 (g_X7_sheet_0 (T_isRow_f h1 (z0 (alike rfl hR.same)))))
theorem P_put {n : Nat} {M : bM} {x1 x2 x3 : Int32} (h : Rel n M) : bCall 88 [cR 0 0, cI x1, cI x2, cI x3] M (fun v M1 => bCall 159 [cR 26 0, cI x1, cI x2, cI x3] M1 (Alike (n + 1) v)) := by
  obtain ⟨p, S, c, u, L, hR⟩ := h
  refine g_X6_put_0 ?_
  by_cases h1 : InR x1 3
  · obtain ⟨r, hr, hr3⟩ := h1
    obtain ⟨e1, ⟨z, za, zb, e2, e3⟩, e4⟩ := hR.2.2.2.2.2.2 r hr3
    obtain ⟨a, ea, a1, a2⟩ := iI_of x2
    refine S_isSheet_t hr hr3 (n1 ⟨vin hr, ?_⟩)
    rw [cl_of hr]
    have hm : ∀ {Q : bQ}, _ → bCall 159 [cR 26 0, cI x1, cI x2, cI x3] M Q := fun h => g_X7_put_0 (T_isRow_t hr hr3 (n1 ⟨vin hr, h⟩))
    by_cases hz : 0 ≤ z
    · have hm2 : ∀ {Q : bQ}, _ → bCall 159 [cR 26 0, cI x1, cI x2, cI x3] M Q := fun h => hm ⟨fun _ => ⟨vin hr, h⟩, fun q => absurd (by rw [cl_of hr, e3]; exact (iI_le (by omega) (by omega) (by omega) (by omega)).mpr hz) q⟩
      have es : M 54 0 x1.toNatClampNeg - (1 : Int32) = iI (z - 1) := by rw [cl_of hr, e3, l1, iI_sub]
      refine S_isMissing_f e2 hz zb (z0 ⟨vin hr, ?_⟩)
      by_cases ha : 0 ≤ a ∧ a < z
      · have ea' : x2 = iI ((a.toNat : Nat) : Int) := by rw [ea]; exact iIc (by omega)
        refine S_hasPlaces_t e2 hz zb ea l1 ha.1 (by omega) (by omega) (n1 ⟨vin hr, ?_⟩)
        refine S_keep ea' (by omega) ?_
        refine g_X7_put_0 (T_isRow_t hr hr3 (n1 ⟨vin hr, fun _ => ⟨vin hr, ?_⟩, fun q => absurd (by rw [bU_ne (by omega), cl_of hr, e3]; exact (iI_le (by omega) (by omega) (by omega) (by omega)).mpr hz) q⟩))
        rw [bU_ne (by omega)]
        refine T_in_t ea l0 es ha.1 (by omega) (by omega) (by omega) (n1 (T_keeps hr hr3 ea' (by omega) ?_))
        refine alike rfl (hR.sheets (RelH.set (r := r) hR.2.2.2.2.2.2 ?_ ⟨z, za, zb, ?_, ?_⟩ ?_ ?_) (bU_fr.trans bU_fr) ?_)
        · rw [bU_ne (by omega), bU_ne (by omega), bU_ne (by omega), bU_ne (by omega), e1]
        · rw [bU_ne (by omega), bU_ne (by omega), e2]
        · rw [bU_ne (by omega), bU_ne (by omega), e3]
        · intro k hk
          by_cases hka : k = a.toNat
          · subst hka
            rw [bU_ne (by omega), bU_at, bU_at, bU_ne (by omega), e1]
          · rw [bU_ne (by omega), bU_ne (by omega), bU_ne (by omega), bU_ne (by omega)]
            exact e4 k hk
        · intro i hi
          refine ⟨?_, ?_, ?_, ?_, fun k hk => ⟨?_, ?_⟩⟩ <;> rw [bU_ne (by omega), bU_ne (by omega)]
        · intro g j i h
          unfold rdF rdS rdC rdT rdB rdL at h
          simp only [oL]
          omega
      · refine S_hasPlaces_f e2 hz zb ea l1 a1 a2 (by omega) (by omega) (by omega) (n0 ?_)
        exact hm2 (T_in_f ea l0 es a1 a2 (by omega) (by omega) (by omega) (by omega) (by omega) (n0 (alike rfl hR.same)))
    · refine S_isMissing_t e2 za (by omega) (z1 ?_)
      exact hm ⟨fun q => absurd (le_of q l0 (by rw [cl_of hr, e3])) hz, fun _ => alike rfl hR.same⟩
  · exact S_isSheet_f h1 (n0 (g_X7_put_0 (T_isRow_f h1 (n0 (alike rfl hR.same)))))
