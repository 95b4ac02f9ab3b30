-- needs: 06 08 09 10 11 12 13 14 15 16 17 18 19 26 27 28 29 30 31 32 33 34 35 39 41
theorem S_coefficient_t {M : bM} {Q : bQ} {i j k m : Nat} {x y : Int32} (h4 : M 5 i 4 = iI (m : Int)) (hm : m ≤ 4) (hx : x = iI (j : Int)) (hj : j < m) (hy : y = iI (k : Int)) (hk : k < 10) (K : Q (some (cI (M 15 (4 * i + j) k))) M) : bCall 36 [cR 5 i, cI x, cI y] M Q := by
  refine g_X3_coefficient_0 ⟨fun c => ?_, fun _ => ⟨fun c => ?_, fun _ => ⟨fun c => ?_, fun _ => ⟨fun c => ?_, fun _ => ⟨fun c => ?_, fun _ => z1 ⟨vin hx, vin hy, ?_⟩⟩⟩⟩⟩⟩
  · have := lt_of c hx l0
    omega
  · have := le_of c h4 hx
    omega
  · have := le_of c (iL 4) hx
    omega
  · have := lt_of c hy l0
    omega
  · have := le_of c (iL 10) hy
    omega
  · rw [cl_of hx, cl_of hy]
    exact K
theorem S_coefficient_f {M : bM} {Q : bQ} {i k m : Nat} {x y : Int32} (hx : ¬ InR x 4 ∨ ¬ InR y 10) (K : Q (some (cI (0 : Int32))) M) : bCall 36 [cR 5 i, cI x, cI y] M Q := by
  obtain ⟨a, ea, a1, a2⟩ := iI_of x
  obtain ⟨b, eb, b1, b2⟩ := iI_of y
  refine g_X3_coefficient_0 ⟨fun c => z0 K, fun c1 => ⟨fun c => z0 K, fun c2 => ⟨fun c => z0 K, fun c3 => ⟨fun c => z0 K, fun c4 => ⟨fun c => z0 K, fun c5 => ?_⟩⟩⟩⟩⟩
  have := nlt_of c1 ea l0
  have := nle_of c3 (iL 4) ea
  have := nlt_of c4 eb l0
  have := nle_of c5 (iL 10) eb
  rcases hx with hx | hx
  · exact absurd (by omega) (nin hx ea)
  · exact absurd (by omega) (nin hx eb)
theorem RelL.led {n : Nat} {M : bM} (h : RelL n M) : ∃ K t a G, Led n K t a G M := h
theorem P_certificate {n : Nat} {M : bM} {x1 x2 : Int32} (hn : n < 1000000) (h : Rel n M) : bCall 64 [cR 0 0, cI x1, cI x2] M (fun v M1 => bCall 114 [cR 26 0, cI x1, cI x2] M1 (Alike (n + 1) v)) := by
  obtain ⟨p, S, c, u, L, hR⟩ := h
  obtain ⟨K, t, a, G, hL⟩ := hR.2.2.2.2.2.1.led
  by_cases h2 : InR x2 6
  · obtain ⟨w, hw, hw6⟩ := h2
    refine g_X6_certificate_0 ⟨fun q => absurd (lt_of q hw l0) (by omega), fun _ => ⟨fun _ => ?_, fun q => absurd (nle_of q hw (iL 5)) (by omega)⟩⟩
    by_cases h1 : ∃ k, k < K ∧ x1 = iI (a k)
    · obtain ⟨k, hk, hx⟩ := h1
      have hC := (hL.2.2.2.2.2.1 k hk).2.2.2
      obtain ⟨kd, m, q, g1, g2, g3, g4, g5, g6, g7, g8, g9, g10, g11, g12, g13⟩ := hC.2.1
      have hk8 : k < 8 := by have := hL.1; omega
      refine S_find_t hL hn hk hx ⟨rfl, ?_⟩
      have hm : ∀ {Q : bQ}, (((x2 = Int32.ofInt 0) → ((vp_in (iI (k : Int)) 8) ∧ (Q (some (cI (M 47 0 (iI (k : Int)).toNatClampNeg))) M))) ∧ (¬ (x2 = Int32.ofInt 0) → (((x2 = Int32.ofInt 1) → ((vp_in (iI (k : Int)) 8) ∧ (Q (some (cI (M 48 0 (iI (k : Int)).toNatClampNeg))) M))) ∧ (¬ (x2 = Int32.ofInt 1) → (((x2 = Int32.ofInt 2) → ((vp_in (iI (k : Int)) 8) ∧ (Q (some (cI (M 49 0 (iI (k : Int)).toNatClampNeg))) M))) ∧ (¬ (x2 = Int32.ofInt 2) → (((x2 = Int32.ofInt 3) → ((vp_in (iI (k : Int)) 8) ∧ (Q (some (cI (M 50 0 (iI (k : Int)).toNatClampNeg))) M))) ∧ (¬ (x2 = Int32.ofInt 3) → (((x2 = Int32.ofInt 4) → ((vp_in (iI (k : Int)) 8) ∧ (Q (some (cI (M 51 0 (iI (k : Int)).toNatClampNeg))) M))) ∧ (¬ (x2 = Int32.ofInt 4) → ((vp_in (iI (k : Int)) 8) ∧ (Q (some (cI (M 52 0 (iI (k : Int)).toNatClampNeg))) M)))))))))))) → bCall 114 [cR 26 0, cI x1, cI x2] M Q := fun h => g_X7_certificate_0 (T_inN_t (n := 6) hw hw6 (iL 5) (by omega) (n1 (T_placeOf_t hL hn hk hx ⟨fun _ => h, fun q => absurd (nle_of q l0 rfl) (by omega)⟩)))
      have hv : vp_in (iI (k : Int)) 8 := vin rfl
      have hcl : (iI (k : Int)).toNatClampNeg = k := cl_of rfl
      rw [hcl] at hm
      refine ⟨fun q => hm ⟨fun _ => ⟨hv, alike (by rw [g7, g8]) hR.same⟩, fun q2 => absurd q q2⟩, fun q0 => ⟨fun q => hm ⟨fun q2 => absurd q2 q0, fun _ => ⟨fun _ => ⟨hv, alike (by rw [g9, g10]) hR.same⟩, fun q2 => absurd q q2⟩⟩, fun q1 => ⟨fun q => hm ⟨fun q2 => absurd q2 q0, fun _ => ⟨fun q2 => absurd q2 q1, fun _ => ⟨fun _ => ⟨hv, alike hC.2.2.1 hR.same⟩, fun q2 => absurd q q2⟩⟩⟩, fun q2 => ⟨fun q => hm ⟨fun z => absurd z q0, fun _ => ⟨fun z => absurd z q1, fun _ => ⟨fun z => absurd z q2, fun _ => ⟨fun _ => ⟨hv, alike hC.2.2.2.1 hR.same⟩, fun z => absurd q z⟩⟩⟩⟩, fun q3 => ⟨fun q => hm ⟨fun z => absurd z q0, fun _ => ⟨fun z => absurd z q1, fun _ => ⟨fun z => absurd z q2, fun _ => ⟨fun z => absurd z q3, fun _ => ⟨fun _ => ⟨hv, alike hC.2.2.2.2 hR.same⟩, fun z => absurd q z⟩⟩⟩⟩⟩, fun q4 => hm ⟨fun z => absurd z q0, fun _ => ⟨fun z => absurd z q1, fun _ => ⟨fun z => absurd z q2, fun _ => ⟨fun z => absurd z q3, fun _ => ⟨fun z => absurd z q4, fun _ => ⟨hv, alike (by rw [g11, g12]) hR.same⟩⟩⟩⟩⟩⟩⟩⟩⟩⟩⟩
    · refine S_find_f hL h1 ?_
      exact g_X7_certificate_0 (T_inN_t (n := 6) hw hw6 (iL 5) (by omega) (n1 (T_placeOf_f hL h1 ⟨fun q => absurd q (by decide), fun _ => alike rfl hR.same⟩)))
  · obtain ⟨z, e, za, zb⟩ := iI_of x2
    have hm : bCall 114 [cR 26 0, cI x1, cI x2] M (Alike (n + 1) (some (cI (-1 : Int32)))) := g_X7_certificate_0 (T_inN_f (n := 6) h2 (iL 5) (by omega) (n0 (alike rfl hR.same)))
    refine g_X6_certificate_0 ⟨fun q => hm, fun q => ⟨fun q2 => ?_, fun _ => hm⟩⟩
    have := nlt_of q e l0
    have := le_of q2 e (iL 5)
    exact absurd (by omega) (nin h2 e)
theorem p53 {x1 x2 x3 : Int32} {k j e : Nat} (h1 : x1 = iI (k : Int)) (h2 : x2 = iI (j : Int)) (h3 : x3 = iI (e : Int)) : (((132 : Int32) * x1) + ((33 : Int32) * x2)) + x3 = iI ((132 * k + 33 * j + e : Nat) : Int) := by
  rw [h1, h2, h3, iL 132, iL 33, iI_mul, iI_mul, iI_add, iI_add]
  exact iIc (by omega)
theorem P_proof {n : Nat} {M : bM} {x1 x2 x3 : Int32} (hn : n < 1000000) (h : Rel n M) : bCall 87 [cR 0 0, cI x1, cI x2, cI x3] M (fun v M1 => bCall 158 [cR 26 0, cI x1, cI x2, cI x3] M1 (Alike (n + 1) v)) := by
  obtain ⟨p, S, c, u, L, hR⟩ := h
  obtain ⟨K, t, a, G, hL⟩ := hR.2.2.2.2.2.1.led
  refine g_X6_proof_0 ?_
  by_cases h1 : ∃ k, k < K ∧ x1 = iI (a k)
  · obtain ⟨k, hk, hx⟩ := h1
    have hC := (hL.2.2.2.2.2.1 k hk).2.2.2
    obtain ⟨kd, m, q, g1, g2, g3, g4, g5, g6, g7, g8, g9, g10, g11, g12, g13⟩ := hC.2.1
    have hk8 : k < 8 := by have := hL.1; omega
    refine S_find_t hL hn hk hx ⟨rfl, ?_⟩
    obtain ⟨z, ez, za, zb⟩ := iI_of x2
    obtain ⟨y, ey, ya, yb⟩ := iI_of x3
    have hv : vp_in (iI (k : Int)) 8 := vin rfl
    have es : M 48 0 (iI (k : Int)).toNatClampNeg - (1 : Int32) = iI ((m : Int) - 1) := by rw [cl_of rfl, g10, l1, iI_sub]
    have hbad : ¬ (InR x2 m ∧ InR x3 10) → bCall 158 [cR 26 0, cI x1, cI x2, cI x3] M (Alike (n + 1) (some (cI (-1 : Int32)))) := by
      intro hno
      refine g_X7_proof_0 (T_placeOf_t hL hn hk hx ⟨fun _ => ⟨hv, ?_⟩, fun q => absurd (nle_of q l0 rfl) (by omega)⟩)
      by_cases h2 : InR x2 m
      · obtain ⟨j, hj, hjm⟩ := h2
        refine T_inN_t (n := m) hj hjm es (by omega) (z1 (T_inN_f (n := 10) (fun z => hno ⟨⟨j, hj, hjm⟩, z⟩) (iL 9) (by omega) (z0 (alike rfl hR.same))))
      · exact T_inN_f (n := m) h2 es (by omega) (z0 (alike rfl hR.same))
    refine ⟨fun q => hbad fun z => ?_, fun q0 => ⟨fun q => hbad fun z => ?_, fun q1 => ⟨fun q => hbad fun z => ?_, fun q2 => ⟨fun q3 => ?_, fun q => hbad fun z => ?_⟩⟩⟩⟩
    · obtain ⟨⟨j, hj, hjm⟩, _⟩ := z
      have := lt_of q hj l0
      omega
    · obtain ⟨⟨j, hj, hjm⟩, _⟩ := z
      have := le_of q g9 hj
      omega
    · obtain ⟨_, ⟨j, hj, hjm⟩⟩ := z
      have := lt_of q hj l0
      omega
    · have := nlt_of q0 ez l0
      have := nle_of q1 g9 ez
      have := nlt_of q2 ey l0
      have := le_of q3 ey (iL 9)
      obtain ⟨j, rfl⟩ := Int.eq_ofNat_of_zero_le (show 0 ≤ z by omega)
      obtain ⟨e, rfl⟩ := Int.eq_ofNat_of_zero_le (show 0 ≤ y by omega)
      have hjm : j < m := by omega
      have he : e < 10 := by omega
      obtain ⟨C, c1, c2, c3, c4⟩ := g13 j hjm
      refine S_coefficient_t g9 g3 ez hjm ey he ?_
      refine g_X7_proof_0 (T_placeOf_t hL hn hk hx ⟨fun _ => ⟨hv, ?_⟩, fun q => absurd (nle_of q l0 rfl) (by omega)⟩)
      refine T_inN_t (n := m) ez hjm es (by omega) (z1 (T_inN_t (n := 10) ey he (iL 9) (by omega) (z1 ⟨vin (p53 rfl ez ey), ?_⟩)))
      rw [cl_of (p53 rfl ez ey), c3 e he, c4 e (by omega)]
      exact alike rfl hR.same
    · obtain ⟨_, ⟨j, hj, hjm⟩⟩ := z
      have := nle_of q hj (iL 9)
      omega
  · refine S_find_f hL h1 ?_
    exact g_X7_proof_0 (T_placeOf_f hL h1 ⟨fun q => absurd q (by decide), fun _ => alike rfl hR.same⟩)
theorem P_listed {n : Nat} {M : bM} {x1 : Int32} (hn : n < 1000000) (h : Rel n M) : bCall 82 [cR 0 0, cI x1] M (fun v M1 => bCall 152 [cR 26 0, cI x1] M1 (Alike (n + 1) v)) := by
  obtain ⟨p, S, c, u, L, hR⟩ := h
  obtain ⟨K, t, a, G, hL⟩ := hR.2.2.2.2.2.1.led
  have hL' := hL
  obtain ⟨h1, h2, h3, h4, h5, h6, h7, h8⟩ := hL'
  have es : M 26 0 38 - (1 : Int32) = iI ((K : Int) - 1) := by rw [h3, l1, iI_sub]
  refine g_X6_listed_0 (S_numberInTurn hL hn (fun k hk hx => ?_) fun hno => ?_)
  · refine g_X7_listed_0 (T_inN_t (n := K) hx hk es (by omega) (z1 ⟨vin hx, ?_⟩))
    rw [cl_of hx]
    exact alike (h6 k hk).2.2.2.1.2.2.symm hR.same
  · exact g_X7_listed_0 (T_inN_f (n := K) (fun ⟨k, e, hk⟩ => hno k hk e) es (by omega) (z0 (alike rfl hR.same)))
