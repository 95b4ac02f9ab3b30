-- needs: 06 08 09 10 11 12 13 14 15 16 17 18 19 26 27 28 29 30 31 32 33 34 35 37 39 40 41 42 43 45 46 47 48 49 50 51 52 53 54 55 56 57 58 59 60 61 62 63 65 69 70
/-- the first n numbers are all 0 -/
def rzF (V : Nat → Int) : Nat → Bool
  | 0 => true
  | n + 1 => rzF V n && decide (V n = 0)
theorem rzF_stay {V : Nat → Int} {a : Nat} : ∀ {n : Nat}, a ≤ n → (∀ b, a ≤ b → b < n → V b = 0) → rzF V n = rzF V a
  | 0, h, _ => by
    have : a = 0 := by omega
    rw [this]
  | n + 1, h, hz => by
    by_cases q : a = n + 1
    · rw [q]
    · have h1 := rzF_stay (V := V) (a := a) (n := n) (by omega) fun b h1 h2 => hz b h1 (by omega)
      show (rzF V n && decide (V n = 0)) = _
      rw [h1, hz n (by omega) (by omega)]
      simp
theorem div8 : ∀ a : Nat, a < 32 → iI (a : Int) / (8 : Int32) = iI ((a / 8 : Nat) : Int) ∧ aRem (iI (a : Int)) (8 : Int32) = iI ((a % 8 : Nat) : Int) := by decide +kernel
theorem P_relates {n : Nat} {M : bM} {x1 : Int32} (h : Rel n M) : bCall 89 [cR 0 0, cI x1] M (fun v M1 => bCall 160 [cR 26 0, cI x1] M1 (Alike (n + 1) v)) := by
  obtain ⟨p, S, c, u, L, hR⟩ := h
  have hR' := hR
  obtain ⟨⟨hp1, hp2, h2, h4, hP⟩, hS, r3, r4, r5, r6, r7⟩ := hR'
  have hc5 := r3.1.2.2.2.2
  have hc1 := r3.1.2.2.2.1
  have hu := r3.2.1
  refine g_X6_relates_0 ?_
  by_cases hr : InR x1 3
  · obtain ⟨r, e1, hr3⟩ := hr
    obtain ⟨y1, ⟨z, za, zb, y2, y3⟩, y4⟩ := r7 r hr3
    refine S_isSheet_t e1 hr3 (n1 ⟨vin e1, ?_⟩)
    rw [cl_of e1]
    by_cases hz : 0 ≤ z
    · refine S_isMissing_f y2 hz zb (z0 ?_)
      have hfb : ∀ i, i < cnt c → ∀ k, k < 32 → 0 ≤ S (sel c i) k ∧ S (sel c i) k < p := fun i hi k hk => (hS _ (sel_lt c r3.1.2.2.1 i hi) k hk).2.2
      -- the numbers of the row
      have hV : ∃ V : Nat → Int, V = fun a : Nat => if (a : Int) < z then (M 12 r a).toInt % p else 0 := ⟨_, rfl⟩
      obtain ⟨V, hV⟩ := hV
      have hVb : ∀ a, 0 ≤ V a ∧ V a < p := fun a => by
        rw [hV]
        dsimp only
        split
        · exact ⟨Int.emod_nonneg _ (by omega), Int.emod_lt_of_pos _ (by omega)⟩
        · omega
      have hV0 : ∀ a : Nat, z ≤ (a : Int) → V a = 0 := fun a q => by
        rw [hV]
        exact if_neg (by omega)
      have hV1 : ∀ a : Nat, (a : Int) < z → V a = (M 12 r a).toInt % p := fun a q => by
        rw [hV]
        exact if_pos q
      have hC : ∃ C : Nat → Nat → Int, C = fun (i e : Nat) => if e < 8 then V (8 * i + e) else 0 := ⟨_, rfl⟩
      obtain ⟨C, hC⟩ := hC
      have hCb : ∀ i e, 0 ≤ C i e ∧ C i e < p := fun i e => by
        rw [hC]
        dsimp only
        split
        · exact hVb _
        · omega
      have hC8 : ∀ i e : Nat, e < 8 → C i e = V (8 * i + e) := fun i e q => by
        rw [hC]
        exact if_pos q
      have hC0 : ∀ i e : Nat, 8 ≤ e → C i e = 0 := fun i e q => by
        rw [hC]
        exact if_neg (by omega)
      clear hV hC
      -- the model
      have hend : ∀ (M' : bM) (x : Int32), Fr (fun g j _ => g = 7 ∧ 6 ≤ j ∧ j < 12 ∨ g = 9 ∧ j = 0) M M' → (x = if rzF V (8 * cnt c) then 0 else if lz (fun k => rs (cnt c) (fun i => S (sel c i)) C k % p) 32 0 < u then 0 else 1) → bCall 160 [cR 26 0, cI x1] M' (Alike (n + 1) (some (cI x))) := by
        intro M' x hMF hx
        have hM' : ∀ g j i, ¬ (g = 7 ∧ 6 ≤ j ∧ j < 12 ∨ g = 9 ∧ j = 0) → M' g j i = M g j i := hMF
        refine g_X7_relates_0 (T_isRow_t e1 hr3 (n1 ⟨vin e1, ?_⟩))
        rw [cl_of e1, hM' _ _ _ (by omega), y3]
        refine ⟨fun _ => ?_, fun q => absurd (show (0 : Int32) ≤ iI z by rw [l0, iI_le (by omega) (by omega) (by omega) (by omega)]; exact hz) q⟩
        refine T_takesChoice (by rw [hM' _ _ _ (by omega)]; exact hp2) (fun s hs k hk => by rw [hM' _ _ _ (by omega)]; exact (hS s hs k hk).2) (r3.fr hMF fun g j i w => by unfold rdC at w; omega) fun M2 hF2 hMS => ?_
        have hF2' : ∀ g j i, ¬ frT g j i → M2 g j i = M' g j i := hF2
        -- the second walk
        have fill : ∀ (M3 : bM), Blk M2 M3 38 0 0 132 (fun _ => 0) → ∀ (nn a : Nat), a + nn = 32 → ∀ (M4 : bM) (x2 x3 : Int32) (o4 : Option bV), x3 = iI (a : Int) → x2 = (if rzF V a then (0 : Int32) else 1) → a ≤ 8 * cnt c → Fr (fun g j _ => g = 38 ∧ j = 0) M3 M4 → (∀ j e : Nat, j < 4 → e < 33 → M4 38 0 (33 * j + e) = iI (if e < 8 ∧ 8 * j + e < a then V (8 * j + e) else 0)) → bGo 160 (Alike (n + 1) (some (cI x))) 51 [some (cR 26 0), some (cI x1), some (cI x2), some (cI x3), o4] [] M4 := by
          intro M3 hB3 nn
          have hdone : ∀ (a : Nat) (M4 : bM) (x2 : Int32), x2 = (if rzF V a then (0 : Int32) else 1) → a ≤ 8 * cnt c → (8 * cnt c ≤ a ∨ z ≤ (a : Int)) → Fr (fun g j _ => g = 38 ∧ j = 0) M3 M4 → (∀ j e : Nat, j < 4 → e < 33 → M4 38 0 (33 * j + e) = iI (if e < 8 ∧ 8 * j + e < a then V (8 * j + e) else 0)) → bCall 126 [cR 26 0, cI (0 : Int32)] M4 (fun v1 M2 => bV0 v1 (((x2 = 0) → (Alike (n + 1) (some (cI x)) (some (cI (0 : Int32))) M2)) ∧ (¬ (x2 = 0) → (bCall 133 [cR 27 0, cI (0 : Int32)] M2 (fun v3 M4 => bV1 v3 fun r5 => (((r5 < (M4 26 0 24)) → (Alike (n + 1) (some (cI x)) (some (cI (0 : Int32))) M4)) ∧ (¬ (r5 < (M4 26 0 24)) → (Alike (n + 1) (some (cI x)) (some (cI (1 : Int32))) M4)))))))) := by
            intro a M4 x2 ex2 hle hfin hF4 hv
            have hF4' : ∀ g j i, ¬ (g = 38 ∧ j = 0) → M4 g j i = M3 g j i := hF4
            have hall : ∀ b, a ≤ b → b < 8 * cnt c → V b = 0 := fun b q1 q2 => hV0 b (by omega)
            have hnz := rzF_stay (V := V) hle hall
            have hMS4 : MS p (cnt c) u (fun i => L (sel c i)) (fun i => S (sel c i)) M4 := hMS.fr (hB3.fr.trans hF4) fun g j i w => by
              simp only [oL]
              omega
            have hFall := ((hMF.trans hF2).trans hB3.fr).trans hF4
            refine T_worksOut (i := 0) (R := C) h2 h4 hc5 hMS4 (by omega) l0 (fun j hj e he => ⟨?_, hCb j e⟩) fun M5 hB5 => ?_
            · rw [show 132 * 0 + 33 * j + e = 33 * j + e by omega, hv j e (by omega) he]
              refine iIc ?_
              by_cases q : e < 8
              · rw [hC8 j e q]
                by_cases q2 : 8 * j + e < a
                · rw [if_pos ⟨q, q2⟩]
                · rw [if_neg (fun w => q2 w.2), hall _ (by omega) (by omega)]
              · rw [hC0 j e (by omega), if_neg (fun w => q w.1)]
            · have hR5 : Rel (n + 1) M5 := hR.fr (hFall.trans hB5.fr) fun g j i w => by
                unfold rdF rdS rdC rdT rdB rdL rdH at w
                simp only [oL, frT]
                omega
              have h24 : M5 26 0 24 = iI (u : Int) := by
                rw [hB5.keep (by omega), hF4' _ _ _ (by omega), hB3.keep (by omega), hF2' _ _ _ (by simp only [frT]; omega), hM' _ _ _ (by omega)]
                exact hu.2.1
              rw [hnz] at hx
              refine ⟨fun q => ?_, fun q => ?_⟩
              · have hn' : rzF V a = true := by
                  cases hq : rzF V a with
                  | true => rfl
                  | false =>
                    rw [hq] at ex2
                    rw [ex2] at q
                    exact absurd q (by decide)
                rw [hn', if_pos rfl] at hx
                exact alike hx hR5
              · have hn' : rzF V a = false := by
                  cases hq : rzF V a with
                  | false => rfl
                  | true =>
                    rw [hq] at ex2
                    exact absurd ex2 q
                rw [hn', if_neg (by decide)] at hx
                refine T_zerosOf_m (f := fun k => rs (cnt c) (fun i => S (sel c i)) C k % p) (fun i hi => ⟨hB5.at (by omega) hi, Int.emod_nonneg _ (by omega), by have := Int.emod_lt_of_pos (rs (cnt c) (fun i => S (sel c i)) C i) (show 0 < p by omega); omega⟩) ?_
                have hlz := lz_bd (f := fun k => rs (cnt c) (fun i => S (sel c i)) C k % p) (n := 32) (k := 0)
                refine ⟨fun w => ?_, fun w => ?_⟩
                · have := lt_of w rfl h24
                  rw [if_pos (by omega)] at hx
                  exact alike hx hR5
                · have := nlt_of w rfl h24
                  rw [if_neg (by omega)] at hx
                  exact alike hx hR5
          induction nn with
          | zero =>
            intro a ha M4 x2 x3 o4 e3 ex2 hle hF4 hv
            have hF4' : ∀ g j i, ¬ (g = 38 ∧ j = 0) → M4 g j i = M3 g j i := hF4
            have hm8 : (8 : Int32) * M4 26 0 25 = iI ((8 * cnt c : Nat) : Int) := by
              rw [hF4' _ _ _ (by omega), hB3.keep (by omega), hMS.2.1, iL 8, iI_mul]
              exact iIc (by omega)
            exact g_X7_relates_51 ⟨fun q => hdone a M4 x2 ex2 hle (Or.inl (by omega)) hF4 hv, fun q => absurd (nle_of q hm8 e3) (by omega)⟩
          | succ nn ih =>
            intro a ha M4 x2 x3 o4 e3 ex2 hle hF4 hv
            have hF4' : ∀ g j i, ¬ (g = 38 ∧ j = 0) → M4 g j i = M3 g j i := hF4
            have hm8 : (8 : Int32) * M4 26 0 25 = iI ((8 * cnt c : Nat) : Int) := by
              rw [hF4' _ _ _ (by omega), hB3.keep (by omega), hMS.2.1, iL 8, iI_mul]
              exact iIc (by omega)
            have old : ∀ g j i, ¬ (g = 38 ∧ j = 0) → ¬ frT g j i → ¬ (g = 7 ∧ 6 ≤ j ∧ j < 12 ∨ g = 9 ∧ j = 0) → M4 g j i = M g j i := fun g j i q1 q2 q3 => by
              rw [hF4' _ _ _ q1, hB3.keep (by omega), hF2' _ _ _ q2, hM' _ _ _ q3]
            have h54 : M4 54 0 r = iI z := by
              rw [old _ _ _ (by omega) (by simp only [frT]; omega) (by omega)]
              exact y3
            refine g_X7_relates_51 ⟨fun q => hdone a M4 x2 ex2 hle (Or.inl (by have := le_of q hm8 e3; omega)) hF4 hv, fun q => ⟨vin e1, ?_⟩⟩
            rw [cl_of e1, h54]
            have hlt := nle_of q hm8 e3
            refine ⟨fun w => hdone a M4 x2 ex2 hle (Or.inr (by have := le_of w rfl e3; omega)) hF4 hv, fun w => ?_⟩
            have hz' := nle_of w rfl e3
            have p1 := s40 e1 e3
            obtain ⟨d1, d2⟩ := div8 a (by omega)
            rw [← e3] at d1 d2
            have p2 : ((33 : Int32) * (x3 / (8 : Int32))) + aRem x3 (8 : Int32) = iI ((33 * (a / 8) + a % 8 : Nat) : Int) := by
              rw [d1, d2, iL 33, iI_mul, iI_add]
              exact iIc (by omega)
            refine ⟨vin p1, T_mod (z := (M 12 r a).toInt) (p := p) (by rw [old _ _ _ (by omega) (by simp only [frT]; omega) (by omega)]; exact hp2) ?_ ?_ ?_ (by omega) h4 ?_⟩
            · rw [cl_of p1, old _ _ _ (by omega) (by simp only [frT]; omega) (by omega), ← y4 a (by omega)]
              exact iI_long tI.symm (Int32.le_toInt _) (Int32.toInt_lt _)
            · have := Int32.le_toInt (M 12 r a)
              omega
            · have := Int32.toInt_lt (M 12 r a)
              omega
            · rw [← hV1 a hz']
              have h8 : ¬ (8 : Int32) = 0 := by decide
              have next : ∀ (x2' : Int32), x2' = (if rzF V (a + 1) then (0 : Int32) else 1) → bGo 160 (Alike (n + 1) (some (cI x))) 51 [some (cR 26 0), some (cI x1), some (cI x2'), some (cI (x3 + (1 : Int32))), some (cI (iI (V a)))] [] (bU M4 38 0 (((33 : Int32) * (x3 / (8 : Int32))) + (aRem x3 (8 : Int32))).toNatClampNeg (iI (V a))) := fun x2' hx2' => by
                rw [cl_of p2]
                refine ih (a + 1) (by omega) _ _ _ _ (inN e3) hx2' (by omega) ((hF4.trans bU_fr).mono fun g j i w => ?_) fun j e hj he => ?_
                · simp only [oL] at w
                  omega
                · by_cases q3 : 33 * j + e = 33 * (a / 8) + a % 8
                  · have qj : j = a / 8 := by omega
                    have qe : e = a % 8 := by omega
                    rw [q3, bU_at, if_pos (by omega)]
                    refine iIc ?_
                    rw [show 8 * j + e = a by omega]
                  · rw [bU_ne (by omega), hv j e hj he]
                    refine iIc ?_
                    by_cases q4 : e < 8 ∧ 8 * j + e < a
                    · rw [if_pos q4, if_pos (by omega)]
                    · rw [if_neg q4, if_neg (by omega)]
              have hsucc : rzF V (a + 1) = (rzF V a && decide (V a = 0)) := rfl
              have hVa := hVb a
              refine ⟨fun q5 => ⟨h8, h8, vin p2, next 1 ?_⟩, fun q5 => ⟨fun q6 => ⟨h8, h8, vin p2, next 0 ?_⟩, fun q6 => ⟨h8, h8, vin p2, next 1 ?_⟩⟩⟩
              · cases hq : rzF V a with
                | true =>
                  rw [hq] at ex2
                  exact absurd ex2 q5
                | false =>
                  rw [hsucc, hq]
                  rfl
              · have hVz := eq_of q6 rfl l0
                cases hq : rzF V a with
                | true =>
                  rw [hsucc, hq, hVz]
                  rfl
                | false =>
                  rw [hq] at ex2
                  rw [ex2] at q5
                  exact absurd (by decide) q5
              · have hVz : V a ≠ 0 := fun w => q6 (by rw [w]; rfl)
                rw [hsucc, decide_eq_false hVz, Bool.and_false]
                rfl
        have zero : ∀ (nn a : Nat), a + nn = 132 → ∀ (M3 : bM) (x2 x3 : Int32) (o4 : Option bV), x2 = 0 → x3 = iI (a : Int) → Blk M2 M3 38 0 0 a (fun _ => 0) → bGo 160 (Alike (n + 1) (some (cI x))) 29 [some (cR 26 0), some (cI x1), some (cI x2), some (cI x3), o4] [] M3 := by
          intro nn
          induction nn with
          | zero =>
            intro a ha M3 x2 x3 o4 ex2 e3 hB
            have : a = 132 := by omega
            subst this
            refine g_X7_relates_29 ⟨fun _ => fill M3 hB 32 0 rfl M3 _ _ _ l0 (by rw [ex2]; rfl) (Nat.zero_le _) (Fr.refl.mono fun _ _ _ w => w.elim) fun j e hj he => ?_, fun q => absurd (nle_of q (iL 132) e3) (by omega)⟩
            rw [hB.at (by omega) (by omega), if_neg (by omega)]
          | succ nn ih =>
            intro a ha M3 x2 x3 o4 ex2 e3 hB
            refine g_X7_relates_29 ⟨fun q => absurd (le_of q (iL 132) e3) (by omega), fun _ => ⟨vin e3, ?_⟩⟩
            rw [cl_of e3]
            exact ih (a + 1) (by omega) _ _ _ _ ex2 (inN e3) (hB.up (Nat.zero_le _) l0)
        exact zero 132 0 rfl M2 _ _ _ rfl l0 Blk.start
      -- the class
      refine S_gather hS r3 fun M1 hF1 g1 g2 => S_fill7 l0 fun M2 hB2 => ?_
      have hF1' : ∀ g j i, ¬ (g = 7 ∧ 8 ≤ j ∧ j < 12 ∨ g = 9 ∧ j = 0) → M1 g j i = M g j i := hF1
      have loop : ∀ (nn i : Nat), i + nn = cnt c → ∀ (M3 : bM) (x3 x4 : Int32) (o5 : Option bV), x4 = iI (i : Int) → x3 = (if rzF V (8 * i) then (1 : Int32) else 0) → Fr (fun g j _ => g = 7 ∧ (j = 6 ∨ j = 7)) M2 M3 → (∀ k, k < 32 → M3 7 6 k = iI (sm (fun j => cv (C j) (S (sel c j)) k) i % p)) → bGo 89 (fun v M1 => bCall 160 [cR 26 0, cI x1] M1 (Alike (n + 1) v)) 42 [some (cR 0 0), some (cI x1), some (cI (iI (cnt c : Int))), some (cI x3), some (cI x4), o5] [] M3 := by
        intro nn
        induction nn with
        | zero =>
          intro i hi M3 x3 x4 o5 e4 ex3 hF3 hv
          have hF3' : ∀ g j i, ¬ (g = 7 ∧ (j = 6 ∨ j = 7)) → M3 g j i = M2 g j i := hF3
          have hic : i = cnt c := by omega
          rw [hic] at ex3 hv
          have hFall : Fr (fun g j _ => g = 7 ∧ 6 ≤ j ∧ j < 12 ∨ g = 9 ∧ j = 0) M M3 := ((hF1.trans hB2.fr).trans hF3).mono fun g j i w => by
            simp only [oL] at w
            omega
          refine g_X6_relates_42 ⟨fun _ => ⟨fun q => hend M3 0 hFall ?_, fun q => ?_⟩, fun q => absurd (nle_of q rfl e4) (by omega)⟩
          · cases hq : rzF V (8 * cnt c) with
            | true => rfl
            | false =>
              rw [hq] at ex3
              exact absurd ex3 q
          · have hn' : rzF V (8 * cnt c) = false := by
              cases hq : rzF V (8 * cnt c) with
              | false => rfl
              | true =>
                rw [hq] at ex3
                rw [ex3] at q
                exact absurd (by decide) q
            refine S_leadingZeros (f := fun k => rs (cnt c) (fun i => S (sel c i)) C k % p) (fun k hk => ⟨hv k hk, Int.emod_nonneg _ (by omega), by have := Int.emod_lt_of_pos (rs (cnt c) (fun i => S (sel c i)) C k) (show 0 < p by omega); omega⟩) ?_
            have hlz := lz_bd (f := fun k => rs (cnt c) (fun i => S (sel c i)) C k % p) (n := 32) (k := 0)
            have h04 : M3 0 0 4 = iI (u : Int) := by
              rw [hF3' _ _ _ (by omega), hB2.keep (by omega), hF1' _ _ _ (by omega)]
              exact hu.1
            refine ⟨fun w => hend M3 0 hFall ?_, fun w => hend M3 1 hFall ?_⟩
            · have := lt_of w rfl h04
              rw [hn', if_neg (by decide), if_pos (by omega)]
            · have := nlt_of w rfl h04
              rw [hn', if_neg (by decide), if_neg (by omega)]
        | succ nn ih =>
          intro i hi M3 x3 x4 o5 e4 ex3 hF3 hv
          have hF3' : ∀ g j i, ¬ (g = 7 ∧ (j = 6 ∨ j = 7)) → M3 g j i = M2 g j i := hF3
          refine g_X6_relates_42 ⟨fun q => absurd (le_of q rfl e4) (by omega), fun _ => S_fill7 l0 fun M4 hB4 => ?_⟩
          have old : ∀ (M5 : bM), (∀ g j k, ¬ (g = 7 ∧ j = 7) → M5 g j k = M4 g j k) → ∀ g j k, ¬ (g = 7 ∧ 6 ≤ j ∧ j < 12) → ¬ (g = 9 ∧ j = 0) → M5 g j k = M g j k := fun M5 hM5 g j k q1 q2 => by
            rw [hM5 _ _ _ (by omega), hB4.keep (by omega), hF3' _ _ _ (by omega), hB2.keep (by omega), hF1' _ _ _ (by omega)]
          have inner : ∀ (nn k : Nat), k + nn = 8 → ∀ (M5 : bM) (x3 x5 : Int32), x5 = iI (k : Int) → x3 = (if rzF V (8 * i + k) then (1 : Int32) else 0) → Blk M4 M5 7 7 0 k (C i) → bGo 89 (fun v M1 => bCall 160 [cR 26 0, cI x1] M1 (Alike (n + 1) v)) 59 [some (cR 0 0), some (cI x1), some (cI (iI (cnt c : Int))), some (cI x3), some (cI x4), some (cI x5)] [] M5 := by
            intro nn
            induction nn with
            | zero =>
              intro k hk M5 x3 x5 e5 ex3 hB5
              have : k = 8 := by omega
              subst this
              refine g_X6_relates_59 ⟨fun _ => ⟨vin e4, ?_⟩, fun q => absurd (nle_of q (iL 8) e5) (by omega)⟩
              rw [cl_of e4]
              have hM5 : ∀ g j k, ¬ (g = 7 ∧ j = 7) → M5 g j k = M4 g j k := fun g j k q => hB5.keep (by omega)
              refine S_addProduct (p := p) (f := C i) (g := S (sel c i)) (w := fun k => sm (fun j => cv (C j) (S (sel c j)) k) i) (by rw [old M5 hM5 _ _ _ (by omega) (by omega)]; exact hp1) (by omega) h4 (by omega) (fun e he => ⟨?_, hCb i e⟩) (fun e he => ⟨?_, hfb i (by omega) e he⟩) (fun e he => by rw [hB5.keep (by omega), hB4.keep (by omega)]; exact hv e he) fun M6 hF6 g6 => ?_
              · by_cases q : e < 8
                · exact hB5.at (by omega) q
                · rw [hB5.keep (by omega), hB4.at (by omega) he, hC0 i e (by omega)]
              · rw [hB5.keep (by omega), hB4.keep (by omega), hF3' _ _ _ (by omega), hB2.keep (by omega)]
                exact g1 i (by omega) e he
              · refine ih (i + 1) (by omega) M6 _ _ _ (inN e4) (by rw [ex3, show 8 * i + 8 = 8 * (i + 1) by omega]) ((((hF3.trans hB4.fr).trans hB5.fr).trans hF6).mono fun g j i w => ?_) g6
                simp only [oL] at w
                omega
            | succ nn ihn =>
              intro k hk M5 x3 x5 e5 ex3 hB5
              have hM5 : ∀ g j k, ¬ (g = 7 ∧ j = 7) → M5 g j k = M4 g j k := fun g j k q => hB5.keep (by omega)
              have ea : ((8 : Int32) * x4) + x5 = iI ((8 * i + k : Nat) : Int) := by
                rw [e4, e5, iL 8, iI_mul, iI_add]
                exact iIc (by omega)
              refine g_X6_relates_59 ⟨fun q => absurd (le_of q (iL 8) e5) (by omega), fun _ => ⟨vin e1, ?_⟩⟩
              rw [cl_of e1]
              refine S_numberOrZero (z := z) (k := 8 * i + k) (by rw [old M5 hM5 _ _ _ (by omega) (by omega)]; exact y2) za zb ea (by omega) ?_
              have hval : (if ((8 * i + k : Nat) : Int) < z then M5 12 r (8 * i + k) else (0 : Int32)) = iI (if ((8 * i + k : Nat) : Int) < z then (M 12 r (8 * i + k)).toInt else 0) := by
                by_cases q : ((8 * i + k : Nat) : Int) < z
                · rw [if_pos q, if_pos q, tI, old M5 hM5 _ _ _ (by omega) (by omega)]
                · rw [if_neg q, if_neg q]
                  exact l0
              have hv2 : (if ((8 * i + k : Nat) : Int) < z then (M 12 r (8 * i + k)).toInt else 0) % p = C i k := by
                rw [hC8 i k (by omega)]
                by_cases q : ((8 * i + k : Nat) : Int) < z
                · rw [if_pos q, hV1 _ q]
                · rw [if_neg q, hV0 _ (by omega)]
                  simp
              refine S_taken (p := p) (by rw [old M5 hM5 _ _ _ (by omega) (by omega)]; exact hp1) hval ?_ ?_ (by omega) h4 ?_
              · split
                · exact Int32.le_toInt _
                · omega
              · split
                · exact Int32.toInt_lt _
                · omega
              · rw [hv2]
                refine ⟨vin e5, ?_⟩
                have next : ∀ x3' : Int32, x3' = (if rzF V (8 * i + (k + 1)) then (1 : Int32) else 0) → bGo 89 (fun v M1 => bCall 160 [cR 26 0, cI x1] M1 (Alike (n + 1) v)) 59 [some (cR 0 0), some (cI x1), some (cI (iI (cnt c : Int))), some (cI x3'), some (cI x4), some (cI (x5 + (1 : Int32)))] [] (bU M5 7 7 x5.toNatClampNeg (iI (C i k))) := fun x3' h3' => by
                  rw [cl_of e5]
                  exact ihn (k + 1) (by omega) _ _ _ (inN e5) h3' (hB5.up (Nat.zero_le _) rfl)
                have hsucc : rzF V (8 * i + (k + 1)) = (rzF V (8 * i + k) && decide (C i k = 0)) := by
                  rw [hC8 i k (by omega)]
                  rfl
                have hCk := hCb i k
                refine ⟨fun q => next 0 ?_, fun q => ⟨vin e5, ?_⟩⟩
                · cases hq : rzF V (8 * i + k) with
                  | true =>
                    rw [hq] at ex3
                    rw [ex3] at q
                    exact absurd q (by decide)
                  | false =>
                    rw [hsucc, hq]
                    rfl
                · rw [bU_at]
                  refine ⟨fun w => next 0 ?_, fun w => next 1 ?_⟩
                  · have hne : C i k ≠ 0 := fun y => w (by rw [y]; rfl)
                    rw [hsucc, decide_eq_false hne, Bool.and_false]
                    rfl
                  · have he := eq_of (Decidable.of_not_not w) rfl l0
                    cases hq : rzF V (8 * i + k) with
                    | true =>
                      rw [hsucc, hq, he]
                      rfl
                    | false =>
                      rw [hq] at ex3
                      exact absurd ex3 q
          exact inner 8 0 rfl M4 _ _ l0 ex3 Blk.start
      exact loop (cnt c) 0 (by omega) M2 _ _ _ l0 rfl (Fr.refl.mono fun _ _ _ w => w.elim) fun k hk => by
        rw [hB2.at (by omega) hk]
        exact iIc (by show 0 = 0 % p; simp)
    · refine S_isMissing_t y2 za (by omega) (z1 ?_)
      refine g_X7_relates_0 (T_isRow_t e1 hr3 (n1 ⟨vin e1, ?_⟩))
      rw [cl_of e1, y3]
      refine ⟨fun q => absurd (le_of q l0 rfl) (by omega), fun _ => alike rfl hR.same⟩
  · exact S_isSheet_f hr (n0 (g_X7_relates_0 (T_isRow_f hr (n0 (alike rfl hR.same)))))
