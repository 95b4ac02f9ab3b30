-- needs: 06 08 09 10 11 12 13 14 15 16 17 18 19 26 27 28 29 30 31 32 33 34 39 41 42 45 46 47 48 49 50 51 52 53 54 55
/-- what a row makes of the series, all terms -/
theorem T_worksOut {p : Int} {m o i : Nat} {s : Nat → Nat} {f R : Nat → Nat → Int} {M0 : bM} {Q : bQ} {x1 : Int32} (h2 : 2 ≤ p) (h4 : p ≤ 997) (hm : m ≤ 4) (hMS : MS p m o s f M0) (hi : i < 4) (e1 : x1 = iI (i : Int)) (hR : ∀ j, j < m → ∀ k, k < 33 → M0 38 0 (132 * i + 33 * j + k) = iI (R j k) ∧ 0 ≤ R j k ∧ R j k < p) (K : ∀ M, Blk M0 M 27 0 0 32 (fun k => rs m f R k % p) → Q none M) : bCall 126 [cR 26 0, cI x1] M0 Q := by
  obtain ⟨s1, s2, s3, s4, s5⟩ := hMS
  have outer : ∀ (n k : Nat), k + n = 32 → ∀ (M : bM) (x2 : Int32) (o3 o4 o5 : Option bV), x2 = iI (k : Int) → Blk M0 M 27 0 0 k (fun k => rs m f R k % p) → bGo 126 Q 2 [some (cR 26 0), some (cI x1), some (cI x2), o3, o4, o5] [] M := by
    intro n
    induction n with
    | zero =>
      intro k hk M x2 o3 o4 o5 ex hB
      have : k = 32 := by omega
      subst this
      exact g_X7_worksOut_2 ⟨fun _ => K M hB, fun q => absurd (nle_of q l32 ex) (by omega)⟩
    | succ n ih =>
      intro k hk M x2 o3 o4 o5 ex hB
      have hp' : M 26 0 0 = iI p := by rw [hB.keep (by omega)]; exact s1
      have hmany : M 26 0 25 = iI (m : Int) := by rw [hB.keep (by omega)]; exact s2
      have mid : ∀ (n j : Nat), j + n = m → ∀ (x3 x4 : Int32) (o5 : Option bV), x3 = iI (sm (fun j => cv (R j) (f j) k) j % p) → x4 = iI (j : Int) → bGo 126 Q 13 [some (cR 26 0), some (cI x1), some (cI x2), some (cI x3), some (cI x4), o5] [] M := by
        intro n
        induction n with
        | zero =>
          intro j hj x3 x4 o5 e3 e4
          have hjm : j = m := by omega
          subst hjm
          refine g_X7_worksOut_13 ⟨fun _ => ⟨vin ex, ?_⟩, fun q => absurd (nle_of q hmany e4) (by omega)⟩
          rw [cl_of ex]
          exact ih (k + 1) (by omega) _ _ _ _ _ (inN ex) (hB.up (Nat.zero_le _) e3)
        | succ n ihj =>
          intro j hj x3 x4 o5 e3 e4
          have hjm : j < m := by omega
          have inner : ∀ (n e : Nat), e + n = k + 1 → ∀ (x3 x5 : Int32), x3 = iI ((sm (fun j => cv (R j) (f j) k) j + sm (fun t => R j t * f j (k - t)) e) % p) → x5 = iI (e : Int) → bGo 126 Q 25 [some (cR 26 0), some (cI x1), some (cI x2), some (cI x3), some (cI x4), some (cI x5)] [] M := by
            intro n
            induction n with
            | zero =>
              intro e he x3 x5 e3 e5
              have hek : e = k + 1 := by omega
              subst hek
              refine g_X7_worksOut_25 ⟨fun _ => ihj (j + 1) (by omega) _ _ _ e3 (inN e4), fun q => absurd (nlt_of q ex e5) (by omega)⟩
            | succ n ihn =>
              intro e he x3 x5 e3 e5
              have i1 : (((132 : Int32) * x1) + ((33 : Int32) * x4)) + x5 = iI ((132 * i + 33 * j + e : Nat) : Int) := p53 e1 e4 e5
              have i2 : ((32 : Int32) * x4 + x2) - x5 = iI ((32 * j + (k - e) : Nat) : Int) := by
                rw [s32 e4 ex, e5, iI_sub]
                exact iIc (by omega)
              refine g_X7_worksOut_25 ⟨fun q => absurd (lt_of q ex e5) (by omega), fun _ => ⟨vin i1, vin i2, fun z => ?_, ?_⟩⟩
              · have := eq_of z hp' l0
                omega
              · obtain ⟨r1, r2, r3⟩ := hR j hjm e (by omega)
                obtain ⟨f1, f2, f3⟩ := s5 j hjm (k - e) (by omega)
                have hmul := mul_bd r2 r3 f2 f3 h4
                have b1 := Int.emod_nonneg (sm (fun j => cv (R j) (f j) k) j + sm (fun t => R j t * f j (k - t)) e) (by omega : p ≠ 0)
                have b2 := Int.emod_lt_of_pos (sm (fun j => cv (R j) (f j) k) j + sm (fun t => R j t * f j (k - t)) e) (by omega : 0 < p)
                refine ihn (e + 1) (by omega) _ _ ?_ (inN e5)
                rw [cl_of i1, cl_of i2, hB.keep (by omega), hB.keep (by omega), r1, f1, hp', e3, iI_mul, iI_add, iI_remN (by omega) (by omega) (by omega) (by omega)]
                refine iIc ?_
                show _ = (sm (fun j => cv (R j) (f j) k) j + (sm (fun t => R j t * f j (k - t)) e + R j e * f j (k - e))) % p
                rw [Int.emod_add_emod, Int.add_assoc]
          refine g_X7_worksOut_13 ⟨fun q => absurd (le_of q hmany e4) (by omega), fun _ => ?_⟩
          refine inner (k + 1) 0 (by omega) _ _ ?_ l0
          rw [e3]
          refine iIc ?_
          show _ = (sm (fun j => cv (R j) (f j) k) j + 0) % p
          rw [Int.add_zero]
      refine g_X7_worksOut_2 ⟨fun q => absurd (le_of q l32 ex) (by omega), fun _ => ?_⟩
      refine mid m 0 (by omega) _ _ _ ?_ l0
      rw [l0]
      refine iIc ?_
      show 0 = 0 % p
      simp
  exact g_X7_worksOut_0 (outer 32 0 rfl M0 _ _ _ _ l0 Blk.start)
