-- needs: 06 08 09 10 11 12 13 14 15 16 17 18 19 26 27 28 29 30 31 32 33 34 39 41 42 45 46 47 48 49 50 51 52 53 54 55 56 57
abbrev frT : Nat → Nat → Nat → Prop := fun g _ i => g = 36 ∨ g = 37 ∨ g = 26 ∧ (i = 25 ∨ i = 26)
/-- the model's series -/
def RelSm (p : Int) (S : Nat → Nat → Int) (M : bM) : Prop := ∀ s, s < 6 → ∀ k, k < 32 → M 28 0 (32 * s + k) = iI (S s k) ∧ 0 ≤ S s k ∧ S s k < p
theorem RelS.m {p : Int} {S : Nat → Nat → Int} {M : bM} (h : RelS p S M) : RelSm p S M := fun s hs k hk => (h s hs k hk).2
theorem T_takesChoice {p : Int} {S : Nat → Nat → Int} {c u : Nat} {L : Nat → Nat} {M0 : bM} {Q : bQ} (hp : M0 26 0 0 = iI p) (hS : RelSm p S M0) (hC : RelC c u L M0) (K : ∀ M, Fr frT M0 M → MS p (cnt c) u (fun i => L (sel c i)) (fun i => S (sel c i)) M → Q none M) : bCall 117 [cR 26 0] M0 Q := by
  obtain ⟨⟨c1, c2, c3, c4, c5⟩, ⟨u1, u2, u3, u4⟩, hL⟩ := hC
  have loop : ∀ (n s : Nat), s + n = 6 → ∀ (M : bM) (x1 : Int32) (o2 : Option bV), x1 = iI (s : Int) → pcn c s ≤ cnt c → Fr frT M0 M → M 26 0 25 = iI (pcn c s : Int) → M 26 0 26 = iI (u : Int) → (∀ i, i < pcn c s → ∀ k, k < 32 → M 36 0 (32 * i + k) = iI (S (sel c i) k)) → (∀ i, i < pcn c s → M 37 0 i = iI (L (sel c i) : Int)) → bGo 117 Q 15 [some (cR 26 0), some (cI x1), o2] [] M := by
    intro n
    induction n with
    | zero =>
      intro s hs M x1 o2 e1 hle hF g0 g00 g1 g2
      have hs6 : s = 6 := by omega
      subst hs6
      rw [pcn_all c c3] at *
      refine g_X7_takesChoice_15 ⟨fun _ => K M hF ⟨?_, g0, g00, g2, fun j hj k hk => ⟨g1 j hj k hk, (hS _ (sel_lt c c3 j hj) k hk).2⟩⟩, fun q => absurd (nle_of q (iL 6) e1) (by omega)⟩
      rw [hF _ _ _ (by simp only [frT]; omega)]
      exact hp
    | succ n ih =>
      intro s hs M x1 o2 e1 hle hF g0 g00 g1 g2
      have hs6 : s < 6 := by omega
      have hF' : ∀ g j i, ¬ (g = 36 ∨ g = 37 ∨ g = 26 ∧ (i = 25 ∨ i = 26)) → M g j i = M0 g j i := hF
      refine g_X7_takesChoice_15 ⟨fun q => absurd (le_of q (iL 6) e1) (by omega), fun _ => ⟨fun q2 => ?_, fun q2 => ?_⟩⟩
      · rw [hF' _ _ _ (by omega), c2, e1, bit_c c c3 s hs6] at q2
        have hb : c.testBit s = false := by
          cases hb : c.testBit s with
          | false => rfl
          | true =>
            rw [hb] at q2
            exact absurd rfl q2
        have hno := pcn_no c c3 s hs6 hb
        rw [← hno] at g0 g1 g2 hle
        exact ih (s + 1) (by omega) M _ _ (inN e1) hle hF g0 g00 g1 g2
      · rw [hF' _ _ _ (by omega), c2, e1, bit_c c c3 s hs6] at q2
        have hb : c.testBit s = true := by
          cases hb : c.testBit s with
          | true => rfl
          | false =>
            rw [hb] at q2
            exact absurd (show ¬ (0 : Int32) = 1 by decide) q2
        obtain ⟨y1, y2, y3⟩ := pcn_yes c c3 s hs6 hb
        have inner : ∀ (n k : Nat), k + n = 32 → ∀ (M2 : bM) (x2 : Int32), x2 = iI (k : Int) → Blk M M2 36 0 (32 * pcn c s) (32 * pcn c s + k) (fun t => S s (t - 32 * pcn c s)) → bGo 117 Q 35 [some (cR 26 0), some (cI x1), some (cI x2)] [] M2 := by
          intro n
          induction n with
          | zero =>
            intro k hk M2 x2 e2 hB
            have hk32 : k = 32 := by omega
            subst hk32
            have h25 : M2 26 0 25 = iI (pcn c s : Int) := by rw [hB.keep (by omega)]; exact g0
            refine g_X7_takesChoice_35 ⟨fun _ => ⟨vin e1, vin h25, ?_⟩, fun q => absurd (nle_of q l32 e2) (by omega)⟩
            rw [cl_of e1, h25, cl_of (n := pcn c s) rfl, bU_ne (by omega), h25]
            refine ih (s + 1) (by omega) _ _ _ (inN e1) (by omega) (((hF.trans hB.fr).trans (bU_fr.trans bU_fr)).mono fun g j i z => ?_) ?_ ?_ (fun i hi k hk => ?_) fun i hi => ?_
            · simp only [oL, frT] at z ⊢
              omega
            · rw [bU_at, y2]
              exact inN rfl
            · rw [bU_ne (by omega), bU_ne (by omega), hB.keep (by omega)]
              exact g00
            · rw [bU_ne (by omega), bU_ne (by omega)]
              by_cases q3 : i = pcn c s
              · subst q3
                rw [hB.at (by omega) (by omega), y1, show 32 * pcn c s + k - 32 * pcn c s = k by omega]
              · rw [hB.keep (by omega)]
                exact g1 i (by omega) k hk
            · rw [bU_ne (by omega)]
              by_cases q3 : i = pcn c s
              · subst q3
                rw [bU_at, hB.keep (by omega), hF' _ _ _ (by omega), y1]
                exact (hL s hs6).2.1
              · rw [bU_ne (by omega), hB.keep (by omega)]
                exact g2 i (by omega)
          | succ n ihn =>
            intro k hk M2 x2 e2 hB
            have h25 : M2 26 0 25 = iI (pcn c s : Int) := by rw [hB.keep (by omega)]; exact g0
            refine g_X7_takesChoice_35 ⟨fun q => absurd (le_of q l32 e2) (by omega), fun _ => ⟨vin (s32 e1 e2), vin (s32 h25 e2), ?_⟩⟩
            rw [cl_of (s32 e1 e2), cl_of (s32 h25 e2)]
            refine ihn (k + 1) (by omega) _ _ (inN e2) (hB.up (by omega) ?_)
            rw [hB.keep (by omega), hF' _ _ _ (by omega), show 32 * pcn c s + k - 32 * pcn c s = k by omega]
            exact (hS s hs6 k (by omega)).1
        exact inner 32 0 rfl M _ l0 Blk.start
  refine g_X7_takesChoice_0 (loop 6 0 rfl _ _ _ l0 (Nat.zero_le _) ((bU_fr.trans bU_fr).mono fun g j i z => ?_) ?_ ?_ (fun i hi => absurd hi (Nat.not_lt_zero _)) fun i hi => absurd hi (Nat.not_lt_zero _))
  · simp only [oL, frT] at z ⊢
    omega
  · rw [bU_ne (by omega), bU_at]
    exact l0
  · rw [bU_at, bU_ne (by omega)]
    exact u2
