-- needs: 06 08 09 10 11 12 13 14 15 16 17 18 19 26 27 28 29 30 31 32 33 34 39 41 42 45 46 47 48 49 50 51 52 53 54 55 56
/-- how many of the first s series are chosen -/
def pcn (c s : Nat) : Nat := ((List.range s).filter fun i => c.testBit i).length
theorem pcn_yes : ∀ c, c < 64 → ∀ s, s < 6 → c.testBit s = true → sel c (pcn c s) = s ∧ pcn c (s + 1) = pcn c s + 1 ∧ pcn c s < cnt c := by decide +kernel
theorem pcn_no : ∀ c, c < 64 → ∀ s, s < 6 → c.testBit s = false → pcn c (s + 1) = pcn c s := by decide +kernel
theorem pcn_all : ∀ c, c < 64 → pcn c 6 = cnt c := by decide +kernel
theorem sel_lt : ∀ c, c < 64 → ∀ i, i < cnt c → sel c i < 6 := by
  intro c hc i hi
  have h1 : sel c i ∈ chs c := by
    unfold sel
    unfold cnt at hi
    rw [List.getD_eq_getElem?_getD, List.getElem?_eq_getElem hi]
    exact List.getElem_mem hi
  unfold chs at h1
  exact List.mem_range.mp (List.mem_filter.mp h1).1
theorem bit_c : ∀ c : Nat, c < 64 → ∀ s : Nat, s < 6 → (iI (c : Int) >>> (iI (s : Int) &&& (31 : Int32))) &&& (1 : Int32) = if c.testBit s then (1 : Int32) else 0 := by decide +kernel
theorem S_gather {p : Int} {S : Nat → Nat → Int} {c u : Nat} {L : Nat → Nat} {M0 : bM} {Q : bQ} (hS : RelS p S M0) (hC : RelC c u L M0) (K : ∀ M, Fr (fun g j _ => g = 7 ∧ 8 ≤ j ∧ j < 12 ∨ g = 9 ∧ j = 0) M0 M → (∀ i, i < cnt c → ∀ k, k < 32 → M 7 (8 + i) k = iI (S (sel c i) k)) → (∀ i, i < cnt c → M 9 0 i = iI (L (sel c i) : Int)) → Q (some (cI (iI (cnt c : Int)))) M) : bCall 67 [cR 0 0] M0 Q := by
  obtain ⟨⟨c1, c2, c3, c4, c5⟩, _, hL⟩ := hC
  have c0 : (0 : Int32).toNatClampNeg = 0 := rfl
  have loop : ∀ (n s : Nat), s + n = 6 → ∀ (M : bM) (x1 x2 : Int32), x1 = iI (pcn c s : Int) → x2 = iI (s : Int) → pcn c s ≤ cnt c → Fr (fun g j _ => g = 7 ∧ 8 ≤ j ∧ j < 12 ∨ g = 9 ∧ j = 0) M0 M → (∀ i, i < pcn c s → ∀ k, k < 32 → M 7 (8 + i) k = iI (S (sel c i) k)) → (∀ i, i < pcn c s → M 9 0 i = iI (L (sel c i) : Int)) → bGo 67 Q 4 [some (cR 0 0), some (cI x1), some (cI x2)] [] M := by
    intro n
    induction n with
    | zero =>
      intro s hs M x1 x2 e1 e2 hle hF g1 g2
      have hs6 : s = 6 := by omega
      subst hs6
      rw [pcn_all c c3] at *
      refine g_X6_gatherChosen_4 ⟨fun _ => ?_, fun q => absurd (nle_of q (iL 6) e2) (by omega)⟩
      rw [e1]
      exact K M hF g1 g2
    | succ n ih =>
      intro s hs M x1 x2 e1 e2 hle hF g1 g2
      have hs6 : s < 6 := by omega
      have hF' : ∀ g j i, ¬ (g = 7 ∧ 8 ≤ j ∧ j < 12 ∨ g = 9 ∧ j = 0) → M g j i = M0 g j i := hF
      refine g_X6_gatherChosen_4 ⟨fun q => absurd (le_of q (iL 6) e2) (by omega), fun _ => ⟨fun q => ?_, fun q => ⟨fun q2 => ?_, fun q2 => ?_⟩⟩⟩
      · have := le_of q (iL 4) e1
        have h4 : pcn c s = cnt c := by omega
        rw [e1, h4]
        rw [h4] at g1 g2
        exact K M hF g1 g2
      · rw [hF' _ _ _ (by omega), c1, e2, bit_c c c3 s hs6] at q2
        have hb : c.testBit s = false := by
          cases hb : c.testBit s with
          | false => rfl
          | true =>
            rw [hb] at q2
            exact absurd q2 (by decide)
        have hno := pcn_no c c3 s hs6 hb
        refine ih (s + 1) (by omega) M _ _ (by rw [hno]; exact e1) (inN e2) (by rw [hno]; exact hle) hF ?_ ?_
        · rw [hno]; exact g1
        · rw [hno]; exact g2
      · rw [hF' _ _ _ (by omega), c1, e2, bit_c c c3 s hs6] at q2
        have hb : c.testBit s = true := by
          cases hb : c.testBit s with
          | true => rfl
          | false =>
            rw [hb] at q2
            exact absurd rfl q2
        obtain ⟨y1, y2, y3⟩ := pcn_yes c c3 s hs6 hb
        have hx := nle_of q (iL 4) e1
        refine ⟨vin e2, vin e1, ⟨by decide, by decide, by decide, by decide, by decide⟩, vin e2, vin e1, ?_⟩
        rw [cl_of e1, cl_of e2]
        have hcp : ∀ g j t, ¬ (g = 7 ∧ j = 8 + pcn c s) → (bCp M 7 s 7 (8 + pcn c s) 0 0 32) g j t = M g j t := fun g j t hn => bCp_fr _ _ _ hn
        refine ih (s + 1) (by omega) _ _ _ (by rw [y2]; exact inN e1) (inN e2) (by omega) (fun g j i hn => ?_) (fun i hi k hk => ?_) fun i hi => ?_
        · rw [bU_ne (by omega), hcp _ _ _ (by omega)]
          exact hF _ _ _ (by omega)
        · rw [bU_ne (by omega)]
          by_cases q3 : i = pcn c s
          · subst q3
            rw [bCp_32 hk, hF' _ _ _ (by omega), y1]
            exact (hS s hs6 k hk).1
          · rw [hcp _ _ _ (by omega)]
            exact g1 i (by omega) k hk
        · by_cases q3 : i = pcn c s
          · subst q3
            rw [bU_at, hcp _ _ _ (by omega), hF' _ _ _ (by omega), y1]
            exact (hL s hs6).1
          · rw [bU_ne (by omega), hcp _ _ _ (by omega)]
            exact g2 i (by omega)
  exact g_X6_gatherChosen_0 (loop 6 0 rfl M0 _ _ l0 l0 (Nat.zero_le _) (Fr.refl.mono fun _ _ _ z => z.elim) (fun i hi => absurd hi (Nat.not_lt_zero _)) fun i hi => absurd hi (Nat.not_lt_zero _))
