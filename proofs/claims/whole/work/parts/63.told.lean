-- needs: 06 08 09 10 11 12 13 14 15 16 17 18 19 26 27 28 29 30 31 32 33 34 35 37 39 41 42 45 46 47 48 49 50 51 52 53 54 55 56 57 58 59 60 61
/-- the greatest of the first n -/
def mxF (h : Nat → Nat) : Nat → Nat
  | 0 => 0
  | n + 1 => if mxF h n < h n then h n else mxF h n
theorem mxF_le {h : Nat → Nat} {B : Nat} : ∀ {n : Nat}, (∀ i, i < n → h i ≤ B) → mxF h n ≤ B
  | 0, _ => Nat.zero_le _
  | n + 1, hb => by
    have h1 := mxF_le (n := n) fun i hi => hb i (by omega)
    have h2 := hb n (by omega)
    unfold mxF
    split <;> omega
theorem mxF_congr {h h' : Nat → Nat} : ∀ {n : Nat}, (∀ i, i < n → h i = h' i) → mxF h n = mxF h' n
  | 0, _ => rfl
  | n + 1, e => by
    unfold mxF
    rw [mxF_congr (n := n) fun i hi => e i (by omega), e n (by omega)]
theorem lowF_congr {h h' : Nat → Nat} {m : Nat} (e : ∀ i, i < m → h i = h' i) : ∀ {n i b : Nat}, i + n ≤ m → b < m → lowF h n i b = lowF h' n i b
  | 0, _, _, _, _ => rfl
  | n + 1, i, b, hi, hb => by
    unfold lowF
    rw [e i (by omega), e b hb]
    split
    · exact lowF_congr e (by omega) (by omega)
    · exact lowF_congr e (by omega) hb
theorem S_allDegrees {p : Int} {m : Nat} {s : Nat → Nat} {f : Nat → Nat → Int} {d : Nat → Nat} {R : Nat → Nat → Nat → Int} {M : bM} {Q : bQ} (h : BS p m s f d R M) (hm : m ≤ 4) (K : Q (some (cI (iI (sm (fun i => (d i : Int)) m)))) M) : bCall 7 [cR 3 0] M Q := by
  have loop : ∀ (n i : Nat), i + n = m → ∀ (x1 x2 : Int32), x1 = iI (sm (fun i => (d i : Int)) i) → x2 = iI (i : Int) → bGo 7 Q 4 [some (cR 3 0), some (cI x1), some (cI x2)] [] M := by
    intro n
    induction n with
    | zero =>
      intro i hi x1 x2 e1 e2
      have : i = m := by omega
      subst this
      refine g_X0_allDegrees_4 ⟨fun _ => by rw [e1]; exact K, fun q => absurd (nle_of q h.1 e2) (by omega)⟩
    | succ n ih =>
      intro i hi x1 x2 e1 e2
      refine g_X0_allDegrees_4 ⟨fun q => absurd (le_of q h.1 e2) (by omega), fun _ => ⟨vin e2, ?_⟩⟩
      refine ih (i + 1) (by omega) _ _ ?_ (inN e2)
      rw [e1, cl_of e2, (h.2.1 i (by omega)).1, iI_add]
      rfl
  exact g_X0_allDegrees_0 (loop m 0 (by omega) _ _ l0 l0)
theorem S_greatestHeight {p : Int} {m : Nat} {s : Nat → Nat} {f : Nat → Nat → Int} {d : Nat → Nat} {R : Nat → Nat → Nat → Int} {M : bM} {Q : bQ} (h : BS p m s f d R M) (hm : m ≤ 4) (hb : ∀ i, i < m → d i + s i ≤ 100) (K : Q (some (cI (iI (mxF (fun i => d i + s i) m : Int)))) M) : bCall 17 [cR 3 0] M Q := by
  have loop : ∀ (n i : Nat), i + n = m → ∀ (x1 x2 : Int32), x1 = iI (mxF (fun i => d i + s i) i : Int) → x2 = iI (i : Int) → bGo 17 Q 4 [some (cR 3 0), some (cI x1), some (cI x2)] [] M := by
    intro n
    induction n with
    | zero =>
      intro i hi x1 x2 e1 e2
      have : i = m := by omega
      subst this
      refine g_X0_greatestHeight_4 ⟨fun _ => by rw [e1]; exact K, fun q => absurd (nle_of q h.1 e2) (by omega)⟩
    | succ n ih =>
      intro i hi x1 x2 e1 e2
      have b1 := mxF_le (h := fun i => d i + s i) (B := 100) (n := i) fun j hj => hb j (by omega)
      have b2 := hb i (by omega)
      refine g_X0_greatestHeight_4 ⟨fun q => absurd (le_of q h.1 e2) (by omega), fun _ => S_height h hm (by omega) e2 (S_max e1 rfl (by omega) (by omega) (by omega) (by omega) ?_)⟩
      refine ih (i + 1) (by omega) _ _ (iIc ?_) (inN e2)
      show _ = ((if mxF (fun i => d i + s i) i < d i + s i then d i + s i else mxF (fun i => d i + s i) i : Nat) : Int)
      by_cases q : mxF (fun i => d i + s i) i < d i + s i
      · rw [if_pos q, if_pos (by omega)]
      · rw [if_neg q, if_neg (by omega)]
  exact g_X0_greatestHeight_0 (loop m 0 (by omega) _ _ l0 l0)
theorem P_told {n : Nat} {M : bM} {x1 : Int32} (h : Rel n M) : bCall 100 [cR 0 0, cI x1] M (fun v M1 => bCall 172 [cR 26 0, cI x1] M1 (Alike (n + 1) v)) := by
  obtain ⟨p, S, c, u, L, hR⟩ := h
  have hc5 := hR.2.2.1.1.2.2.2.2
  have hc1 := hR.2.2.1.1.2.2.2.1
  have h2 := hR.1.2.2.1
  have hlift : ∀ i, i < cnt c → L (sel c i) ≤ 9 := fun i hi => (hR.2.2.1.2.2 _ (sel_lt c hR.2.2.1.1.2.2.1 i hi)).2.2
  obtain ⟨z, e, za, zb⟩ := iI_of x1
  have hbad : ¬ (0 ≤ z ∧ z ≤ 5) → bCall 172 [cR 26 0, cI x1] M (Alike (n + 1) (some (cI (-1 : Int32)))) := fun hn => g_X7_told_0 (T_in_f e l0 (iL 5) za zb (by omega) (by omega) (by omega) (by omega) hn (n0 (alike rfl hR.same)))
  refine g_X6_told_0 ⟨fun q => hbad ?_, fun q => ⟨fun q2 => ?_, fun q2 => hbad ?_⟩⟩
  · have := lt_of q e l0
    omega
  · have h0 := nlt_of q e l0
    have h5 := le_of q2 e (iL 5)
    refine S_current hR fun M1 hR1 hC => ⟨rfl, ?_⟩
    -- the model
    have hmod : ∀ {Q : bQ}, (∀ (M2 : bM) d R, Rel (n + 1) M2 → BS p (cnt c) (fun i => L (sel c i)) (fun i => S (sel c i)) d R M1 → (∀ i, i < cnt c → d i ≤ 32) → M2 26 0 25 = iI (cnt c : Int) → M2 26 0 24 = iI (u : Int) → (∀ i, i < cnt c → M2 39 0 i = iI (d i : Int) ∧ M2 37 0 i = iI (L (sel c i) : Int)) →
        ((z = 0 → Q (some (cI (iI (cnt c : Int)))) M2) ∧ (z = 1 → Q (some (cI (iI (u : Int)))) M2) ∧ (z = 2 → Q (some (cI (iI (sm (fun i => (d i : Int)) (cnt c))))) M2) ∧ (z = 3 → Q (some (cI (iI ((d (lowF (fun i => d i + L (sel c i)) (cnt c - 1) 1 0) + L (sel c (lowF (fun i => d i + L (sel c i)) (cnt c - 1) 1 0)) : Nat) : Int)))) M2) ∧ (z = 4 → Q (some (cI (iI (mxF (fun i => d i + L (sel c i)) (cnt c) : Int)))) M2) ∧ (z = 5 → Q (some (cI (iI (lowF (fun i => d i + L (sel c i)) (cnt c - 1) 1 0 : Int)))) M2))) → bCall 172 [cR 26 0, cI x1] M1 Q := by
      intro Q K
      refine g_X7_told_0 (T_in_t e l0 (iL 5) (by omega) (by omega) (by omega) (by omega) (n1 (T_looks hR1 fun M2 d R hF hMS hB g1 g2 => ?_)))
      have hBS := hC.same hR1 hB
      obtain ⟨k0, k1, k2, k3, k4, k5⟩ := K M2 d R (hR1.looked hF) hBS (fun i hi => (g1 i hi).1) hMS.2.1 (by rw [hF _ _ _ (by omega)]; exact hR1.2.2.1.2.1.2.1) (fun i hi => ⟨(g1 i hi).2, hMS.2.2.2.1 i hi⟩)
      have loop : ∀ (n i : Nat), i + n = cnt c → ∀ (x2 x3 x4 : Int32), x2 = iI (sm (fun i => (d i : Int)) i) → x3 = iI (mxF (fun i => d i + L (sel c i)) i : Int) → x4 = iI (i : Int) → bGo 172 Q 22 [some (cR 26 0), some (cI x1), some (cI x2), some (cI x3), some (cI x4)] [] M2 := by
        intro n
        induction n with
        | zero =>
          intro i hi x2 x3 x4 e2 e3 e4
          have : i = cnt c := by omega
          subst this
          refine g_X7_told_22 ⟨fun _ => ?_, fun q => absurd (nle_of q hMS.2.1 e4) (by omega)⟩
          have hlow : lowF (fun i => d i + L (sel c i)) (cnt c - 1) 1 0 < cnt c := lowF_lt (by omega) (by omega)
          refine T_lowestRow hMS hc5 hc1 g1 hlift ?_
          have e' : ∀ w : Int, x1 = Int32.ofInt w → 0 ≤ w → w ≤ 5 → z = w := fun w q hw0 hw5 => eq_of q e rfl
          have e'' : ∀ w : Int, ¬ x1 = Int32.ofInt w → z ≠ w := fun w q hw => q (by rw [e, hw]; rfl)
          refine ⟨fun q => ?_, fun q0 => ⟨fun q => ?_, fun q1 => ⟨fun q => ?_, fun q2 => ⟨fun q => ?_, fun q3 => ⟨fun q => ?_, fun q4 => ?_⟩⟩⟩⟩⟩
          · rw [hMS.2.1]
            exact k0 (e' 0 q (by omega) (by omega))
          · have h24 : M2 26 0 24 = iI (u : Int) := by rw [hF _ _ _ (by omega)]; exact hR1.2.2.1.2.1.2.1
            rw [h24]
            exact k1 (e' 1 q (by omega) (by omega))
          · rw [e2]
            exact k2 (e' 2 q (by omega) (by omega))
          · refine ⟨vin (a := (lowF (fun i => d i + L (sel c i)) (cnt c - 1) 1 0 : Int)) rfl, vin (a := (lowF (fun i => d i + L (sel c i)) (cnt c - 1) 1 0 : Int)) rfl, ?_⟩
            rw [cl_of (n := lowF (fun i => d i + L (sel c i)) (cnt c - 1) 1 0) rfl, (g1 _ hlow).2, hMS.2.2.2.1 _ hlow, iI_add, ← Int.natCast_add]
            exact k3 (e' 3 q (by omega) (by omega))
          · rw [e3]
            exact k4 (e' 4 q (by omega) (by omega))
          · have := e'' 0 q0
            have := e'' 1 q1
            have := e'' 2 q2
            have := e'' 3 q3
            have := e'' 4 q4
            exact k5 (by omega)
        | succ n ih =>
          intro i hi x2 x3 x4 e2 e3 e4
          have b0 := hlift i (by omega)
          have b3 := (g1 i (by omega)).1
          have b1 := mxF_le (h := fun i => d i + L (sel c i)) (B := 100) (n := i) fun j hj => by
            have b4 := hlift j (by omega)
            have b5 := (g1 j (by omega)).1
            show d j + L (sel c j) ≤ 100
            omega
          have eh : M2 39 0 x4.toNatClampNeg + M2 37 0 x4.toNatClampNeg = iI ((d i + L (sel c i) : Nat) : Int) := by
            rw [cl_of e4, (g1 i (by omega)).2, hMS.2.2.2.1 i (by omega), iI_add]
            exact iIc (by dsimp only; omega)
          have es : x2 + M2 39 0 x4.toNatClampNeg = iI (sm (fun i => (d i : Int)) (i + 1)) := by
            rw [e2, cl_of e4, (g1 i (by omega)).2, iI_add]
            rfl
          refine g_X7_told_22 ⟨fun q => absurd (le_of q hMS.2.1 e4) (by omega), fun _ => ⟨vin e4, vin e4, vin e4, fun q => ?_, fun q => ⟨vin e4, vin e4, ?_⟩⟩⟩
          · have := le_of q eh e3
            refine ih (i + 1) (by omega) _ _ _ es ?_ (inN e4)
            rw [e3]
            refine iIc ?_
            show _ = ((if mxF (fun i => d i + L (sel c i)) i < d i + L (sel c i) then d i + L (sel c i) else mxF (fun i => d i + L (sel c i)) i : Nat) : Int)
            rw [if_neg (by omega)]
          · have := nle_of q eh e3
            refine ih (i + 1) (by omega) _ _ _ es ?_ (inN e4)
            rw [eh]
            refine iIc ?_
            show _ = ((if mxF (fun i => d i + L (sel c i)) i < d i + L (sel c i) then d i + L (sel c i) else mxF (fun i => d i + L (sel c i)) i : Nat) : Int)
            rw [if_pos (by omega)]
      exact loop (cnt c) 0 (by omega) _ _ _ l0 l0 l0
    have hC' := hC
    obtain ⟨_, d, R, hB, b2, b3, b4, b5⟩ := hC'
    have hBS : BS p (cnt c) (fun i => L (sel c i)) (fun i => S (sel c i)) d R M1 := ⟨b2, fun i hi => (b3 i hi).2, b4, b5⟩
    have e' : ∀ w : Int, x1 = Int32.ofInt w → 0 ≤ w → w ≤ 5 → z = w := fun w q hw0 hw5 => eq_of q e rfl
    have e'' : ∀ w : Int, ¬ x1 = Int32.ofInt w → z ≠ w := fun w q hw => q (by rw [e, hw]; rfl)
    have hdd : ∀ {M2 : bM} {d' R'}, BS p (cnt c) (fun i => L (sel c i)) (fun i => S (sel c i)) d' R' M1 → (∀ i, i < cnt c → d' i ≤ 32) → ∀ i, i < cnt c → d i = d' i := fun {M2 d' R'} hb' hle i hi => by
      have q1 := (hBS.2.1 i hi).1
      have q2 := (hb'.2.1 i hi).1
      have q3 := (b3 i hi).1
      have q4 := hle i hi
      have := eq_of (q1.symm.trans q2) rfl rfl
      omega
    have hlow : lowF (fun i => d i + L (sel c i)) (cnt c - 1) 1 0 < cnt c := lowF_lt (by omega) (by omega)
    refine ⟨fun q => ?_, fun q0 => ⟨fun q => ?_, fun q1 => ⟨fun q => ?_, fun q2 => ⟨fun q => ?_, fun q3 => ⟨fun q => ?_, fun q4 => ?_⟩⟩⟩⟩⟩
    · rw [b2]
      refine hmod fun M2 d' R' hr hb hle m1 m2 m3 => ⟨fun _ => alike rfl hr, ?_⟩
      have := e' 0 q (by omega) (by omega)
      exact ⟨fun w => absurd w (by omega), fun w => absurd w (by omega), fun w => absurd w (by omega), fun w => absurd w (by omega), fun w => absurd w (by omega)⟩
    · rw [hR1.2.2.1.2.1.1]
      have := e' 1 q (by omega) (by omega)
      exact hmod fun M2 d' R' hr hb hle m1 m2 m3 => ⟨fun w => absurd w (by omega), fun _ => alike rfl hr, fun w => absurd w (by omega), fun w => absurd w (by omega), fun w => absurd w (by omega), fun w => absurd w (by omega)⟩
    · have := e' 2 q (by omega) (by omega)
      refine S_allDegrees hBS hc5 (hmod fun M2 d' R' hr hb hle m1 m2 m3 => ⟨fun w => absurd w (by omega), fun w => absurd w (by omega), fun _ => alike (iIc (sm_congr fun i hi => ?_)) hr, fun w => absurd w (by omega), fun w => absurd w (by omega), fun w => absurd w (by omega)⟩)
      show (d i : Int) = (d' i : Int)
      rw [hdd (M2 := M2) hb hle i hi]
    · have := e' 3 q (by omega) (by omega)
      refine S_leastRow hBS hc5 hc1 (fun i hi => ⟨(b3 i hi).1, hlift i hi⟩) (S_height hBS hc5 hlow rfl (hmod fun M2 d' R' hr hb hle m1 m2 m3 => ⟨fun w => absurd w (by omega), fun w => absurd w (by omega), fun w => absurd w (by omega), fun _ => alike (iIc ?_) hr, fun w => absurd w (by omega), fun w => absurd w (by omega)⟩))
      have hd' := hdd (M2 := M2) hb hle
      rw [lowF_congr (h := fun i => d i + L (sel c i)) (h' := fun i => d' i + L (sel c i)) (m := cnt c) (fun i hi => by show d i + _ = d' i + _; rw [hd' i hi]) (by omega) (by omega)] at hlow ⊢
      rw [hd' _ hlow]
    · have := e' 4 q (by omega) (by omega)
      refine S_greatestHeight hBS hc5 (fun i hi => by have := (b3 i hi).1; have := hlift i hi; omega) (hmod fun M2 d' R' hr hb hle m1 m2 m3 => ⟨fun w => absurd w (by omega), fun w => absurd w (by omega), fun w => absurd w (by omega), fun w => absurd w (by omega), fun _ => alike (iIc ?_) hr, fun w => absurd w (by omega)⟩)
      rw [mxF_congr fun i hi => by show d i + L (sel c i) = d' i + L (sel c i); rw [hdd (M2 := M2) hb hle i hi]]
    · have := e'' 0 q0
      have := e'' 1 q1
      have := e'' 2 q2
      have := e'' 3 q3
      have := e'' 4 q4
      refine S_leastRow hBS hc5 hc1 (fun i hi => ⟨(b3 i hi).1, hlift i hi⟩) (hmod fun M2 d' R' hr hb hle m1 m2 m3 => ⟨fun w => absurd w (by omega), fun w => absurd w (by omega), fun w => absurd w (by omega), fun w => absurd w (by omega), fun w => absurd w (by omega), fun _ => alike (iIc ?_) hr⟩)
      rw [lowF_congr (h := fun i => d i + L (sel c i)) (h' := fun i => d' i + L (sel c i)) (m := cnt c) (fun i hi => by show d i + _ = d' i + _; rw [hdd (M2 := M2) hb hle i hi]) (by omega) (by omega)]
  · have := nle_of q2 e (iL 5)
    omega
