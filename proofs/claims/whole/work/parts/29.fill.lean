-- needs: 06 08 09 10 11 12 13 26 27
theorem S_fill7 {M0 : bM} {Q : bQ} {j : Nat} {x : Int32} {z : Int} (hx : x = iI z) (K : ∀ M, Blk M0 M 7 j 0 32 (fun _ => z) → Q none M) : bCall 1 [cR 7 j, cI x] M0 Q := by
  have h32 : Int32.ofNat 32 = iI 32 := iI_nI 32
  have loop : ∀ (n k : Nat), k + n = 32 → ∀ (M : bM) (x2 : Int32), x2 = iI (k : Int) → Blk M0 M 7 j 0 k (fun _ => z) → bGo 1 Q 5 [some (cR 7 j), some (cI x), some (cI x2), some (cI (Int32.ofNat 32))] [] M := by
    intro n
    induction n with
    | zero =>
      intro k hk M x2 h2 hB
      refine g_J7_fill_7_5 ⟨fun c => ?_, fun c => ?_⟩
      · have : k = 32 := by omega
        subst this
        exact K M hB
      · have := nle_of c h32 h2
        omega
    | succ n ih =>
      intro k hk M x2 h2 hB
      refine g_J7_fill_7_5 ⟨fun c => ?_, fun c => ?_⟩
      · have := le_of c h32 h2
        omega
      · refine ⟨vin h2, ?_⟩
        rw [cl_of h2]
        exact ih (k + 1) (by omega) _ _ (inN h2) (hB.up (Nat.zero_le _) hx)
  refine g_J7_fill_7_0 ?_
  exact loop 32 0 rfl M0 _ l0 Blk.start
theorem S_fill8 {M0 : bM} {Q : bQ} {j : Nat} {x : Int32} {z : Int} (hx : x = iI z) (K : ∀ M, Blk M0 M 8 j 0 168 (fun _ => z) → Q none M) : bCall 1 [cR 8 j, cI x] M0 Q := by
  have h32 : Int32.ofNat 168 = iI 168 := iI_nI 168
  have loop : ∀ (n k : Nat), k + n = 168 → ∀ (M : bM) (x2 : Int32), x2 = iI (k : Int) → Blk M0 M 8 j 0 k (fun _ => z) → bGo 1 Q 5 [some (cR 8 j), some (cI x), some (cI x2), some (cI (Int32.ofNat 168))] [] M := by
    intro n
    induction n with
    | zero =>
      intro k hk M x2 h2 hB
      refine g_J7_fill_8_5 ⟨fun c => ?_, fun c => ?_⟩
      · have : k = 168 := by omega
        subst this
        exact K M hB
      · have := nle_of c h32 h2
        omega
    | succ n ih =>
      intro k hk M x2 h2 hB
      refine g_J7_fill_8_5 ⟨fun c => ?_, fun c => ?_⟩
      · have := le_of c h32 h2
        omega
      · refine ⟨vin h2, ?_⟩
        rw [cl_of h2]
        exact ih (k + 1) (by omega) _ _ (inN h2) (hB.up (Nat.zero_le _) hx)
  refine g_J7_fill_8_0 ?_
  exact loop 168 0 rfl M0 _ l0 Blk.start
theorem S_fill12 {M0 : bM} {Q : bQ} {j : Nat} {x : Int32} {z : Int} (hx : x = iI z) (K : ∀ M, Blk M0 M 12 j 0 40 (fun _ => z) → Q none M) : bCall 1 [cR 12 j, cI x] M0 Q := by
  have h32 : Int32.ofNat 40 = iI 40 := iI_nI 40
  have loop : ∀ (n k : Nat), k + n = 40 → ∀ (M : bM) (x2 : Int32), x2 = iI (k : Int) → Blk M0 M 12 j 0 k (fun _ => z) → bGo 1 Q 5 [some (cR 12 j), some (cI x), some (cI x2), some (cI (Int32.ofNat 40))] [] M := by
    intro n
    induction n with
    | zero =>
      intro k hk M x2 h2 hB
      refine g_J7_fill_12_5 ⟨fun c => ?_, fun c => ?_⟩
      · have : k = 40 := by omega
        subst this
        exact K M hB
      · have := nle_of c h32 h2
        omega
    | succ n ih =>
      intro k hk M x2 h2 hB
      refine g_J7_fill_12_5 ⟨fun c => ?_, fun c => ?_⟩
      · have := le_of c h32 h2
        omega
      · refine ⟨vin h2, ?_⟩
        rw [cl_of h2]
        exact ih (k + 1) (by omega) _ _ (inN h2) (hB.up (Nat.zero_le _) hx)
  refine g_J7_fill_12_0 ?_
  exact loop 40 0 rfl M0 _ l0 Blk.start
theorem S_fill9 {M0 : bM} {Q : bQ} {j : Nat} {x : Int32} {z : Int} (hx : x = iI z) (K : ∀ M, Blk M0 M 9 j 0 4 (fun _ => z) → Q none M) : bCall 1 [cR 9 j, cI x] M0 Q := by
  have h32 : Int32.ofNat 4 = iI 4 := iI_nI 4
  have loop : ∀ (n k : Nat), k + n = 4 → ∀ (M : bM) (x2 : Int32), x2 = iI (k : Int) → Blk M0 M 9 j 0 k (fun _ => z) → bGo 1 Q 5 [some (cR 9 j), some (cI x), some (cI x2), some (cI (Int32.ofNat 4))] [] M := by
    intro n
    induction n with
    | zero =>
      intro k hk M x2 h2 hB
      refine g_J7_fill_9_5 ⟨fun c => ?_, fun c => ?_⟩
      · have : k = 4 := by omega
        subst this
        exact K M hB
      · have := nle_of c h32 h2
        omega
    | succ n ih =>
      intro k hk M x2 h2 hB
      refine g_J7_fill_9_5 ⟨fun c => ?_, fun c => ?_⟩
      · have := le_of c h32 h2
        omega
      · refine ⟨vin h2, ?_⟩
        rw [cl_of h2]
        exact ih (k + 1) (by omega) _ _ (inN h2) (hB.up (Nat.zero_le _) hx)
  refine g_J7_fill_9_0 ?_
  exact loop 4 0 rfl M0 _ l0 Blk.start
theorem S_fill4 {M0 : bM} {Q : bQ} {j : Nat} {x1 x2 x3 : Int32} {a b : Nat} {z : Int} (h1 : x1 = iI (a : Int)) (h2 : x2 = iI (b : Int)) (h3 : x3 = iI z) (hab : a ≤ b) (hb : b ≤ 32) (K : ∀ M, Blk M0 M 7 j a b (fun _ => z) → Q none M) : bCall 3 [cR 7 j, cI x1, cI x2, cI x3] M0 Q := by
  have h32 : Int32.ofNat 32 = iI 32 := iI_nI 32
  have loop : ∀ (n k : Nat), k + n = b → a ≤ k → ∀ (M : bM) (x4 : Int32), x4 = iI (k : Int) → Blk M0 M 7 j a k (fun _ => z) → bGo 3 Q 10 [some (cR 7 j), some (cI x1), some (cI x2), some (cI x3), some (cI x4)] [] M := by
    intro n
    induction n with
    | zero =>
      intro k hk ha M x4 h4 hB
      refine g_J7_fill4_10 ⟨fun c => ?_, fun c => ?_⟩
      · have : k = b := by omega
        subst this
        exact K M hB
      · have := nle_of c h2 h4
        omega
    | succ n ih =>
      intro k hk ha M x4 h4 hB
      refine g_J7_fill4_10 ⟨fun c => ?_, fun c => ?_⟩
      · have := le_of c h2 h4
        omega
      · refine ⟨vin h4, ?_⟩
        rw [cl_of h4]
        exact ih (k + 1) (by omega) (by omega) _ _ (inN h4) (hB.up ha h3)
  refine g_J7_fill4_0 ?_
  refine g_J7_rangeCheck_0 ⟨fun c => ⟨fun d => ⟨fun f => ?_, fun f => ?_⟩, fun d => ?_⟩, fun c => ?_⟩
  · exact loop (b - a) a (by omega) (Nat.le_refl _) M0 _ h1 Blk.start
  · have := nle_of f h2 h32
    omega
  · have := nle_of d l0 h1
    omega
  · have := nle_of c h1 h2
    omega
theorem S_min {M : bM} {Q : bQ} {x y : Int32} {a b : Int} (hx : x = iI a) (hy : y = iI b) (h1 : -2147483648 ≤ a) (h2 : a < 2147483648) (h3 : -2147483648 ≤ b) (h4 : b < 2147483648) (K : Q (some (cI (iI (if b < a then b else a)))) M) : bCall 6 [cI x, cI y] M Q := by
  refine g_J9_min_0 ⟨fun c => ?_, fun c => ?_⟩
  · have := lt_of c hy hx
    rw [if_pos this] at K
    rw [hy]
    exact K
  · have := nlt_of c hy hx
    rw [if_neg (by omega)] at K
    rw [hx]
    exact K
theorem S_max {M : bM} {Q : bQ} {x y : Int32} {a b : Int} (hx : x = iI a) (hy : y = iI b) (h1 : -2147483648 ≤ a) (h2 : a < 2147483648) (h3 : -2147483648 ≤ b) (h4 : b < 2147483648) (K : Q (some (cI (iI (if a < b then b else a)))) M) : bCall 5 [cI x, cI y] M Q := by
  refine g_J9_max_0 ⟨fun c => ?_, fun c => ?_⟩
  · have := lt_of c hx hy
    rw [if_pos this] at K
    rw [hy]
    exact K
  · have := nlt_of c hx hy
    rw [if_neg (by omega)] at K
    rw [hx]
    exact K
