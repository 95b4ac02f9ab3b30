-- needs: 06 08 09 10 11 12 13 14 15 16 17 18 19 26 27 28 29 30 31 32 33 34 35 39
/-! THE LEDGER -/
def Led (n K : Nat) (t : Nat → Nat) (a : Nat → Int) (G : Nat) (M : bM) : Prop := K ≤ 8 ∧ G ≤ n ∧ M 26 0 38 = iI (K : Int) ∧ M 26 0 39 = iI (G : Int) ∧ M 4 0 1 = iI (G : Int) ∧ (∀ k, k < K → t k < 8 ∧ 0 ≤ a k ∧ a k < G ∧ Cert M k (t k) (a k)) ∧ (∀ k k', k < k' → k' < K → t k ≠ t k' ∧ a k < a k') ∧ ∀ i, i < 8 → (∀ k, k < K → t k ≠ i) → M 5 i 1 = iI 0
theorem Led.uniq {n K : Nat} {t : Nat → Nat} {a : Nat → Int} {G : Nat} {M : bM} (h : Led n K t a G M) (hn : n < 1000000) {k k' : Nat} (hk : k < K) (hk' : k' < K) (e : iI (a k) = iI (a k')) : k = k' := by
  obtain ⟨h1, h2, h3, h4, h5, h6, h7, h8⟩ := h
  have b1 := h6 k hk
  have b2 := h6 k' hk'
  have he := (iI_eq (by omega) (by omega) (by omega) (by omega)).mp e
  rcases Nat.lt_trichotomy k k' with q | q | q
  · have := (h7 k k' q hk').2
    omega
  · exact q
  · have := (h7 k' k q hk).2
    omega
theorem Led.inj {n K : Nat} {t : Nat → Nat} {a : Nat → Int} {G : Nat} {M : bM} (h : Led n K t a G M) {k k' : Nat} (hk : k < K) (hk' : k' < K) (e : t k = t k') : k = k' := by
  obtain ⟨h1, h2, h3, h4, h5, h6, h7, h8⟩ := h
  rcases Nat.lt_trichotomy k k' with q | q | q
  · exact absurd e (h7 k k' q hk').1
  · exact q
  · exact absurd e.symm (h7 k' k q hk).1
theorem S_find {n K : Nat} {t : Nat → Nat} {a : Nat → Int} {G : Nat} {M : bM} {Q : bQ} {x : Int32} (h : Led n K t a G M) (Kt : ∀ k, k < K → x = iI (a k) → Q (some (cR 5 (t k))) M) (Kf : (∀ k, k < K → x ≠ iI (a k)) → Q (some cN) M) : bCall 20 [cR 4 0, cI x] M Q := by
  have hL := h
  obtain ⟨h1, h2, h3, h4, h5, h6, h7, h8⟩ := h
  have loop : ∀ (m i : Nat), i + m = 8 → ∀ (x2 : Int32), x2 = iI (i : Int) → (∀ k, k < K → t k < i → x ≠ iI (a k)) → bGo 20 Q 2 [some (cR 4 0), some (cI x), some (cI x2)] [] M := by
    intro m
    induction m with
    | zero =>
      intro i hi x2 e hI
      refine g_X1_find_2 ⟨fun c => Kf fun k hk => hI k hk (by have := h6 k hk; omega), fun c => ?_⟩
      have := nle_of c (iL 8) e
      omega
    | succ m ih =>
      intro i hi x2 e hI
      refine g_X1_find_2 ⟨fun c => ?_, fun c => ⟨vin e, fun d => ?_, fun d => ⟨vin e, fun d2 => ?_, fun d2 => ⟨vin e, ?_⟩⟩⟩⟩
      · have := le_of c (iL 8) e
        omega
      · rw [cl_of e] at d
        refine ih (i + 1) (by omega) _ (inN e) fun k hk hki => ?_
        by_cases hi : t k = i
        · have := (h6 k hk).2.2.2.1.1
          rw [hi, d] at this
          exact absurd this (by decide)
        · exact hI k hk (by omega)
      · rw [cl_of e] at d2
        refine ih (i + 1) (by omega) _ (inN e) fun k hk hki => ?_
        by_cases hi : t k = i
        · have := (h6 k hk).2.2.2.1.2.1
          rw [hi] at this
          exact fun z => d2 (this.trans z.symm)
        · exact hI k hk (by omega)
      · rw [cl_of e] at d d2 ⊢
        by_cases hex : ∃ k, k < K ∧ t k = i
        · obtain ⟨k, hk, hi⟩ := hex
          have := (h6 k hk).2.2.2.1.2.1
          rw [hi] at this
          have := Kt k hk (by rw [← this]; exact (Decidable.of_not_not d2).symm)
          rwa [hi] at this
        · exact absurd (h8 i (by omega) fun k hk z => hex ⟨k, hk, z⟩) d
  exact g_X1_find_0 (loop 8 0 rfl _ l0 fun k _ hk => absurd hk (Nat.not_lt_zero _))
theorem T_placeOf {n K : Nat} {t : Nat → Nat} {a : Nat → Int} {G : Nat} {M : bM} {Q : bQ} {x : Int32} (h : Led n K t a G M) (Kt : ∀ k, k < K → x = iI (a k) → Q (some (cI (iI (k : Int)))) M) (Kf : (∀ k, k < K → x ≠ iI (a k)) → Q (some (cI (-1 : Int32))) M) : bCall 113 [cR 26 0, cI x] M Q := by
  obtain ⟨h1, h2, h3, h4, h5, h6, h7, h8⟩ := h
  have loop : ∀ (m i : Nat), i + m = K → ∀ (x2 : Int32), x2 = iI (i : Int) → (∀ k, k < i → x ≠ iI (a k)) → bGo 113 Q 2 [some (cR 26 0), some (cI x), some (cI x2)] [] M := by
    intro m
    induction m with
    | zero =>
      intro i hi x2 e hI
      have hKi : K = i := by omega
      refine g_X7_placeOf_2 ⟨fun c => ⟨fun c => Kf (by rw [hKi]; exact hI), fun c2 => absurd c c2⟩, fun c => ?_⟩
      have := nle_of c h3 e
      omega
    | succ m ih =>
      intro i hi x2 e hI
      have hc := (h6 i (by omega)).2.2.2.1.2.2
      refine g_X7_placeOf_2 ⟨fun c => ?_, fun c => ⟨vin e, fun d => ⟨fun c2 => absurd c2 c, fun _ => ?_⟩, fun d => ?_⟩⟩
      · have := le_of c h3 e
        omega
      · rw [cl_of e, hc] at d
        rw [e]
        exact Kt i (by omega) d.symm
      · rw [cl_of e, hc] at d
        refine ih (i + 1) (by omega) _ (inN e) fun k hk => ?_
        by_cases hki : k = i
        · subst hki
          exact fun z => d z.symm
        · exact hI k (by omega)
  exact g_X7_placeOf_0 (loop K 0 (by omega) _ l0 fun k hk => absurd hk (Nat.not_lt_zero _))
theorem S_find_t {n K : Nat} {t : Nat → Nat} {a : Nat → Int} {G : Nat} {M : bM} {Q : bQ} {x : Int32} (h : Led n K t a G M) (hn : n < 1000000) {k : Nat} (hk : k < K) (hx : x = iI (a k)) (K0 : Q (some (cR 5 (t k))) M) : bCall 20 [cR 4 0, cI x] M Q := S_find h (fun k' hk' e => by rw [h.uniq hn hk' hk (e.symm.trans hx)]; exact K0) (fun hno => absurd hx (hno k hk))
theorem S_find_f {n K : Nat} {t : Nat → Nat} {a : Nat → Int} {G : Nat} {M : bM} {Q : bQ} {x : Int32} (h : Led n K t a G M) (hx : ¬ ∃ k, k < K ∧ x = iI (a k)) (K0 : Q (some cN) M) : bCall 20 [cR 4 0, cI x] M Q := S_find h (fun k' hk' e => absurd ⟨k', hk', e⟩ hx) (fun _ => K0)
theorem T_placeOf_t {n K : Nat} {t : Nat → Nat} {a : Nat → Int} {G : Nat} {M : bM} {Q : bQ} {x : Int32} (h : Led n K t a G M) (hn : n < 1000000) {k : Nat} (hk : k < K) (hx : x = iI (a k)) (K0 : Q (some (cI (iI (k : Int)))) M) : bCall 113 [cR 26 0, cI x] M Q := T_placeOf h (fun k' hk' e => by rw [h.uniq hn hk' hk (e.symm.trans hx)]; exact K0) (fun hno => absurd hx (hno k hk))
theorem T_placeOf_f {n K : Nat} {t : Nat → Nat} {a : Nat → Int} {G : Nat} {M : bM} {Q : bQ} {x : Int32} (h : Led n K t a G M) (hx : ¬ ∃ k, k < K ∧ x = iI (a k)) (K0 : Q (some (cI (-1 : Int32))) M) : bCall 113 [cR 26 0, cI x] M Q := T_placeOf h (fun k' hk' e => absurd ⟨k', hk', e⟩ hx) (fun _ => K0)
/-- how many of the first k certificates stand in places below i -/
def ct (t : Nat → Nat) (i : Nat) : Nat → Nat
  | 0 => 0
  | k + 1 => ct t i k + if t k < i then 1 else 0
theorem ct_0 {t : Nat → Nat} : ∀ k, ct t 0 k = 0
  | 0 => rfl
  | k + 1 => by
    unfold ct
    rw [ct_0 k, if_neg (by omega)]
theorem ct_all {t : Nat → Nat} {i : Nat} : ∀ k, (∀ k', k' < k → t k' < i) → ct t i k = k
  | 0, _ => rfl
  | k + 1, h => by
    unfold ct
    rw [ct_all k (fun k' hk => h k' (by omega)), if_pos (h k (by omega))]
theorem ct_no {t : Nat → Nat} {i : Nat} : ∀ k, (∀ k', k' < k → t k' ≠ i) → ct t (i + 1) k = ct t i k
  | 0, _ => rfl
  | k + 1, h => by
    unfold ct
    rw [ct_no k (fun k' hk => h k' (by omega))]
    have := h k (by omega)
    by_cases q : t k < i
    · rw [if_pos (by omega), if_pos q]
    · rw [if_neg (by omega), if_neg q]
theorem ct_yes {t : Nat → Nat} {i : Nat} : ∀ k, (∀ k' k'', k' < k'' → k'' < k → t k' ≠ t k'') → (∃ k', k' < k ∧ t k' = i) → ct t (i + 1) k = ct t i k + 1
  | 0, _, h => by obtain ⟨k', h1, _⟩ := h; omega
  | k + 1, hj, h => by
    unfold ct
    by_cases q : t k = i
    · rw [ct_no k (fun k' hk z => hj k' k hk (by omega) (z.trans q.symm)), if_pos (by omega), if_neg (by omega)]
    · obtain ⟨k', h1, h2⟩ := h
      have hk' : k' ≠ k := fun z => q (by rw [← z]; exact h2)
      rw [ct_yes k (fun a b h1 h2 => hj a b h1 (by omega)) ⟨k', by omega, h2⟩]
      by_cases q2 : t k < i
      · rw [if_pos (by omega), if_pos q2]
      · rw [if_neg (by omega), if_neg q2]
theorem S_size {n K : Nat} {t : Nat → Nat} {a : Nat → Int} {G : Nat} {M : bM} {Q : bQ} (h1 : K ≤ 8) (h6 : ∀ k, k < K → t k < 8 ∧ M 5 (t k) 1 = iI 1) (h7 : ∀ k k', k < k' → k' < K → t k ≠ t k') (h8 : ∀ i, i < 8 → (∀ k, k < K → t k ≠ i) → M 5 i 1 = iI 0) (K0 : Q (some (cI (iI (K : Int)))) M) : bCall 27 [cR 4 0] M Q := by
  have loop : ∀ (m i : Nat), i + m = 8 → ∀ (x1 x2 : Int32), x1 = iI (ct t i K : Int) → x2 = iI (i : Int) → bGo 27 Q 4 [some (cR 4 0), some (cI x1), some (cI x2)] [] M := by
    intro m
    induction m with
    | zero =>
      intro i hi x1 x2 e1 e2
      have : i = 8 := by omega
      subst this
      rw [ct_all K (fun k' hk => (h6 k' hk).1)] at e1
      refine g_X1_size_4 ⟨fun c => by rw [e1]; exact K0, fun c => ?_⟩
      have := nle_of c (iL 8) e2
      omega
    | succ m ih =>
      intro i hi x1 x2 e1 e2
      refine g_X1_size_4 ⟨fun c => ?_, fun c => ⟨vin e2, fun d => ?_, fun d => ?_⟩⟩
      · have := le_of c (iL 8) e2
        omega
      · rw [cl_of e2] at d
        refine ih (i + 1) (by omega) _ _ ?_ (inN e2)
        rw [ct_no K (fun k hk z => by have := (h6 k hk).2; rw [z, d] at this; exact absurd this (by decide)), l0, e1, iI_add]
        exact iIc (by omega)
      · rw [cl_of e2] at d
        refine ih (i + 1) (by omega) _ _ ?_ (inN e2)
        have hex : ∃ k, k < K ∧ t k = i := Classical.byContradiction fun q => d (h8 i (by omega) fun k hk z => q ⟨k, hk, z⟩)
        rw [ct_yes K h7 hex, e1, l1, iI_add]
        exact iIc (by omega)
  exact g_X1_size_0 (loop 8 0 rfl _ _ (by rw [ct_0]; exact l0) l0)
theorem S_lowerThan {n K : Nat} {t : Nat → Nat} {a : Nat → Int} {G : Nat} {M : bM} {Q : bQ} {x : Int32} (h : Led n K t a G M) (hn : n < 1000000) {k : Nat} (hk : k < K) (hx : x = iI (a k)) (K0 : Q (some (cI (iI (k : Int)))) M) : bCall 25 [cR 4 0, cI x] M Q := by
  have hL := h
  obtain ⟨h1, h2, h3, h4, h5, h6, h7, h8⟩ := h
  have hb := h6 k hk
  have loop : ∀ (m i : Nat), i + m = 8 → ∀ (x2 x3 : Int32), x2 = iI (ct t i k : Int) → x3 = iI (i : Int) → bGo 25 Q 4 [some (cR 4 0), some (cI x), some (cI x2), some (cI x3)] [] M := by
    intro m
    induction m with
    | zero =>
      intro i hi x2 x3 e2 e3
      have : i = 8 := by omega
      subst this
      rw [ct_all k (fun k' hk' => (h6 k' (by omega)).1)] at e2
      refine g_X1_lowerThan_4 ⟨fun c => by rw [e2]; exact K0, fun c => ?_⟩
      have := nle_of c (iL 8) e3
      omega
    | succ m ih =>
      intro i hi x2 x3 e2 e3
      refine g_X1_lowerThan_4 ⟨fun c => ?_, fun c => ⟨vin e3, fun d => ?_, fun d => ⟨vin e3, fun d2 => ?_, fun d2 => ?_⟩⟩⟩
      · have := le_of c (iL 8) e3
        omega
      · rw [cl_of e3] at d
        refine ih (i + 1) (by omega) _ _ ?_ (inN e3)
        rw [ct_no k (fun k' hk' z => by have := (h6 k' (by omega)).2.2.2.1.1; rw [z, d] at this; exact absurd this (by decide)), l0, e2, iI_add]
        exact iIc (by omega)
      · rw [cl_of e3] at d2
        refine ih (i + 1) (by omega) _ _ ?_ (inN e3)
        rw [ct_no k (fun k' hk' z => ?_), l0, e2, iI_add]
        · exact iIc (by omega)
        · have hb' := h6 k' (by omega)
          have := hb'.2.2.2.1.2.1
          rw [z] at this
          have hle := le_of d2 hx this
          have := (h7 k' k hk' hk).2
          omega
      · rw [cl_of e3] at d d2
        refine ih (i + 1) (by omega) _ _ ?_ (inN e3)
        have hex : ∃ k, k < K ∧ t k = i := Classical.byContradiction fun q => d (h8 i (by omega) fun k hk z => q ⟨k, hk, z⟩)
        obtain ⟨k', hk', z⟩ := hex
        have hb' := h6 k' hk'
        have hv := hb'.2.2.2.1.2.1
        rw [z] at hv
        have hlt := nle_of d2 hx hv
        have hkk : k' < k := by
          rcases Nat.lt_trichotomy k' k with q | q | q
          · exact q
          · subst q
            omega
          · have := (h7 k k' q hk').2
            omega
        rw [ct_yes k (fun a b z1 z2 => (h7 a b z1 (by omega)).1) ⟨k', hkk, z⟩, e2, l1, iI_add]
        exact iIc (by omega)
  exact g_X1_lowerThan_0 (loop 8 0 rfl _ _ (by rw [ct_0]; exact l0) l0)
theorem S_numberInTurn {n K : Nat} {t : Nat → Nat} {a : Nat → Int} {G : Nat} {M : bM} {Q : bQ} {x : Int32} (h : Led n K t a G M) (hn : n < 1000000) (Kt : ∀ k, k < K → x = iI (k : Int) → Q (some (cI (iI (a k)))) M) (Kf : (∀ k : Nat, k < K → x ≠ iI (k : Int)) → Q (some (cI (-3 : Int32))) M) : bCall 26 [cR 4 0, cI x] M Q := by
  have hL := h
  obtain ⟨h1, h2, h3, h4, h5, h6, h7, h8⟩ := h
  have loop : ∀ (m i : Nat), i + m = 8 → ∀ (x2 : Int32), x2 = iI (i : Int) → (∀ k : Nat, k < K → t k < i → x ≠ iI (k : Int)) → bGo 26 Q 2 [some (cR 4 0), some (cI x), some (cI x2)] [] M := by
    intro m
    induction m with
    | zero =>
      intro i hi x2 e hI
      refine g_X1_numberInTurn_2 ⟨fun c => Kf fun k hk => hI k hk (by have := h6 k hk; omega), fun c => ?_⟩
      have := nle_of c (iL 8) e
      omega
    | succ m ih =>
      intro i hi x2 e hI
      refine g_X1_numberInTurn_2 ⟨fun c => ?_, fun c => ⟨vin e, fun d => ?_, fun d => ⟨vin e, ?_⟩⟩⟩
      · have := le_of c (iL 8) e
        omega
      · rw [cl_of e] at d
        refine ih (i + 1) (by omega) _ (inN e) fun k hk hki => ?_
        by_cases hi : t k = i
        · have := (h6 k hk).2.2.2.1.1
          rw [hi, d] at this
          exact absurd this (by decide)
        · exact hI k hk (by omega)
      · rw [cl_of e] at d ⊢
        have hex : ∃ k, k < K ∧ t k = i := Classical.byContradiction fun q => d (h8 i (by omega) fun k hk z => q ⟨k, hk, z⟩)
        obtain ⟨k, hk, z⟩ := hex
        have hv := (h6 k hk).2.2.2.1.2.1
        rw [z] at hv
        refine S_lowerThan hL hn hk hv ⟨fun d2 => ?_, fun d2 => ⟨vin e, ?_⟩⟩
        · refine ih (i + 1) (by omega) _ (inN e) fun k' hk' hki => ?_
          by_cases hi : t k' = i
          · have := hL.inj hk' hk (hi.trans z.symm)
            subst this
            exact fun q => d2 q.symm
          · exact hI k' hk' (by omega)
        · rw [hv]
          exact Kt k hk (Decidable.of_not_not d2).symm
  exact g_X1_numberInTurn_0 (loop 8 0 rfl _ l0 fun k _ hk => absurd hk (Nat.not_lt_zero _))
