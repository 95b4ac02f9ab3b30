-- needs: 06 08 09 10 11 12 13 14 15 16 17 18 19 26 27 28 29 30 31 32 33 34 45 46
def up (d : Nat → Nat) (i : Nat) : Nat → Nat := fun i' => if i' = i then d i + 1 else d i'
def rai (i : Nat) (R : Nat → Nat → Nat → Int) : Nat → Nat → Nat → Int := fun i' => if i' = i then sh 1 (R i) else R i'
theorem S_raise {p : Int} {m : Nat} {s : Nat → Nat} {f : Nat → Nat → Int} {d : Nat → Nat} {R : Nat → Nat → Nat → Int} {M0 : bM} {Q : bQ} {i : Nat} {x1 : Int32} (h : BS p m s f d R M0) (hm : m ≤ 4) (hi : i < m) (e1 : x1 = iI (i : Int)) (K : ∀ M, Fr (fun g j _ => g = 8 ∨ g = 7 ∧ 29 ≤ j ∨ g = 9 ∧ j = 1) M0 M → BS p m s f (up d i) (rai i R) M → Q none M) : bCall 12 [cR 3 0, cI x1] M0 Q := by
  obtain ⟨b1, b2, b3, b4⟩ := h
  have c0 : (0 : Int32).toNatClampNeg = 0 := rfl
  have c1 : (1 : Int32).toNatClampNeg = 1 := rfl
  have c31 : (31 : Int32).toNatClampNeg = 31 := rfl
  have c41 : (41 : Int32).toNatClampNeg = 41 := rfl
  have loop : ∀ (n j1 : Nat), j1 + n = m → ∀ (M : bM) (x2 : Int32), x2 = iI (j1 : Int) → Fr (fun g j' _ => g = 8 ∧ j' = i) M0 M → (∀ j', j' < j1 → ∀ k, k < 42 → M 8 i (42 * j' + k) = iI (sh 1 (R i) j' k)) → (∀ j', j1 ≤ j' → ∀ k, k < 42 → M 8 i (42 * j' + k) = M0 8 i (42 * j' + k)) → bGo 12 Q 2 [some (cR 3 0), some (cI x1), some (cI x2)] [] M := by
    intro n
    induction n with
    | zero =>
      intro j1 hj1 M x2 e2 hF hR hR'
      have hF' : ∀ g j' i', ¬ (g = 8 ∧ j' = i) → M g j' i' = M0 g j' i' := hF
      have hjm : j1 = m := by omega
      subst hjm
      refine g_X0_raise_2 ⟨fun _ => ⟨vin e1, vin e1, ⟨by decide, by decide, by decide, by decide, by decide⟩, vin e1, vin l0, vin e1, vin e1, ?_⟩, fun q => ?_⟩
      · rw [cl_of e1, c0]
        have hfr : ∀ g j i', ¬ (g = 7 ∧ j = 29 + i) → (bU (bCp M 7 (29 + i) 7 (29 + i) 0 1 31) 7 (29 + i) 0 (0 : Int32)) g j i' = M g j i' := fun g j i' hn => by
          rw [bU_ne (by omega), bCp_o (by intro z; cases z; exact hn ⟨rfl, rfl⟩)]
        refine K _ ?_ ⟨?_, fun i' hi' => ⟨?_, ?_⟩, fun i' hi' j' hj' k hk => ?_, fun i' hi' k hk => ?_⟩
        · intro g j i' hn
          rw [bU_ne (by omega), hfr _ _ _ (by omega), hF' _ _ _ (by omega)]
        · rw [bU_ne (by omega), hfr _ _ _ (by omega), hF' _ _ _ (by omega)]
          exact b1
        · unfold up
          by_cases hii : i' = i
          · subst hii
            rw [if_pos rfl, bU_at, hfr _ _ _ (by omega), hF' _ _ _ (by omega), (b2 i' hi').1]
            exact inN rfl
          · rw [if_neg hii, bU_ne (by omega), hfr _ _ _ (by omega), hF' _ _ _ (by omega)]
            exact (b2 i' hi').1
        · rw [bU_ne (by omega), hfr _ _ _ (by omega), hF' _ _ _ (by omega)]
          exact (b2 i' hi').2
        · rw [bU_ne (by omega), hfr _ _ _ (by omega)]
          unfold rai
          by_cases hii : i' = i
          · subst hii
            rw [if_pos rfl]
            exact hR j' hj' k hk
          · rw [if_neg hii, hF' _ _ _ (by omega)]
            exact b3 i' hi' j' hj' k hk
        · rw [bU_ne (by omega)]
          unfold rai
          by_cases hii : i' = i
          · subst hii
            rw [if_pos rfl]
            cases k with
            | zero =>
              rw [bU_at, rs_sh0 (by omega), Int.zero_emod]
              exact l0
            | succ k =>
              rw [bU_ne (by omega), bCp_r, c0, c1, c31, rs_sh]
              unfold va_cpy
              rw [if_pos (by omega), show 0 + (k + 1 - 1) = k by omega, hF' _ _ _ (by omega)]
              exact b4 i' hi' k (by omega)
          · rw [if_neg hii, hfr _ _ _ (by omega), hF' _ _ _ (by omega)]
            exact b4 i' hi' k hk
      · rw [hF' _ _ _ (by omega)] at q
        have := nle_of q b1 e2
        omega
    | succ n ih =>
      intro j1 hj1 M x2 e2 hF hR hR'
      have hF' : ∀ g j' i', ¬ (g = 8 ∧ j' = i) → M g j' i' = M0 g j' i' := hF
      have p0 : x2 * (42 : Int32) = iI ((42 * j1 : Nat) : Int) := by
        rw [e2, iL 42, iI_mul]
        exact iIc (by omega)
      have p1 := inN p0
      refine g_X0_raise_2 ⟨fun q => ?_, fun _ => ⟨vin e1, vin e1, ⟨fun q => ?_, fun q => ?_, by decide, ?_, ?_⟩, vin e1, vin p0, ?_⟩⟩
      · rw [hF' _ _ _ (by omega)] at q
        have := le_of q b1 e2
        omega
      · have := lt_of q p0 l0
        omega
      · have := lt_of q p1 l0
        omega
      · rw [cl_of p0, c41]
        omega
      · rw [cl_of p1, c41]
        omega
      · rw [cl_of e1, cl_of p0]
        have hcp : ∀ t, (bCp M 8 i 8 i (x2 * 42) (x2 * 42 + 1) 41) 8 i t = if 42 * j1 + 1 ≤ t ∧ t < 42 * j1 + 1 + 41 then M 8 i (42 * j1 + (t - (42 * j1 + 1))) else M 8 i t := fun t => by
          rw [bCp_r, cl_of p0, cl_of p1, c41]
          rfl
        refine ih (j1 + 1) (by omega) _ _ (inN e2) ((hF.trans (bCp_fr.trans bU_fr)).mono ?_) (fun j' hj' k hk => ?_) fun j' hj' k hk => ?_
        · intro g j' i' hz
          simp only [oL] at hz
          omega
        · by_cases hjj : j' = j1
          · subst hjj
            cases k with
            | zero =>
              rw [Nat.add_zero, bU_at]
              exact l0
            | succ k =>
              rw [bU_ne (by omega), hcp, if_pos (by omega), show 42 * j' + (42 * j' + (k + 1) - (42 * j' + 1)) = 42 * j' + k by omega, hR' j' (Nat.le_refl _) k (by omega), b3 i hi j' (by omega) k (by omega)]
              rfl
          · rw [bU_ne (by omega), hcp, if_neg (by omega)]
            exact hR j' (by omega) k hk
        · rw [bU_ne (by omega), hcp, if_neg (by omega)]
          exact hR' j' (by omega) k hk
  exact g_X0_raise_0 (loop m 0 (by omega) M0 _ l0 (Fr.refl.mono fun _ _ _ z => z.elim) (fun j' hj' => absurd hj' (Nat.not_lt_zero _)) fun _ _ _ _ => rfl)
/-- all degrees together -/
def ds (d : Nat → Nat) : Nat → Nat
  | 0 => 0
  | n + 1 => ds d n + d n
theorem ds_le {d : Nat → Nat} {i : Nat} : ∀ {n : Nat}, i < n → d i ≤ ds d n
  | 0, h => absurd h (Nat.not_lt_zero _)
  | n + 1, h => by
    unfold ds
    by_cases q : i = n
    · subst q
      omega
    · have := ds_le (d := d) (i := i) (n := n) (by omega)
      omega
theorem ds_up0 {d : Nat → Nat} {i : Nat} : ∀ {n : Nat}, n ≤ i → ds (up d i) n = ds d n
  | 0, _ => rfl
  | n + 1, h => by
    unfold ds
    rw [ds_up0 (n := n) (by omega)]
    unfold up
    rw [if_neg (by omega)]
theorem ds_up {d : Nat → Nat} {i : Nat} : ∀ {n : Nat}, i < n → ds (up d i) n = ds d n + 1
  | 0, h => absurd h (Nat.not_lt_zero _)
  | n + 1, h => by
    unfold ds
    by_cases q : i = n
    · subst q
      rw [ds_up0 (Nat.le_refl _)]
      unfold up
      rw [if_pos rfl]
      omega
    · rw [ds_up (n := n) (by omega)]
      unfold up
      rw [if_neg (by omega)]
      omega
/-- what holds when terms below o are cleared -/
def Inv (p : Int) (m o : Nat) (s : Nat → Nat) (f : Nat → Nat → Int) (d : Nat → Nat) (R : Nat → Nat → Nat → Int) : Prop :=
  (∀ i, i < m → ∀ j, j < m → ∀ k, 0 ≤ R i j k ∧ R i j k < p) ∧ Ld p m s d R ∧ (∀ i, i < m → Rl p m o f (R i)) ∧ Mn p m o f d ∧ ds d m ≤ o
theorem Mn.up1 {p : Int} {m o : Nat} {f : Nat → Nat → Int} {d : Nat → Nat} (h : Mn p m o f d) : Mn p m (o + 1) f d := fun q hq hs => h q (fun n hn => hq n (by omega)) hs
theorem Inv.skip {p : Int} {m o : Nat} {s : Nat → Nat} {f : Nat → Nat → Int} {d : Nat → Nat} {R : Nat → Nat → Nat → Int} (h : Inv p m o s f d R) (hE : ∀ i, i < m → p ∣ rs m f (R i) o) : Inv p m (o + 1) s f d R := by
  obtain ⟨h1, h2, h3, h4, h5⟩ := h
  refine ⟨h1, h2, fun i hi n hn => ?_, h4.up1, by omega⟩
  by_cases q : n = o
  · subst q
    exact hE i hi
  · exact h3 i hi n (by omega)
/-- taking a multiple of a lower row from row i -/
theorem Ld_sub1 {p c : Int} {m : Nat} {s d : Nat → Nat} {R : Nat → Nat → Nat → Int} {i j u : Nat} (hp : 2 ≤ p) (h : Ld p m s d R) (hi : i < m) (hj : j < m) (hlt : rk s j (d j + u) < rk s i (d i)) : Ld p m s d (sub1 p i c j u R) := by
  have hz : ∀ j', j' < m → ∀ k, rk s j (d j + u) < rk s j' k → sh u (R j) j' k = 0 := by
    intro j' hj' k hk
    unfold sh
    split
    · refine h.2 j hj j' hj' _ ?_
      unfold rk at *
      omega
    · rfl
  refine ⟨fun i' hi' => ?_, fun i' hi' j' hj' k hk => ?_⟩
  · unfold sub1
    by_cases hii : i' = i
    · subst hii
      rw [if_pos rfl, h.1 i' hi', hz i' hi' (d i') hlt, Int.mul_zero, Int.sub_zero]
      exact Int.emod_eq_of_lt (by omega) (by omega)
    · rw [if_neg hii]
      exact h.1 i' hi'
  · unfold sub1
    by_cases hii : i' = i
    · subst hii
      rw [if_pos rfl, h.2 i' hi' j' hj' k hk, hz j' hj' k (by omega), Int.mul_zero, Int.sub_zero, Int.zero_emod]
    · rw [if_neg hii]
      exact h.2 i' hi' j' hj' k hk
theorem sub1_ne {p c : Int} {R : Nat → Nat → Nat → Int} {i j u i' : Nat} (h : i' ≠ i) : sub1 p i c j u R i' = R i' := by
  funext j' k
  unfold sub1
  rw [if_neg h]
theorem sub1_bd {p c : Int} {m : Nat} {R : Nat → Nat → Nat → Int} {i j u : Nat} (hp : 2 ≤ p) (h : ∀ i, i < m → ∀ j, j < m → ∀ k, 0 ≤ R i j k ∧ R i j k < p) : ∀ i', i' < m → ∀ j', j' < m → ∀ k, 0 ≤ sub1 p i c j u R i' j' k ∧ sub1 p i c j u R i' j' k < p := by
  intro i' hi' j' hj' k
  unfold sub1
  split
  · exact ⟨Int.emod_nonneg _ (by omega), Int.emod_lt_of_pos _ (by omega)⟩
  · exact h i' hi' j' hj' k
theorem sub1_Rl {p c : Int} {m o : Nat} {f : Nat → Nat → Int} {R : Nat → Nat → Nat → Int} {i j u : Nat} (hi : Rl p m o f (R i)) (hj : Rl p m o f (R j)) : Rl p m o f (sub1 p i c j u R i) := by
  refine Rl.like (r := fun j' k => R i j' k - c * sh u (R j) j' k) (fun j' hj' k => ?_) (hi.sub hj.sh)
  unfold sub1
  rw [if_pos rfl]
  exact emod_like _
theorem sh0 {r : Nat → Nat → Int} : sh 0 r = r := by
  funext j k
  unfold sh
  rw [if_pos (Nat.zero_le _), Nat.sub_zero]
/-- the rows are cleared but for l, which is raised -/
theorem Inv.step {p : Int} {m o : Nat} {s : Nat → Nat} {f : Nat → Nat → Int} {d : Nat → Nat} {R : Nat → Nat → Nat → Int} {l : Nat} (hp : 2 ≤ p) (hp' : p ≤ 997) (hP : isP p) (hm : m ≤ 4) (hl : l < m) (h1 : ∀ i, i < m → ∀ j, j < m → ∀ k, 0 ≤ R i j k ∧ R i j k < p) (h2 : Ld p m s d R) (h3 : ∀ i, i < m → Rl p m o f (R i)) (h4 : Mn p m o f d) (h5 : ds d m ≤ o) (hE : ∀ i, i < m → i ≠ l → p ∣ rs m f (R i) o) (hl0 : ¬ p ∣ rs m f (R l) o) : Inv p m (o + 1) s f (up d l) (rai l R) := by
  refine ⟨fun i hi j hj k => ?_, ⟨fun i hi => ?_, fun i hi j hj k hk => ?_⟩, fun i hi n hn => ?_, fun q hq hs => ?_, by rw [ds_up hl]; omega⟩
  · unfold rai
    by_cases hil : i = l
    · rw [if_pos hil]
      unfold sh
      split
      · exact h1 l hl j hj _
      · omega
    · rw [if_neg hil]
      exact h1 i hi j hj k
  · unfold rai up
    by_cases hil : i = l
    · subst hil
      rw [if_pos rfl, if_pos rfl]
      unfold sh
      rw [if_pos (by omega), show d i + 1 - 1 = d i by omega]
      exact h2.1 i hi
    · rw [if_neg hil, if_neg hil]
      exact h2.1 i hi
  · unfold rai
    unfold up rk at hk
    by_cases hil : i = l
    · subst hil
      rw [if_pos rfl] at hk ⊢
      unfold sh
      split
      · refine h2.2 i hi j hj _ ?_
        unfold rk
        omega
      · rfl
    · rw [if_neg hil] at hk ⊢
      exact h2.2 i hi j hj k hk
  · unfold rai
    by_cases hil : i = l
    · rw [if_pos hil]
      cases n with
      | zero =>
        rw [rs_sh0 (by omega)]
        exact Int.dvd_zero p
      | succ n =>
        rw [rs_sh]
        exact h3 l hl n (by omega)
    · rw [if_neg hil]
      by_cases hno : n = o
      · subst hno
        exact hE i hi hil
      · exact h3 i hi n (by omega)
  · -- no relation stands below the raised rows
    have hqo : Rl p m o f q := fun n hn => hq n (by omega)
    have key := red (p := p) hm h2 (P := fun q' => Rl p m o f q' ∧ p ∣ rs m f q' o + q l (d l) * rs m f (R l) o) (N0 := rk s l (d l)) (fun q' j t c hq' hj hN => ⟨hq'.1.sub ((h3 j hj).sh), by
      have h6 : p ∣ rs m f (sh t (R j)) o := by
        cases t with
        | zero =>
          rw [sh0]
          refine hE j hj fun z => ?_
          subst z
          simp at hN
        | succ t =>
          by_cases ho : o < t + 1
          · rw [rs_sh0 ho]
            exact Int.dvd_zero p
          · have e : o = o - (t + 1) + (t + 1) := by omega
            rw [e, rs_sh]
            exact h3 j hj _ (by omega)
      rw [rs_sub]
      have h7 := Int.dvd_sub hq'.2 (Int.dvd_mul_of_dvd_right h6 (b := c))
      rwa [show rs m f q' o + q l (d l) * rs m f (R l) o - c * rs m f (sh t (R j)) o = rs m f q' o - c * rs m f (sh t (R j)) o + q l (d l) * rs m f (R l) o by omega] at h7⟩) (rk s l (d l)) (Nat.le_refl _) (fun j k => q j k - q l (d l) * sh 0 (R l) j k) ⟨hqo.sub ((h3 l hl).sh), by
        rw [rs_sub, sh0, Int.sub_add_cancel]
        exact hq o (by omega)⟩ (fun j hj k hr hk => by
        show p ∣ q j k - q l (d l) * sh 0 (R l) j k
        rw [sh0]
        by_cases he : rk s j k = rk s l (d l)
        · obtain ⟨rfl, rfl⟩ := rk_inj (by omega) (by omega) he
          rw [h2.1 j hj, Int.mul_one, Int.sub_self]
          exact Int.dvd_zero p
        · rw [h2.2 l hl j hj k (by omega), Int.mul_zero, Int.sub_zero]
          refine hs j hj k ?_
          unfold up
          by_cases hjl : j = l
          · subst hjl
            rw [if_pos rfl]
            unfold rk at he hr
            omega
          · rw [if_neg hjl]
            exact hk)
    obtain ⟨q', ⟨c1, c2⟩, c3⟩ := key
    have c4 := h4 q' c1 c3
    have c5 : p ∣ rs m f q' o := by
      have h6 := rs_like (p := p) (m := m) (f := f) (q := q') (r := fun _ _ => 0) (n := o) (fun j hj k _ => by
        show p ∣ q' j k - 0
        rw [Int.sub_zero]
        exact c4 j hj k)
      have h7 : rs m f (fun _ _ => 0) o = 0 := by
        unfold rs
        refine sm_0 fun j hj => ?_
        unfold cv
        exact sm_0 fun i hi => Int.zero_mul _
      rwa [h7, Int.sub_zero] at h6
    have c6 : p ∣ q l (d l) * rs m f (R l) o := by
      have := Int.dvd_sub c2 c5
      rwa [show rs m f q' o + q l (d l) * rs m f (R l) o - rs m f q' o = q l (d l) * rs m f (R l) o by omega] at this
    have c7 : p ∣ q l (d l) := by
      have hb1 := Int.emod_nonneg (rs m f (R l) o) (by omega : p ≠ 0)
      have hb2 := Int.emod_lt_of_pos (rs m f (R l) o) (by omega : 0 < p)
      have hb3 : rs m f (R l) o % p ≠ 0 := fun z => hl0 (Int.dvd_of_emod_eq_zero z)
      refine cancel hp hp' hP (e := rs m f (R l) o % p) (by omega) hb2 ?_
      have h8 := Int.dvd_mul_of_dvd_right (b := q l (d l)) (emod_like (p := p) (rs m f (R l) o))
      have h9 := Int.dvd_add h8 c6
      rwa [Int.mul_sub, Int.sub_add_cancel] at h9
    refine h4 q hqo fun j hj k hk => ?_
    by_cases hjk : j = l ∧ k = d l
    · rw [hjk.1, hjk.2]
      exact c7
    · refine hs j hj k ?_
      unfold up
      by_cases hjl : j = l
      · subst hjl
        rw [if_pos rfl]
        omega
      · rw [if_neg hjl]
        exact hk
