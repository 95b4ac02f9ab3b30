-- needs: 06 08 09 10 26 27 28 29 30 31 32 33 34 41 45 46
/-! THE POWERS AHEAD: mathematics of the model's way to the basis -/
/-- term i of x^k times series j -/
def vec (f : Nat → Nat → Int) (j k i : Nat) : Int := if i < k then 0 else f j (i - k)
/-- a combination of the first A powers ahead -/
def cmb (f : Nat → Nat → Int) (ja ka : Nat → Nat) (A : Nat) (c : Nat → Int) (i : Nat) : Int := sm (fun b => c b * vec f (ja b) (ka b) i) A
def AH (p : Int) (m o : Nat) (f : Nat → Nat → Int) (ja ka hd : Nat → Nat) (lf pa : Nat → Nat → Int) (A : Nat) : Prop :=
  (∀ a, a < A → ja a < m ∧ ka a < o ∧ hd a < o) ∧ (∀ a, a < A → ∀ i, i < o → 0 ≤ lf a i ∧ lf a i < p) ∧ (∀ a, a < A → ∀ b, 0 ≤ pa a b ∧ pa a b < p) ∧
  (∀ a, a < A → ∀ i, i < o → p ∣ lf a i - cmb f ja ka (a + 1) (pa a) i) ∧ (∀ a, a < A → lf a (hd a) = 1) ∧ (∀ a b, b < a → a < A → lf a (hd b) = 0) ∧ (∀ a, a < A → pa a a ≠ 0) ∧ ∀ a b, a < A → a < b → pa a b = 0
theorem cmb_sub {f : Nat → Nat → Int} {ja ka : Nat → Nat} {A : Nat} {c e : Nat → Int} {t : Int} {i : Nat} : cmb f ja ka A (fun b => c b - t * e b) i = cmb f ja ka A c i - t * cmb f ja ka A e i := by
  unfold cmb
  rw [← sm_sub]
  refine sm_congr fun b hb => ?_
  rw [Int.sub_mul, Int.mul_assoc]
theorem cmb_like {p : Int} {f : Nat → Nat → Int} {ja ka : Nat → Nat} {A : Nat} {c e : Nat → Int} {i : Nat} (h : ∀ b, b < A → p ∣ c b - e b) : p ∣ cmb f ja ka A c i - cmb f ja ka A e i := by
  have e1 : cmb f ja ka A c i - cmb f ja ka A e i = cmb f ja ka A (fun b => c b - 1 * e b) i := by rw [cmb_sub]; omega
  rw [e1]
  unfold cmb
  refine sm_dvd fun b hb => ?_
  show p ∣ (c b - 1 * e b) * _
  rw [Int.one_mul]
  exact Int.dvd_mul_of_dvd_left (h b hb)
theorem cmb_ext {f : Nat → Nat → Int} {ja ka : Nat → Nat} {c : Nat → Int} {i : Nat} {A : Nat} : ∀ {B : Nat}, A ≤ B → (∀ b, A ≤ b → b < B → c b = 0) → cmb f ja ka B c i = cmb f ja ka A c i
  | 0, h, _ => by rw [show A = 0 by omega]
  | B + 1, h, hz => by
    by_cases q : A = B + 1
    · rw [q]
    · show cmb f ja ka B c i + c B * vec f (ja B) (ka B) i = _
      rw [cmb_ext (B := B) (by omega) (fun b h1 h2 => hz b h1 (by omega)), hz B (by omega) (by omega), Int.zero_mul, Int.add_zero]
/-- an inverse of a number of the field -/
theorem inv_of {p v : Int} (hp : 2 ≤ p) (hp' : p ≤ 997) (hP : isP p) (h0 : 0 ≤ v) (h1 : v < p) (hz : v ≠ 0) : p ∣ ivN p v * v - 1 := by
  have := ivN_mul hp hp' hP (v := v) (by omega) h1
  exact Int.dvd_of_emod_eq_zero (by rw [Int.sub_emod, this, Int.emod_eq_of_lt (show (0:Int) ≤ 1 by omega) (by omega)]; simp)
/-- power A is what stands in left A, less those ahead of it -/
theorem AH.split {p : Int} {m o : Nat} {f : Nat → Nat → Int} {ja ka hd : Nat → Nat} {lf pa : Nat → Nat → Int} {A : Nat} (h : AH p m o f ja ka hd lf pa A) (hp : 2 ≤ p) (hp' : p ≤ 997) (hP : isP p) {a : Nat} (ha : a < A) (c : Nat → Int) {i : Nat} (hi : i < o) : p ∣ cmb f ja ka (a + 1) c i - (cmb f ja ka a (fun b => c b - c a * ivN p (pa a a) * pa a b) i + c a * ivN p (pa a a) * lf a i) := by
  obtain ⟨h1, h2, h3, h4, h5, h6, h7, h8⟩ := h
  have g1 := inv_of hp hp' hP (h3 a ha a).1 (h3 a ha a).2 (h7 a ha)
  have g2 := h4 a ha i hi
  rw [cmb_sub]
  have e1 : cmb f ja ka (a + 1) c i = cmb f ja ka a c i + c a * vec f (ja a) (ka a) i := rfl
  have e2 : cmb f ja ka (a + 1) (pa a) i = cmb f ja ka a (pa a) i + pa a a * vec f (ja a) (ka a) i := rfl
  rw [e2] at g2
  rw [e1]
  generalize ivN p (pa a a) = u at *
  generalize vec f (ja a) (ka a) i = w at *
  generalize cmb f ja ka a (pa a) i = y at *
  generalize cmb f ja ka a c i = x at *
  have g3 := Int.dvd_mul_of_dvd_right (b := c a * w) g1
  have g4 := Int.dvd_mul_of_dvd_right (b := c a * u) g2
  have g5 := Int.dvd_neg.mpr (Int.dvd_add g3 g4)
  have e3 : -(c a * w * (u * pa a a - 1) + c a * u * (lf a i - (y + pa a a * w))) = x + c a * w - (x - c a * u * y + c a * u * lf a i) := by
    have e4 : c a * u * (pa a a * w) = c a * w * (u * pa a a) := by
      simp only [Int.mul_assoc, Int.mul_comm, Int.mul_left_comm]
    simp only [Int.mul_sub, Int.mul_add, Int.mul_one]
    rw [e4]
    omega
  rwa [e3] at g5
theorem AH.span {p : Int} {m o : Nat} {f : Nat → Nat → Int} {ja ka hd : Nat → Nat} {lf pa : Nat → Nat → Int} {A : Nat} (h : AH p m o f ja ka hd lf pa A) (hp : 2 ≤ p) (hp' : p ≤ 997) (hP : isP p) : ∀ a, a ≤ A → ∀ c : Nat → Int, (∀ b, b < a → p ∣ cmb f ja ka a c (hd b)) → ∀ i, i < o → p ∣ cmb f ja ka a c i := by
  have h' := h
  obtain ⟨h1, h2, h3, h4, h5, h6, h7, h8⟩ := h'
  intro a
  induction a with
  | zero => exact fun _ c _ i _ => Int.dvd_zero p
  | succ a ih =>
    intro ha c hc
    have hpre : ∀ i, i < o → p ∣ cmb f ja ka a (fun b => c b - c a * ivN p (pa a a) * pa a b) i := by
      refine ih (by omega) _ fun b hb => ?_
      have g1 := h.split hp hp' hP (show a < A by omega) c (h1 b (by omega)).2.2
      rw [h6 a b hb (by omega), Int.mul_zero, Int.add_zero] at g1
      have g2 := Int.dvd_sub (hc b (by omega)) g1
      rwa [Int.sub_sub_self] at g2
    have hlast : p ∣ c a * ivN p (pa a a) := by
      have g1 := h.split hp hp' hP (show a < A by omega) c (h1 a (by omega)).2.2
      rw [h5 a (by omega), Int.mul_one] at g1
      have g2 := Int.dvd_sub (hc a (by omega)) g1
      rw [Int.sub_sub_self] at g2
      have g3 := Int.dvd_sub g2 (hpre (hd a) (h1 a (by omega)).2.2)
      rwa [show ∀ x y : Int, x + y - x = y from fun x y => by omega] at g3
    intro i hi
    have g1 := h.split hp hp' hP (show a < A by omega) c hi
    have g2 := Int.dvd_add (hpre i hi) (Int.dvd_mul_of_dvd_left (c := lf a i) hlast)
    have g3 := Int.dvd_add g1 g2
    rwa [Int.sub_add_cancel] at g3
theorem AH.indep {p : Int} {m o : Nat} {f : Nat → Nat → Int} {ja ka hd : Nat → Nat} {lf pa : Nat → Nat → Int} {A : Nat} (h : AH p m o f ja ka hd lf pa A) (hp : 2 ≤ p) (hp' : p ≤ 997) (hP : isP p) : ∀ a, a ≤ A → ∀ c : Nat → Int, (∀ i, i < o → p ∣ cmb f ja ka a c i) → ∀ b, b < a → p ∣ c b := by
  have h' := h
  obtain ⟨h1, h2, h3, h4, h5, h6, h7, h8⟩ := h'
  intro a
  induction a with
  | zero => exact fun _ c _ b hb => absurd hb (Nat.not_lt_zero _)
  | succ a ih =>
    intro ha c hc
    have hpre : ∀ i, i < o → p ∣ cmb f ja ka a (fun b => c b - c a * ivN p (pa a a) * pa a b) i := by
      refine h.span hp hp' hP a (by omega) _ fun b hb => ?_
      have g1 := h.split hp hp' hP (show a < A by omega) c (h1 b (by omega)).2.2
      rw [h6 a b hb (by omega), Int.mul_zero, Int.add_zero] at g1
      have g2 := Int.dvd_sub (hc (hd b) (h1 b (by omega)).2.2) g1
      rwa [Int.sub_sub_self] at g2
    have hlast : p ∣ c a * ivN p (pa a a) := by
      have g1 := h.split hp hp' hP (show a < A by omega) c (h1 a (by omega)).2.2
      rw [h5 a (by omega), Int.mul_one] at g1
      have g2 := Int.dvd_sub (hc (hd a) (h1 a (by omega)).2.2) g1
      rw [Int.sub_sub_self] at g2
      have g3 := Int.dvd_sub g2 (hpre (hd a) (h1 a (by omega)).2.2)
      rwa [show ∀ x y : Int, x + y - x = y from fun x y => by omega] at g3
    have hca : p ∣ c a := by
      have g1 := inv_of hp hp' hP (h3 a (by omega) a).1 (h3 a (by omega) a).2 (h7 a (by omega))
      have g2 := Int.dvd_mul_of_dvd_left (c := pa a a) hlast
      have g3 := Int.dvd_sub g2 (Int.dvd_mul_of_dvd_right (b := c a) g1)
      rwa [Int.mul_sub, Int.mul_one, Int.mul_assoc, Int.sub_sub_self] at g3
    have hrest := ih (by omega) _ hpre
    intro b hb
    by_cases q : b = a
    · rw [q]
      exact hca
    · have g1 := hrest b (by omega)
      have g2 := Int.dvd_mul_of_dvd_left (c := pa a b) hlast
      have g3 := Int.dvd_add g1 g2
      rwa [Int.sub_add_cancel] at g3
/-- different places below n are at most n -/
theorem ct_le {t : Nat → Nat} {k : Nat} (hj : ∀ k' k'', k' < k'' → k'' < k → t k' ≠ t k'') : ∀ i, ct t i k ≤ i
  | 0 => by rw [ct_0]; exact Nat.le_refl 0
  | i + 1 => by
    by_cases q : ∃ k', k' < k ∧ t k' = i
    · rw [ct_yes k hj q]
      have := ct_le hj i
      omega
    · rw [ct_no k (fun k' hk z => q ⟨k', hk, z⟩)]
      have := ct_le hj i
      omega
theorem pigeon {t : Nat → Nat} {k n : Nat} (hj : ∀ k' k'', k' < k'' → k'' < k → t k' ≠ t k'') (hn : ∀ k', k' < k → t k' < n) : k ≤ n := by
  have := ct_le hj n
  rwa [ct_all k hn] at this
theorem AH.heads {p : Int} {m o : Nat} {f : Nat → Nat → Int} {ja ka hd : Nat → Nat} {lf pa : Nat → Nat → Int} {A : Nat} (h : AH p m o f ja ka hd lf pa A) : ∀ b a, b < a → a < A → hd b ≠ hd a := fun b a hb ha z => by
  have h1 := h.2.2.2.2.2.1 a b hb ha
  have h2 := h.2.2.2.2.1 a ha
  rw [z, h2] at h1
  omega
theorem AH.few {p : Int} {m o : Nat} {f : Nat → Nat → Int} {ja ka hd : Nat → Nat} {lf pa : Nat → Nat → Int} {A : Nat} (h : AH p m o f ja ka hd lf pa A) : A ≤ o := pigeon (t := hd) (fun b a hb ha => h.heads b a hb ha) fun a ha => (h.1 a ha).2.2
/-- one more -/
theorem AH.more {p : Int} {m o : Nat} {f : Nat → Nat → Int} {ja ka hd : Nat → Nat} {lf pa : Nat → Nat → Int} {A : Nat} (h : AH p m o f ja ka hd lf pa A) (hp : 2 ≤ p) (hp' : p ≤ 997) (hP : isP p) {j k t : Nat} {nw no : Nat → Int} (hj : j < m) (ht : t < o) (hnw : ∀ i, i < o → 0 ≤ nw i ∧ nw i < p) (hno : ∀ b, 0 ≤ no b ∧ no b < p) (hz : ∀ b, A ≤ b → no b = 0) (hr : ∀ i, i < o → p ∣ nw i - (vec f j k i + cmb f ja ka A no i)) (hh : ∀ a, a < A → nw (hd a) = 0) (hne : nw t ≠ 0) :
    AH p m o f (fun a => if a = A then j else ja a) (fun a => if a = A then k else ka a) (fun a => if a = A then t else hd a) (fun a i => if a = A then nw i * ivN p (nw t) % p else lf a i) (fun a b => if a = A then (if b = A then ivN p (nw t) else no b * ivN p (nw t) % p) else pa a b) (A + 1) ∧ A < o ∧ k < o := by
  have h' := h
  obtain ⟨h1, h2, h3, h4, h5, h6, h7, h8⟩ := h'
  have hiv := inv_of hp hp' hP (hnw t ht).1 (hnw t ht).2 hne
  have hivb := ivN_bd (p := p) (v := nw t) hp
  have hko : k < o := by
    refine Nat.not_le.mp fun hko => hne ?_
    have hv : ∀ i, i < o → vec f j k i = 0 := fun i hi => by unfold vec; rw [if_pos (by omega)]
    have hs := h.span hp hp' hP A (Nat.le_refl _) no (fun b hb => by
      have g := hr (hd b) (h1 b hb).2.2
      rw [hh b hb, hv _ (h1 b hb).2.2, Int.zero_add] at g
      have := Int.dvd_neg.mpr g
      rwa [Int.neg_sub, Int.sub_zero] at this) t ht
    have g := hr t ht
    rw [hv t ht, Int.zero_add] at g
    have g2 := Int.dvd_add g hs
    rw [Int.sub_add_cancel] at g2
    have h0 := hnw t ht
    refine Classical.byContradiction fun q => ?_
    have := Int.le_of_dvd (by omega) g2
    omega
  have hcm : ∀ a, a < A → ∀ c i, cmb f (fun a => if a = A then j else ja a) (fun a => if a = A then k else ka a) (a + 1) c i = cmb f ja ka (a + 1) c i := fun a ha c i => by
    unfold cmb
    refine sm_congr fun b hb => ?_
    show c b * vec f (if b = A then j else ja b) (if b = A then k else ka b) i = _
    rw [if_neg (by omega), if_neg (by omega)]
  have hcA : ∀ c i, cmb f (fun a => if a = A then j else ja a) (fun a => if a = A then k else ka a) (A + 1) c i = cmb f ja ka A c i + c A * vec f j k i := fun c i => by
    unfold cmb
    show sm _ A + c A * vec f (if A = A then j else ja A) (if A = A then k else ka A) i = _
    rw [if_pos rfl, if_pos rfl]
    congr 1
    refine sm_congr fun b hb => ?_
    show c b * vec f (if b = A then j else ja b) (if b = A then k else ka b) i = _
    rw [if_neg (by omega), if_neg (by omega)]
  have hAH : AH p m o f (fun a => if a = A then j else ja a) (fun a => if a = A then k else ka a) (fun a => if a = A then t else hd a) (fun a i => if a = A then nw i * ivN p (nw t) % p else lf a i) (fun a b => if a = A then (if b = A then ivN p (nw t) else no b * ivN p (nw t) % p) else pa a b) (A + 1) := by
    refine ⟨fun a ha => ?_, fun a ha i hi => ?_, fun a ha b => ?_, fun a ha i hi => ?_, fun a ha => ?_, fun a b hb ha => ?_, fun a ha => ?_, fun a b ha hb => ?_⟩
    · by_cases q : a = A
      · simp only [if_pos q]
        exact ⟨hj, hko, ht⟩
      · simp only [if_neg q]
        exact h1 a (by omega)
    · by_cases q : a = A
      · simp only [if_pos q]
        exact ⟨Int.emod_nonneg _ (by omega), Int.emod_lt_of_pos _ (by omega)⟩
      · simp only [if_neg q]
        exact h2 a (by omega) i hi
    · by_cases q : a = A
      · simp only [if_pos q]
        split
        · exact hivb
        · exact ⟨Int.emod_nonneg _ (by omega), Int.emod_lt_of_pos _ (by omega)⟩
      · simp only [if_neg q]
        exact h3 a (by omega) b
    · by_cases q : a = A
      · subst q
        simp only [if_true]
        rw [hcA]
        simp only [if_true]
        have g1 := emod_like (p := p) (nw i * ivN p (nw t))
        have g2 := Int.dvd_mul_of_dvd_left (c := ivN p (nw t)) (hr i hi)
        have g3 : p ∣ cmb f ja ka a (fun b => if b = a then ivN p (nw t) else no b * ivN p (nw t) % p) i - cmb f ja ka a (fun b => 0 - (-ivN p (nw t)) * no b) i := cmb_like fun b hb => by
          show p ∣ (if b = a then ivN p (nw t) else no b * ivN p (nw t) % p) - (0 - (-ivN p (nw t)) * no b)
          rw [if_neg (by omega)]
          have := emod_like (p := p) (no b * ivN p (nw t))
          rwa [show 0 - -ivN p (nw t) * no b = no b * ivN p (nw t) by rw [Int.neg_mul, Int.mul_comm]; omega]
        rw [cmb_sub] at g3
        have e0 : cmb f ja ka a (fun _ => 0) i = 0 := by
          unfold cmb
          exact sm_0 fun b hb => Int.zero_mul _
        rw [e0] at g3
        generalize cmb f ja ka a (fun b => if b = a then ivN p (nw t) else no b * ivN p (nw t) % p) i = X at *
        generalize cmb f ja ka a no i = Y at *
        generalize ivN p (nw t) = u at *
        generalize vec f j k i = w at *
        generalize nw i * u % p = Z at *
        have g4 := Int.dvd_sub (Int.dvd_add g1 g2) g3
        have e : Z - nw i * u + (nw i - (w + Y)) * u - (X - (0 - -u * Y)) = Z - (X + u * w) := by
          rw [Int.sub_mul, Int.add_mul, Int.neg_mul, Int.mul_comm w u, Int.mul_comm Y u]
          omega
        rwa [e] at g4
      · simp only [if_neg q]
        rw [hcm a (by omega)]
        exact h4 a (by omega) i hi
    · by_cases q : a = A
      · simp only [if_pos q]
        have := ivN_mul hp hp' hP (v := nw t) (by have := hnw t ht; omega) (hnw t ht).2
        rwa [Int.mul_comm] at this
      · simp only [if_neg q]
        exact h5 a (by omega)
    · have qb : b ≠ A := by omega
      by_cases q : a = A
      · simp only [if_pos q, if_neg qb]
        rw [hh b (by omega), Int.zero_mul, Int.zero_emod]
      · simp only [if_neg q, if_neg qb]
        exact h6 a b hb (by omega)
    · by_cases q : a = A
      · simp only [if_pos q]
        intro z
        rw [z, Int.zero_mul, Int.zero_sub] at hiv
        have := Int.le_of_dvd (by omega) (Int.dvd_neg.mp hiv)
        omega
      · simp only [if_neg q]
        exact h7 a (by omega)
    · by_cases q : a = A
      · simp only [if_pos q]
        rw [if_neg (by omega), hz b (by omega), Int.zero_mul, Int.zero_emod]
      · simp only [if_neg q]
        exact h8 a b (by omega) hb
  exact ⟨hAH, hAH.few, hko⟩
