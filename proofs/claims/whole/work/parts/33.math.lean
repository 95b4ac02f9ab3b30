-- needs: 06 08 09 10 26 27 28 29 30
/-! THE ONE REDUCED BASIS: rows of m polynomials q j k (place k of polynomial j), over whole numbers, taken by p where it is said. -/
/-- where x^k stands in polynomial j: by height, of like ones by j -/
def rk (s : Nat → Nat) (j k : Nat) : Nat := 4 * (k + s j) + j
/-- term n of q_0 f_0 + .. -/
def rs (m : Nat) (f q : Nat → Nat → Int) (n : Nat) : Int := sm (fun j => cv (q j) (f j) n) m
/-- r times x^t -/
def sh (t : Nat) (r : Nat → Nat → Int) : Nat → Nat → Int := fun j k => if t ≤ k then r j (k - t) else 0
/-- a relation -/
def Rl (p : Int) (m o : Nat) (f q : Nat → Nat → Int) : Prop := ∀ n, n < o → p ∣ rs m f q n
/-- nothing at or behind d -/
def Std (p : Int) (m : Nat) (d : Nat → Nat) (q : Nat → Nat → Int) : Prop := ∀ j, j < m → ∀ k, d j ≤ k → p ∣ q j k
/-- rows that stand like a basis: 1 at the highest place of row i, which is place d i of polynomial i -/
def Ld (p : Int) (m : Nat) (s d : Nat → Nat) (R : Nat → Nat → Nat → Int) : Prop := (∀ i, i < m → R i i (d i) = 1) ∧ (∀ i, i < m → ∀ j, j < m → ∀ k, rk s i (d i) < rk s j k → R i j k = 0)
/-- no relation stands below the rows -/
def Mn (p : Int) (m o : Nat) (f : Nat → Nat → Int) (d : Nat → Nat) : Prop := ∀ q, Rl p m o f q → Std p m d q → ∀ j, j < m → ∀ k, p ∣ q j k
def IsB (p : Int) (m o : Nat) (s : Nat → Nat) (f : Nat → Nat → Int) (d : Nat → Nat) (R : Nat → Nat → Nat → Int) : Prop :=
  (∀ i, i < m → ∀ j, j < m → ∀ k, 0 ≤ R i j k ∧ R i j k < p) ∧ Ld p m s d R ∧ (∀ i, i < m → Rl p m o f (R i)) ∧ (∀ i, i < m → ∀ j, j < m → j ≠ i → ∀ k, d j ≤ k → R i j k = 0) ∧ Mn p m o f d
theorem rk_inj {s : Nat → Nat} {j k j' k' : Nat} (hj : j < 4) (hj' : j' < 4) (h : rk s j k = rk s j' k') : j = j' ∧ k = k' := by
  unfold rk at h
  have : j = j' := by omega
  subst this
  exact ⟨rfl, by omega⟩
theorem rk_sh {s : Nat → Nat} {j k t : Nat} : rk s j (k + t) = rk s j k + 4 * t := by unfold rk; omega
theorem sm_sub {f g : Nat → Int} {c : Int} : ∀ {n : Nat}, sm (fun i => f i - c * g i) n = sm f n - c * sm g n
  | 0 => by simp [sm]
  | n + 1 => by
    show sm (fun i => f i - c * g i) n + (f n - c * g n) = sm f n + f n - c * (sm g n + g n)
    rw [sm_sub (n := n), Int.mul_add]
    omega
theorem sm_0 {f : Nat → Int} : ∀ {n : Nat}, (∀ i, i < n → f i = 0) → sm f n = 0
  | 0, _ => rfl
  | n + 1, h => by
    show sm f n + f n = 0
    rw [sm_0 (n := n) (fun i hi => h i (by omega)), h n (by omega)]
    rfl
theorem sm_dvd {f : Nat → Int} {p : Int} : ∀ {n : Nat}, (∀ i, i < n → p ∣ f i) → p ∣ sm f n
  | 0, _ => Int.dvd_zero p
  | n + 1, h => Int.dvd_add (sm_dvd (n := n) (fun i hi => h i (by omega))) (h n (by omega))
theorem sm_head {f : Nat → Int} : ∀ (n : Nat), sm f (n + 1) = f 0 + sm (fun i => f (i + 1)) n
  | 0 => by simp [sm]
  | n + 1 => by
    show sm f (n + 1) + f (n + 1) = f 0 + (sm (fun i => f (i + 1)) n + f (n + 1))
    rw [sm_head n]
    omega
theorem rs_sub {m : Nat} {f q r : Nat → Nat → Int} {c : Int} {n : Nat} : rs m f (fun j k => q j k - c * r j k) n = rs m f q n - c * rs m f r n := by
  unfold rs
  rw [← sm_sub]
  refine sm_congr fun j hj => ?_
  unfold cv
  rw [← sm_sub]
  refine sm_congr fun e he => ?_
  rw [Int.sub_mul, Int.mul_assoc]
theorem rs_congr {m : Nat} {f f' q r : Nat → Nat → Int} {n : Nat} (h : ∀ j, j < m → ∀ k, k ≤ n → q j k = r j k) (hf : ∀ j, j < m → ∀ k, k ≤ n → f j k = f' j k) : rs m f q n = rs m f' r n := by
  unfold rs
  refine sm_congr fun j hj => ?_
  unfold cv
  refine sm_congr fun e he => ?_
  rw [h j hj e (by omega), hf j hj (n - e) (by omega)]
theorem cv_sh0 {f r : Nat → Int} {n : Nat} (t : Nat) (h : n < t) : cv (fun k => if t ≤ k then r (k - t) else 0) f n = 0 := by
  unfold cv
  refine sm_0 fun i hi => ?_
  show (if t ≤ i then r (i - t) else 0) * f (n - i) = 0
  rw [if_neg (by omega), Int.zero_mul]
theorem cv_sh {f r : Nat → Int} : ∀ (t n : Nat), cv (fun k => if t ≤ k then r (k - t) else 0) f (n + t) = cv r f n
  | 0, n => by
    unfold cv
    refine sm_congr fun i hi => ?_
    simp
  | t + 1, n => by
    rw [← cv_sh t n]
    show sm (fun i => (if t + 1 ≤ i then r (i - (t + 1)) else 0) * f (n + t + 1 - i)) (n + t + 1 + 1) = sm (fun i => (if t ≤ i then r (i - t) else 0) * f (n + t - i)) (n + t + 1)
    rw [sm_head]
    rw [if_neg (by omega), Int.zero_mul, Int.zero_add]
    refine sm_congr fun i hi => ?_
    by_cases h : t ≤ i
    · rw [if_pos (by omega), if_pos h]
      congr 2 <;> omega
    · rw [if_neg (by omega), if_neg h, Int.zero_mul, Int.zero_mul]
theorem rs_sh0 {m : Nat} {f r : Nat → Nat → Int} {n t : Nat} (h : n < t) : rs m f (sh t r) n = 0 := by
  unfold rs
  exact sm_0 fun j hj => cv_sh0 t h
theorem rs_sh {m : Nat} {f r : Nat → Nat → Int} {n t : Nat} : rs m f (sh t r) (n + t) = rs m f r n := by
  unfold rs
  exact sm_congr fun j hj => cv_sh t n
theorem Rl.sub {p : Int} {m o : Nat} {f q r : Nat → Nat → Int} {c : Int} (hq : Rl p m o f q) (hr : Rl p m o f r) : Rl p m o f (fun j k => q j k - c * r j k) := by
  intro n hn
  rw [rs_sub]
  exact Int.dvd_sub (hq n hn) (Int.dvd_mul_of_dvd_right (hr n hn))
theorem Rl.sh {p : Int} {m o t : Nat} {f r : Nat → Nat → Int} (hr : Rl p m o f r) : Rl p m o f (sh t r) := by
  intro n hn
  by_cases h : n < t
  · rw [rs_sh0 h]
    exact Int.dvd_zero p
  · have e : n = n - t + t := by omega
    rw [e, rs_sh]
    exact hr (n - t) (by omega)
/-- numbers that are like by p make like terms -/
theorem rs_like {p : Int} {m : Nat} {f q r : Nat → Nat → Int} {n : Nat} (h : ∀ j, j < m → ∀ k, k ≤ n → p ∣ q j k - r j k) : p ∣ rs m f q n - rs m f r n := by
  have e : rs m f q n - rs m f r n = rs m f (fun j k => q j k - 1 * r j k) n := by rw [rs_sub]; omega
  rw [e]
  unfold rs
  refine sm_dvd fun j hj => ?_
  unfold cv
  refine sm_dvd fun i hi => ?_
  have h1 := h j hj i (by omega)
  show p ∣ (q j i - 1 * r j i) * f j (n - i)
  rw [Int.one_mul]
  exact Int.dvd_mul_of_dvd_left h1
theorem Rl.like {p : Int} {m o : Nat} {f q r : Nat → Nat → Int} (h : ∀ j, j < m → ∀ k, p ∣ q j k - r j k) (hr : Rl p m o f r) : Rl p m o f q := by
  intro n hn
  have h1 := rs_like (p := p) (m := m) (f := f) (n := n) (fun j hj k _ => h j hj k)
  have h2 := Int.dvd_add h1 (hr n hn)
  rwa [Int.sub_add_cancel] at h2
/-- taking away multiples of rows until nothing stands at or behind d -/
theorem red {p : Int} {m : Nat} {s d : Nat → Nat} {R : Nat → Nat → Nat → Int} (hm : m ≤ 4) (hL : Ld p m s d R) {P : (Nat → Nat → Int) → Prop} {N0 : Nat} (hP : ∀ (q : Nat → Nat → Int) (j t : Nat) (c : Int), P q → j < m → rk s j (d j + t) < N0 → P (fun j' k' => q j' k' - c * sh t (R j) j' k')) :
    ∀ (N : Nat), N ≤ N0 → ∀ q, P q → (∀ j, j < m → ∀ k, N ≤ rk s j k → d j ≤ k → p ∣ q j k) → ∃ q', P q' ∧ Std p m d q' := by
  intro N
  induction N with
  | zero => exact fun _ q hq h => ⟨q, hq, fun j hj k hk => h j hj k (Nat.zero_le _) hk⟩
  | succ N ih =>
    intro hN q hq h
    by_cases hjk : ∃ j k, j < m ∧ rk s j k = N ∧ d j ≤ k
    · obtain ⟨j, k, hj, hr, hk⟩ := hjk
      have hrk : rk s j (d j + (k - d j)) = N := by rw [← hr]; congr 1; omega
      refine ih (by omega) (fun j' k' => q j' k' - q j k * sh (k - d j) (R j) j' k') (hP q j (k - d j) (q j k) hq hj (by omega)) ?_
      intro j' hj' k' hN' hk'
      by_cases he : rk s j' k' = N
      · obtain ⟨rfl, rfl⟩ := rk_inj (by omega) (by omega) (he.trans hr.symm)
        have e1 : sh (k' - d j') (R j') j' k' = 1 := by
          unfold sh
          rw [if_pos (by omega), show k' - (k' - d j') = d j' by omega]
          exact hL.1 j' hj'
        show p ∣ q j' k' - q j' k' * sh (k' - d j') (R j') j' k'
        rw [e1, Int.mul_one, Int.sub_self]
        exact Int.dvd_zero p
      · have e1 : sh (k - d j) (R j) j' k' = 0 := by
          unfold sh
          split
          · refine hL.2 j hj j' hj' _ ?_
            unfold rk at *
            omega
          · rfl
        show p ∣ q j' k' - q j k * sh (k - d j) (R j) j' k'
        rw [e1, Int.mul_zero, Int.sub_zero]
        exact h j' hj' k' (by omega) hk'
    · refine ih (by omega) q hq fun j hj k h1 h2 => ?_
      by_cases he : rk s j k = N
      · exact absurd ⟨j, k, hj, he, h2⟩ hjk
      · exact h j hj k (by omega) h2
/-- degrees: no row of the one stands below a row of the other -/
theorem IsB.le {p : Int} {m o : Nat} {s : Nat → Nat} {f : Nat → Nat → Int} {d d' : Nat → Nat} {R R' : Nat → Nat → Nat → Int} (hp : 2 ≤ p) (hm : m ≤ 4) (h : IsB p m o s f d R) (h' : IsB p m o s f d' R') : ∀ i, i < m → d i ≤ d' i := by
  intro i hi
  refine Nat.not_lt.mp fun hlt => ?_
  obtain ⟨a1, a2, a3, a4, a5⟩ := h
  obtain ⟨b1, b2, b3, b4, b5⟩ := h'
  have key := red (p := p) hm a2 (P := fun q => Rl p m o f q ∧ p ∣ q i (d' i) - 1) (N0 := rk s i (d' i)) (fun q j t c hq hj hN => ⟨hq.1.sub ((a3 j hj).sh), by
    have e1 : sh t (R j) i (d' i) = 0 := by
      unfold sh
      split
      · refine a2.2 j hj i hi _ ?_
        unfold rk at *
        omega
      · rfl
    show p ∣ q i (d' i) - c * sh t (R j) i (d' i) - 1
    rw [e1, Int.mul_zero, Int.sub_zero]
    exact hq.2⟩) (rk s i (d' i)) (Nat.le_refl _) (R' i) ⟨b3 i hi, by rw [b2.1 i hi]; exact Int.dvd_zero p⟩ (fun j hj k h1 h2 => by
      by_cases he : rk s j k = rk s i (d' i)
      · obtain ⟨rfl, rfl⟩ := rk_inj (by omega) (by omega) he
        omega
      · rw [b2.2 i hi j hj k (by omega)]
        exact Int.dvd_zero p)
  obtain ⟨q, ⟨c1, c2⟩, c3⟩ := key
  have c4 := a5 q c1 c3 i hi (d' i)
  have c5 : p ∣ 1 := by
    have := Int.dvd_sub c4 c2
    rwa [show q i (d' i) - (q i (d' i) - 1) = 1 by omega] at this
  have := Int.le_of_dvd (by omega) c5
  omega
theorem like_eq {p a b : Int} (h : p ∣ a - b) (ha : 0 ≤ a ∧ a < p) (hb : 0 ≤ b ∧ b < p) : a = b := by
  have h1 := Int.emod_eq_emod_iff_emod_sub_eq_zero.mpr (Int.emod_eq_zero_of_dvd h)
  rwa [Int.emod_eq_of_lt ha.1 ha.2, Int.emod_eq_of_lt hb.1 hb.2] at h1
/-- THE BASIS IS ONE -/
theorem IsB.uniq {p : Int} {m o : Nat} {s : Nat → Nat} {f : Nat → Nat → Int} {d d' : Nat → Nat} {R R' : Nat → Nat → Nat → Int} (hp : 2 ≤ p) (hm : m ≤ 4) (h : IsB p m o s f d R) (h' : IsB p m o s f d' R') : (∀ i, i < m → d i = d' i) ∧ ∀ i, i < m → ∀ j, j < m → ∀ k, R i j k = R' i j k := by
  have hd : ∀ i, i < m → d i = d' i := fun i hi => Nat.le_antisymm (h.le hp hm h' i hi) (h'.le hp hm h i hi)
  refine ⟨hd, fun i hi j hj k => ?_⟩
  obtain ⟨a1, a2, a3, a4, a5⟩ := h
  obtain ⟨b1, b2, b3, b4, b5⟩ := h'
  have key := a5 (fun j k => R i j k - 1 * R' i j k) ((a3 i hi).sub (b3 i hi)) (fun j hj k hk => by
    by_cases hji : j = i
    · subst hji
      by_cases hkd : k = d j
      · subst hkd
        have e : R' j j (d j) = 1 := by rw [hd j hj]; exact b2.1 j hj
        show p ∣ R j j (d j) - 1 * R' j j (d j)
        rw [a2.1 j hj, e]
        exact Int.dvd_zero p
      · have e1 : R j j k = 0 := a2.2 j hj j hj k (by unfold rk; omega)
        have e2 : R' j j k = 0 := b2.2 j hj j hj k (by rw [← hd j hj]; unfold rk; omega)
        show p ∣ R j j k - 1 * R' j j k
        rw [e1, e2]
        exact Int.dvd_zero p
    · show p ∣ R i j k - 1 * R' i j k
      rw [a4 i hi j hj hji k hk, b4 i hi j hj hji k (by rw [← hd j hj]; exact hk)]
      exact Int.dvd_zero p) j hj k
  have key2 : p ∣ R i j k - R' i j k := by
    have := key
    rwa [Int.one_mul] at this
  exact like_eq key2 (a1 i hi j hj k) (b1 i hi j hj k)
