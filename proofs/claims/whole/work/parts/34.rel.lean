-- needs: 06 08 09 10 11 12 16 17 26 27 28 29 30 31 32 33
/-! WHAT THE TWO STATES HAVE TO DO WITH EACH OTHER -/
/-- outside L nothing has changed -/
def Fr (L : Nat → Nat → Nat → Prop) (M M' : bM) : Prop := ∀ g j i, ¬ L g j i → M' g j i = M g j i
abbrev oL (L L' : Nat → Nat → Nat → Prop) : Nat → Nat → Nat → Prop := fun g j i => L g j i ∨ L' g j i
theorem Fr.refl {M : bM} : Fr (fun _ _ _ => False) M M := fun _ _ _ _ => rfl
theorem Fr.trans {L L' : Nat → Nat → Nat → Prop} {M M' M2 : bM} (h : Fr L M M') (h' : Fr L' M' M2) : Fr (oL L L') M M2 := fun g j i hn => (h' g j i fun z => hn (Or.inr z)).trans (h g j i fun z => hn (Or.inl z))
theorem Fr.mono {L L' : Nat → Nat → Nat → Prop} {M M' : bM} (h : Fr L M M') (hl : ∀ g j i, L g j i → L' g j i) : Fr L' M M' := fun g j i hn => h g j i fun z => hn (hl _ _ _ z)
theorem Blk.fr {M0 M : bM} {g j a b : Nat} {r : Nat → Int} (h : Blk M0 M g j a b r) : Fr (fun g' j' i => g' = g ∧ j' = j ∧ a ≤ i ∧ i < b) M0 M := fun _ _ _ hn => h.keep hn
theorem bU_fr {M : bM} {g j i : Nat} {x : Int32} : Fr (fun g' j' i' => g' = g ∧ j' = j ∧ i' = i) M (bU M g j i x) := fun _ _ _ hn => bU_ne hn
theorem bCp_fr {M : bM} {g j g' j' : Nat} {sp dp n : Int32} : Fr (fun a b _ => a = g' ∧ b = j') M (bCp M g j g' j' sp dp n) := fun a b _ hn => congrFun (bCp_o fun z => hn (by cases z; exact ⟨rfl, rfl⟩)) _
/-- what the pieces read -/
def rdF : Nat → Nat → Nat → Prop := fun g j i => g = 1 ∨ g = 26 ∧ i = 0
def rdS : Nat → Nat → Nat → Prop := fun g j i => g = 7 ∧ j < 6 ∨ g = 28
def rdC : Nat → Nat → Nat → Prop := fun g j i => g = 0 ∧ (i = 3 ∨ i = 4) ∨ g = 26 ∧ (i = 22 ∨ i = 24) ∨ g = 11 ∨ g = 35
def rdT : Nat → Nat → Nat → Prop := fun g j i => g = 2 ∧ i = 2 ∨ g = 26 ∧ i = 7 ∨ g = 13 ∨ g = 29
def rdB : Nat → Nat → Nat → Prop := fun g j i => g = 0 ∧ i = 7 ∨ g = 3 ∨ g = 8 ∨ g = 9 ∧ (j = 1 ∨ j = 2) ∨ g = 7 ∧ 29 ≤ j
def rdL : Nat → Nat → Nat → Prop := fun g j i => g = 4 ∨ g = 5 ∨ g = 15 ∨ g = 26 ∧ (i = 38 ∨ i = 39) ∨ 46 ≤ g ∧ g ≤ 53
def rdH : Nat → Nat → Nat → Prop := fun g j i => g = 6 ∨ g = 12 ∨ 54 ≤ g ∧ g ≤ 56
def RelF (p : Int) (M : bM) : Prop := M 1 0 0 = iI p ∧ M 26 0 0 = iI p ∧ 2 ≤ p ∧ p ≤ 997 ∧ isP p
def RelS (p : Int) (S : Nat → Nat → Int) (M : bM) : Prop := ∀ s, s < 6 → ∀ k, k < 32 → M 7 s k = iI (S s k) ∧ M 28 0 (32 * s + k) = iI (S s k) ∧ 0 ≤ S s k ∧ S s k < p
/-- the chosen of c, in their order -/
def chs (c : Nat) : List Nat := (List.range 6).filter fun s => c.testBit s
def cnt (c : Nat) : Nat := (chs c).length
def sel (c i : Nat) : Nat := (chs c).getD i 0
def RelC (c u : Nat) (L : Nat → Nat) (M : bM) : Prop := (M 0 0 3 = iI (c : Int) ∧ M 26 0 22 = iI (c : Int) ∧ c < 64 ∧ 1 ≤ cnt c ∧ cnt c ≤ 4) ∧ (M 0 0 4 = iI (u : Int) ∧ M 26 0 24 = iI (u : Int) ∧ 1 ≤ u ∧ u ≤ 32) ∧ ∀ s, s < 6 → M 11 0 s = iI (L s : Int) ∧ M 35 0 s = iI (L s : Int) ∧ L s ≤ 9
def RelT (M : bM) : Prop := ∃ n : Nat, n ≤ 80 ∧ M 2 0 2 = iI (n : Int) ∧ M 26 0 7 = iI (n : Int) ∧ ∃ b : Nat → Int, ∀ i, i < n → M 13 0 i = iI (b i) ∧ M 29 0 i = iI (b i) ∧ 0 ≤ b i ∧ b i < 256
/-- the class's basis is the basis of the parts f, with lifts s, to order o -/
def BaseIn (p : Int) (m o : Nat) (s : Nat → Nat) (f : Nat → Nat → Int) (M : bM) : Prop := ∃ d R, IsB p m o s f d R ∧ M 3 0 5 = iI (m : Int) ∧ (∀ i, i < m → d i ≤ 32 ∧ M 9 1 i = iI (d i : Int) ∧ M 9 2 i = iI (s i : Int)) ∧ (∀ i, i < m → ∀ j, j < m → ∀ k, k < 42 → M 8 i (42 * j + k) = iI (R i j k)) ∧ ∀ i, i < m → ∀ k, k < 32 → M 7 (29 + i) k = iI (rs m f (R i) k % p)
def RelB (p : Int) (S : Nat → Nat → Int) (c u : Nat) (L : Nat → Nat) (M : bM) : Prop := M 0 0 7 = iI 1 ∨ M 0 0 7 = iI 0 ∧ BaseIn p (cnt c) u (fun i => L (sel c i)) (fun i => S (sel c i)) M
/-- certificate k of the model (place t of the class): kind, polynomials, used, height, zeros, field, number, coefficients -/
def Cert (M : bM) (k t : Nat) (a : Int) : Prop :=
  (M 5 t 1 = iI 1 ∧ M 5 t 2 = iI a ∧ M 46 0 k = iI a) ∧
  (∃ kd m : Nat, ∃ q : Int, kd ≤ 2 ∧ 2 ≤ m ∧ m ≤ 4 ∧ 2 ≤ q ∧ q ≤ 997 ∧ (kd = 0 → m = 2) ∧ M 5 t 3 = iI (kd : Int) ∧ M 47 0 k = iI (kd : Int) ∧ M 5 t 4 = iI (m : Int) ∧ M 48 0 k = iI (m : Int) ∧ M 5 t 8 = iI q ∧ M 52 0 k = iI q ∧ ∀ j, j < m → ∃ C : Nat → Int, (∀ e, 0 ≤ C e ∧ C e < q) ∧ (∀ e, 10 ≤ e → C e = 0) ∧ (∀ e, e < 10 → M 15 (4 * t + j) e = iI (C e)) ∧ ∀ e, e < 33 → M 53 0 (132 * k + 33 * j + e) = iI (C e)) ∧
  M 5 t 5 = M 49 0 k ∧ M 5 t 6 = M 50 0 k ∧ M 5 t 7 = M 51 0 k
def RelL (n : Nat) (M : bM) : Prop := ∃ K : Nat, ∃ t : Nat → Nat, ∃ a : Nat → Int, ∃ G : Nat, K ≤ 8 ∧ G ≤ n ∧ M 26 0 38 = iI (K : Int) ∧ M 26 0 39 = iI (G : Int) ∧ M 4 0 1 = iI (G : Int) ∧ (∀ k, k < K → t k < 8 ∧ 0 ≤ a k ∧ a k < G ∧ Cert M k (t k) (a k)) ∧ (∀ k k', k < k' → k' < K → t k ≠ t k' ∧ a k < a k') ∧ ∀ i, i < 8 → (∀ k, k < K → t k ≠ i) → M 5 i 1 = iI 0
def RelH (M : bM) : Prop := ∀ i, i < 3 → M 6 i 1 = M 55 0 i ∧ (∃ z : Int, -1 ≤ z ∧ z ≤ 40 ∧ M 6 i 2 = iI z ∧ M 54 0 i = iI z) ∧ ∀ k, k < 40 → M 12 i k = M 56 0 (40 * i + k)
def Rels (n : Nat) (p : Int) (S : Nat → Nat → Int) (c u : Nat) (L : Nat → Nat) (M : bM) : Prop := RelF p M ∧ RelS p S M ∧ RelC c u L M ∧ RelT M ∧ RelB p S c u L M ∧ RelL n M ∧ RelH M
def Rel (n : Nat) (M : bM) : Prop := ∃ p S c u L, Rels n p S c u L M
theorem RelF.fr {p : Int} {M M' : bM} {L : Nat → Nat → Nat → Prop} (h : RelF p M) (hf : Fr L M M') (hd : ∀ g j i, rdF g j i → ¬ L g j i) : RelF p M' := by
  have e := fun g j i z => hf g j i (hd g j i z)
  unfold RelF
  rw [e 1 0 0 (Or.inl rfl), e 26 0 0 (Or.inr ⟨rfl, rfl⟩)]
  exact h
theorem RelS.fr {p : Int} {S : Nat → Nat → Int} {M M' : bM} {L : Nat → Nat → Nat → Prop} (h : RelS p S M) (hf : Fr L M M') (hd : ∀ g j i, rdS g j i → ¬ L g j i) : RelS p S M' := by
  have e := fun g j i z => hf g j i (hd g j i z)
  intro s hs k hk
  rw [e 7 s k (Or.inl ⟨rfl, hs⟩), e 28 0 _ (Or.inr rfl)]
  exact h s hs k hk
theorem RelC.fr {c u : Nat} {L0 : Nat → Nat} {M M' : bM} {L : Nat → Nat → Nat → Prop} (h : RelC c u L0 M) (hf : Fr L M M') (hd : ∀ g j i, rdC g j i → ¬ L g j i) : RelC c u L0 M' := by
  have e := fun g j i z => hf g j i (hd g j i z)
  unfold RelC
  rw [e 0 0 3 (by unfold rdC; omega), e 26 0 22 (by unfold rdC; omega), e 0 0 4 (by unfold rdC; omega), e 26 0 24 (by unfold rdC; omega)]
  refine ⟨h.1, h.2.1, fun s hs => ?_⟩
  rw [e 11 0 s (by unfold rdC; omega), e 35 0 s (by unfold rdC; omega)]
  exact h.2.2 s hs
theorem RelT.fr {M M' : bM} {L : Nat → Nat → Nat → Prop} (h : RelT M) (hf : Fr L M M') (hd : ∀ g j i, rdT g j i → ¬ L g j i) : RelT M' := by
  have e := fun g j i z => hf g j i (hd g j i z)
  obtain ⟨n, h1, h2, h3, b, h4⟩ := h
  refine ⟨n, h1, (e 2 0 2 (by unfold rdT; omega)).trans h2, (e 26 0 7 (by unfold rdT; omega)).trans h3, b, fun i hi => ?_⟩
  rw [e 13 0 i (by unfold rdT; omega), e 29 0 i (by unfold rdT; omega)]
  exact h4 i hi
theorem RelB.fr {p : Int} {S : Nat → Nat → Int} {c u : Nat} {L0 : Nat → Nat} {M M' : bM} {L : Nat → Nat → Nat → Prop} (h : RelB p S c u L0 M) (hf : Fr L M M') (hd : ∀ g j i, rdB g j i → ¬ L g j i) : RelB p S c u L0 M' := by
  have e := fun g j i z => hf g j i (hd g j i z)
  have e0 := e 0 0 7 (by unfold rdB; omega)
  rcases h with h | ⟨h, d, R, h1, h2, h3, h4, h5⟩
  · exact Or.inl (e0.trans h)
  · refine Or.inr ⟨e0.trans h, d, R, h1, (e 3 0 5 (by unfold rdB; omega)).trans h2, fun i hi => ?_, fun i hi j hj k hk => ?_, fun i hi k hk => ?_⟩
    · rw [e 9 1 i (by unfold rdB; omega), e 9 2 i (by unfold rdB; omega)]
      exact h3 i hi
    · rw [e 8 i _ (by unfold rdB; omega)]
      exact h4 i hi j hj k hk
    · rw [e 7 _ k (by unfold rdB; omega)]
      exact h5 i hi k hk
theorem Cert.fr {M M' : bM} {k t : Nat} {a : Int} {L : Nat → Nat → Nat → Prop} (h : Cert M k t a) (hf : Fr L M M') (hd : ∀ g j i, rdL g j i → ¬ L g j i) : Cert M' k t a := by
  have e := fun g j i z => hf g j i (hd g j i z)
  have e5 := fun j i => e 5 j i (Or.inr (Or.inl rfl))
  have e4 : ∀ g, 46 ≤ g → g ≤ 53 → ∀ i, M' g 0 i = M g 0 i := fun g h1 h2 i => e g 0 i (by unfold rdL; omega)
  unfold Cert
  rw [e5, e5, e5, e5, e5, e5, e5, e5, e4 46 (by omega) (by omega), e4 47 (by omega) (by omega), e4 48 (by omega) (by omega), e4 49 (by omega) (by omega), e4 50 (by omega) (by omega), e4 51 (by omega) (by omega), e4 52 (by omega) (by omega)]
  refine ⟨h.1, ?_, h.2.2⟩
  obtain ⟨kd, m, q, a1, a2, a3, a4, a5, a6, a7, a8, a9, a10, a11, a12, a13⟩ := h.2.1
  refine ⟨kd, m, q, a1, a2, a3, a4, a5, a6, a7, a8, a9, a10, a11, a12, fun j hj => ?_⟩
  obtain ⟨C, c1, c2, c3, c4⟩ := a13 j hj
  refine ⟨C, c1, c2, fun e' he => ?_, fun e' he => ?_⟩
  · rw [e 15 _ _ (by unfold rdL; omega)]
    exact c3 e' he
  · rw [e4 53 (by omega) (by omega)]
    exact c4 e' he
theorem RelL.fr {n : Nat} {M M' : bM} {L : Nat → Nat → Nat → Prop} (h : RelL n M) (hf : Fr L M M') (hd : ∀ g j i, rdL g j i → ¬ L g j i) : RelL n M' := by
  have e := fun g j i z => hf g j i (hd g j i z)
  obtain ⟨K, t, a, G, h1, h2, h3, h4, h5, h6, h7, h8⟩ := h
  refine ⟨K, t, a, G, h1, h2, (e 26 0 38 (by unfold rdL; omega)).trans h3, (e 26 0 39 (by unfold rdL; omega)).trans h4, (e 4 0 1 (by unfold rdL; omega)).trans h5, fun k hk => ?_, h7, fun i hi hn => (e 5 i 1 (by unfold rdL; omega)).trans (h8 i hi hn)⟩
  obtain ⟨a1, a2, a3, a4⟩ := h6 k hk
  exact ⟨a1, a2, a3, a4.fr hf hd⟩
theorem RelL.up {n n' : Nat} {M : bM} (h : RelL n M) (hn : n ≤ n') : RelL n' M := by
  obtain ⟨K, t, a, G, h1, h2, h3⟩ := h
  exact ⟨K, t, a, G, h1, Nat.le_trans h2 hn, h3⟩
theorem RelH.fr {M M' : bM} {L : Nat → Nat → Nat → Prop} (h : RelH M) (hf : Fr L M M') (hd : ∀ g j i, rdH g j i → ¬ L g j i) : RelH M' := by
  have e := fun g j i z => hf g j i (hd g j i z)
  intro i hi
  rw [e 6 i 1 (by unfold rdH; omega), e 55 0 i (by unfold rdH; omega), e 6 i 2 (by unfold rdH; omega), e 54 0 i (by unfold rdH; omega)]
  refine ⟨(h i hi).1, (h i hi).2.1, fun k hk => ?_⟩
  rw [e 12 i k (by unfold rdH; omega), e 56 0 _ (by unfold rdH; omega)]
  exact (h i hi).2.2 k hk
/-- what no piece reads has changed -/
theorem Rels.fr {n : Nat} {p : Int} {S : Nat → Nat → Int} {c u : Nat} {L0 : Nat → Nat} {M M' : bM} {L : Nat → Nat → Nat → Prop} (h : Rels n p S c u L0 M) (hf : Fr L M M') (hd : ∀ g j i, rdF g j i ∨ rdS g j i ∨ rdC g j i ∨ rdT g j i ∨ rdB g j i ∨ rdL g j i ∨ rdH g j i → ¬ L g j i) : Rel (n + 1) M' := by
  obtain ⟨h1, h2, h3, h4, h5, h6, h7⟩ := h
  exact ⟨p, S, c, u, L0, h1.fr hf (fun g j i z => hd g j i (Or.inl z)), h2.fr hf (fun g j i z => hd g j i (Or.inr (Or.inl z))), h3.fr hf (fun g j i z => hd g j i (Or.inr (Or.inr (Or.inl z)))), h4.fr hf (fun g j i z => hd g j i (Or.inr (Or.inr (Or.inr (Or.inl z))))), h5.fr hf (fun g j i z => hd g j i (Or.inr (Or.inr (Or.inr (Or.inr (Or.inl z)))))), (h6.fr hf (fun g j i z => hd g j i (Or.inr (Or.inr (Or.inr (Or.inr (Or.inr (Or.inl z)))))))).up (Nat.le_succ n), h7.fr hf (fun g j i z => hd g j i (Or.inr (Or.inr (Or.inr (Or.inr (Or.inr (Or.inr z)))))))⟩
theorem Rels.same {n : Nat} {p : Int} {S : Nat → Nat → Int} {c u : Nat} {L0 : Nat → Nat} {M : bM} (h : Rels n p S c u L0 M) : Rel (n + 1) M := h.fr Fr.refl (fun _ _ _ _ z => z)
theorem RelS.set {p : Int} {S : Nat → Nat → Int} {M M' : bM} {t : Nat} {f : Nat → Int} (h : RelS p S M) (hf : ∀ k, k < 32 → M' 7 t k = iI (f k) ∧ M' 28 0 (32 * t + k) = iI (f k) ∧ 0 ≤ f k ∧ f k < p) (h1 : ∀ s k, s < 6 → s ≠ t → M' 7 s k = M 7 s k) (h2 : ∀ i, ¬ (32 * t ≤ i ∧ i < 32 * t + 32) → M' 28 0 i = M 28 0 i) : RelS p (fun s k => if s = t then f k else S s k) M' := by
  intro s hs k hk
  by_cases he : s = t
  · subst he
    simp only [if_true]
    exact hf k hk
  · simp only [if_neg he]
    rw [h1 s k hs he, h2 _ (by omega)]
    exact h s hs k hk
/-- series t has been given new terms; the basis is stale -/
theorem Rels.set {n : Nat} {p : Int} {S : Nat → Nat → Int} {c u : Nat} {L0 : Nat → Nat} {M M' : bM} {L : Nat → Nat → Nat → Prop} {t : Nat} {f : Nat → Int} (h : Rels n p S c u L0 M) (hf : ∀ k, k < 32 → M' 7 t k = iI (f k) ∧ M' 28 0 (32 * t + k) = iI (f k) ∧ 0 ≤ f k ∧ f k < p) (hst : M' 0 0 7 = iI 1) (hF : Fr L M M')
    (hd : ∀ g j i, rdF g j i ∨ (g = 7 ∧ j < 6 ∧ j ≠ t ∨ g = 28 ∧ ¬ (32 * t ≤ i ∧ i < 32 * t + 32)) ∨ rdC g j i ∨ rdT g j i ∨ rdL g j i ∨ rdH g j i → ¬ L g j i) : Rel (n + 1) M' := by
  obtain ⟨h1, h2, h3, h4, h5, h6, h7⟩ := h
  exact ⟨p, _, c, u, L0, h1.fr hF (fun g j i z => hd g j i (Or.inl z)), h2.set hf (fun s k a b => hF _ _ _ (hd _ _ _ (Or.inr (Or.inl (Or.inl ⟨rfl, a, b⟩))))) (fun i a => hF _ _ _ (hd _ _ _ (Or.inr (Or.inl (Or.inr ⟨rfl, a⟩))))), h3.fr hF (fun g j i z => hd g j i (Or.inr (Or.inr (Or.inl z)))), h4.fr hF (fun g j i z => hd g j i (Or.inr (Or.inr (Or.inr (Or.inl z))))), Or.inl hst, (h6.fr hF (fun g j i z => hd g j i (Or.inr (Or.inr (Or.inr (Or.inr (Or.inl z))))))).up (Nat.le_succ n), h7.fr hF (fun g j i z => hd g j i (Or.inr (Or.inr (Or.inr (Or.inr (Or.inr z))))))⟩
/-- both answer alike, and then the states are in their relation -/
def Alike (n : Nat) (v : Option bV) : bQ := fun v' M => (∃ r, v = some (cI r) ∧ v' = some (cI r)) ∧ Rel n M
theorem alike {n : Nat} {M : bM} {x y : Int32} (h : x = y) (hR : Rel n M) : Alike n (some (cI x)) (some (cI y)) M := ⟨⟨x, rfl, by rw [h]⟩, hR⟩
/-- branches at known answers -/
theorem z1 {A B : Prop} (h : B) : ((1 : Int32) = 0 → A) ∧ (¬ (1 : Int32) = 0 → B) := ⟨fun c => absurd c (by decide), fun _ => h⟩
theorem z0 {A B : Prop} (h : A) : ((0 : Int32) = 0 → A) ∧ (¬ (0 : Int32) = 0 → B) := ⟨fun _ => h, fun c => absurd rfl c⟩
theorem n1 {A B : Prop} (h : A) : (¬ (1 : Int32) = 0 → A) ∧ (¬ ¬ (1 : Int32) = 0 → B) := ⟨fun _ => h, fun c => absurd (by decide) c⟩
theorem n0 {A B : Prop} (h : B) : (¬ (0 : Int32) = 0 → A) ∧ (¬ ¬ (0 : Int32) = 0 → B) := ⟨fun c => absurd rfl c, fun _ => h⟩
/-- x is one of 0 .. n - 1 -/
def InR (x : Int32) (n : Nat) : Prop := ∃ s : Nat, x = iI (s : Int) ∧ s < n
theorem nin {x : Int32} {n : Nat} {a : Int} (h : ¬ InR x n) (hx : x = iI a) : ¬ (0 ≤ a ∧ a < n) := by
  rintro ⟨h1, h2⟩
  exact h ⟨a.toNat, by rw [hx]; exact iIc (by omega), by omega⟩
theorem S_isSeries_t {M : bM} {Q : bQ} {x : Int32} {s : Nat} (hx : x = iI (s : Int)) (hs : s < 6) (K : Q (some (cI (1 : Int32))) M) : bCall 61 [cI x] M Q := by
  refine g_X6_isSeries_0 ⟨fun c => ?_, fun _ => ⟨fun c => ?_, fun _ => ⟨Or.inr rfl, K⟩⟩⟩
  · have := lt_of c hx l0
    omega
  · have := le_of c (iL 6) hx
    omega
theorem S_isTerm_t {M : bM} {Q : bQ} {x : Int32} {s : Nat} (hx : x = iI (s : Int)) (hs : s < 32) (K : Q (some (cI (1 : Int32))) M) : bCall 62 [cI x] M Q := by
  refine g_X6_isTerm_0 ⟨fun c => ?_, fun _ => ⟨fun c => ?_, fun _ => ⟨Or.inr rfl, K⟩⟩⟩
  · have := lt_of c hx l0
    omega
  · have := le_of c (iL 32) hx
    omega
theorem S_isSheet_t {M : bM} {Q : bQ} {x : Int32} {s : Nat} (hx : x = iI (s : Int)) (hs : s < 3) (K : Q (some (cI (1 : Int32))) M) : bCall 80 [cI x] M Q := by
  refine g_X6_isSheet_0 ⟨fun c => ?_, fun _ => ⟨fun c => ?_, fun _ => ⟨Or.inr rfl, K⟩⟩⟩
  · have := lt_of c hx l0
    omega
  · have := le_of c (iL 3) hx
    omega
theorem S_isSeries_f {M : bM} {Q : bQ} {x : Int32} (hx : ¬ InR x 6) (K : Q (some (cI (0 : Int32))) M) : bCall 61 [cI x] M Q := by
  obtain ⟨z, e, h1, h2⟩ := iI_of x
  refine g_X6_isSeries_0 ⟨fun c => ⟨Or.inl rfl, K⟩, fun c => ⟨fun c2 => ⟨Or.inl rfl, K⟩, fun c2 => ?_⟩⟩
  have := nlt_of c e l0
  have := nle_of c2 (iL 6) e
  exact absurd (by omega) (nin hx e)
theorem S_isTerm_f {M : bM} {Q : bQ} {x : Int32} (hx : ¬ InR x 32) (K : Q (some (cI (0 : Int32))) M) : bCall 62 [cI x] M Q := by
  obtain ⟨z, e, h1, h2⟩ := iI_of x
  refine g_X6_isTerm_0 ⟨fun c => ⟨Or.inl rfl, K⟩, fun c => ⟨fun c2 => ⟨Or.inl rfl, K⟩, fun c2 => ?_⟩⟩
  have := nlt_of c e l0
  have := nle_of c2 (iL 32) e
  exact absurd (by omega) (nin hx e)
theorem S_isSheet_f {M : bM} {Q : bQ} {x : Int32} (hx : ¬ InR x 3) (K : Q (some (cI (0 : Int32))) M) : bCall 80 [cI x] M Q := by
  obtain ⟨z, e, h1, h2⟩ := iI_of x
  refine g_X6_isSheet_0 ⟨fun c => ⟨Or.inl rfl, K⟩, fun c => ⟨fun c2 => ⟨Or.inl rfl, K⟩, fun c2 => ?_⟩⟩
  have := nlt_of c e l0
  have := nle_of c2 (iL 3) e
  exact absurd (by omega) (nin hx e)
theorem T_in_t {M : bM} {Q : bQ} {x y z : Int32} {a b c : Int} (hx : x = iI a) (hy : y = iI b) (hz : z = iI c) (h1 : b ≤ a) (h2 : a ≤ c) (hb : -2147483648 ≤ b := by omega) (hc : c < 2147483648 := by omega) (K : Q (some (cI (1 : Int32))) M) : bCall 104 [cI x, cI y, cI z] M Q := by
  refine g_X7_in_0 ⟨fun c => ?_, fun _ => ⟨fun c => ?_, fun _ => ⟨Or.inr rfl, K⟩⟩⟩
  · have := lt_of c hx hy
    omega
  · have := lt_of c hz hx
    omega
theorem T_in_f {M : bM} {Q : bQ} {x y z : Int32} {a b c : Int} (hx : x = iI a) (hy : y = iI b) (hz : z = iI c) (h1 : -2147483648 ≤ a) (h2 : a < 2147483648) (hb : -2147483648 ≤ b := by omega) (hb' : b < 2147483648 := by omega) (hc : -2147483648 ≤ c := by omega) (hc' : c < 2147483648 := by omega) (hn : ¬ (b ≤ a ∧ a ≤ c)) (K : Q (some (cI (0 : Int32))) M) : bCall 104 [cI x, cI y, cI z] M Q := by
  refine g_X7_in_0 ⟨fun c => ⟨Or.inl rfl, K⟩, fun c => ⟨fun c2 => ⟨Or.inl rfl, K⟩, fun c2 => ?_⟩⟩
  have := nlt_of c hx hy
  have := nlt_of c2 hz hx
  exact absurd (by omega) hn
theorem T_inN_t {M : bM} {Q : bQ} {x z : Int32} {n : Nat} {s : Nat} (hx : x = iI (s : Int)) (hs : s < n) (hz : z = iI ((n : Int) - 1)) (hn : n ≤ 1000 := by omega) (K : Q (some (cI (1 : Int32))) M) : bCall 104 [cI x, cI (0 : Int32), cI z] M Q := T_in_t hx l0 hz (by omega) (by omega) (by omega) (by omega) K
theorem T_inN_f {M : bM} {Q : bQ} {x z : Int32} {n : Nat} (hx : ¬ InR x n) (hz : z = iI ((n : Int) - 1)) (hn : n ≤ 1000 := by omega) (K : Q (some (cI (0 : Int32))) M) : bCall 104 [cI x, cI (0 : Int32), cI z] M Q := by
  obtain ⟨a, e, h1, h2⟩ := iI_of x
  exact T_in_f e l0 hz h1 h2 (by omega) (by omega) (by omega) (by omega) (fun q => nin hx e (by omega)) K
theorem T_isSeries_t {M : bM} {Q : bQ} {x : Int32} {s : Nat} (hx : x = iI (s : Int)) (hs : s < 6) (K : Q (some (cI (1 : Int32))) M) : bCall 105 [cI x] M Q := g_X7_isSeries_0 (T_inN_t (n := 6) hx hs (iL 5) (by omega) ⟨Or.inr rfl, K⟩)
theorem T_isSeries_f {M : bM} {Q : bQ} {x : Int32} (hx : ¬ InR x 6) (K : Q (some (cI (0 : Int32))) M) : bCall 105 [cI x] M Q := g_X7_isSeries_0 (T_inN_f (n := 6) hx (iL 5) (by omega) ⟨Or.inl rfl, K⟩)
theorem T_isRow_t {M : bM} {Q : bQ} {x : Int32} {s : Nat} (hx : x = iI (s : Int)) (hs : s < 3) (K : Q (some (cI (1 : Int32))) M) : bCall 139 [cI x] M Q := g_X7_isRow_0 (T_inN_t (n := 3) hx hs (iL 2) (by omega) ⟨Or.inr rfl, K⟩)
theorem T_isRow_f {M : bM} {Q : bQ} {x : Int32} (hx : ¬ InR x 3) (K : Q (some (cI (0 : Int32))) M) : bCall 139 [cI x] M Q := g_X7_isRow_0 (T_inN_f (n := 3) hx (iL 2) (by omega) ⟨Or.inl rfl, K⟩)
