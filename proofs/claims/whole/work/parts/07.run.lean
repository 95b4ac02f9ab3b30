-- needs: 01 02 06
def aAp (G : aG) (c : aCfg) : Prop := G c.1 c.2.1 c.2.2.1 c.2.2.2.1 c.2.2.2.2.1 c.2.2.2.2.2
/-- by cases, or else -/
def aAll (G : aG) (d : aCfg) : List (Prop × aCfg) → Prop
  | [] => aAp G d
  | (P, c) :: r => (P → aAp G c) ∧ (¬ P → aAll G d r)
-- what a call answers: nothing, an int, a cell, a cell or null
abbrev aV0 (v : Option Value) (K : Prop) : Prop := match v with
  | none => K
  | _ => False
abbrev aV1 (v : Option Value) (K : Int32 → Prop) : Prop := match v with
  | some (.int x) => K x
  | _ => False
abbrev aV2 (v : Option Value) (K : Nat → Prop) : Prop := match v with
  | some (.ref a) => K a
  | _ => False
abbrev aV3 (v : Option Value) (K0 : Prop) (K : Nat → Prop) : Prop := match v with
  | some .null => K0
  | some (.ref a) => K a
  | _ => False
abbrev aKt (rk : Nat) (v : Option Value) (G : aG) (nx : Nat) (ls : aL) (st : List Value) (X : aX) (k q : Nat) : Prop := match rk with
  | 0 => aV0 v (G nx ls st X k q)
  | 10 => aV0 v (G nx ls st X k q)
  | 1 => aV1 v (fun x => G nx ls (.int x :: st) X k q)
  | 2 => aV2 v (fun a => G nx ls (.ref a :: st) X k q)
  | _ => aV3 v (G nx ls (.null :: st) X k q) (fun a => G nx ls (.ref a :: st) X k q)
abbrev aIf (rk : Nat) (P R : Prop) : Prop := match rk with
  | 10 => P ∧ R
  | _ => R
def aRun (call : Nat → List Value → aX → aQ → Prop) (Q : aQ) (G : aG) : aO → Prop
  | .inl c => aAp G c
  | .inr (.inl (P, c)) => P ∧ aAp G c
  | .inr (.inr (.inl (l, d))) => aAll G d l
  | .inr (.inr (.inr (.inl (P, mj, args, rk, nx, ls, st, X, k, q)))) => aIf rk P (call mj args X (fun v X' => aKt rk v G nx ls st X' k q))
  | .inr (.inr (.inr (.inr (.inl (v, X))))) => Q v X
  | .inr (.inr (.inr (.inr (.inr (P, v, X))))) => P ∧ Q v X
/-- with fuel: from here the method mi ends, and then Q -/
def aGo0 : Nat → Nat → aQ → aG
  | 0, _, _ => fun _ _ _ _ _ _ => False
  | n + 1, mi, Q => fun pc ls st X k q => aRun (fun mj args X' Q' => aGo0 n mj Q' 0 (aEntry (aML mj) args) [] X' 0 0) Q (aGo0 n mi Q) (aStep (aCode mi pc) ls st X k q)
def aGo (mi : Nat) (Q : aQ) : aG := fun pc ls st X k q => ∃ n, aGo0 n mi Q pc ls st X k q
/-- the call of mj with these arguments ends, and then Q -/
def aCall (mj : Nat) (args : List Value) (X : aX) (Q : aQ) : Prop := aGo mj Q 0 (aEntry (aML mj) args) [] X 0 0
theorem aAll_mono {G G' : aG} (hG : ∀ pc ls st X k q, G pc ls st X k q → G' pc ls st X k q) {d : aCfg} : ∀ {l : List (Prop × aCfg)}, aAll G d l → aAll G' d l
  | [], h => hG _ _ _ _ _ _ h
  | (P, c) :: r, h => ⟨fun p => hG _ _ _ _ _ _ (h.1 p), fun p => aAll_mono hG (h.2 p)⟩
theorem aV0_mono {v : Option Value} {K K' : Prop} (h : K → K') : aV0 v K → aV0 v K' := by
  unfold aV0; split <;> first | exact h | exact id
theorem aV1_mono {v : Option Value} {K K' : Int32 → Prop} (h : ∀ x, K x → K' x) : aV1 v K → aV1 v K' := by
  unfold aV1; split <;> first | exact h _ | exact id
theorem aV2_mono {v : Option Value} {K K' : Nat → Prop} (h : ∀ x, K x → K' x) : aV2 v K → aV2 v K' := by
  unfold aV2; split <;> first | exact h _ | exact id
theorem aV3_mono {v : Option Value} {K0 K0' : Prop} {K K' : Nat → Prop} (h0 : K0 → K0') (h : ∀ x, K x → K' x) : aV3 v K0 K → aV3 v K0' K' := by
  unfold aV3; split <;> first | exact h0 | exact h _ | exact id
theorem aKt_mono {rk : Nat} {v : Option Value} {G G' : aG} (hG : ∀ pc ls st X k q, G pc ls st X k q → G' pc ls st X k q) {nx : Nat} {ls : aL} {st : List Value} {X : aX} {k q : Nat} : aKt rk v G nx ls st X k q → aKt rk v G' nx ls st X k q := by
  unfold aKt
  split
  · exact aV0_mono (hG _ _ _ _ _ _)
  · exact aV0_mono (hG _ _ _ _ _ _)
  · exact aV1_mono (fun _ => hG _ _ _ _ _ _)
  · exact aV2_mono (fun _ => hG _ _ _ _ _ _)
  · exact aV3_mono (hG _ _ _ _ _ _) (fun _ => hG _ _ _ _ _ _)
theorem aIf_mono {rk : Nat} {P R R' : Prop} (h : R → R') : aIf rk P R → aIf rk P R' := by
  unfold aIf
  split
  · exact fun z => ⟨z.1, h z.2⟩
  · exact h
theorem aRun_mono {call call' : Nat → List Value → aX → aQ → Prop} {Q Q' : aQ} {G G' : aG} (hc : ∀ mj args X (R R' : aQ), (∀ v X', R v X' → R' v X') → call mj args X R → call' mj args X R') (hQ : ∀ v X, Q v X → Q' v X) (hG : ∀ pc ls st X k q, G pc ls st X k q → G' pc ls st X k q) : ∀ {o : aO}, aRun call Q G o → aRun call' Q' G' o
  | .inl c, h => hG _ _ _ _ _ _ h
  | .inr (.inl (P, c)), h => ⟨h.1, hG _ _ _ _ _ _ h.2⟩
  | .inr (.inr (.inl (l, d))), h => aAll_mono hG (l := l) h
  | .inr (.inr (.inr (.inl (P, mj, args, rk, nx, ls, st, X, k, q)))), h => aIf_mono (rk := rk) (hc _ _ _ _ _ (fun v X' z => aKt_mono hG z)) h
  | .inr (.inr (.inr (.inr (.inl (v, X))))), h => hQ _ _ h
  | .inr (.inr (.inr (.inr (.inr (P, v, X))))), h => ⟨h.1, hQ _ _ h.2⟩
theorem aGo0_mono : ∀ (n n' mi : Nat) (Q Q' : aQ), n ≤ n' → (∀ v X, Q v X → Q' v X) → ∀ pc ls st X k q, aGo0 n mi Q pc ls st X k q → aGo0 n' mi Q' pc ls st X k q
  | 0, _, _, _, _, _, _, _, _, _, _, _, _, h => False.elim h
  | n + 1, 0, _, _, _, hn, _, _, _, _, _, _, _, _ => absurd hn (Nat.not_succ_le_zero n)
  | n + 1, n' + 1, mi, Q, Q', hn, hQ, pc, ls, st, X, k, q, h => by
    unfold aGo0 at h ⊢
    exact aRun_mono (call' := fun mj args X' Q' => aGo0 n' mj Q' 0 (aEntry (aML mj) args) [] X' 0 0) (fun mj args X R R' hR z => aGo0_mono n n' mj R R' (Nat.le_of_succ_le_succ hn) hR _ _ _ _ _ _ z) hQ (fun pc ls st X k q z => aGo0_mono n n' mi Q Q' (Nat.le_of_succ_le_succ hn) hQ pc ls st X k q z) h
def aOne (v : Option Value) (X : aX) : aQ := fun v2 X2 => v2 = v ∧ X2 = X
theorem aAll_pick2 {G : aG} {Q : aQ} {G' : Option Value → aX → aG} (h : ∀ pc ls st X k q, G pc ls st X k q → ∃ v X', Q v X' ∧ G' v X' pc ls st X k q) {d : aCfg} : ∀ {l : List (Prop × aCfg)}, aAll G d l → ∃ v X', Q v X' ∧ aAll (G' v X') d l
  | [], z => h _ _ _ _ _ _ z
  | (P, c) :: r, z => by
    by_cases p : P
    · obtain ⟨v, X', h1, h2⟩ := h _ _ _ _ _ _ (z.1 p)
      exact ⟨v, X', h1, fun _ => h2, fun np => absurd p np⟩
    · obtain ⟨v, X', h1, h2⟩ := aAll_pick2 h (z.2 p)
      exact ⟨v, X', h1, fun pp => absurd pp p, fun _ => h2⟩
theorem aKt_pick {rk : Nat} {w : Option Value} {G : aG} {Q : aQ} {G' : Option Value → aX → aG} (h : ∀ pc ls st X k q, G pc ls st X k q → ∃ v X', Q v X' ∧ G' v X' pc ls st X k q) {nx : Nat} {ls : aL} {st : List Value} {X : aX} {k q : Nat} (z : aKt rk w G nx ls st X k q) : ∃ v X', Q v X' ∧ aKt rk w (G' v X') nx ls st X k q := by
  unfold aKt at z ⊢
  split at z
  · unfold aV0 at z; split at z
    · exact h _ _ _ _ _ _ z
    · exact z.elim
  · unfold aV0 at z; split at z
    · exact h _ _ _ _ _ _ z
    · exact z.elim
  · unfold aV1 at z; split at z
    · exact h _ _ _ _ _ _ z
    · exact z.elim
  · unfold aV2 at z; split at z
    · exact h _ _ _ _ _ _ z
    · exact z.elim
  · unfold aV3 at z; split at z
    · obtain ⟨v, X', h1, h2⟩ := h _ _ _ _ _ _ z
      refine ⟨v, X', h1, ?_⟩
      simp only [aV3]
      exact h2
    · obtain ⟨v, X', h1, h2⟩ := h _ _ _ _ _ _ z
      refine ⟨v, X', h1, ?_⟩
      simp only [aV3]
      exact h2
    · exact z.elim
theorem aIf_out {rk : Nat} {P R : Prop} (h : aIf rk P R) : R ∧ ∀ R' : Prop, R' → aIf rk P R' := by
  unfold aIf at h ⊢
  split at h
  · exact ⟨h.2, fun _ r => ⟨h.1, r⟩⟩
  · exact ⟨h, fun _ r => r⟩
theorem aGo0_pick : ∀ (n mi : Nat) (Q : aQ) (pc : Nat) (ls : aL) (st : List Value) (X : aX) (k q : Nat), aGo0 n mi Q pc ls st X k q → ∃ v X', Q v X' ∧ aGo0 n mi (aOne v X') pc ls st X k q
  | 0, _, _, _, _, _, _, _, _, h => False.elim h
  | n + 1, mi, Q, pc, ls, st, X, k, q, h => by
    have ih := fun pc ls st X k q => aGo0_pick n mi Q pc ls st X k q
    unfold aGo0 at h ⊢
    generalize aStep (aCode mi pc) ls st X k q = o at h ⊢
    match o, h with
    | .inl c, h => exact ih _ _ _ _ _ _ h
    | .inr (.inl (P, c)), h =>
      obtain ⟨v, X', h1, h2⟩ := ih _ _ _ _ _ _ h.2
      exact ⟨v, X', h1, h.1, h2⟩
    | .inr (.inr (.inl (l, d))), h => exact aAll_pick2 (G' := fun v X' => aGo0 n mi (aOne v X')) ih h
    | .inr (.inr (.inr (.inl (P, mj, args, rk, nx, ls, st, X, k, q)))), h =>
      obtain ⟨h, hI⟩ := aIf_out h
      obtain ⟨w, Xw, h1, h2⟩ := aGo0_pick n mj _ _ _ _ _ _ _ h
      obtain ⟨v, X', h3, h4⟩ := aKt_pick (G' := fun v X' => aGo0 n mi (aOne v X')) ih h1
      refine ⟨v, X', h3, hI _ (aGo0_mono n n mj _ _ (Nat.le_refl n) ?_ _ _ _ _ _ _ h2)⟩
      rintro v2 X2 ⟨rfl, rfl⟩
      exact h4
    | .inr (.inr (.inr (.inr (.inl (v, X))))), h => exact ⟨v, X, h, rfl, rfl⟩
    | .inr (.inr (.inr (.inr (.inr (P, v, X))))), h => exact ⟨v, X, h.2, h.1, rfl, rfl⟩
theorem aAll_ex {mi : Nat} {Q : aQ} {d : aCfg} : ∀ {l : List (Prop × aCfg)}, aAll (aGo mi Q) d l → ∃ n, aAll (aGo0 n mi Q) d l
  | [], z => z
  | (P, c) :: r, z => by
    by_cases p : P
    · obtain ⟨n, h⟩ := z.1 p
      exact ⟨n, fun _ => h, fun np => absurd p np⟩
    · obtain ⟨n, h⟩ := aAll_ex (z.2 p)
      exact ⟨n, fun pp => absurd pp p, fun _ => h⟩
theorem aKt_ex {mi : Nat} {Q : aQ} {rk : Nat} {w : Option Value} {nx : Nat} {ls : aL} {st : List Value} {X : aX} {k q : Nat} (z : aKt rk w (aGo mi Q) nx ls st X k q) : ∃ n, aKt rk w (aGo0 n mi Q) nx ls st X k q := by
  unfold aKt at z ⊢
  split at z
  · unfold aV0 at z; split at z
    · exact z
    · exact z.elim
  · unfold aV0 at z; split at z
    · exact z
    · exact z.elim
  · unfold aV1 at z; split at z
    · exact z
    · exact z.elim
  · unfold aV2 at z; split at z
    · exact z
    · exact z.elim
  · unfold aV3 at z; split at z
    · obtain ⟨n, h⟩ := z
      refine ⟨n, ?_⟩
      simp only [aV3]
      exact h
    · obtain ⟨n, h⟩ := z
      refine ⟨n, ?_⟩
      simp only [aV3]
      exact h
    · exact z.elim
/-- one instruction -/
theorem aGo_step {mi : Nat} {Q : aQ} {pc : Nat} {ls : aL} {st : List Value} {X : aX} {k q : Nat} (h : aRun aCall Q (aGo mi Q) (aStep (aCode mi pc) ls st X k q)) : aGo mi Q pc ls st X k q := by
  suffices z : ∃ n, aRun (fun mj args X' Q' => aGo0 n mj Q' 0 (aEntry (aML mj) args) [] X' 0 0) Q (aGo0 n mi Q) (aStep (aCode mi pc) ls st X k q) by
    obtain ⟨n, hn⟩ := z
    exact ⟨n + 1, hn⟩
  generalize aStep (aCode mi pc) ls st X k q = o at h ⊢
  match o, h with
  | .inl c, h => exact h
  | .inr (.inl (P, c)), h =>
    obtain ⟨n, hn⟩ := h.2
    exact ⟨n, h.1, hn⟩
  | .inr (.inr (.inl (l, d))), h => exact aAll_ex (l := l) h
  | .inr (.inr (.inr (.inl (P, mj, args, rk, nx, ls, st, X, k, q)))), h =>
    obtain ⟨h, hI⟩ := aIf_out h
    obtain ⟨n, hn⟩ := h
    obtain ⟨w, Xw, h1, h2⟩ := aGo0_pick n mj _ _ _ _ _ _ _ hn
    obtain ⟨n', h3⟩ := aKt_ex h1
    refine ⟨n + n', hI _ (aGo0_mono n (n + n') mj _ _ (by omega) ?_ _ _ _ _ _ _ h2)⟩
    rintro v2 X2 ⟨rfl, rfl⟩
    exact aKt_mono (fun _ _ _ _ _ _ z => aGo0_mono n' (n + n') mi Q Q (by omega) (fun _ _ z => z) _ _ _ _ _ _ z) h3
  | .inr (.inr (.inr (.inr (.inl (v, X))))), h => exact ⟨0, h⟩
  | .inr (.inr (.inr (.inr (.inr (P, v, X))))), h => exact ⟨0, h⟩
/-- up to n instructions, to the places where cut says true -/
def aFF (mi : Nat) (Q : aQ) (cut : Nat → Bool) (G : aG) : Nat → aG
  | 0 => G
  | n + 1 => fun pc ls st X k q => aRun aCall Q (fun pc' ls' st' X' k' q' => cond (cut pc') (G pc' ls' st' X' k' q') (aFF mi Q cut G n pc' ls' st' X' k' q')) (aStep (aCode mi pc) ls st X k q)
theorem aCall_mono {mj : Nat} {args : List Value} {X : aX} {R R' : aQ} (h : ∀ v X', R v X' → R' v X') : aCall mj args X R → aCall mj args X R' := fun ⟨n, z⟩ => ⟨n, aGo0_mono n n mj _ _ (Nat.le_refl n) h _ _ _ _ _ _ z⟩
theorem aGo_mono {mi : Nat} {Q Q' : aQ} (h : ∀ v X', Q v X' → Q' v X') {pc : Nat} {ls : aL} {st : List Value} {X : aX} {k q : Nat} : aGo mi Q pc ls st X k q → aGo mi Q' pc ls st X k q := fun ⟨n, z⟩ => ⟨n, aGo0_mono n n mi _ _ (Nat.le_refl n) h _ _ _ _ _ _ z⟩
theorem aFF_go {mi : Nat} {Q : aQ} (cut : Nat → Bool) : ∀ (n : Nat) {pc : Nat} {ls : aL} {st : List Value} {X : aX} {k q : Nat}, aFF mi Q cut (aGo mi Q) n pc ls st X k q → aGo mi Q pc ls st X k q
  | 0, _, _, _, _, _, _, h => h
  | n + 1, pc, ls, st, X, k, q, h => by
    have h : aRun aCall Q (fun pc' ls' st' X' k' q' => cond (cut pc') (aGo mi Q pc' ls' st' X' k' q') (aFF mi Q cut (aGo mi Q) n pc' ls' st' X' k' q')) (aStep (aCode mi pc) ls st X k q) := h
    refine aGo_step (aRun_mono (call := aCall) (call' := aCall) (fun mj args X R R' hR z => aCall_mono hR z) (fun _ _ z => z) (fun pc' ls' st' X' k' q' z => ?_) h)
    cases hc : cut pc' with
    | true => rw [hc] at z; exact z
    | false => rw [hc] at z; exact aFF_go cut n z
