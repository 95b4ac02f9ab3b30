-- needs: 01 02 06 08 09
/-- some locals are forgotten -/
def bMk : List Bool → bL → bL
  | true :: m, v :: ls => v :: bMk m ls
  | false :: m, _ :: ls => none :: bMk m ls
  | _, ls => ls
def bAp (G : bG) (c : bCfg) : Prop := G c.1 c.2.1 c.2.2.1 c.2.2.2
/-- by cases, or else -/
def bAll (G : bG) (d : bCfg) : List (Prop × bCfg) → Prop
  | [] => bAp G d
  | (P, c) :: r => (P → bAp G c) ∧ (¬ P → bAll G d r)
-- what a call answers: nothing, an int, a cell, a cell or null
abbrev bV0 (v : Option bV) (K : Prop) : Prop := match v with
  | none => K
  | _ => False
abbrev bV1 (v : Option bV) (K : Int32 → Prop) : Prop := match v with
  | some (.inl x) => K x
  | _ => False
abbrev bV4 (v : Option bV) (g : Nat) (K : Nat → Prop) : Prop := match v with
  | some (.inr (.inr (.inl (g', j)))) => g' = g ∧ K j
  | _ => False
abbrev bV5 (v : Option bV) (g : Nat) (K0 : Prop) (K : Nat → Prop) : Prop := match v with
  | some (.inr (.inr (.inr _))) => K0
  | some (.inr (.inr (.inl (g', j)))) => g' = g ∧ K j
  | _ => False
abbrev bKn0 (rk : Nat) (v : Option bV) (G : bG) (nx : Nat) (ls : bL) (st : List bV) (X : bM) : Prop := match rk with
  | 0 => bV0 v (G nx ls st X)
  | 1 => bV1 v (fun x => G nx ls (.inl x :: st) X)
  | rk => cond (Nat.ble 200 rk) (bV5 v (rk - 200) (G nx ls (.inr (.inr (.inr ())) :: st) X) (fun j => G nx ls (.inr (.inr (.inl (rk - 200, j))) :: st) X)) (bV4 v (rk - 100) (fun j => G nx ls (.inr (.inr (.inl (rk - 100, j))) :: st) X))
def bRun (call : Nat → List bV → bM → bQ → Prop) (Q : bQ) (G : bG) : bO → Prop
  | .inl c => bAp G c
  | .inr (.inl (P, c)) => P ∧ bAp G c
  | .inr (.inr (.inl (l, d))) => bAll G d l
  | .inr (.inr (.inr (.inl (mj, args, rk, nx, ls, st, X)))) => call mj args X (fun v X' => bKn0 rk v G nx ls st X')
  | .inr (.inr (.inr (.inr (.inl (v, X))))) => Q v X
  | .inr (.inr (.inr (.inr (.inr (P, v, X))))) => P ∧ Q v X
/-- with fuel: from here the method mi ends, and then Q -/
def bGo0 : Nat → Nat → bQ → bG
  | 0, _, _ => fun _ _ _ _ => False
  | n + 1, mi, Q => fun pc ls st X => bRun (fun mj args X' Q' => bGo0 n mj Q' 0 (bEntry (aML mj) args) [] X') Q (bGo0 n mi Q) (bStep (aCode mi pc) (bMk (bMask mi pc) ls) st X)
def bGo (mi : Nat) (Q : bQ) : bG := fun pc ls st X => ∃ n, bGo0 n mi Q pc ls st X
/-- the call of mj with these arguments ends, and then Q -/
def bCall (mj : Nat) (args : List bV) (X : bM) (Q : bQ) : Prop := bGo mj Q 0 (bEntry (aML mj) args) [] X
theorem bAll_mono {G G' : bG} (hG : ∀ pc ls st X, G pc ls st X → G' pc ls st X) {d : bCfg} : ∀ {l : List (Prop × bCfg)}, bAll G d l → bAll G' d l
  | [], h => hG _ _ _ _ h
  | (P, c) :: r, h => ⟨fun p => hG _ _ _ _ (h.1 p), fun p => bAll_mono hG (h.2 p)⟩
theorem bV0_mono {v : Option bV} {K K' : Prop} (h : K → K') : bV0 v K → bV0 v K' := by
  unfold bV0; split <;> first | exact h | exact id
theorem bV1_mono {v : Option bV} {K K' : Int32 → Prop} (h : ∀ x, K x → K' x) : bV1 v K → bV1 v K' := by
  unfold bV1; split <;> first | exact h _ | exact id
theorem bV4_mono {v : Option bV} {g : Nat} {K K' : Nat → Prop} (h : ∀ x, K x → K' x) : bV4 v g K → bV4 v g K' := by
  unfold bV4; split <;> first | exact fun z => ⟨z.1, h _ z.2⟩ | exact id
theorem bV5_mono {v : Option bV} {g : Nat} {K0 K0' : Prop} {K K' : Nat → Prop} (h0 : K0 → K0') (h : ∀ x, K x → K' x) : bV5 v g K0 K → bV5 v g K0' K' := by
  unfold bV5; split <;> first | exact h0 | exact fun z => ⟨z.1, h _ z.2⟩ | exact id
theorem bKn0_mono {rk : Nat} {v : Option bV} {G G' : bG} (hG : ∀ pc ls st X, G pc ls st X → G' pc ls st X) {nx : Nat} {ls : bL} {st : List bV} {X : bM} : bKn0 rk v G nx ls st X → bKn0 rk v G' nx ls st X := by
  unfold bKn0
  split
  · exact bV0_mono (hG _ _ _ _)
  · exact bV1_mono (fun _ => hG _ _ _ _)
  · cases Nat.ble 200 rk
    · exact bV4_mono (fun _ => hG _ _ _ _)
    · exact bV5_mono (hG _ _ _ _) (fun _ => hG _ _ _ _)
theorem bRun_mono {call call' : Nat → List bV → bM → bQ → Prop} {Q Q' : bQ} {G G' : bG} (hc : ∀ mj args X (R R' : bQ), (∀ v X', R v X' → R' v X') → call mj args X R → call' mj args X R') (hQ : ∀ v X, Q v X → Q' v X) (hG : ∀ pc ls st X, G pc ls st X → G' pc ls st X) : ∀ {o : bO}, bRun call Q G o → bRun call' Q' G' o
  | .inl c, h => hG _ _ _ _ h
  | .inr (.inl (P, c)), h => ⟨h.1, hG _ _ _ _ h.2⟩
  | .inr (.inr (.inl (l, d))), h => bAll_mono hG (l := l) h
  | .inr (.inr (.inr (.inl (mj, args, rk, nx, ls, st, X)))), h => hc _ _ _ _ _ (fun v X' z => bKn0_mono hG z) h
  | .inr (.inr (.inr (.inr (.inl (v, X))))), h => hQ _ _ h
  | .inr (.inr (.inr (.inr (.inr (P, v, X))))), h => ⟨h.1, hQ _ _ h.2⟩
theorem bGo0_mono : ∀ (n n' mi : Nat) (Q Q' : bQ), n ≤ n' → (∀ v X, Q v X → Q' v X) → ∀ pc ls st X, bGo0 n mi Q pc ls st X → bGo0 n' mi Q' pc ls st X
  | 0, _, _, _, _, _, _, _, _, _, _, h => False.elim h
  | n + 1, 0, _, _, _, hn, _, _, _, _, _, _ => absurd hn (Nat.not_succ_le_zero n)
  | n + 1, n' + 1, mi, Q, Q', hn, hQ, pc, ls, st, X, h => by
    unfold bGo0 at h ⊢
    exact bRun_mono (call' := fun mj args X' Q' => bGo0 n' mj Q' 0 (bEntry (aML mj) args) [] X') (fun mj args X R R' hR z => bGo0_mono n n' mj R R' (Nat.le_of_succ_le_succ hn) hR _ _ _ _ z) hQ (fun pc ls st X z => bGo0_mono n n' mi Q Q' (Nat.le_of_succ_le_succ hn) hQ pc ls st X z) h
def bOne (v : Option bV) (X : bM) : bQ := fun v2 X2 => v2 = v ∧ X2 = X
theorem bAll_pick2 {G : bG} {Q : bQ} {G' : Option bV → bM → bG} (h : ∀ pc ls st X, G pc ls st X → ∃ v X', Q v X' ∧ G' v X' pc ls st X) {d : bCfg} : ∀ {l : List (Prop × bCfg)}, bAll G d l → ∃ v X', Q v X' ∧ bAll (G' v X') d l
  | [], z => h _ _ _ _ z
  | (P, c) :: r, z => by
    by_cases p : P
    · obtain ⟨v, X', h1, h2⟩ := h _ _ _ _ (z.1 p)
      exact ⟨v, X', h1, fun _ => h2, fun np => absurd p np⟩
    · obtain ⟨v, X', h1, h2⟩ := bAll_pick2 h (z.2 p)
      exact ⟨v, X', h1, fun pp => absurd pp p, fun _ => h2⟩
theorem bKn0_pick {rk : Nat} {w : Option bV} {G : bG} {Q : bQ} {G' : Option bV → bM → bG} (h : ∀ pc ls st X, G pc ls st X → ∃ v X', Q v X' ∧ G' v X' pc ls st X) {nx : Nat} {ls : bL} {st : List bV} {X : bM} (z : bKn0 rk w G nx ls st X) : ∃ v X', Q v X' ∧ bKn0 rk w (G' v X') nx ls st X := by
  unfold bKn0 at z ⊢
  split at z
  · unfold bV0 at z; split at z
    · exact h _ _ _ _ z
    · exact z.elim
  · unfold bV1 at z; split at z
    · exact h _ _ _ _ z
    · exact z.elim
  · cases hc : Nat.ble 200 rk with
    | false =>
      rw [hc] at z
      simp only [cond_false] at z ⊢
      unfold bV4 at z; split at z
      · obtain ⟨v, X', h1, h2⟩ := h _ _ _ _ z.2
        exact ⟨v, X', h1, z.1, h2⟩
      · exact z.elim
    | true =>
      rw [hc] at z
      simp only [cond_true] at z ⊢
      unfold bV5 at z; split at z
      · obtain ⟨v, X', h1, h2⟩ := h _ _ _ _ z
        refine ⟨v, X', h1, ?_⟩
        simp only [bV5]
        exact h2
      · obtain ⟨v, X', h1, h2⟩ := h _ _ _ _ z.2
        exact ⟨v, X', h1, z.1, h2⟩
      · exact z.elim
theorem bGo0_pick : ∀ (n mi : Nat) (Q : bQ) (pc : Nat) (ls : bL) (st : List bV) (X : bM), bGo0 n mi Q pc ls st X → ∃ v X', Q v X' ∧ bGo0 n mi (bOne v X') pc ls st X
  | 0, _, _, _, _, _, _, h => False.elim h
  | n + 1, mi, Q, pc, ls, st, X, h => by
    have ih := fun pc ls st X => bGo0_pick n mi Q pc ls st X
    unfold bGo0 at h ⊢
    generalize bStep (aCode mi pc) (bMk (bMask mi pc) ls) st X = o at h ⊢
    match o, h with
    | .inl c, h => exact ih _ _ _ _ h
    | .inr (.inl (P, c)), h =>
      obtain ⟨v, X', h1, h2⟩ := ih _ _ _ _ h.2
      exact ⟨v, X', h1, h.1, h2⟩
    | .inr (.inr (.inl (l, d))), h => exact bAll_pick2 (G' := fun v X' => bGo0 n mi (bOne v X')) ih h
    | .inr (.inr (.inr (.inl (mj, args, rk, nx, ls, st, X)))), h =>
      obtain ⟨w, Xw, h1, h2⟩ := bGo0_pick n mj _ _ _ _ _ h
      obtain ⟨v, X', h3, h4⟩ := bKn0_pick (G' := fun v X' => bGo0 n mi (bOne v X')) ih h1
      refine ⟨v, X', h3, bGo0_mono n n mj _ _ (Nat.le_refl n) ?_ _ _ _ _ h2⟩
      rintro v2 X2 ⟨rfl, rfl⟩
      exact h4
    | .inr (.inr (.inr (.inr (.inl (v, X))))), h => exact ⟨v, X, h, rfl, rfl⟩
    | .inr (.inr (.inr (.inr (.inr (P, v, X))))), h => exact ⟨v, X, h.2, h.1, rfl, rfl⟩
theorem bAll_ex {mi : Nat} {Q : bQ} {d : bCfg} : ∀ {l : List (Prop × bCfg)}, bAll (bGo mi Q) d l → ∃ n, bAll (bGo0 n mi Q) d l
  | [], z => z
  | (P, c) :: r, z => by
    by_cases p : P
    · obtain ⟨n, h⟩ := z.1 p
      exact ⟨n, fun _ => h, fun np => absurd p np⟩
    · obtain ⟨n, h⟩ := bAll_ex (z.2 p)
      exact ⟨n, fun pp => absurd pp p, fun _ => h⟩
theorem bKn0_ex {mi : Nat} {Q : bQ} {rk : Nat} {w : Option bV} {nx : Nat} {ls : bL} {st : List bV} {X : bM} (z : bKn0 rk w (bGo mi Q) nx ls st X) : ∃ n, bKn0 rk w (bGo0 n mi Q) nx ls st X := by
  unfold bKn0 at z ⊢
  split at z
  · unfold bV0 at z; split at z
    · exact z
    · exact z.elim
  · unfold bV1 at z; split at z
    · exact z
    · exact z.elim
  · cases hc : Nat.ble 200 rk with
    | false =>
      rw [hc] at z
      simp only [cond_false] at z ⊢
      unfold bV4 at z; split at z
      · obtain ⟨n, h⟩ := z.2
        exact ⟨n, z.1, h⟩
      · exact z.elim
    | true =>
      rw [hc] at z
      simp only [cond_true] at z ⊢
      unfold bV5 at z; split at z
      · obtain ⟨n, h⟩ := z
        refine ⟨n, ?_⟩
        simp only [bV5]
        exact h
      · obtain ⟨n, h⟩ := z.2
        exact ⟨n, z.1, h⟩
      · exact z.elim
/-- one instruction -/
theorem bGo_step {mi : Nat} {Q : bQ} {pc : Nat} {ls : bL} {st : List bV} {X : bM} (h : bRun bCall Q (bGo mi Q) (bStep (aCode mi pc) (bMk (bMask mi pc) ls) st X)) : bGo mi Q pc ls st X := by
  suffices z : ∃ n, bRun (fun mj args X' Q' => bGo0 n mj Q' 0 (bEntry (aML mj) args) [] X') Q (bGo0 n mi Q) (bStep (aCode mi pc) (bMk (bMask mi pc) ls) st X) by
    obtain ⟨n, hn⟩ := z
    exact ⟨n + 1, hn⟩
  generalize bStep (aCode mi pc) (bMk (bMask mi pc) ls) st X = o at h ⊢
  match o, h with
  | .inl c, h => exact h
  | .inr (.inl (P, c)), h =>
    obtain ⟨n, hn⟩ := h.2
    exact ⟨n, h.1, hn⟩
  | .inr (.inr (.inl (l, d))), h => exact bAll_ex (l := l) h
  | .inr (.inr (.inr (.inl (mj, args, rk, nx, ls, st, X)))), h =>
    obtain ⟨n, hn⟩ := h
    obtain ⟨w, Xw, h1, h2⟩ := bGo0_pick n mj _ _ _ _ _ hn
    obtain ⟨n', h3⟩ := bKn0_ex h1
    refine ⟨n + n', bGo0_mono n (n + n') mj _ _ (by omega) ?_ _ _ _ _ h2⟩
    rintro v2 X2 ⟨rfl, rfl⟩
    exact bKn0_mono (fun _ _ _ _ z => bGo0_mono n' (n + n') mi Q Q (by omega) (fun _ _ z => z) _ _ _ _ z) h3
  | .inr (.inr (.inr (.inr (.inl (v, X))))), h => exact ⟨0, h⟩
  | .inr (.inr (.inr (.inr (.inr (P, v, X))))), h => exact ⟨0, h⟩
/-- up to n instructions, to the places where cut says true -/
def bFF (mi : Nat) (Q : bQ) (cut : Nat → Bool) (G : bG) : Nat → bG
  | 0 => G
  | n + 1 => fun pc ls st X => bRun bCall Q (fun pc' ls' st' X' => cond (cut pc') (G pc' ls' st' X') (bFF mi Q cut G n pc' ls' st' X')) (bStep (aCode mi pc) (bMk (bMask mi pc) ls) st X)
theorem bCall_mono {mj : Nat} {args : List bV} {X : bM} {R R' : bQ} (h : ∀ v X', R v X' → R' v X') : bCall mj args X R → bCall mj args X R' := fun ⟨n, z⟩ => ⟨n, bGo0_mono n n mj _ _ (Nat.le_refl n) h _ _ _ _ z⟩
theorem bGo_mono {mi : Nat} {Q Q' : bQ} (h : ∀ v X', Q v X' → Q' v X') {pc : Nat} {ls : bL} {st : List bV} {X : bM} : bGo mi Q pc ls st X → bGo mi Q' pc ls st X := fun ⟨n, z⟩ => ⟨n, bGo0_mono n n mi _ _ (Nat.le_refl n) h _ _ _ _ z⟩
theorem bFF_go {mi : Nat} {Q : bQ} (cut : Nat → Bool) : ∀ (n : Nat) {pc : Nat} {ls : bL} {st : List bV} {X : bM}, bFF mi Q cut (bGo mi Q) n pc ls st X → bGo mi Q pc ls st X
  | 0, _, _, _, _, h => h
  | n + 1, pc, ls, st, X, h => by
    have h : bRun bCall Q (fun pc' ls' st' X' => cond (cut pc') (bGo mi Q pc' ls' st' X') (bFF mi Q cut (bGo mi Q) n pc' ls' st' X')) (bStep (aCode mi pc) (bMk (bMask mi pc) ls) st X) := h
    refine bGo_step (bRun_mono (call := bCall) (call' := bCall) (fun mj args X R R' hR z => bCall_mono hR z) (fun _ _ z => z) (fun pc' ls' st' X' z => ?_) h)
    cases hc : cut pc' with
    | true => rw [hc] at z; exact z
    | false => rw [hc] at z; exact bFF_go cut n z
