-- needs: 01 02 03 04 05 06 08 09 10 20
/-! THE SECOND MACHINE OVER THE FIRST: the world of cells, the locals, the shape. -/
/-- the cells that there are -/
def bVs : List (Nat × Nat) := (List.range 64).flatMap (fun g => (List.range (bCnt g)).map (fun j => (g, j)))
theorem bVs_nodup : bVs.Nodup := by decide +kernel
def bTr (φ : Nat → Nat → Nat) : bV → Value
  | .inl x => .int x
  | .inr (.inl x) => .long x
  | .inr (.inr (.inl t)) => .ref (φ t.1 t.2)
  | .inr (.inr (.inr _)) => .null
def bOkV : bV → Prop
  | .inr (.inr (.inl t)) => t ∈ bVs
  | _ => True
def bFld (φ : Nat → Nat → Nat) (M : bM) (g j k : Nat) : Value := match bFr g k j with
  | some t => .ref (φ t.1 t.2)
  | none => .int (M g j k)
def bCell (cA : Nat → ClassId) (φ : Nat → Nat → Nat) (M : bM) (g j : Nat) : va_E := match bKd g with
  | 0 => .inl (cA (bKt g), bKn g, .inl (M g j))
  | 1 => .inl (cA (bKt g), bKn g, .inr (.inr (.inr (.inr (fun i => some (φ (bRr g j i).1 (bRr g j i).2))))))
  | _ => .inr (bKt g, (List.range (bKn g)).map (bFld φ M g j))
def bWd (cA : Nat → ClassId) (φ : Nat → Nat → Nat) (M : bM) : va_W := bVs.map (fun q => (φ q.1 q.2, bCell cA φ M q.1 q.2))
theorem bWd_get {cA : Nat → ClassId} {φ : Nat → Nat → Nat} {M : bM} {k g j : Nat} (h : bVs[k]? = some (g, j)) : (bWd cA φ M)[k]? = some (φ g j, bCell cA φ M g j) := by
  unfold bWd
  rw [List.getElem?_map, h]
  rfl
theorem bVs_at {t : Nat × Nat} (h : t ∈ bVs) : ∃ k : Nat, bVs[k]? = some t := List.getElem?_of_mem h
theorem bCell_row {cA : Nat → ClassId} {φ : Nat → Nat → Nat} {M M' : bM} {g j : Nat} (h : M' g j = M g j) : bCell cA φ M' g j = bCell cA φ M g j := by
  unfold bCell bFld
  rw [h]
theorem bWd_set {cA : Nat → ClassId} {φ : Nat → Nat → Nat} {M M' : bM} {k g j : Nat} (hk : bVs[k]? = some (g, j)) (h : ∀ g' j', (g', j') ≠ (g, j) → M' g' j' = M g' j') : (bWd cA φ M).set k (φ g j, bCell cA φ M' g j) = bWd cA φ M' := by
  apply List.ext_getElem?
  intro n
  rw [List.getElem?_set]
  by_cases hn : k = n
  · subst hn
    have hl : k < (bWd cA φ M).length := by
      unfold bWd
      rw [List.length_map]
      exact (List.getElem?_eq_some_iff.mp hk).1
    rw [if_pos rfl, if_pos hl, bWd_get hk]
  · rw [if_neg hn]
    unfold bWd
    rw [List.getElem?_map, List.getElem?_map]
    cases hq : bVs[n]? with
    | none => rfl
    | some q =>
      have hne : (q.1, q.2) ≠ (g, j) := by
        intro he
        apply hn
        have h1 : k < bVs.length := (List.getElem?_eq_some_iff.mp hk).1
        exact (List.getElem?_inj h1 bVs_nodup).mp (by rw [hk, hq]; exact congrArg some he.symm)
      simp only [Option.map_some]
      rw [bCell_row (h q.1 q.2 hne)]
theorem bU_other {M : bM} {g j i : Nat} {x : Int32} (g' j' : Nat) (h : (g', j') ≠ (g, j)) : bU M g j i x g' j' = M g' j' := by
  funext k
  unfold bU
  have hb : (Nat.beq g' g && (Nat.beq j' j && Nat.beq k i)) = false := by
    cases h1 : Nat.beq g' g with
    | false => rfl
    | true =>
      cases h2 : Nat.beq j' j with
      | false => rfl
      | true => exact absurd (by rw [Nat.eq_of_beq_eq_true h1, Nat.eq_of_beq_eq_true h2]) h
  rw [hb]
  rfl
theorem bU_row {M : bM} {g j i : Nat} {x : Int32} : bU M g j i x g j = upd (M g j) i x := by
  funext k
  unfold bU upd
  rw [Nat.beq_refl, Nat.beq_refl]
  simp only [Bool.true_and]
  by_cases hk : k = i
  · subst hk
    rw [Nat.beq_refl, if_pos rfl]
    rfl
  · rw [if_neg hk]
    cases h : Nat.beq k i with
    | false => rfl
    | true => exact absurd (Nat.eq_of_beq_eq_true h) hk
theorem bCp_other {M : bM} {g j g' j' : Nat} {sp dp n : Int32} (a b : Nat) (h : (a, b) ≠ (g', j')) : bCp M g j g' j' sp dp n a b = M a b := by
  funext k
  unfold bCp
  have hb : (Nat.beq a g' && Nat.beq b j') = false := by
    cases h1 : Nat.beq a g' with
    | false => rfl
    | true =>
      cases h2 : Nat.beq b j' with
      | false => rfl
      | true => exact absurd (by rw [Nat.eq_of_beq_eq_true h1, Nat.eq_of_beq_eq_true h2]) h
  rw [hb]
  rfl
theorem bCp_row {M : bM} {g j g' j' : Nat} {sp dp n : Int32} : bCp M g j g' j' sp dp n g' j' = va_cpy (M g j) (M g' j') sp.toNatClampNeg dp.toNatClampNeg n.toNatClampNeg := by
  funext k
  unfold bCp
  rw [Nat.beq_refl, Nat.beq_refl]
  rfl
theorem bFlds_set {φ : Nat → Nat → Nat} {M : bM} {g j f : Nat} {x : Int32} {n : Nat} (hn : bFr g f j = none) : (List.range n).map (bFld φ (bU M g j f x) g j) = ((List.range n).map (bFld φ M g j)).set f (.int x) := by
  apply List.ext_getElem?
  intro k
  rw [List.getElem?_set, List.getElem?_map, List.getElem?_map, List.length_map, List.length_range]
  by_cases hk : f = k
  · subst hk
    rw [if_pos rfl]
    by_cases hl : f < n
    · rw [if_pos hl, List.getElem?_range hl]
      simp only [Option.map_some, bFld, hn]
      rw [bU_row]
      simp [upd]
    · rw [if_neg hl, List.getElem?_eq_none (by rw [List.length_range]; omega)]
      rfl
  · rw [if_neg hk]
    by_cases hl : k < n
    · rw [List.getElem?_range hl]
      simp only [Option.map_some, bFld]
      rw [bU_row]
      simp [upd, Ne.symm hk]
    · rw [List.getElem?_eq_none (by rw [List.length_range]; omega)]
      rfl
theorem va_D_addr {A : Nat → Prop} {cA : Nat → ClassId} {φ : Nat → Nat → Nat} {M M' : bM} (h : va_D A (bWd cA φ M)) : va_D A (bWd cA φ M') := by
  have key : ∀ (k : Nat) (q : Nat × va_E), (bWd cA φ M')[k]? = some q → ∃ e, (bWd cA φ M)[k]? = some (q.1, e) := by
    intro k q hq
    unfold bWd at hq ⊢
    rw [List.getElem?_map] at hq ⊢
    cases hv : bVs[k]? with
    | none => rw [hv] at hq; cases hq
    | some t =>
      rw [hv] at hq
      simp only [Option.map_some, Option.some.injEq] at hq ⊢
      subst hq
      exact ⟨_, rfl⟩
  refine ⟨fun i j p q hi hj hpq => ?_, fun k q hq => ?_⟩
  · obtain ⟨e1, h1⟩ := key i p hi
    obtain ⟨e2, h2⟩ := key j q hj
    exact h.1 i j _ _ h1 h2 hpq
  · obtain ⟨e1, h1⟩ := key k q hq
    exact h.2 k (q.1, e1) h1
theorem va_A_addr {cA : Nat → ClassId} {φ : Nat → Nat → Nat} {M M' : bM} {sz : Nat} {q : Nat} (h : va_A (bWd cA φ M) sz q) : va_A (bWd cA φ M') sz q := by
  rcases h with ⟨k, e, h⟩ | h
  · left
    unfold bWd at h ⊢
    rw [List.getElem?_map] at h
    cases hv : bVs[k]? with
    | none => rw [hv] at h; cases h
    | some t =>
      rw [hv] at h
      simp only [Option.map_some, Option.some.injEq] at h
      refine ⟨k, bCell cA φ M' t.1 t.2, ?_⟩
      rw [List.getElem?_map, hv]
      simp only [Option.map_some]
      rw [(Prod.mk.inj h).1]
  · exact Or.inr h
-- locals
def bPr (φ : Nat → Nat → Nat) : Nat → bL → List (Nat × Value)
  | _, [] => []
  | i, some v :: r => (i, bTr φ v) :: bPr φ (i + 1) r
  | i, none :: r => bPr φ (i + 1) r
theorem bPr_mem {φ : Nat → Nat → Nat} : ∀ {k : Nat} {ls : bL} {q : Nat × Value}, q ∈ bPr φ k ls ↔ ∃ n v, ls[n]? = some (some v) ∧ q = (k + n, bTr φ v)
  | k, [], q => by simp [bPr]
  | k, some v :: r, q => by
    simp only [bPr, List.mem_cons, bPr_mem (k := k + 1) (ls := r)]
    constructor
    · rintro (rfl | ⟨n, w, h1, h2⟩)
      · exact ⟨0, v, rfl, rfl⟩
      · exact ⟨n + 1, w, h1, by rw [h2]; congr 1; omega⟩
    · rintro ⟨n, w, h1, h2⟩
      cases n with
      | zero => left; cases h1; exact h2
      | succ n => right; exact ⟨n, w, h1, by rw [h2]; congr 1; omega⟩
  | k, none :: r, q => by
    simp only [bPr, bPr_mem (k := k + 1) (ls := r)]
    constructor
    · rintro ⟨n, w, h1, h2⟩
      exact ⟨n + 1, w, h1, by rw [h2]; congr 1; omega⟩
    · rintro ⟨n, w, h1, h2⟩
      cases n with
      | zero => cases h1
      | succ n => exact ⟨n, w, h1, by rw [h2]; congr 1; omega⟩
theorem lv_mono {ls : Array Slot} {nL : Nat} {l l' : List (Nat × Value)} (h : lv_has ls nL l) (hs : ∀ q ∈ l', q ∈ l) : lv_has ls nL l' := ⟨h.1, h.2.1, fun q hq => h.2.2 q (hs q hq)⟩
def bOkL (ls : bL) : Prop := ∀ (n : Nat) (v : bV), ls[n]? = some (some v) → bOkV v
theorem bLd_at {ls : bL} {i : Nat} {v : bV} (h : bLd ls i = some v) : ls[i]? = some (some v) := by
  unfold bLd at h
  split at h
  · rename_i w hw
    rw [hw, h]
  · cases h
theorem bLd_has {φ : Nat → Nat → Nat} {A : Array Slot} {nL : Nat} {ls : bL} {i : Nat} {v : bV} (hl : lv_has A nL (bPr φ 0 ls)) (h : bLd ls i = some v) : A[i]? = some (.val (bTr φ v)) := by
  have := hl.2.2 (i, bTr φ v) (bPr_mem.mpr ⟨i, v, bLd_at h, by rw [Nat.zero_add]⟩)
  exact this
theorem bMk_at : ∀ {m : List Bool} {ls : bL} {n : Nat} {v : bV}, (bMk m ls)[n]? = some (some v) → ls[n]? = some (some v)
  | [], ls, n, v, h => by simp only [bMk] at h; exact h
  | _ :: _, [], n, v, h => by simpa [bMk] using h
  | true :: m, w :: ls, 0, v, h => h
  | true :: m, w :: ls, n + 1, v, h => bMk_at (m := m) (ls := ls) (n := n) h
  | false :: m, w :: ls, 0, v, h => by simp [bMk] at h
  | false :: m, w :: ls, n + 1, v, h => bMk_at (m := m) (ls := ls) (n := n) h
theorem bKill_at {ls : bL} {i n : Nat} {v : bV} (h : (bKill ls i)[n]? = some (some v)) : ls[n]? = some (some v) ∧ (n + 1 = i → bTwo (some v) = false) := by
  unfold bKill at h
  split at h
  · exact ⟨h, fun e => by omega⟩
  · rename_i j
    cases hb : bTwo (bLd ls j) with
    | false =>
      rw [hb] at h
      refine ⟨h, fun e => ?_⟩
      have hnj : n = j := by omega
      subst hnj
      have : bLd ls n = some v := by unfold bLd; rw [show ls[n]? = some (some v) from h]
      rw [← this]
      exact hb
    | true =>
      rw [hb] at h
      simp only [cond_true] at h
      rw [List.getElem?_set] at h
      by_cases hj : j = n
      · subst hj
        rw [if_pos rfl] at h
        split at h <;> cases h
      · rw [if_neg hj] at h
        exact ⟨h, fun e => absurd (by omega) hj⟩
theorem bTr_cat {φ : Nat → Nat → Nat} {v : bV} (h : bTwo (some v) = false) : (bTr φ v).category = 1 := by
  match v, h with
  | .inl x, _ => rfl
  | .inr (.inr (.inl t)), _ => rfl
  | .inr (.inr (.inr _)), _ => rfl
theorem bSt_at {ls : bL} {i n : Nat} {v w : bV} (h : (bSt ls i v)[n]? = some (some w)) : (n = i ∧ w = v) ∨ (n ≠ i ∧ ls[n]? = some (some w) ∧ (n + 1 = i → bTwo (some w) = false)) := by
  unfold bSt at h
  rw [List.getElem?_set] at h
  by_cases hn : i = n
  · subst hn
    rw [if_pos rfl] at h
    split at h
    · cases h; exact Or.inl ⟨rfl, rfl⟩
    · cases h
  · rw [if_neg hn] at h
    exact Or.inr ⟨Ne.symm hn, bKill_at h⟩
theorem bSt_sub {φ : Nat → Nat → Nat} {ls : bL} {i : Nat} {v : bV} : ∀ q ∈ bPr φ 0 (bSt ls i v), q ∈ (i, bTr φ v) :: (bPr φ 0 ls).filter (fun q => !(q.1 == i) && !(q.1 + 1 == i && q.2.category == 2)) := by
  intro q hq
  obtain ⟨n, w, h1, rfl⟩ := bPr_mem.mp hq
  rw [Nat.zero_add]
  rcases bSt_at h1 with ⟨rfl, rfl⟩ | ⟨h2, h3, h4⟩
  · exact List.mem_cons_self
  · refine List.mem_cons_of_mem _ (List.mem_filter.mpr ⟨bPr_mem.mpr ⟨n, w, h3, by rw [Nat.zero_add]⟩, ?_⟩)
    by_cases h5 : n + 1 = i
    · simp [h2, bTr_cat (φ := φ) (h4 h5)]
    · simp [h2, h5]
theorem bSt2_sub {φ : Nat → Nat → Nat} {ls : bL} {i : Nat} {v : bV} : ∀ q ∈ bPr φ 0 (bSt2 ls i v), q ∈ (i, bTr φ v) :: (bPr φ 0 ls).filter (fun q => !(q.1 == i) && (!(q.1 == i + 1) && !(q.1 + 1 == i && q.2.category == 2))) := by
  intro q hq
  obtain ⟨n, w, h1, rfl⟩ := bPr_mem.mp hq
  rw [Nat.zero_add]
  unfold bSt2 at h1
  rw [List.getElem?_set] at h1
  by_cases hn : i + 1 = n
  · rw [if_pos hn] at h1
    split at h1 <;> cases h1
  · rw [if_neg hn] at h1
    rcases bSt_at (ls := ls) (i := i) (v := v) h1 with ⟨rfl, rfl⟩ | ⟨h2, h3, h4⟩
    · exact List.mem_cons_self
    · refine List.mem_cons_of_mem _ (List.mem_filter.mpr ⟨bPr_mem.mpr ⟨n, w, h3, by rw [Nat.zero_add]⟩, ?_⟩)
      by_cases h5 : n + 1 = i
      · simp [h2, Ne.symm hn, bTr_cat (φ := φ) (h4 h5)]
      · simp [h2, h5, Ne.symm hn]
theorem bSt_ok {ls : bL} {i : Nat} {v : bV} (h : bOkL ls) (hv : bOkV v) : bOkL (bSt ls i v) := by
  intro n w hw
  rcases bSt_at hw with ⟨rfl, rfl⟩ | ⟨h2, h3, h4⟩
  · exact hv
  · exact h n w h3
theorem bSt2_ok {ls : bL} {i : Nat} {v : bV} (h : bOkL ls) (hv : bOkV v) : bOkL (bSt2 ls i v) := by
  intro n w hw
  unfold bSt2 at hw
  rw [List.getElem?_set] at hw
  by_cases hn : i + 1 = n
  · rw [if_pos hn] at hw
    split at hw <;> cases hw
  · rw [if_neg hn] at hw
    rcases bSt_at (ls := ls) (i := i) (v := v) hw with ⟨rfl, rfl⟩ | ⟨h2, h3, h4⟩
    · exact hv
    · exact h n w h3
theorem bArgs_pr {φ : Nat → Nat → Nat} : ∀ (as : List bV) (k : Nat), bPr φ k (bArgs as) = lv_args k (as.map (bTr φ))
  | [], k => rfl
  | .inl x :: r, k => by
    show (k, Value.int x) :: bPr φ (k + 1) (bArgs r) = (k, Value.int x) :: lv_args (k + 1) (r.map (bTr φ))
    rw [bArgs_pr r (k + 1)]
  | .inr (.inl x) :: r, k => by
    show (k, Value.long x) :: bPr φ (k + 1 + 1) (bArgs r) = (k, Value.long x) :: lv_args (k + 2) (r.map (bTr φ))
    rw [bArgs_pr r (k + 1 + 1)]
  | .inr (.inr (.inl x)) :: r, k => by
    show (k, Value.ref _) :: bPr φ (k + 1) (bArgs r) = (k, Value.ref _) :: lv_args (k + 1) (r.map (bTr φ))
    rw [bArgs_pr r (k + 1)]
  | .inr (.inr (.inr x)) :: r, k => by
    show (k, Value.null) :: bPr φ (k + 1) (bArgs r) = (k, Value.null) :: lv_args (k + 1) (r.map (bTr φ))
    rw [bArgs_pr r (k + 1)]
theorem bArgs_len {φ : Nat → Nat → Nat} : ∀ (as : List bV), (lg_sl (as.map (bTr φ))).length = (bArgs as).length
  | [] => rfl
  | .inl x :: r => congrArg (· + 1) (bArgs_len r)
  | .inr (.inl x) :: r => congrArg (· + 2) (bArgs_len r)
  | .inr (.inr (.inl x)) :: r => congrArg (· + 1) (bArgs_len r)
  | .inr (.inr (.inr x)) :: r => congrArg (· + 1) (bArgs_len r)
theorem bArgs_at : ∀ {as : List bV} {n : Nat} {v : bV}, (bArgs as)[n]? = some (some v) → v ∈ as
  | [], n, v, h => by simp [bArgs] at h
  | .inl x :: r, n, v, h => by
    cases n with
    | zero => cases h; exact List.mem_cons_self
    | succ n => exact List.mem_cons_of_mem _ (bArgs_at (as := r) (n := n) h)
  | .inr (.inl x) :: r, n, v, h => by
    match n, h with
    | 0, h => cases h; exact List.mem_cons_self
    | 1, h => cases h
    | n + 2, h => exact List.mem_cons_of_mem _ (bArgs_at (as := r) (n := n) h)
  | .inr (.inr (.inl x)) :: r, n, v, h => by
    cases n with
    | zero => cases h; exact List.mem_cons_self
    | succ n => exact List.mem_cons_of_mem _ (bArgs_at (as := r) (n := n) h)
  | .inr (.inr (.inr x)) :: r, n, v, h => by
    cases n with
    | zero => cases h; exact List.mem_cons_self
    | succ n => exact List.mem_cons_of_mem _ (bArgs_at (as := r) (n := n) h)
theorem bEntry_at {N : Nat} {as : List bV} {n : Nat} {v : bV} (h : (bEntry N as)[n]? = some (some v)) : (bArgs as)[n]? = some (some v) := by
  unfold bEntry at h
  by_cases hn : n < (bArgs as).length
  · rwa [List.getElem?_append_left hn] at h
  · rw [List.getElem?_append_right (by omega)] at h
    rw [List.getElem?_replicate] at h
    split at h <;> cases h
/-- the locals at the entry -/
theorem bEntry_has {φ : Nat → Nat → Nat} {N : Nat} {as : List bV} {A : Array Slot} (h : lv_has A N (lv_args 0 (as.map (bTr φ)))) : lv_has A N (bPr φ 0 (bEntry N as)) := by
  refine lv_mono h fun q hq => ?_
  obtain ⟨n, v, h1, h2⟩ := bPr_mem.mp hq
  rw [← bArgs_pr]
  exact bPr_mem.mpr ⟨n, v, bEntry_at h1, h2⟩
-- the shape, by computation
theorem bSh1 : bVs.all (fun q => Nat.blt (bKd q.1) 3 && (Nat.blt q.1 64 && (cond (Nat.beq (bKd q.1) 2) (Nat.blt (bKt q.1) 8 && decide (((aCl.getD (bKt q.1) ("", aT0, 0)).2.2) = bKn q.1)) (Nat.blt (bKt q.1) 6)))) = true := by decide +kernel
theorem bSh2 : bVs.all (fun q => cond (Nat.beq (bKd q.1) 1) ((aTys (bKt q.1)).isReference && (List.range (bKn q.1)).all (fun i => decide (bRr q.1 q.2 i ∈ bVs))) true) = true := by decide +kernel
theorem bSh3 : bVs.all (fun q => cond (Nat.beq (bKd q.1) 2) ((List.range (bKn q.1)).all (fun k => (match bFr q.1 k q.2 with | some t => decide (t ∈ bVs) | none => true) && decide ((bFr q.1 k q.2).isNone = (bFr q.1 k 0).isNone))) true) = true := by decide +kernel
theorem bSh4 : bVs.all (fun q => cond (Nat.beq (bKd q.1) 0) (Nat.blt (bKt q.1) 2 && Nat.blt (bKn q.1) 100000) (Nat.blt (bKn q.1) 100000)) = true := by decide +kernel
