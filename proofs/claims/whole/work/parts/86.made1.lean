-- needs: 01 02 03 04 05 06 08 09 10 20 21 22 23 24 25 84 85
/-! THE MAKER OVER THE MACHINE: its list of cells as a world. -/
def hTr (ρ : Nat → Nat) : hV → Value
  | .inl x => .int x
  | .inr (.inl k) => .ref (ρ k)
  | .inr (.inr _) => .null
def hCe (cA : Nat → ClassId) (ρ : Nat → Nat) : hC → va_E
  | .inl (t, n, .inl l) => .inl (cA t, n, .inl (hIv l))
  | .inl (t, n, .inr l) => .inl (cA t, n, .inr (.inr (.inr (.inr (fun i => (hRv l i).map ρ)))))
  | .inr (ci, fs) => .inr (ci, fs.map (hTr ρ))
def hWd (cA : Nat → ClassId) (ρ : Nat → Nat) (X : List hC) : va_W := X.zipIdx.map (fun q => (ρ q.2, hCe cA ρ q.1))
def hPr (ρ : Nat → Nat) : Nat → hL → List (Nat × Value)
  | _, [] => []
  | i, some v :: r => (i, hTr ρ v) :: hPr ρ (i + 1) r
  | i, none :: r => hPr ρ (i + 1) r
theorem hPr_mem {ρ : Nat → Nat} : ∀ {k : Nat} {ls : hL} {q : Nat × Value}, q ∈ hPr ρ k ls ↔ ∃ n v, ls[n]? = some (some v) ∧ q = (k + n, hTr ρ v)
  | k, [], q => by simp [hPr]
  | k, some v :: r, q => by
    simp only [hPr, List.mem_cons, hPr_mem (k := k + 1) (ls := r)]
    constructor
    · rintro (rfl | ⟨n, w, h1, h2⟩)
      · exact ⟨0, v, rfl, rfl⟩
      · exact ⟨n + 1, w, h1, by rw [h2]; congr 1; omega⟩
    · rintro ⟨n, w, h1, h2⟩
      cases n with
      | zero => left; cases h1; exact h2
      | succ n => right; exact ⟨n, w, h1, by rw [h2]; congr 1; omega⟩
  | k, none :: r, q => by
    simp only [hPr, hPr_mem (k := k + 1) (ls := r)]
    constructor
    · rintro ⟨n, w, h1, h2⟩
      exact ⟨n + 1, w, h1, by rw [h2]; congr 1; omega⟩
    · rintro ⟨n, w, h1, h2⟩
      cases n with
      | zero => cases h1
      | succ n => exact ⟨n, w, h1, by rw [h2]; congr 1; omega⟩
theorem hWd_at {cA : Nat → ClassId} {ρ : Nat → Nat} {X : List hC} (k : Nat) : (hWd cA ρ X)[k]? = (X[k]?).map (fun c => (ρ k, hCe cA ρ c)) := by
  unfold hWd
  rw [List.getElem?_map, List.getElem?_zipIdx]
  cases X[k]? with
  | none => rfl
  | some c => simp
theorem hWd_get {cA : Nat → ClassId} {ρ : Nat → Nat} {X : List hC} {k : Nat} {c : hC} (h : X[k]? = some c) : (hWd cA ρ X)[k]? = some (ρ k, hCe cA ρ c) := by
  rw [hWd_at, h]
  rfl
theorem hWd_set {cA : Nat → ClassId} {ρ : Nat → Nat} {X : List hC} {k : Nat} {c : hC} : (hWd cA ρ X).set k (ρ k, hCe cA ρ c) = hWd cA ρ (X.set k c) := by
  apply List.ext_getElem?
  intro n
  rw [List.getElem?_set, hWd_at, hWd_at, List.getElem?_set]
  have hl : (hWd cA ρ X).length = X.length := by unfold hWd; rw [List.length_map, List.length_zipIdx]
  by_cases hn : k = n
  · subst hn
    rw [if_pos rfl, if_pos rfl, hl]
    by_cases h : k < X.length
    · rw [if_pos h, if_pos h]
      rfl
    · rw [if_neg h, if_neg h]
      rfl
  · rw [if_neg hn, if_neg hn]
theorem hTr_eq {ρ ρ' : Nat → Nat} {n : Nat} (h : ∀ i, i < n → ρ' i = ρ i) : ∀ {v : hV}, hOkV n v = true → hTr ρ' v = hTr ρ v
  | .inl _, _ => rfl
  | .inr (.inl k), hv => by
    show Value.ref (ρ' k) = Value.ref (ρ k)
    rw [h k (blt' hv)]
  | .inr (.inr _), _ => rfl
theorem hRv_mem {l : List (Nat × Nat)} {i k : Nat} (h : hRv l i = some k) : ∃ q ∈ l, q.2 = k := by
  induction l with
  | nil => cases h
  | cons q l ih =>
    obtain ⟨a, b⟩ := q
    simp only [hRv] at h
    by_cases hi : i = a
    · rw [if_pos hi] at h
      cases h
      exact ⟨_, List.mem_cons_self, rfl⟩
    · rw [if_neg hi] at h
      obtain ⟨q, h1, h2⟩ := ih h
      exact ⟨q, List.mem_cons_of_mem _ h1, h2⟩
theorem hCe_eq {cA : Nat → ClassId} {ρ ρ' : Nat → Nat} {n : Nat} (h : ∀ i, i < n → ρ' i = ρ i) : ∀ {c : hC}, hOkC n c = true → hCe cA ρ' c = hCe cA ρ c
  | .inl (t, m, .inl l), _ => rfl
  | .inl (t, m, .inr l), hc => by
    have h1 : (fun i => (hRv l i).map ρ') = (fun i => (hRv l i).map ρ) := by
      funext i
      cases hr : hRv l i with
      | none => rfl
      | some k =>
        obtain ⟨q, hq, rfl⟩ := hRv_mem hr
        have h2 := List.all_eq_true.mp hc q hq
        show some (ρ' q.2) = some (ρ q.2)
        rw [h q.2 (blt' h2)]
    show (.inl (cA t, m, .inr (.inr (.inr (.inr (fun i => (hRv l i).map ρ'))))) : va_E) = .inl (cA t, m, .inr (.inr (.inr (.inr (fun i => (hRv l i).map ρ)))))
    rw [h1]
  | .inr (ci, fs), hc => by
    have h1 : fs.map (hTr ρ') = fs.map (hTr ρ) := List.map_congr_left fun v hv => hTr_eq h (List.all_eq_true.mp hc v hv)
    show (.inr (ci, fs.map (hTr ρ')) : va_E) = .inr (ci, fs.map (hTr ρ))
    rw [h1]
theorem hWd_eq {cA : Nat → ClassId} {ρ ρ' : Nat → Nat} {X : List hC} (h : ∀ i, i < X.length → ρ' i = ρ i) (hX : X.all (hOkC X.length) = true) : hWd cA ρ' X = hWd cA ρ X := by
  apply List.ext_getElem?
  intro n
  rw [hWd_at, hWd_at]
  cases hn : X[n]? with
  | none => rfl
  | some c =>
    have h1 : n < X.length := (List.getElem?_eq_some_iff.mp hn).1
    have h2 := List.all_eq_true.mp hX c (List.mem_of_getElem? hn)
    simp only [Option.map_some]
    rw [h n h1, hCe_eq h h2]
theorem hWd_app {cA : Nat → ClassId} {ρ : Nat → Nat} {X Y : List hC} : hWd cA ρ (X ++ Y) = hWd cA ρ X ++ (Y.zipIdx X.length).map (fun q => (ρ q.2, hCe cA ρ q.1)) := by
  unfold hWd
  rw [List.zipIdx_append, List.map_append, Nat.zero_add]
theorem hSt_eq {ρ ρ' : Nat → Nat} {n : Nat} (h : ∀ i, i < n → ρ' i = ρ i) {st : List hV} (hs : st.all (hOkV n) = true) : st.map (hTr ρ') = st.map (hTr ρ) := List.map_congr_left fun v hv => hTr_eq h (List.all_eq_true.mp hs v hv)
theorem hPr_eq {ρ ρ' : Nat → Nat} {n : Nat} (h : ∀ i, i < n → ρ' i = ρ i) {ls : hL} (hs : hOkL n ls = true) : ∀ q ∈ hPr ρ' 0 ls, q ∈ hPr ρ 0 ls := by
  intro q hq
  obtain ⟨i, v, h1, h2⟩ := hPr_mem.mp hq
  have h3 := List.all_eq_true.mp hs _ (List.mem_of_getElem? h1)
  exact hPr_mem.mpr ⟨i, v, h1, by rw [h2, hTr_eq h h3]⟩
theorem hWf_ok {ls : hL} {st : List hV} {X : List hC} (h : hWf ls st X = true) : X.all (hOkC X.length) = true ∧ hOkL X.length ls = true ∧ st.all (hOkV X.length) = true := by
  unfold hWf at h
  simp only [Bool.and_eq_true] at h
  exact h
theorem hRoom_ok {mi k q c z : Nat} (h : hRoom mi k q c z = true) : k + c ≤ hMc mi ∧ q + z ≤ hMs mi := by
  unfold hRoom at h
  simp only [Bool.and_eq_true] at h
  exact ⟨Nat.le_of_ble_eq_true h.1, Nat.le_of_ble_eq_true h.2⟩
theorem hLd_at {ls : hL} {i : Nat} {v : hV} (h : hLd ls i = some v) : ls[i]? = some (some v) := by
  unfold hLd at h
  split at h
  · rename_i w hw
    rw [hw, h]
  · cases h
theorem hLd_has {ρ : Nat → Nat} {A : Array Slot} {nL : Nat} {ls : hL} {i : Nat} {v : hV} (hl : lv_has A nL (hPr ρ 0 ls)) (h : hLd ls i = some v) : A[i]? = some (.val (hTr ρ v)) := hl.2.2 (i, hTr ρ v) (hPr_mem.mpr ⟨i, v, hLd_at h, by rw [Nat.zero_add]⟩)
theorem hTr_cat {ρ : Nat → Nat} : ∀ (v : hV), (hTr ρ v).category = 1
  | .inl _ => rfl
  | .inr (.inl _) => rfl
  | .inr (.inr _) => rfl
theorem hSet_sub {ρ : Nat → Nat} {ls : hL} {i : Nat} {v : hV} : ∀ q ∈ hPr ρ 0 (ls.set i (some v)), q ∈ (i, hTr ρ v) :: (hPr ρ 0 ls).filter (fun q => !(q.1 == i) && !(q.1 + 1 == i && q.2.category == 2)) := by
  intro q hq
  obtain ⟨n, w, h1, rfl⟩ := hPr_mem.mp hq
  rw [Nat.zero_add]
  rw [List.getElem?_set] at h1
  by_cases hn : i = n
  · subst hn
    rw [if_pos rfl] at h1
    split at h1
    · cases h1
      exact List.mem_cons_self
    · cases h1
  · rw [if_neg hn] at h1
    refine List.mem_cons_of_mem _ (List.mem_filter.mpr ⟨hPr_mem.mpr ⟨n, w, h1, by rw [Nat.zero_add]⟩, ?_⟩)
    simp [hTr_cat, Ne.symm hn]
theorem hArgs_pr {ρ : Nat → Nat} : ∀ (as : List hV) (k : Nat), hPr ρ k (as.map some) = lv_args k (as.map (hTr ρ))
  | [], k => rfl
  | v :: r, k => by
    show (k, hTr ρ v) :: hPr ρ (k + 1) (r.map some) = (k, hTr ρ v) :: lv_args (if (hTr ρ v).category = 2 then k + 2 else k + 1) (r.map (hTr ρ))
    rw [hTr_cat, if_neg (by decide), hArgs_pr r (k + 1)]
theorem hArgs_len {ρ : Nat → Nat} : ∀ (as : List hV), (lg_sl (as.map (hTr ρ))).length = as.length
  | [] => rfl
  | .inl x :: r => congrArg (· + 1) (hArgs_len r)
  | .inr (.inl x) :: r => congrArg (· + 1) (hArgs_len r)
  | .inr (.inr x) :: r => congrArg (· + 1) (hArgs_len r)
theorem hEntry_has {ρ : Nat → Nat} {N : Nat} {as : List hV} {A : Array Slot} (h : lv_has A N (lv_args 0 (as.map (hTr ρ)))) : lv_has A N (hPr ρ 0 (hEntry N as)) := by
  refine lv_mono h fun q hq => ?_
  obtain ⟨n, v, h1, h2⟩ := hPr_mem.mp hq
  rw [← hArgs_pr]
  refine hPr_mem.mpr ⟨n, v, ?_, h2⟩
  unfold hEntry at h1
  by_cases hn : n < (as.map some).length
  · rwa [List.getElem?_append_left hn] at h1
  · rw [List.getElem?_append_right (by omega), List.getElem?_replicate] at h1
    split at h1 <;> cases h1
theorem hLe4 {ρ : Nat → Nat} : ∀ {r : List hV}, r.length ≤ 4 → ((r.map (hTr ρ)).map fun v => v.category).sum ≤ 8 := by
  have key : ∀ (r : List hV), ((r.map (hTr ρ)).map fun v => v.category).sum ≤ 2 * r.length := by
    intro r
    induction r with
    | nil => exact Nat.le_refl _
    | cons v r ih =>
      simp only [List.map_cons, List.sum_cons, List.length_cons, hTr_cat]
      omega
  intro r h
  have := key r
  omega
theorem hIn_ok {i : Int32} {n : Nat} (h : hIn i n = true) : vp_in i n := by
  unfold hIn at h
  simp only [Bool.and_eq_true, Bool.not_eq_true', decide_eq_false_iff_not] at h
  rintro (h1 | h1)
  · exact h.1 h1
  · have := blt' h.2
    omega
theorem hIv_upd {l : List (Nat × Int32)} {i : Nat} {x : Int32} : hIv ((i, x) :: l) = upd (hIv l) i x := by
  funext j
  rfl
theorem hRv_upd {ρ : Nat → Nat} {l : List (Nat × Nat)} {i k : Nat} : (fun j => (hRv ((i, k) :: l) j).map ρ) = va_up (fun j => (hRv l j).map ρ) i (some (ρ k)) := by
  funext j
  unfold va_up
  by_cases h : j = i
  · rw [if_pos h]
    simp [hRv, h]
  · rw [if_neg h]
    simp [hRv, h]
