-- needs: 34 45 89
/-! WHAT IS MADE: the constructors' cells, each one named by its group and index; both states are in their relation. -/
/-- where a cell stands among those made -/
def hPsiT : List (List Nat) := [[0], [1], [10], [35], [56], [58, 64, 70, 76, 82, 88, 94, 100], [107, 109, 111], [4, 5, 6, 7, 8, 9, 55, 54, 49, 50, 51, 52, 2, 13, 14, 15, 16, 17, 19, 20, 21, 22, 23, 25, 26, 27, 28, 29, 33, 42, 43, 44, 45], [37, 38, 39, 40], [53, 46, 47], [31, 32], [34], [108, 110, 112], [11], [30], [60, 61, 62, 63, 66, 67, 68, 69, 72, 73, 74, 75, 78, 79, 80, 81, 84, 85, 86, 87, 90, 91, 92, 93, 96, 97, 98, 99, 102, 103, 104, 105], [3], [48], [12], [18], [24], [36], [41], [59, 65, 71, 77, 83, 89, 95, 101], [57], [106], [113], [115, 116, 117, 124], [114], [118], [119], [120], [121], [122], [123], [125], [126], [127], [128], [129], [130], [131], [132], [133], [134], [135], [136], [137], [138], [139], [140], [141], [142], [143], [144], [145], [146], [147]]
def hPsi (g j : Nat) : Nat := (hPsiT.getD g []).getD j 0
/-- what the cells hold at the start -/
def hM0 : bM := fun g _ i =>
  if (g = 1 ∨ g = 26) ∧ i = 0 then 97 else if g = 0 ∧ i = 3 ∨ g = 26 ∧ i = 22 ∨ g = 0 ∧ i = 7 then 1 else if g = 0 ∧ i = 4 ∨ g = 26 ∧ i = 24 then 8 else if g = 6 ∧ i = 2 ∨ g = 54 ∧ i < 3 then -1 else 0
/-- the cell made is that of (g, j) -/
def hMat (g j : Nat) : hC → Bool
  | .inl (t, n, .inl l) => Nat.beq (bKd g) 0 && (Nat.beq t (bKt g) && (Nat.beq n (bKn g) && (decide (g = 54 ∧ l = [(2, -1), (1, -1), (0, -1)]) || decide (l = [] ∧ 7 ≤ g ∧ g ≠ 26 ∧ g ≠ 54))))
  | .inl (t, n, .inr l) => Nat.beq (bKd g) 1 && (Nat.beq t (bKt g) && (Nat.beq n (bKn g) && (List.range n).all (fun i => decide (hRv l i = some (hPsi (bRr g j i).1 (bRr g j i).2)))))
  | .inr (ci, fs) => Nat.beq (bKd g) 2 && (Nat.beq ci (bKt g) && decide (fs = (List.range (bKn g)).map (fun k => match bFr g k j with | some t => .inr (.inl (hPsi t.1 t.2)) | none => .inl (hM0 g j k))))
def hChk (X : List hC) : Bool := bVs.all (fun q => match X[hPsi q.1 q.2]? with | some c => hMat q.1 q.2 c | none => false)
def hTwo : Bool := match hGo 700 78 0 (hEntry (aML 78) [.inr (.inl 0)]) [] [.inr (6, hDf 6)] 0 0 with
  | some X1 => X1.all (hOkC X1.length) && (Nat.beq X1.length 113 && (match hGo 400 148 0 (hEntry (aML 148) [.inr (.inl 113)]) [] (X1 ++ [.inr (7, hDf 7)]) 0 0 with
    | some X2 => X2.all (hOkC X2.length) && (Nat.beq X2.length 148 && hChk X2)
    | none => false))
  | none => false
theorem hTwo_ok : hTwo = true := by decide +kernel
theorem hTwo_ex : ∃ X1 X2 : List hC, hGo 700 78 0 (hEntry (aML 78) [.inr (.inl 0)]) [] [.inr (6, hDf 6)] 0 0 = some X1 ∧ X1.all (hOkC X1.length) = true ∧ X1.length = 113 ∧ hGo 400 148 0 (hEntry (aML 148) [.inr (.inl 113)]) [] (X1 ++ [.inr (7, hDf 7)]) 0 0 = some X2 ∧ X2.length = 148 ∧ hChk X2 = true := by
  have h := hTwo_ok
  unfold hTwo at h
  split at h
  · rename_i X1 h1
    simp only [Bool.and_eq_true] at h
    obtain ⟨h2, h3, h4⟩ := h
    split at h4
    · rename_i X2 h5
      simp only [Bool.and_eq_true] at h4
      exact ⟨X1, X2, h1, h2, bq h3, h5, bq h4.2.1, h4.2.2⟩
    · cases h4
  · cases h
theorem hPsi_nodup : (bVs.map (fun q => hPsi q.1 q.2)).Nodup := by decide +kernel
theorem hM0_0 {g j : Nat} (h1 : 7 ≤ g) (h2 : g ≠ 26) (h3 : g ≠ 54) : hM0 g j = fun _ => 0 := by
  funext i
  unfold hM0
  rw [if_neg (by omega), if_neg (by omega), if_neg (by omega), if_neg (by omega)]
theorem hM0_54 {j : Nat} : hM0 54 j = hIv [(2, -1), (1, -1), (0, -1)] := by
  funext i
  unfold hM0
  rw [if_neg (by omega), if_neg (by omega), if_neg (by omega)]
  match i with
  | 0 => rfl
  | 1 => rfl
  | 2 => rfl
  | i + 3 =>
    rw [if_neg (by omega)]
    simp [hIv]
theorem arrV_below {c : ClassId} {n : Nat} {f g : Nat → Value} (h : ∀ i, i < n → f i = g i) : arrV c n f = arrV c n g := by
  unfold arrV
  congr 1
  congr 1
  funext j
  exact h j.val j.isLt
theorem hMat_at {D : va_G} {cA : Nat → ClassId} {ρ : Nat → Nat} {g j : Nat} {c : hC} {H : Heap} (hm : hMat g j c = true) (h : va_at D aCl (ρ (hPsi g j), hCe cA ρ c) H) : va_at D aCl (ρ (hPsi g j), bCell cA (fun g j => ρ (hPsi g j)) hM0 g j) H := by
  match c, hm, h with
  | .inl (t, n, .inl l), hm, h =>
    simp only [hMat, Bool.and_eq_true, Bool.or_eq_true, decide_eq_true_eq] at hm
    obtain ⟨h1, h2, h3, h4⟩ := hm
    have h1 := bq h1
    have h2 := bq h2
    have h3 := bq h3
    have hl : hIv l = hM0 g j := by
      rcases h4 with ⟨e1, e2⟩ | ⟨e1, e2, e3, e4⟩
      · rw [e1, e2]; exact hM0_54.symm
      · rw [e1, hM0_0 e2 e3 e4]; rfl
    have hb : bCell cA (fun g j => ρ (hPsi g j)) hM0 g j = hCe cA ρ (.inl (t, n, .inl l)) := by
      unfold bCell
      rw [h1]
      show (.inl (cA (bKt g), bKn g, .inl (hM0 g j)) : va_E) = .inl (cA t, n, .inl (hIv l))
      rw [h2, h3, hl]
    rw [hb]
    exact h
  | .inl (t, n, .inr l), hm, h =>
    simp only [hMat, Bool.and_eq_true] at hm
    obtain ⟨h1, h2, h3, h4⟩ := hm
    have h1 := bq h1
    have h2 := bq h2
    have h3 := bq h3
    have hb : bCell cA (fun g j => ρ (hPsi g j)) hM0 g j = .inl (cA t, n, .inr (.inr (.inr (.inr (fun i => some (ρ (hPsi (bRr g j i).1 (bRr g j i).2))))))) := by
      unfold bCell
      rw [h1, h2, h3]
      rfl
    rw [hb]
    show H[ρ (hPsi g j)]? = some (vp_cell (cA t) (n, .inr (.inr (.inr (.inr (fun i => some (ρ (hPsi (bRr g j i).1 (bRr g j i).2))))))))
    have h5 : H[ρ (hPsi g j)]? = some (vp_cell (cA t) (n, .inr (.inr (.inr (.inr (fun i => (hRv l i).map ρ)))))) := h
    rw [h5, vp_cell_q, vp_cell_q]
    refine congrArg some (arrV_below fun i hi => ?_)
    have h6 := of_decide_eq_true (List.all_eq_true.mp h4 i (List.mem_range.mpr hi))
    rw [h6]
    rfl
  | .inr (ci, fs), hm, h =>
    simp only [hMat, Bool.and_eq_true, decide_eq_true_eq] at hm
    obtain ⟨h1, h2, h3⟩ := hm
    have h1 := bq h1
    have h2 := bq h2
    have hb : bCell cA (fun g j => ρ (hPsi g j)) hM0 g j = hCe cA ρ (.inr (ci, fs)) := by
      unfold bCell
      rw [h1]
      show (.inr (bKt g, (List.range (bKn g)).map (bFld (fun g j => ρ (hPsi g j)) hM0 g j)) : va_E) = .inr (ci, fs.map (hTr ρ))
      rw [h2, h3, List.map_map]
      refine congrArg (fun z => (.inr (bKt g, z) : va_E)) (List.map_congr_left fun k _ => ?_)
      unfold bFld
      simp only [Function.comp]
      cases bFr g k j with
      | none => rfl
      | some t => rfl
    rw [hb]
    exact h
/-- the made cells, by their names -/
theorem hMade_P {D : va_G} {cA : Nat → ClassId} {ρ : Nat → Nat} {X : List hC} {H : Heap} (hX : hChk X = true) (h : va_P D aCl (hWd cA ρ X) H) : va_P D aCl (bWd cA (fun g j => ρ (hPsi g j)) hM0) H := by
  intro k q hk
  unfold bWd at hk
  rw [List.getElem?_map] at hk
  cases hv : bVs[k]? with
  | none => rw [hv] at hk; cases hk
  | some t =>
    rw [hv] at hk
    cases hk
    have h1 := List.all_eq_true.mp hX t (List.mem_of_getElem? hv)
    split at h1
    · rename_i c hc
      exact hMat_at h1 (h _ _ (hWd_get hc))
    · cases h1
theorem hMade_D {A : Nat → Prop} {cA : Nat → ClassId} {ρ : Nat → Nat} {X : List hC} (hX : hChk X = true) (h : va_D A (hWd cA ρ X)) : va_D A (bWd cA (fun g j => ρ (hPsi g j)) hM0) := by
  have key : ∀ (k : Nat) (q : Nat × va_E), (bWd cA (fun g j => ρ (hPsi g j)) hM0)[k]? = some q → ∃ n, (bVs.map (fun q => hPsi q.1 q.2))[k]? = some n ∧ ∃ e, (hWd cA ρ X)[n]? = some (q.1, e) := by
    intro k q hk
    unfold bWd at hk
    rw [List.getElem?_map] at hk
    cases hv : bVs[k]? with
    | none => rw [hv] at hk; cases hk
    | some t =>
      rw [hv] at hk
      cases hk
      have h1 := List.all_eq_true.mp hX t (List.mem_of_getElem? hv)
      split at h1
      · rename_i c hc
        refine ⟨hPsi t.1 t.2, ?_, _, hWd_get hc⟩
        rw [List.getElem?_map, hv]
        rfl
      · cases h1
  refine ⟨fun i j p q hi hj hpq => ?_, fun k q hk => ?_⟩
  · obtain ⟨n1, a1, e1, b1⟩ := key i p hi
    obtain ⟨n2, a2, e2, b2⟩ := key j q hj
    have hn : n1 = n2 := h.1 n1 n2 _ _ b1 b2 hpq
    have hl : i < (bVs.map (fun q => hPsi q.1 q.2)).length := (List.getElem?_eq_some_iff.mp a1).1
    exact (List.getElem?_inj hl hPsi_nodup).mp (by rw [a1, a2, hn])
  · obtain ⟨n1, a1, e1, b1⟩ := key k q hk
    exact h.2 n1 (q.1, e1) b1
theorem isP97 : isP 97 := by
  intro d h1 h2
  have h3 : d ≤ 9 := by
    apply Nat.le_of_lt_succ
    apply Nat.lt_of_not_le
    intro h4
    have h5 : (10 : Int) * 10 ≤ (d : Int) * d := Int.mul_le_mul (by omega) (by omega) (by omega) (by omega)
    omega
  match d, h1, h3 with
  | 2, _, _ => decide
  | 3, _, _ => decide
  | 4, _, _ => decide
  | 5, _, _ => decide
  | 6, _, _ => decide
  | 7, _, _ => decide
  | 8, _, _ => decide
  | 9, _, _ => decide
/-- at the start both states are in their relation -/
theorem Rel0 : Rel 0 hM0 := by
  refine ⟨97, fun _ _ => 0, 1, 8, fun _ => 0, ⟨rfl, rfl, by omega, by omega, isP97⟩, ?_, ⟨⟨rfl, rfl, by omega, by decide, by decide⟩, ⟨rfl, rfl, by omega, by omega⟩, ?_⟩, ?_, Or.inl rfl, ?_, ?_⟩
  · intro s hs k hk
    rw [hM0_0 (by omega) (by omega) (by omega), hM0_0 (by omega) (by omega) (by omega)]
    exact ⟨rfl, rfl, Int.le_refl 0, by show (0 : Int) < 97; omega⟩
  · intro s hs
    rw [hM0_0 (by omega) (by omega) (by omega), hM0_0 (by omega) (by omega) (by omega)]
    exact ⟨rfl, rfl, Nat.zero_le 9⟩
  · exact ⟨0, by omega, rfl, rfl, fun _ => 0, fun i hi => absurd hi (by omega)⟩
  · refine ⟨0, fun _ => 0, fun _ => 0, 0, by omega, by omega, rfl, rfl, rfl, fun k hk => absurd hk (by omega), fun k k' h1 h2 => absurd h2 (by omega), fun i hi _ => ?_⟩
    unfold hM0
    rw [if_neg (by omega), if_neg (by omega), if_neg (by omega), if_neg (by omega)]
    rfl
  · intro i hi
    refine ⟨?_, ⟨-1, by omega, by omega, rfl, ?_⟩, fun k hk => ?_⟩
    · rw [hM0_0 (g := 55) (by omega) (by omega) (by omega)]
      rfl
    · unfold hM0
      rw [if_neg (by omega), if_neg (by omega), if_neg (by omega), if_pos (by omega)]
      rfl
    · rw [hM0_0 (by omega) (by omega) (by omega), hM0_0 (by omega) (by omega) (by omega)]
