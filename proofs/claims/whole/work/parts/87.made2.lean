-- needs: 01 02 03 04 05 06 08 09 10 20 21 22 23 24 25 84 85 86
/-! THE MAKER OVER THE MACHINE: instruction by instruction. -/
theorem va_RA_name {U : State} {c : ClassId} : ∀ {ty : FieldType}, va_RA U c ty → U.vm.findClass ("[" ++ ty.toString) = some c
  | .object C, h => h.choose_spec.choose_spec.2.2.2
  | .byte, h => h
  | .char, h => h
  | .double, h => h
  | .float, h => h
  | .int, h => h
  | .long, h => h
  | .short, h => h
  | .boolean, h => h
  | .array _, h => h
/-- an array's class is the one that its type's number names -/
theorem hSame {D : va_G} {U : State} {cA : Nat → ClassId} {t : Nat} {c : ClassId} (ht : t < 6) (hK : va_K D aCl (aTyl cA ++ [(c, aTys t)]) U) : c = cA t := by
  have h1 := va_RA_name (hK.2 6 (c, aTys t) rfl).2
  have h2 : (aTyl cA ++ [(c, aTys t)])[t]? = some (cA t, aTys t) := by
    rw [List.getElem?_append_left (by show t < 6; exact ht)]
    exact ty_at ht
  have h3 := va_RA_name (hK.2 t _ h2).2
  have h4 : some c = some (cA t) := h1.symm.trans h3
  cases h4
  rfl
def hCx (p : Program) (s : State) (m : MethodId) (args : Array Value) (meth : Method) (c : Code) (R : Room) (cA : Nat → ClassId) (D : va_G) (mi : Nat) : Prop :=
  bCx p s m args meth c R cA D mi ∧ (∀ w ∈ aNO, va_Nw w s) ∧ (hMc mi ≤ R.cells ∧ hMs mi ≤ R.slots) ∧ meth.name = "<init>"
def hWk (p : Program) (l : Launch) (e : Env) (s : State) (m : MethodId) (args : Array Value) (below : List Frame) (meth : Method) (c : Code) (R : Room) (cA : Nat → ClassId) (D : va_G) (A : Nat → Prop) (Qf : State → Prop) (mi pc : Nat) (ls : hL) (st : List hV) (X : List hC) (k q : Nat) (ρ : Nat → Nat) : Prop :=
  ∀ (H : Heap) (locs : List Loc) (lA : Array Slot), va_P D aCl (hWd cA ρ X) H → va_D A (hWd cA ρ X) → va_S A s.heap H locs → lv_has lA (aML mi) (hPr ρ 0 ls) → W p l e R s m args below meth c H locs k q Qf (F0 m pc lA (st.map (hTr ρ)))
def hNx (p : Program) (l : Launch) (e : Env) (s : State) (m : MethodId) (args : Array Value) (below : List Frame) (meth : Method) (c : Code) (R : Room) (cA : Nat → ClassId) (D : va_G) (A : Nat → Prop) (Qf : State → Prop) (mi : Nat) (X : List hC) (ρ : Nat → Nat) (r : hS ⊕ List hC) : Prop :=
  ∀ (pc' : Nat) (ls' : hL) (st' : List hV) (X' : List hC) (k' q' : Nat), .inl (pc', ls', st', X', k', q') = r → ∀ ρ' : Nat → Nat, (∀ i, i < X.length → ρ' i = ρ i) → X.length ≤ X'.length → hWk p l e s m args below meth c R cA D A Qf mi pc' ls' st' X' k' q' ρ'
/-- the addresses, with those of new cells -/
def hAd (ρ : Nat → Nat) (n a : Nat) : Nat → Nat := fun i => if i < n then ρ i else a + (i - n)
theorem hAd_lt {ρ : Nat → Nat} {n a i : Nat} (h : i < n) : hAd ρ n a i = ρ i := if_pos h
theorem hAd_ge {ρ : Nat → Nat} {n a i : Nat} (h : n ≤ i) : hAd ρ n a i = a + (i - n) := if_neg (by omega)
theorem hAd_eq {ρ : Nat → Nat} {n a : Nat} : hAd ρ n a n = a := by rw [hAd_ge (Nat.le_refl _)]; omega
theorem hWd_one {cA : Nat → ClassId} {ρ : Nat → Nat} {X : List hC} {c : hC} {a : Nat} (hX : X.all (hOkC X.length) = true) : hWd cA (hAd ρ X.length a) (X ++ [c]) = hWd cA ρ X ++ [(a, hCe cA (hAd ρ X.length a) c)] := by
  rw [hWd_app, hWd_eq (fun i hi => hAd_lt hi) hX]
  simp [hAd_eq]
theorem hCond {b : Bool} {α : Type} {x : Option α} {r : α} (h : cond b x none = some r) : b = true ∧ x = some r := by
  cases b with
  | true => exact ⟨rfl, h⟩
  | false => cases h
section HS
variable {p : Program} {l : Launch} {e : Env} {s : State} {m : MethodId} {args : Array Value} {below : List Frame} {meth : Method} {c : Code} {R : Room} {cA : Nat → ClassId} {D : va_G} {A : Nat → Prop} {Qf : State → Prop} {mi : Nat}
variable {call : Nat → List hV → List hC → Option (List hC)} {pc nx : Nat} {a : List Nat} {v : Int32} {ls : hL} {st : List hV} {X : List hC} {k q : Nat} {ρ : Nat → Nat} {r : hS ⊕ List hC}
variable {mi : Nat}
theorem m_iconst {n : Int}  (cx : hCx p s m args meth c R cA D mi) (hr : hNx p l e s m args below meth c R cA D A Qf mi X ρ r) (hok : hOk mi pc (.iconst n, nx, a, v) = true) (h : hStep call mi (.iconst n, nx, a, v) ls st X k q = some r) : hWk p l e s m args below meth c R cA D A Qf mi pc ls st X k q ρ := by
  obtain ⟨⟨hx, hb, hr0, hml, hown, hts, hnw, hlk, hroom, hK, hmL⟩, hno, hcap, hin2⟩ := cx
  simp only [hOk, bOk, Bool.and_eq_true, decide_eq_true_eq] at hok
  obtain ⟨hd, hn, hv⟩ := hok
  have hd := bD_ok hd
  have hn := bq hn
  subst hn
  simp only [hStep] at h
  have h := Option.some.inj h
  intro H locs lA hP hD hS hl
  exact lv_iconst hx hb hd hv (hr _ _ _ _ _ _ h ρ (fun _ _ => rfl) (Nat.le_refl _) H locs lA hP hD hS hl)
theorem m_bipush {n : Int}  (cx : hCx p s m args meth c R cA D mi) (hr : hNx p l e s m args below meth c R cA D A Qf mi X ρ r) (hok : hOk mi pc (.bipush n, nx, a, v) = true) (h : hStep call mi (.bipush n, nx, a, v) ls st X k q = some r) : hWk p l e s m args below meth c R cA D A Qf mi pc ls st X k q ρ := by
  obtain ⟨⟨hx, hb, hr0, hml, hown, hts, hnw, hlk, hroom, hK, hmL⟩, hno, hcap, hin2⟩ := cx
  simp only [hOk, bOk, Bool.and_eq_true, decide_eq_true_eq] at hok
  obtain ⟨hd, hn, hv⟩ := hok
  have hd := bD_ok hd
  have hn := bq hn
  subst hn
  simp only [hStep] at h
  have h := Option.some.inj h
  intro H locs lA hP hD hS hl
  exact lv_bipush hx hb hd hv (hr _ _ _ _ _ _ h ρ (fun _ _ => rfl) (Nat.le_refl _) H locs lA hP hD hS hl)
theorem m_sipush {n : Int}  (cx : hCx p s m args meth c R cA D mi) (hr : hNx p l e s m args below meth c R cA D A Qf mi X ρ r) (hok : hOk mi pc (.sipush n, nx, a, v) = true) (h : hStep call mi (.sipush n, nx, a, v) ls st X k q = some r) : hWk p l e s m args below meth c R cA D A Qf mi pc ls st X k q ρ := by
  obtain ⟨⟨hx, hb, hr0, hml, hown, hts, hnw, hlk, hroom, hK, hmL⟩, hno, hcap, hin2⟩ := cx
  simp only [hOk, bOk, Bool.and_eq_true, decide_eq_true_eq] at hok
  obtain ⟨hd, hn, hv⟩ := hok
  have hd := bD_ok hd
  have hn := bq hn
  subst hn
  simp only [hStep] at h
  have h := Option.some.inj h
  intro H locs lA hP hD hS hl
  exact lv_sipush hx hb hd hv (hr _ _ _ _ _ _ h ρ (fun _ _ => rfl) (Nat.le_refl _) H locs lA hP hD hS hl)
theorem m_iload_n {i : Fin 4}  (cx : hCx p s m args meth c R cA D mi) (hr : hNx p l e s m args below meth c R cA D A Qf mi X ρ r) (hok : hOk mi pc (.iload_n i, nx, a, v) = true) (h : hStep call mi (.iload_n i, nx, a, v) ls st X k q = some r) : hWk p l e s m args below meth c R cA D A Qf mi pc ls st X k q ρ := by
  obtain ⟨⟨hx, hb, hr0, hml, hown, hts, hnw, hlk, hroom, hK, hmL⟩, hno, hcap, hin2⟩ := cx
  simp only [hOk, bOk, Bool.and_eq_true, decide_eq_true_eq] at hok
  obtain ⟨hd, hn⟩ := hok
  have hd := bD_ok hd
  have hn := bq hn
  subst hn
  simp only [hStep] at h
  intro H locs lA hP hD hS hl
  split at h
  · rename_i x hx0
    have h := Option.some.inj h
    exact lv_iload_n hx hb hd rfl (hLd_has hl hx0) (hr _ _ _ _ _ _ h ρ (fun _ _ => rfl) (Nat.le_refl _) H locs lA hP hD hS hl)
  · cases h
theorem m_aload_n {i : Fin 4}  (cx : hCx p s m args meth c R cA D mi) (hr : hNx p l e s m args below meth c R cA D A Qf mi X ρ r) (hok : hOk mi pc (.aload_n i, nx, a, v) = true) (h : hStep call mi (.aload_n i, nx, a, v) ls st X k q = some r) : hWk p l e s m args below meth c R cA D A Qf mi pc ls st X k q ρ := by
  obtain ⟨⟨hx, hb, hr0, hml, hown, hts, hnw, hlk, hroom, hK, hmL⟩, hno, hcap, hin2⟩ := cx
  simp only [hOk, bOk, Bool.and_eq_true, decide_eq_true_eq] at hok
  obtain ⟨hd, hn⟩ := hok
  have hd := bD_ok hd
  have hn := bq hn
  subst hn
  simp only [hStep] at h
  intro H locs lA hP hD hS hl
  split at h
  · rename_i x hx0
    have h := Option.some.inj h
    exact lv_aload_n hx hb hd rfl (hLd_has hl hx0) (hr _ _ _ _ _ _ h ρ (fun _ _ => rfl) (Nat.le_refl _) H locs lA hP hD hS hl)
  · cases h
theorem m_istore_n {i : Fin 4}  (cx : hCx p s m args meth c R cA D mi) (hr : hNx p l e s m args below meth c R cA D A Qf mi X ρ r) (hok : hOk mi pc (.istore_n i, nx, a, v) = true) (h : hStep call mi (.istore_n i, nx, a, v) ls st X k q = some r) : hWk p l e s m args below meth c R cA D A Qf mi pc ls st X k q ρ := by
  obtain ⟨⟨hx, hb, hr0, hml, hown, hts, hnw, hlk, hroom, hK, hmL⟩, hno, hcap, hin2⟩ := cx
  simp only [hOk, bOk, Bool.and_eq_true, decide_eq_true_eq] at hok
  obtain ⟨hd, hn, hp⟩ := hok
  have hd := bD_ok hd
  have hn := bq hn
  have hp := blt' hp
  subst hn
  simp only [hStep] at h
  intro H locs lA hP hD hS hl
  split at h
  · rename_i x rs
    have h := Option.some.inj h
    exact lv_istore_n hx hb hd rfl hl hp rfl (fun lA' hl' => hr _ _ _ _ _ _ h ρ (fun _ _ => rfl) (Nat.le_refl _) H locs lA' hP hD hS (lv_mono hl' hSet_sub))
  · cases h
theorem m_iinc {i : Nat} {n : Int}  (cx : hCx p s m args meth c R cA D mi) (hr : hNx p l e s m args below meth c R cA D A Qf mi X ρ r) (hok : hOk mi pc (.iinc i n, nx, a, v) = true) (h : hStep call mi (.iinc i n, nx, a, v) ls st X k q = some r) : hWk p l e s m args below meth c R cA D A Qf mi pc ls st X k q ρ := by
  obtain ⟨⟨hx, hb, hr0, hml, hown, hts, hnw, hlk, hroom, hK, hmL⟩, hno, hcap, hin2⟩ := cx
  simp only [hOk, bOk, Bool.and_eq_true, decide_eq_true_eq] at hok
  obtain ⟨hd, hn, hp, hv⟩ := hok
  have hd := bD_ok hd
  have hn := bq hn
  have hp := blt' hp
  subst hn
  subst hv
  simp only [hStep] at h
  intro H locs lA hP hD hS hl
  split at h
  · rename_i x hx0
    have h := Option.some.inj h
    obtain ⟨j, hj⟩ := List.getElem?_of_mem (hPr_mem.mpr ⟨i, _, hLd_at hx0, by rw [Nat.zero_add]⟩ : (i, hTr ρ (.inl x)) ∈ hPr ρ 0 ls)
    exact lv_iinc hx hb hd hl hj rfl hp rfl (fun lA' hl' => hr _ _ _ _ _ _ h ρ (fun _ _ => rfl) (Nat.le_refl _) H locs lA' hP hD hS (lv_mono hl' hSet_sub))
  · cases h
theorem m_goto {n : Int}  (cx : hCx p s m args meth c R cA D mi) (hr : hNx p l e s m args below meth c R cA D A Qf mi X ρ r) (hok : hOk mi pc (.goto n, nx, a, v) = true) (h : hStep call mi (.goto n, nx, a, v) ls st X k q = some r) : hWk p l e s m args below meth c R cA D A Qf mi pc ls st X k q ρ := by
  obtain ⟨⟨hx, hb, hr0, hml, hown, hts, hnw, hlk, hroom, hK, hmL⟩, hno, hcap, hin2⟩ := cx
  simp only [hOk, bOk, Bool.and_eq_true, decide_eq_true_eq] at hok
  obtain ⟨hd, hj⟩ := hok
  have hd := bD_ok hd
  simp only [hStep] at h
  have h := Option.some.inj h
  intro H locs lA hP hD hS hl
  exact lv_goto hx hb hd (bJ_ok hj) (hr _ _ _ _ _ _ h ρ (fun _ _ => rfl) (Nat.le_refl _) H locs lA hP hD hS hl)
theorem m_if_icmp {n : Int} {cc : ClassFile.Cond}  (cx : hCx p s m args meth c R cA D mi) (hr : hNx p l e s m args below meth c R cA D A Qf mi X ρ r) (hok : hOk mi pc (.if_icmp cc n, nx, a, v) = true) (h : hStep call mi (.if_icmp cc n, nx, a, v) ls st X k q = some r) : hWk p l e s m args below meth c R cA D A Qf mi pc ls st X k q ρ := by
  obtain ⟨⟨hx, hb, hr0, hml, hown, hts, hnw, hlk, hroom, hK, hmL⟩, hno, hcap, hin2⟩ := cx
  cases cc
  case ge =>
    simp only [hOk, bOk] at hok
    simp only [hStep] at h
    intro H locs lA hP hD hS hl
    split at h
    · rename_i t y x rs
      simp only [Bool.and_eq_true] at hok
      obtain ⟨hd, hn, hj⟩ := hok
      have hd := bD_ok hd
      have hn := bq hn
      subst hn
      refine lv_icmp_ge hx hb hd (bJ_ok hj) (fun z => ?_) (fun z => ?_)
      · rw [if_pos z] at h
        have h := Option.some.inj h
        exact hr _ _ _ _ _ _ h ρ (fun _ _ => rfl) (Nat.le_refl _) H locs lA hP hD hS hl
      · rw [if_neg z] at h
        have h := Option.some.inj h
        exact hr _ _ _ _ _ _ h ρ (fun _ _ => rfl) (Nat.le_refl _) H locs lA hP hD hS hl
    · cases h
  all_goals (simp only [hStep] at h; cases h)
theorem m_dup   (cx : hCx p s m args meth c R cA D mi) (hr : hNx p l e s m args below meth c R cA D A Qf mi X ρ r) (hok : hOk mi pc (.dup, nx, a, v) = true) (h : hStep call mi (.dup, nx, a, v) ls st X k q = some r) : hWk p l e s m args below meth c R cA D A Qf mi pc ls st X k q ρ := by
  obtain ⟨⟨hx, hb, hr0, hml, hown, hts, hnw, hlk, hroom, hK, hmL⟩, hno, hcap, hin2⟩ := cx
  simp only [hOk, bOk, Bool.and_eq_true, decide_eq_true_eq] at hok
  obtain ⟨hd, hn⟩ := hok
  have hd := bD_ok hd
  have hn := bq hn
  subst hn
  simp only [hStep] at h
  intro H locs lA hP hD hS hl
  split at h
  · rename_i x rs
    have h := Option.some.inj h
    exact lv_dup hx hb hd (hTr_cat x) (hr _ _ _ _ _ _ h ρ (fun _ _ => rfl) (Nat.le_refl _) H locs lA hP hD hS hl)
  · cases h
theorem m_getfield {idx : Nat}  (cx : hCx p s m args meth c R cA D mi) (hr : hNx p l e s m args below meth c R cA D A Qf mi X ρ r) (hok : hOk mi pc (.getfield idx, nx, a, v) = true) (h : hStep call mi (.getfield idx, nx, a, v) ls st X k q = some r) : hWk p l e s m args below meth c R cA D A Qf mi pc ls st X k q ρ := by
  obtain ⟨⟨hx, hb, hr0, hml, hown, hts, hnw, hlk, hroom, hK, hmL⟩, hno, hcap, hin2⟩ := cx
  simp only [hStep] at h
  intro H locs lA hP hD hS hl
  split at h
  · rename_i lj ci f zt o rs
    simp only [hOk, bOk, Bool.and_eq_true] at hok
    obtain ⟨hd, hn, hfk⟩ := hok
    have hd := bD_ok hd
    have hn := bq hn
    subst hn
    split at h
    · rename_i cj fs ho
      split at h
      · rename_i w hw
        obtain ⟨hcj, hh⟩ := hCond h
        clear h
        have hcj := bq hcj
        subst hcj
        have h := Option.some.inj hh
        obtain ⟨nest, rr, hc0, hf0, hd0, hl0, hl1⟩ := fk_ok hfk
        dsimp only at hc0 hf0 hd0 hl0 hl1
        have hwd := hWd_get (cA := cA) (ρ := ρ) ho
        have hfl : (fs.map (hTr ρ))[f]? = some (hTr ρ w) := by rw [List.getElem?_map, hw]; rfl
        have kk := hr _ _ _ _ _ _ h ρ (fun _ _ => rfl) (Nat.le_refl _) H locs lA hP hD hS hl
        by_cases hne : nest = 0
        · exact va_get hx hb hts (cl_facts hc0).1 hown hK hP o hwd hc0 f hf0 (hts _ (hl0 hne)) (by rw [hd0]; exact fun _ z => z) hfl hd kk
        · exact va_getN hx hb hts (cl_facts hc0).1 hown hK hP o hwd hc0 f hf0 (va_Nw.use rfl (hnw _ (hl1 hne))) (by rw [hd0]; exact fun _ z => z) hfl hd kk
      · cases h
    · cases h
  · cases h
/-- a link of a field, by its row, and whether it goes through the nest -/
theorem fk_ok' {mi j idx ci f : Nat} (h : bFk mi j idx ci f = true) : aFok ((aMe mi).1, idx, ci, f, (aFl.getD j (0, 0, 0, 0, 0)).2.2.2.2) := by
  unfold bFk at h
  simp only [Bool.and_eq_true] at h
  obtain ⟨h1, h2⟩ := h
  have hj := blt' h1
  have hm : aFl.getD j (0, 0, 0, 0, 0) ∈ aFl := by
    rw [List.getD_eq_getElem?_getD, List.getElem?_eq_getElem hj]
    exact List.getElem_mem hj
  have hf := aFl_ok _ hm
  generalize aFl.getD j (0, 0, 0, 0, 0) = q at h2 hf
  obtain ⟨oc, ix, c, k, nest⟩ := q
  simp only [Bool.and_eq_true] at h2
  obtain ⟨h3, h4, h5, h6⟩ := h2
  have h3 := bq h3
  have h4 := bq h4
  have h5 := bq h5
  have h6 := bq h6
  subst h3; subst h4; subst h5; subst h6
  exact hf
theorem hFit_ok {zt : Nat} {w : hV} {ty : FieldType} (h : hFit zt w = true) (ht : hTyZ ty zt = true) : narrow ty (hTr ρ w) = hTr ρ w ∧ fits ty (hTr ρ w) = true := by
  match w, h with
  | .inl x, h =>
    match zt, h, ht with
    | 0, _, ht => rw [of_decide_eq_true ht]; exact ⟨rfl, rfl⟩
    | 1, h, ht =>
      rw [of_decide_eq_true ht]
      simp only [hFit, Bool.or_eq_true, decide_eq_true_eq] at h
      rcases h with rfl | rfl
      · exact ⟨rfl, rfl⟩
      · exact ⟨rfl, rfl⟩
  | .inr (.inl o), h =>
    have h2 := bq (show Nat.beq zt 2 = true from h)
    subst h2
    cases ty <;> first | exact ⟨rfl, rfl⟩ | cases ht
theorem m_putfield {idx : Nat}  (cx : hCx p s m args meth c R cA D mi) (hr : hNx p l e s m args below meth c R cA D A Qf mi X ρ r) (hok : hOk mi pc (.putfield idx, nx, a, v) = true) (h : hStep call mi (.putfield idx, nx, a, v) ls st X k q = some r) : hWk p l e s m args below meth c R cA D A Qf mi pc ls st X k q ρ := by
  obtain ⟨⟨hx, hb, hr0, hml, hown, hts, hnw, hlk, hroom, hK, hmL⟩, hno, hcap, hin2⟩ := cx
  simp only [hStep] at h
  intro H locs lA hP hD hS hl
  split at h
  · rename_i lj ci f zt w o rs
    simp only [hOk, Bool.and_eq_true] at hok
    obtain ⟨hd, hn, hfk, hty, hfo⟩ := hok
    have hd := bD_ok hd
    have hn := bq hn
    subst hn
    split at h
    · rename_i cj fs ho
      obtain ⟨hcj, hh⟩ := hCond h
      clear h
      simp only [Bool.and_eq_true] at hcj
      obtain ⟨hcj, hlf, hft⟩ := hcj
      have hcj := bq hcj
      have hlf := blt' hlf
      subst hcj
      have h := Option.some.inj hh
      obtain ⟨rr, hc0, hf0, hd0, hl0, hl1⟩ := fk_ok' hfk
      generalize hnest : (aFl.getD lj (0, 0, 0, 0, 0)).2.2.2.2 = nest at hl0 hl1 hfo
      dsimp only at hc0 hf0 hd0 hl0 hl1
      have hwd := hWd_get (cA := cA) (ρ := ρ) ho
      have hrr : aCl.getD cj ("", aT0, 0) = rr := by rw [List.getD_eq_getElem?_getD, hc0]; rfl
      unfold hTyF at hty
      rw [hrr] at hty hfo
      split at hty
      · rename_i ty hpty
        obtain ⟨hnar, hfit⟩ := hFit_ok (ρ := ρ) hft hty
        obtain ⟨hin, ⟨ty0, hty0⟩, hnm⟩ := cl_facts hc0
        have hlen : f < (fs.map (hTr ρ)).length := by rw [List.length_map]; exact hlf
        have hce : (.inr (cj, (fs.map (hTr ρ)).set f (hTr ρ w)) : va_E) = hCe cA ρ (.inr (cj, fs.set f w)) := by
          show _ = (.inr (cj, (fs.set f w).map (hTr ρ)) : va_E)
          rw [List.map_set]
        have kk : ∀ (H1 : Heap) (locs1 : List Loc), va_P D aCl ((hWd cA ρ X).set o (ρ o, .inr (cj, (fs.map (hTr ρ)).set f (hTr ρ w)))) H1 → va_D A ((hWd cA ρ X).set o (ρ o, .inr (cj, (fs.map (hTr ρ)).set f (hTr ρ w)))) → va_S A s.heap H1 locs1 → W p l e R s m args below meth c H1 locs1 k q Qf (F0 m (pc + 3) lA (rs.map (hTr ρ))) := by
          intro H1 locs1 hP1 hD1 hS1
          rw [hce, hWd_set] at hP1 hD1
          exact hr _ _ _ _ _ _ h ρ (fun _ _ => rfl) (by rw [List.length_set]; exact Nat.le_refl _) H1 locs1 lA hP1 hD1 hS1 hl
        cases hfin : (rr.2.1 f).2.2.2 with
        | false =>
          by_cases hne : nest = 0
          · exact va_put hx hb hts hin ty0 hty0 hnm hown hK hP hD hS o hwd hc0 f hf0 (hts _ (hl0 hne)) (by rw [hd0]; exact fun _ z => z) hfin hpty hnar hfit hlen hd kk
          · exact va_putN hx hb hts hin ty0 hty0 hnm hown hK hP hD hS o hwd hc0 f hf0 (va_Nw.use rfl (hnw _ (hl1 hne))) (by rw [hd0]; exact fun _ z => z) hfin hpty hnar hfit hlen hd kk
        | true =>
          rw [hfin] at hfo
          simp only [Bool.not_true, Bool.false_or, Bool.and_eq_true] at hfo
          have hown2 := bq hfo.1
          have hne := bq hfo.2
          · refine va_putF hx hb hts hin ty0 hty0 hnm hown hK hP hD hS o hwd hc0 f hf0 (hts _ (hl0 hne)) (by rw [hd0]; exact fun _ z => z) hfin hin2 ?_ hpty hnar hfit hlen hd kk
            rw [hd0, ← hown2, ← hrr]
            have h8 : cj < 8 := (List.getElem?_eq_some_iff.mp hc0).1
            exact (cl_at h8).2
      · cases hty
    · cases h
  · cases h
theorem m_iastore   (cx : hCx p s m args meth c R cA D mi) (hr : hNx p l e s m args below meth c R cA D A Qf mi X ρ r) (hok : hOk mi pc (.iastore, nx, a, v) = true) (h : hStep call mi (.iastore, nx, a, v) ls st X k q = some r) : hWk p l e s m args below meth c R cA D A Qf mi pc ls st X k q ρ := by
  obtain ⟨⟨hx, hb, hr0, hml, hown, hts, hnw, hlk, hroom, hK, hmL⟩, hno, hcap, hin2⟩ := cx
  simp only [hStep] at h
  intro H locs lA hP hD hS hl
  simp only [hOk, bOk, Bool.and_eq_true] at hok
  obtain ⟨hd, hn⟩ := hok
  have hd := bD_ok hd
  have hn := bq hn
  subst hn
  split at h
  · rename_i x i o rs
    split at h
    · rename_i t n f ho
      obtain ⟨hcj, hh⟩ := hCond h
      clear h
      simp only [Bool.and_eq_true] at hcj
      have ht := bq hcj.1
      subst ht
      have h := Option.some.inj hh
      have hwd := hWd_get (cA := cA) (ρ := ρ) ho
      have hce : (.inl (cA 0, n, .inl (upd (hIv f) i.toNatClampNeg x)) : va_E) = hCe cA ρ (.inl (0, n, .inl ((i.toNatClampNeg, x) :: f))) := rfl
      exact va_iast hx hb hK hP hD hS o 0 hwd rfl (hIn_ok hcj.2) hd (fun H1 locs1 hP1 hD1 hS1 => by
        rw [hce, hWd_set] at hP1 hD1
        exact hr _ _ _ _ _ _ h ρ (fun _ _ => rfl) (by rw [List.length_set]; exact Nat.le_refl _) H1 locs1 lA hP1 hD1 hS1 hl)
    · cases h
  · cases h
theorem m_aastore   (cx : hCx p s m args meth c R cA D mi) (hr : hNx p l e s m args below meth c R cA D A Qf mi X ρ r) (hok : hOk mi pc (.aastore, nx, a, v) = true) (h : hStep call mi (.aastore, nx, a, v) ls st X k q = some r) : hWk p l e s m args below meth c R cA D A Qf mi pc ls st X k q ρ := by
  obtain ⟨⟨hx, hb, hr0, hml, hown, hts, hnw, hlk, hroom, hK, hmL⟩, hno, hcap, hin2⟩ := cx
  simp only [hStep] at h
  intro H locs lA hP hD hS hl
  simp only [hOk, Bool.and_eq_true] at hok
  obtain ⟨hd, hn⟩ := hok
  have hd := bD_ok hd
  have hn := bq hn
  subst hn
  split at h
  · rename_i w i o rs
    split at h
    · rename_i t n f ci vs ho hw
      obtain ⟨hcj, hh⟩ := hCond h
      clear h
      simp only [Bool.and_eq_true, Bool.or_eq_true] at hcj
      have h := Option.some.inj hh
      have hwd := hWd_get (cA := cA) (ρ := ρ) ho
      have hwv := hWd_get (cA := cA) (ρ := ρ) hw
      have hce : (.inl (cA t, n, .inr (.inr (.inr (.inr (va_up (fun j => (hRv f j).map ρ) i.toNatClampNeg (some (ρ w))))))) : va_E) = hCe cA ρ (.inl (t, n, .inr ((i.toNatClampNeg, w) :: f))) := by
        show _ = (.inl (cA t, n, .inr (.inr (.inr (.inr (fun j => (hRv ((i.toNatClampNeg, w) :: f) j).map ρ))))) : va_E)
        rw [hRv_upd]
      have kk : ∀ (H1 : Heap) (locs1 : List Loc), va_P D aCl ((hWd cA ρ X).set o (ρ o, .inl (cA t, n, .inr (.inr (.inr (.inr (va_up (fun j => (hRv f j).map ρ) i.toNatClampNeg (some (ρ w))))))))) H1 → va_D A ((hWd cA ρ X).set o (ρ o, .inl (cA t, n, .inr (.inr (.inr (.inr (va_up (fun j => (hRv f j).map ρ) i.toNatClampNeg (some (ρ w))))))))) → va_S A s.heap H1 locs1 → W p l e R s m args below meth c H1 locs1 k q Qf (F0 m (pc + 1) lA (rs.map (hTr ρ))) := by
        intro H1 locs1 hP1 hD1 hS1
        rw [hce, hWd_set] at hP1 hD1
        exact hr _ _ _ _ _ _ h ρ (fun _ _ => rfl) (by rw [List.length_set]; exact Nat.le_refl _) H1 locs1 lA hP1 hD1 hS1 hl
      rcases hcj.1 with ⟨h1, h2⟩ | ⟨h1, h2⟩
      · have h1 := bq h1
        have h2 := bq h2
        subst h1; subst h2
        exact va_astq hx hb hK hP hD hS o 3 w 3 hwd rfl hwv rfl (hIn_ok hcj.2) hd kk
      · have h1 := bq h1
        have h2 := bq h2
        subst h1; subst h2
        exact va_astq hx hb hK hP hD hS o 4 w 5 hwd rfl hwv rfl (hIn_ok hcj.2) hd kk
    · cases h
  · cases h
end HS
