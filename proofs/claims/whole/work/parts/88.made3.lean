-- needs: 01 02 03 04 05 06 08 09 10 20 21 22 23 24 25 84 85 86 87
/-! THE MAKER OVER THE MACHINE: new cells, calls, the whole walk. -/
theorem hNO_moved {u U : State} (hal : u.vm.Alike U.vm) (h : ∀ w ∈ aNO, va_Nw w u) : ∀ w ∈ aNO, va_Nw w U := by
  intro w hw
  have h1 := h w hw
  simp only [aNO, List.mem_cons, List.not_mem_nil, or_false] at hw
  rcases hw with rfl | rfl | rfl
  · exact over_moved (t := .int) hal h1
  · exact va_AO.moved hal h1
  · exact va_AO.moved hal h1
theorem cl_new {ci : Nat} (h : ci < 8) : ∃ ty : Nat → FieldType, (∀ k, k < (aCl.getD ci ("", aT0, 0)).2.2 → parseFieldDescriptor ((aCl.getD ci ("", aT0, 0)).2.1 k).2.2.1 = some (ty k)) ∧ (∀ j, j < (aCl.getD ci ("", aT0, 0)).2.2 → defaultValue (ty j) = vp_V (aDf ci) j) ∧ (aCl.getD ci ("", aT0, 0)).2.2 = (hDf ci).length ∧ Cond.instantiable (aCN ci) (hDf ci).length ∈ aWS ∧ Cond.initialized (aCN ci) ∈ aWS := by
  match ci, h with
  | 0, _ => exact ⟨aTy0, aTyOk0, by decide +kernel, rfl, aWinst0, aWini0⟩
  | 1, _ => exact ⟨aTy1, aTyOk1, by decide +kernel, rfl, aWinst1, aWini1⟩
  | 2, _ => exact ⟨aTy2, aTyOk2, by decide +kernel, rfl, aWinst2, aWini2⟩
  | 3, _ => exact ⟨aTy3, aTyOk3, by decide +kernel, rfl, aWinst3, aWini3⟩
  | 4, _ => exact ⟨aTy4, aTyOk4, by decide +kernel, rfl, aWinst4, aWini4⟩
  | 5, _ => exact ⟨aTy5, aTyOk5, by decide +kernel, rfl, aWinst5, aWini5⟩
  | 6, _ => exact ⟨aTy6, aTyOk6, by decide +kernel, rfl, aWinst6, aWini6⟩
  | 7, _ => exact ⟨aTy7, aTyOk7, by decide +kernel, rfl, aWinst7, aWini7⟩
theorem hDf_ok {ρ : Nat → Nat} {ci : Nat} (h : ci < 8) : (hDf ci).map (hTr ρ) = aDf ci := by
  match ci, h with
  | 0, _ => rfl
  | 1, _ => rfl
  | 2, _ => rfl
  | 3, _ => rfl
  | 4, _ => rfl
  | 5, _ => rfl
  | 6, _ => rfl
  | 7, _ => rfl
theorem hRv_range {g : Nat → Nat} {j : Nat} : ∀ (L : List Nat), hRv (L.map (fun i => (i, g i))) j = if j ∈ L then some (g j) else none
  | [] => by simp [hRv]
  | a :: L => by
    simp only [List.map_cons, hRv, List.mem_cons]
    by_cases h : j = a
    · subst h
      simp
    · rw [if_neg h, hRv_range L]
      simp [h]
theorem hWd_multi {cA : Nat → ClassId} {ρ : Nat → Nat} {X : List hC} {N K a : Nat} (hX : X.all (hOkC X.length) = true) : hWd cA (hAd ρ X.length a) (X ++ .inl (2, N, .inr ((List.range N).map (fun i => (i, X.length + 1 + i)))) :: hRows N K) = hWd cA ρ X ++ (a, .inl (cA 2, N, .inr (.inr (.inr (.inr (fun i => if i < N then some (a + 1 + i) else none)))))) :: (List.range N).map (fun i => (a + 1 + i, .inl (cA 0, K, .inl (hIv [])))) := by
  rw [hWd_app, hWd_eq (fun i hi => hAd_lt hi) hX, List.zipIdx_cons, List.map_cons]
  congr 2
  · rw [show (hAd ρ X.length a X.length) = a from hAd_eq]
    refine congrArg (Prod.mk a) ?_
    show (.inl (cA 2, N, .inr (.inr (.inr (.inr (fun i => (hRv ((List.range N).map (fun i => (i, X.length + 1 + i))) i).map (hAd ρ X.length a)))))) : va_E) = _
    refine congrArg (fun f => (.inl (cA 2, N, .inr (.inr (.inr (.inr f)))) : va_E)) (funext fun i => ?_)
    rw [hRv_range]
    by_cases h : i < N
    · rw [if_pos (List.mem_range.mpr h), if_pos h]
      show some (hAd ρ X.length a (X.length + 1 + i)) = _
      rw [hAd_ge (by omega)]
      congr 1
      omega
    · rw [if_neg (fun h2 => h (List.mem_range.mp h2)), if_neg h]
      rfl
  · apply List.ext_getElem?
    intro j
    rw [List.getElem?_map, List.getElem?_map, List.getElem?_zipIdx]
    unfold hRows
    rw [List.getElem?_replicate]
    by_cases h : j < N
    · rw [if_pos h, List.getElem?_range h]
      show some (hAd ρ X.length a (X.length + 1 + j), _) = _
      rw [hAd_ge (by omega)]
      refine congrArg some ?_
      refine Prod.ext ?_ rfl
      show a + (X.length + 1 + j - X.length) = a + 1 + j
      omega
    · rw [if_neg h, List.getElem?_eq_none (by rw [List.length_range]; omega)]
      rfl
def hRm (mj : Nat) : Room := { frames := mj + 1, cells := hMc mj, slots := hMs mj, locals := 64 * (mj + 1) }
def hPre (ρ : Nat → Nat) (cA : Nat → ClassId) (D : va_G) (as : List hV) (X : List hC) (sz : Nat) : Array Value → State → Prop :=
  va_Pc (as.map (hTr ρ)) (fun U => U.heap.size = sz ∧ va_P D aCl (hWd cA ρ X) U.heap ∧ va_K D aCl (aTyl cA) U ∧ va_D (fun _ => True) (hWd cA ρ X) ∧ (∀ w ∈ aNW, va_Nw w U) ∧ ∀ w ∈ aNO, va_Nw w U)
def hPo (ρ : Nat → Nat) (cA : Nat → ClassId) (D : va_G) (X X' : List hC) (sz : Nat) : Array Value → State → Outcome → State → Prop := fun _ st oc t =>
  (∃ ρ' : Nat → Nat, oc = .returned none ∧ (∀ i, i < X.length → ρ' i = ρ i) ∧ va_P D aCl (hWd cA ρ' X') t.heap ∧ va_D (va_A (hWd cA ρ X) sz) (hWd cA ρ' X')) ∧ va_F (va_A (hWd cA ρ X) sz) st t
theorem hPre_blind {ρ : Nat → Nat} {cA : Nat → ClassId} {D : va_G} {as : List hV} {X : List hC} {sz : Nat} : FrameBlind (hPre ρ cA D as X sz) := by
  intro a U g mk q
  obtain ⟨q0, q1, q2, q3, q4, q5, q6⟩ := q
  exact ⟨q0, q1, q2, va_K.moved (u := U) (U := U.calling g mk a) (Vm.Alike.refl U.vm) q3, q4, bNw_same (u := U) (U := U.calling g mk a) rfl q5, hNO_moved (u := U) (U := U.calling g mk a) (Vm.Alike.refl U.vm) q6⟩
section HT
variable {p : Program} {l : Launch} {e : Env} {s : State} {m : MethodId} {args : Array Value} {below : List Frame} {meth : Method} {c : Code} {R : Room} {cA : Nat → ClassId} {D : va_G} {A : Nat → Prop} {Qf : State → Prop}
variable {call : Nat → List hV → List hC → Option (List hC)} {mi pc nx : Nat} {a : List Nat} {v : Int32} {ls : hL} {st : List hV} {X : List hC} {k q : Nat} {ρ : Nat → Nat} {r : hS ⊕ List hC}
theorem hAlloc (hr : hNx p l e s m args below meth c R cA D A Qf mi X ρ r) {rs : List hV} {Y : List hC} (h : .inl (nx, ls, .inr (.inl X.length) :: rs, X ++ Y, k, q) = r) (hwf : hWf ls rs X = true) {x : Nat} {H1 : Heap} {locs : List Loc} {lA : Array Slot} (hP : va_P D aCl (hWd cA (hAd ρ X.length x) (X ++ Y)) H1) (hD : va_D A (hWd cA (hAd ρ X.length x) (X ++ Y))) (hS : va_S A s.heap H1 locs) (hl : lv_has lA (aML mi) (hPr ρ 0 ls)) :
    W p l e R s m args below meth c H1 locs k q Qf (F0 m nx lA (.ref x :: rs.map (hTr ρ))) := by
  obtain ⟨w1, w2, w3⟩ := hWf_ok hwf
  have h1 := hr _ _ _ _ _ _ h (hAd ρ X.length x) (fun i hi => hAd_lt hi) (by rw [List.length_append]; omega) H1 locs lA hP hD hS (lv_mono hl (hPr_eq (fun i hi => hAd_lt hi) w2))
  rw [List.map_cons, hSt_eq (fun i hi => hAd_lt hi) w3] at h1
  rw [show hTr (hAd ρ X.length x) (.inr (.inl X.length)) = Value.ref x from congrArg Value.ref hAd_eq] at h1
  exact h1
theorem m_newarray {at0 : ArrayType} (hAA : ∀ q, s.heap.size ≤ q → A q)  (cx : hCx p s m args meth c R cA D mi) (hr : hNx p l e s m args below meth c R cA D A Qf mi X ρ r) (hok : hOk mi pc (.newarray at0, nx, a, v) = true) (h : hStep call mi (.newarray at0, nx, a, v) ls st X k q = some r) : hWk p l e s m args below meth c R cA D A Qf mi pc ls st X k q ρ := by
  obtain ⟨⟨hx, hb, hr0, hml, hown, hts, hnw, hlk, hroom, hK, hmL⟩, hno, hcap, hin2⟩ := cx
  simp only [hStep] at h
  intro H locs lA hP hD hS hl
  split at h
  · rename_i t a' n rs
    obtain ⟨hcj, hh⟩ := hCond h
    clear h
    simp only [Bool.and_eq_true, Bool.not_eq_true', decide_eq_false_iff_not] at hcj
    obtain ⟨hcj1, hcj2, hcj3, hwf⟩ := hcj
    have hcj : ¬ n < 0 ∧ n.toNatClampNeg ≤ 100000 := ⟨hcj1, Nat.le_of_ble_eq_true hcj2⟩
    have hrm := hRoom_ok hcj3
    have hh := Option.some.inj hh
    simp only [hOk, Bool.and_eq_true] at hok
    obtain ⟨hd, hn, hok2⟩ := hok
    have hd := bD_ok hd
    have hn := bq hn
    subst hn
    split at hok2
    · have ht := bq hok2
      subst ht
      refine va_newa (atype := .int) (a0 := (n.toNatClampNeg, .inl (hIv []))) hx hb (hts _ aWarr0) (rfl : newarray.typeOf .int = .int) hK hP hD hS hAA (fun _ => rfl) hcj.1 rfl (by show n.toNatClampNeg * 4 ≤ 536870912; omega) (by omega) (by omega) hd (fun x cc H1 hK1 hP1 hD1 hS1 => ?_)
      have hc0 : cc = cA 0 := hSame (t := 0) (by decide) hK1
      subst hc0
      have hW := hWd_one (cA := cA) (ρ := ρ) (c := .inl (0, n.toNatClampNeg, .inl [])) (a := x) (hWf_ok hwf).1
      exact hAlloc hr hh hwf (by rw [hW]; exact hP1) (by rw [hW]; exact hD1) hS1 hl
    · have ht := bq hok2
      subst ht
      refine va_newa (atype := .boolean) (a0 := (n.toNatClampNeg, .inl (hIv []))) hx hb (hts _ aWarr1) (rfl : newarray.typeOf .boolean = .boolean) hK hP hD hS hAA (fun _ => rfl) hcj.1 rfl (by show n.toNatClampNeg * 1 ≤ 536870912; omega) (by omega) (by omega) hd (fun x cc H1 hK1 hP1 hD1 hS1 => ?_)
      have hc0 : cc = cA 1 := hSame (t := 1) (by decide) hK1
      subst hc0
      have hW := hWd_one (cA := cA) (ρ := ρ) (c := .inl (1, n.toNatClampNeg, .inl [])) (a := x) (hWf_ok hwf).1
      exact hAlloc hr hh hwf (by rw [hW]; exact hP1) (by rw [hW]; exact hD1) hS1 hl
    · cases hok2
  · cases h
theorem m_anewarray {idx : Nat} (hAA : ∀ q, s.heap.size ≤ q → A q)  (cx : hCx p s m args meth c R cA D mi) (hr : hNx p l e s m args below meth c R cA D A Qf mi X ρ r) (hok : hOk mi pc (.anewarray idx, nx, a, v) = true) (h : hStep call mi (.anewarray idx, nx, a, v) ls st X k q = some r) : hWk p l e s m args below meth c R cA D A Qf mi pc ls st X k q ρ := by
  obtain ⟨⟨hx, hb, hr0, hml, hown, hts, hnw, hlk, hroom, hK, hmL⟩, hno, hcap, hin2⟩ := cx
  simp only [hStep] at h
  intro H locs lA hP hD hS hl
  split at h
  · rename_i j t a' n rs
    obtain ⟨hcj, hh⟩ := hCond h
    clear h
    simp only [Bool.and_eq_true, Bool.not_eq_true', decide_eq_false_iff_not] at hcj
    obtain ⟨hcj1, hcj2, hcj3, hwf⟩ := hcj
    have hcj : ¬ n < 0 ∧ n.toNatClampNeg ≤ 100000 := ⟨hcj1, Nat.le_of_ble_eq_true hcj2⟩
    have hrm := hRoom_ok hcj3
    have hh := Option.some.inj hh
    simp only [hOk, Bool.and_eq_true] at hok
    obtain ⟨hd, hn, ht6, hany⟩ := hok
    have hd := bD_ok hd
    have hn := bq hn
    have ht6 := blt' ht6
    subst hn
    obtain ⟨z, hz, hz2⟩ := List.any_eq_true.mp hany
    simp only [Bool.and_eq_true, decide_eq_true_eq] at hz2
    obtain ⟨z1, z2, z3, z4⟩ := hz2
    have hkl := aKl_ok z hz
    obtain ⟨oc, ii, C⟩ := z
    replace z1 := bq z1
    replace z2 := bq z2
    dsimp only at z1 z2 z3 z4
    subst z1; subst z2
    refine va_newq (C := C) hx hb hown (hts _ hkl) (hno _ z4) hK hP hD hS hAA hcj.1 rfl (by omega) (by omega) (by omega) hd (fun x cc H1 hK1 hP1 hD1 hS1 => ?_)
    rw [← z3] at hK1
    have hc0 : cc = cA t := hSame ht6 hK1
    subst hc0
    have hW := hWd_one (cA := cA) (ρ := ρ) (c := .inl (t, n.toNatClampNeg, .inr [])) (a := x) (hWf_ok hwf).1
    exact hAlloc hr hh hwf (by rw [hW]; exact hP1) (by rw [hW]; exact hD1) hS1 hl
  · cases h
theorem m_multianewarray {idx dm : Nat} (hAA : ∀ q, s.heap.size ≤ q → A q)  (cx : hCx p s m args meth c R cA D mi) (hr : hNx p l e s m args below meth c R cA D A Qf mi X ρ r) (hok : hOk mi pc (.multianewarray idx dm, nx, a, v) = true) (h : hStep call mi (.multianewarray idx dm, nx, a, v) ls st X k q = some r) : hWk p l e s m args below meth c R cA D A Qf mi pc ls st X k q ρ := by
  obtain ⟨⟨hx, hb, hr0, hml, hown, hts, hnw, hlk, hroom, hK, hmL⟩, hno, hcap, hin2⟩ := cx
  simp only [hStep] at h
  intro H locs lA hP hD hS hl
  split at h
  · rename_i z n rs
    obtain ⟨hcj, hh⟩ := hCond h
    clear h
    simp only [Bool.and_eq_true, Bool.not_eq_true', decide_eq_false_iff_not] at hcj
    obtain ⟨hn0, hz0, hn1, hz1, hrm, hwf⟩ := hcj
    have hn1 := Nat.le_of_ble_eq_true hn1
    have hz1 := Nat.le_of_ble_eq_true hz1
    have hrm := hRoom_ok hrm
    have hh := Option.some.inj hh
    simp only [hOk, Bool.and_eq_true] at hok
    obtain ⟨hd, hdm, hn, hany⟩ := hok
    have hd := bD_ok hd
    have hdm := bq hdm
    have hn := bq hn
    subst hn
    subst hdm
    obtain ⟨y, hy, hy2⟩ := List.any_eq_true.mp hany
    simp only [Bool.and_eq_true, decide_eq_true_eq] at hy2
    obtain ⟨z1, z2, z3⟩ := hy2
    have hkl := aKl_ok y hy
    obtain ⟨oc, ii, C⟩ := y
    replace z1 := bq z1
    replace z2 := bq z2
    dsimp only at z1 z2 z3
    subst z1; subst z2; subst z3
    have hcy : s.vm.findClass (FieldType.array .int).toString = some (cA 0) := va_RA_name (hK.2 0 (cA 0, .int) rfl).2
    have hz : ∀ c : ClassId, Jvm.Free.Multi.innerC c z.toNatClampNeg (defaultValue .int) = vp_cell c (z.toNatClampNeg, .inl (hIv [])) := fun c => by
      show ({ cls := c, slots := Array.replicate z.toNatClampNeg (defaultValue .int), vm := .none } : Cell) = _
      rw [arrV_new]
      rfl
    refine va_multi (ty := .int) (cy := cA 0) hx hb hown (hts _ hkl) (hno (.arrayOver (.array .int)) List.mem_cons_self) (hts _ aWarr0) hcy hK hP hD hS hAA hn0 hz0 rfl rfl (by omega) (by show z.toNatClampNeg * 4 ≤ 536870912; omega) (by omega) rfl rfl (by omega) (by omega) hz hd (fun x cc H1 hK1 hP1 hD1 hS1 => ?_)
    have hc0 : cc = cA 2 := hSame (t := 2) (by decide) hK1
    subst hc0
    have hW := hWd_multi (cA := cA) (ρ := ρ) (N := n.toNatClampNeg) (K := z.toNatClampNeg) (a := x) (hWf_ok hwf).1
    exact hAlloc hr hh hwf (by rw [hW]; exact hP1) (by rw [hW]; exact hD1) hS1 hl
  · cases h
theorem m_new {idx : Nat} (hAA : ∀ q, s.heap.size ≤ q → A q)  (cx : hCx p s m args meth c R cA D mi) (hr : hNx p l e s m args below meth c R cA D A Qf mi X ρ r) (hok : hOk mi pc (.new idx, nx, a, v) = true) (h : hStep call mi (.new idx, nx, a, v) ls st X k q = some r) : hWk p l e s m args below meth c R cA D A Qf mi pc ls st X k q ρ := by
  obtain ⟨⟨hx, hb, hr0, hml, hown, hts, hnw, hlk, hroom, hK, hmL⟩, hno, hcap, hin2⟩ := cx
  simp only [hStep] at h
  intro H locs lA hP hD hS hl
  split at h
  · rename_i j ci a'
    obtain ⟨hcj, hh⟩ := hCond h
    clear h
    simp only [Bool.and_eq_true] at hcj
    obtain ⟨hrm, hwf⟩ := hcj
    have hrm := hRoom_ok hrm
    have hh := Option.some.inj hh
    simp only [hOk, Bool.and_eq_true] at hok
    obtain ⟨hd, hn, hci, hany⟩ := hok
    have hd := bD_ok hd
    have hn := bq hn
    have hci := blt' hci
    subst hn
    obtain ⟨y, hy, hy2⟩ := List.any_eq_true.mp hany
    simp only [Bool.and_eq_true, decide_eq_true_eq] at hy2
    obtain ⟨z1, z2, z3⟩ := hy2
    have hkl := aKl_ok y hy
    obtain ⟨oc, ii, C⟩ := y
    replace z1 := bq z1
    replace z2 := bq z2
    dsimp only at z1 z2 z3
    subst z1; subst z2; subst z3
    obtain ⟨ty, t1, t2, t3, t4, t5⟩ := cl_new hci
    obtain ⟨c1, c2⟩ := cl_at hci
    generalize hrow : aCl.getD ci ("", aT0, 0) = row at c1 c2 t1 t2 t3
    obtain ⟨C, T0, N⟩ := row
    dsimp only at c2 t1 t2 t3
    subst c2; subst t3
    refine va_new hx hb hts (cl_facts c1).1 ty t1 hown (hts _ hkl) (hts _ t4) (hts _ t5) hK hP hD hS hAA c1 t2 (by omega) (by show q + (hDf ci).length ≤ R.slots; omega) hd (fun x H1 hP1 hD1 hS1 => ?_)
    have hW := hWd_one (cA := cA) (ρ := ρ) (c := .inr (ci, hDf ci)) (a := x) (hWf_ok hwf).1
    have hce : hCe cA (hAd ρ X.length x) (.inr (ci, hDf ci)) = .inr (ci, aDf ci) := by
      show (.inr (ci, (hDf ci).map (hTr (hAd ρ X.length x))) : va_E) = _
      rw [hDf_ok hci]
    rw [hce] at hW
    exact hAlloc hr hh hwf (by rw [hW]; exact hP1) (by rw [hW]; exact hD1) hS1 hl
  · cases h
/-- behind a call -/
theorem h_back {A1 free : Nat → Prop} {Qa : State → Outcome → State → Prop} {H : Heap} {locs : List Loc} {lA : Array Slot} {st0 rest : List Value} {cells slots mc ms : Nat} (hr : va_Run p l e R s m args below meth c H locs cells slots mc ms (F0 m pc lA st0) rest Qa free) (hS : va_S A s.heap H locs) (hA : ∀ q, q < H.size → A1 q → A q) (hf : ∀ q, free q → A q) (hQ : ∀ st oc t, Qa st oc t → va_F A1 st t)
    (kk : ∀ (w : Option Value) (st₀ t : State) (H1 : Heap) (locs1 : List Loc), st₀.heap = H → t.heap = H1 → Qa st₀ (.returned w) t → va_S A s.heap H1 locs1 → W p l e R s m args below meth c H1 locs1 (cells + mc) (slots + ms) Qf (F0 m (pc + 3) lA (w.toList ++ rest))) : W p l e R s m args below meth c H locs cells slots Qf (F0 m pc lA st0) := by
  intro T hT X
  obtain ⟨w, st₀, t, T', L, h0, X', hL, e1, e2, hq, stp⟩ := hr T hT X
  have hF := hQ _ _ _ hq
  obtain ⟨hz, hk⟩ := hF
  rw [h0] at hz hk
  have hS1 : va_S A s.heap T'.heap (locs ++ L) := ⟨Nat.le_trans hS.1 (by rw [e1]; exact hz), fun q h1 h2 => by rw [e1, hk q (Nat.lt_of_lt_of_le h1 hS.1) (fun z => h2 (hA q (Nat.lt_of_lt_of_le h1 hS.1) z))]; exact hS.2.1 q h1 h2, fun q hq => by
      rcases List.mem_append.mp hq with h | h
      · exact hS.2.2 q h
      · exact hf _ (hL q h)⟩
  obtain ⟨t2, a1, b1⟩ := kk w st₀ t T'.heap (locs ++ L) h0 e1.symm hq hS1 T' rfl X'
  exact ⟨t2, stp t2 a1, b1⟩
/-- what is known of the constructors that are called -/
def hCalls (l : Launch) (cA : Nat → ClassId) (D : va_G) (mi : Nat) (call : Nat → List hV → List hC → Option (List hC)) : Prop :=
  ∀ (mj : Nat) (as : List hV) (X X' : List hC) (ρ : Nat → Nat) (sz : Nat), mj < mi → (aMe mj).2.2.2.2.2.1 = 2 → call mj as X = some X' → as.length ≤ aML mj → Met l (aMe mj).2.1 (bWs mj) (hRm mj) (hPre ρ cA D as X sz) (hPo ρ cA D X X' sz) (hMc mj) (hMs mj) (va_A (hWd cA ρ X) sz)
theorem m_invokespecial {idx : Nat} (hAA : ∀ q, s.heap.size ≤ q → A q) (hmi : mi ≤ 176) (hcall : hCalls l cA D mi call) (cx : hCx p s m args meth c R cA D mi) (hr : hNx p l e s m args below meth c R cA D A Qf mi X ρ r) (hok : hOk mi pc (.invokespecial idx, nx, a, v) = true) (h : hStep call mi (.invokespecial idx, nx, a, v) ls st X k q = some r) : hWk p l e s m args below meth c R cA D A Qf mi pc ls st X k q ρ := by
  obtain ⟨⟨hx, hb, hr0, hml, hown, hts, hnw, hlk, hroom, hK, hmL⟩, hno, hcap, hin2⟩ := cx
  simp only [hStep] at h
  intro H locs lA hP hD hS hl
  split at h
  · rename_i ix
    split at h
    · rename_i o rs
      obtain ⟨hcj, hh⟩ := hCond h
      clear h
      have hh := Option.some.inj hh
      have hcj := Nat.le_of_ble_eq_true hcj
      simp only [hOk, Bool.and_eq_true] at hok
      obtain ⟨hd, hn, hix, hany⟩ := hok
      have hd := bD_ok hd
      have hn := bq hn
      have hix := bq hix
      subst hn; subst hix
      obtain ⟨y, hy, hy2⟩ := List.any_eq_true.mp hany
      simp only [Bool.and_eq_true] at hy2
      obtain ⟨z1, z2⟩ := hy2
      have hkl := aOi_ok y hy
      obtain ⟨oc, ii⟩ := y
      replace z1 := bq z1
      replace z2 := bq z2
      dsimp only at z1 z2
      subst z1; subst z2
      have hm8 : 2 * (F0 m pc lA (.ref (ρ o) :: rs.map (hTr ρ))).monitorRoom + ((rs.map (hTr ρ)).map fun v => v.category).sum ≤ 8 := lv_room (hLe4 hcj)
      refine W.objInit (a := ρ o) (rest := rs.map (hTr ρ)) hx hb hown (hts _ hkl) (hts _ aWoi) (hts _ aWoc) rfl (hl.1.trans (hmL.trans hml.symm)) rfl hd (by omega) (Nat.le_trans (Nat.add_le_add_right hm8 12) (by omega)) (hr _ _ _ _ _ _ hh ρ (fun _ _ => rfl) (Nat.le_refl _) H locs lA hP hD hS hl)
    · cases h
  · rename_i mj na b2 hne
    split at h
    · rename_i o as hast0
      obtain ⟨hcj, hh⟩ := hCond h
      clear h
      simp only [Bool.and_eq_true] at hcj
      obtain ⟨l1, l2, l3, hrm, hwf⟩ := hcj
      have l1 := Nat.le_of_ble_eq_true l1
      have l2 := Nat.le_of_ble_eq_true l2
      have l3 := Nat.le_of_ble_eq_true l3
      have hrm := hRoom_ok hrm
      split at hh
      · rename_i X' hcl
        obtain ⟨hgr, hh⟩ := hCond hh
        have hgr := Nat.le_of_ble_eq_true hgr
        have hh := Option.some.inj hh
        have hok2 : ∃ j b3 b4 b5 b6 b7, bD mi pc (.invokespecial idx) 3 = true ∧ nx = pc + 3 ∧ bMk' mi j idx mj = true ∧ mj < mi ∧ (aMe mj).2.2.2.2.2.1 = 2 ∧ na = (aMe mj).2.2.2.2.2.2.2.2 + 1 ∧ b2 = [b3, b4, b5, j, b6, b7] := by
          simp only [hOk] at hok
          split at hok
          · rename_i ix hz
            simp only [List.cons.injEq] at hz
            obtain ⟨e1, e2, e3⟩ := hz
            first | exact (hne e1 e3).elim | exact (hne e1 e2 e3).elim | exact (hne e1 _ e2 e3).elim
          · rename_i mj' na' c3 c4 c5 j c6 c7 hz
            cases hz
            simp only [Bool.and_eq_true] at hok
            obtain ⟨w1, w2, w3, w4, w5, w6⟩ := hok
            exact ⟨j, c3, c4, c5, c6, c7, w1, bq w2, w3, blt' w4, bq w5, bq w6, rfl⟩
          · cases hok
        obtain ⟨j, -, -, -, -, -, hd, hn, hmk, hlt, hkind, hna, -⟩ := hok2
        have hd := bD_ok hd
        subst hn
        have hast : st = (Sum.inr (Sum.inl o) :: as).reverse ++ st.drop na := by rw [← hast0, List.reverse_reverse, List.take_append_drop]
        have hlen : (Sum.inr (Sum.inl o) :: as : List hV).length = na := by rw [← hast0, List.length_reverse, List.length_take]; omega
        obtain ⟨rest, hrest⟩ : ∃ rest, rest = st.drop na := ⟨_, rfl⟩
        rw [← hrest] at l2 hh hast
        have hMo := aMt_ok mj (by omega)
        have hM := hcall mj _ X X' ρ H.size hlt hkind hcl (by omega)
        obtain ⟨w1, w2, w3, w4, w5, w6, w7, w8, w9, w10⟩ := id hMo
        obtain ⟨nest, z0, z1⟩ := mk_ok hmk
        dsimp only at z0 z1
        have hpre : PreS s H (hPre ρ cA D (.inr (.inl o) :: as) X H.size) (.ref (ρ o) :: as.map (hTr ρ)) := ⟨hPre_blind, fun U hU hW => ⟨rfl, by rw [hU], by rw [hU]; exact hP, va_K.moved hW.alike hK, hD.weaken (fun _ _ _ _ => trivial), bNw_warm hW hnw, hNO_moved hW.alike hno⟩⟩
        have hnp : (as.map (hTr ρ)).length = (aMe mj).2.2.2.2.2.2.2.2 := by
          rw [List.length_map]
          simp only [List.length_cons] at hlen
          omega
        have hfr : (hRm mj).frames + 1 ≤ R.frames ∧ 8 + ((aMe mj).2.2.2.1 + 11) + (hRm mj).locals ≤ R.locals := by
          show mj + 1 + 1 ≤ R.frames ∧ 8 + ((aMe mj).2.2.2.1 + 11) + 64 * (mj + 1) ≤ R.locals
          omega
        have hstk : st.map (hTr ρ) = (as.map (hTr ρ)).reverse ++ .ref (ρ o) :: rest.map (hTr ρ) := by
          rw [hast]
          simp [hTr]
        rw [hstk]
        obtain ⟨f1, f2, f3⟩ := hWf_ok hwf
        have hf3 : rest.all (hOkV X.length) = true := List.all_eq_true.mpr fun v hv => List.all_eq_true.mp f3 v (by rw [hrest] at hv; exact List.mem_of_mem_drop hv)
        have hAq : ∀ q, q < H.size → va_A (hWd cA ρ X) H.size q → A q := fun q hq hz => by
          rcases hz with ⟨k', e', hz⟩ | hz
          · exact hD.2 k' _ hz
          · omega
        have hfq : ∀ q, va_A (hWd cA ρ X) H.size q → A q := fun q hz => by
          rcases hz with ⟨k', e', hz⟩ | hz
          · exact hD.2 k' _ hz
          · exact hAA q (Nat.le_trans hS.1 hz)
        have hkk : ∀ (w : Option Value) (st₀ t : State) (H1 : Heap) (locs1 : List Loc), st₀.heap = H → t.heap = H1 → hPo ρ cA D X X' H.size (Value.ref (ρ o) :: as.map (hTr ρ)).toArray st₀ (.returned w) t → va_S A s.heap H1 locs1 → W p l e R s m args below meth c H1 locs1 (k + hMc mj) (q + hMs mj) Qf (F0 m (pc + 3) lA (w.toList ++ rest.map (hTr ρ))) := by
          rintro w st₀ t H1 locs1 hst0 rfl ⟨⟨ρ', hv2, hv3, hv4, hv5⟩, -⟩ hS1
          cases hv2
          have h1 := hr _ _ _ _ _ _ hh ρ' hv3 hgr t.heap locs1 lA hv4 (hv5.weaken (fun _ _ _ z => hfq _ z)) hS1 (lv_mono hl (hPr_eq hv3 f2))
          rw [hSt_eq hv3 hf3] at h1
          exact h1
        by_cases hne0 : nest = 0
        · exact h_back (va_runI ⟨hx, hb, hml, hown, hts⟩ hM ⟨callB_of _ hts (bGood hMo) (by rw [bWs, (w6 hkind).2]) rfl rfl (hts _ w2) (hts _ (z0 hne0)) w9 hfr, (w6 hkind).1, hts _ (w4 (by rw [hkind]; decide))⟩ hpre rfl hnp (by rw [← hmL]; exact hl.1) rfl (lv_room (hLe4 l2)) hd ⟨by omega, by omega⟩) hS hAq hfq (fun _ _ _ z => z.2) hkk
        · exact h_back (va_runIN ⟨hx, hb, hml, hown, hts⟩ hM ⟨va_cnB _ hts (bGood hMo) (by rw [bWs, (w6 hkind).2]) rfl rfl (hnw _ (z1 hne0)) (hts _ w2) w9 hfr, (w6 hkind).1, hts _ (w4 (by rw [hkind]; decide))⟩ hpre rfl hnp (by rw [← hmL]; exact hl.1) rfl (lv_room (hLe4 l2)) hd ⟨by omega, by omega⟩) hS hAq hfq (fun _ _ _ z => z.2) hkk
      · cases hh
    · cases h
  · cases h
end HT
