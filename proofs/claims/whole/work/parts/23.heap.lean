-- needs: 01 02 03 04 05 06 08 09 10 20 21 22
section BS
variable {p : Program} {l : Launch} {e : Env} {s : State} {m : MethodId} {args : Array Value} {below : List Frame} {meth : Method} {c : Code} {R : Room} {φ : Nat → Nat → Nat} {cA : Nat → ClassId} {D : va_G} {A : Nat → Prop} {Qf : State → Prop} {mi : Nat}
variable {call : Nat → List bV → bM → bQ → Prop} {Q : bQ} {G : bG} {pc nx : Nat} {a : List Nat} {v : Int32} {ls : bL} {st : List bV} {M : bM}
theorem w_iaload  (cx : bCx p s m args meth c R cA D mi) (hG : ∀ pc ls st M, G pc ls st M → bWk p l e s m args below meth c R φ cA D A Qf mi pc ls st M) (hok : bOk mi pc (.iaload, nx, a, v) = true) (h : bRun call Q G (bStep (.iaload, nx, a, v) ls st M)) : bWk p l e s m args below meth c R φ cA D A Qf mi pc ls st M := by
  obtain ⟨hx, hb, hr, hml, hown, hts, hnw, hlk, hroom, hK, hmL⟩ := cx
  simp only [bOk, Bool.and_eq_true, decide_eq_true_eq] at hok
  obtain ⟨hd, hn⟩ := hok
  have hd := bD_ok hd
  have hn := bq hn
  subst hn
  intro H locs lA hP hD hS hl hL hV
  simp only [bStep] at h
  split at h
  · rename_i i g j r
    have hk : (bIs g 0) = true := by
      cases hk : (bIs g 0) with
      | false => rw [hk] at h; exact h.1.elim
      | true => rfl
    rw [hk] at h
    simp only [cond_true] at h
    simp only [bIs, Bool.and_eq_true] at hk
    have hkd := bq hk.1
    have hkt := bq hk.2
    obtain ⟨k, hv⟩ := bVs_at (oH (oT hV) : (g, j) ∈ bVs)
    have hw := bWd_get (cA := cA) (φ := φ) (M := M) hv
    have hc : bCell cA φ M g j = .inl (cA 0, bKn g, .inl (M g j)) := by
      unfold bCell
      rw [hkd, hkt]
      rfl
    exact va_iald hx hb hK hP k 0 (by rw [hw, hc]) rfl h.1 hd (hG _ _ (.inl (M g j i.toNatClampNeg) :: r) M h.2 H locs lA hP hD hS hl hL (oI (oT (oT hV))))
  · exact h.1.elim
theorem w_baload  (cx : bCx p s m args meth c R cA D mi) (hG : ∀ pc ls st M, G pc ls st M → bWk p l e s m args below meth c R φ cA D A Qf mi pc ls st M) (hok : bOk mi pc (.baload, nx, a, v) = true) (h : bRun call Q G (bStep (.baload, nx, a, v) ls st M)) : bWk p l e s m args below meth c R φ cA D A Qf mi pc ls st M := by
  obtain ⟨hx, hb, hr, hml, hown, hts, hnw, hlk, hroom, hK, hmL⟩ := cx
  simp only [bOk, Bool.and_eq_true, decide_eq_true_eq] at hok
  obtain ⟨hd, hn⟩ := hok
  have hd := bD_ok hd
  have hn := bq hn
  subst hn
  intro H locs lA hP hD hS hl hL hV
  simp only [bStep] at h
  split at h
  · rename_i i g j r
    have hk : (bIs g 1) = true := by
      cases hk : (bIs g 1) with
      | false => rw [hk] at h; exact h.1.elim
      | true => rfl
    rw [hk] at h
    simp only [cond_true] at h
    simp only [bIs, Bool.and_eq_true] at hk
    have hkd := bq hk.1
    have hkt := bq hk.2
    obtain ⟨k, hv⟩ := bVs_at (oH (oT hV) : (g, j) ∈ bVs)
    have hw := bWd_get (cA := cA) (φ := φ) (M := M) hv
    have hc : bCell cA φ M g j = .inl (cA 1, bKn g, .inl (M g j)) := by
      unfold bCell
      rw [hkd, hkt]
      rfl
    exact va_zald hx hb hK hP k 1 (by rw [hw, hc]) rfl h.1 hd (hG _ _ (.inl (M g j i.toNatClampNeg) :: r) M h.2 H locs lA hP hD hS hl hL (oI (oT (oT hV))))
  · exact h.1.elim
theorem w_iastore  (cx : bCx p s m args meth c R cA D mi) (hG : ∀ pc ls st M, G pc ls st M → bWk p l e s m args below meth c R φ cA D A Qf mi pc ls st M) (hok : bOk mi pc (.iastore, nx, a, v) = true) (h : bRun call Q G (bStep (.iastore, nx, a, v) ls st M)) : bWk p l e s m args below meth c R φ cA D A Qf mi pc ls st M := by
  obtain ⟨hx, hb, hr, hml, hown, hts, hnw, hlk, hroom, hK, hmL⟩ := cx
  simp only [bOk, Bool.and_eq_true, decide_eq_true_eq] at hok
  obtain ⟨hd, hn⟩ := hok
  have hd := bD_ok hd
  have hn := bq hn
  subst hn
  intro H locs lA hP hD hS hl hL hV
  simp only [bStep] at h
  split at h
  · rename_i x i g j r
    have hk : (bIs g 0) = true := by
      cases hk : (bIs g 0) with
      | false => rw [hk] at h; exact h.1.elim
      | true => rfl
    rw [hk] at h
    simp only [cond_true] at h
    simp only [bIs, Bool.and_eq_true] at hk
    have hkd := bq hk.1
    have hkt := bq hk.2
    obtain ⟨k, hv⟩ := bVs_at (oH (oT (oT hV)) : (g, j) ∈ bVs)
    have hw := bWd_get (cA := cA) (φ := φ) (M := M) hv
    have hc : bCell cA φ M g j = .inl (cA 0, bKn g, .inl (M g j)) := by
      unfold bCell
      rw [hkd, hkt]
      rfl
    have hz : x = x := rfl
    have hc2 : bCell cA φ (bU M g j i.toNatClampNeg x) g j = .inl (cA 0, bKn g, .inl (upd (M g j) i.toNatClampNeg x)) := by
      unfold bCell
      rw [hkd, hkt, bU_row, hz]
      rfl
    have he : (bWd cA φ M).set k (φ g j, .inl (cA 0, bKn g, .inl (upd (M g j) i.toNatClampNeg x))) = bWd cA φ (bU M g j i.toNatClampNeg x) := by
      rw [← hc2]
      exact bWd_set hv (fun g' j' hne => bU_other g' j' hne)
    exact va_iast hx hb hK hP hD hS k 0 (by rw [hw, hc]) rfl h.1 hd (fun H1 locs1 hP1 hD1 hS1 => by
      rw [he] at hP1 hD1
      exact hG _ _ r _ h.2 H1 locs1 lA hP1 hD1 hS1 hl hL (oT (oT (oT hV))))
  · exact h.1.elim
theorem w_bastore  (cx : bCx p s m args meth c R cA D mi) (hG : ∀ pc ls st M, G pc ls st M → bWk p l e s m args below meth c R φ cA D A Qf mi pc ls st M) (hok : bOk mi pc (.bastore, nx, a, v) = true) (h : bRun call Q G (bStep (.bastore, nx, a, v) ls st M)) : bWk p l e s m args below meth c R φ cA D A Qf mi pc ls st M := by
  obtain ⟨hx, hb, hr, hml, hown, hts, hnw, hlk, hroom, hK, hmL⟩ := cx
  simp only [bOk, Bool.and_eq_true, decide_eq_true_eq] at hok
  obtain ⟨hd, hn⟩ := hok
  have hd := bD_ok hd
  have hn := bq hn
  subst hn
  intro H locs lA hP hD hS hl hL hV
  simp only [bStep] at h
  split at h
  · rename_i x i g j r
    have hk : (bIs g 1) = true := by
      cases hk : (bIs g 1) with
      | false => rw [hk] at h; exact h.1.elim
      | true => rfl
    rw [hk] at h
    simp only [cond_true] at h
    simp only [bIs, Bool.and_eq_true] at hk
    have hkd := bq hk.1
    have hkt := bq hk.2
    obtain ⟨k, hv⟩ := bVs_at (oH (oT (oT hV)) : (g, j) ∈ bVs)
    have hw := bWd_get (cA := cA) (φ := φ) (M := M) hv
    have hc : bCell cA φ M g j = .inl (cA 1, bKn g, .inl (M g j)) := by
      unfold bCell
      rw [hkd, hkt]
      rfl
    have hz : (vp_nar .boolean x) = x := by rcases h.1.2 with rfl | rfl <;> rfl
    have hc2 : bCell cA φ (bU M g j i.toNatClampNeg x) g j = .inl (cA 1, bKn g, .inl (upd (M g j) i.toNatClampNeg (vp_nar .boolean x))) := by
      unfold bCell
      rw [hkd, hkt, bU_row, hz]
      rfl
    have he : (bWd cA φ M).set k (φ g j, .inl (cA 1, bKn g, .inl (upd (M g j) i.toNatClampNeg (vp_nar .boolean x)))) = bWd cA φ (bU M g j i.toNatClampNeg x) := by
      rw [← hc2]
      exact bWd_set hv (fun g' j' hne => bU_other g' j' hne)
    exact va_zast hx hb hK hP hD hS k 1 (by rw [hw, hc]) rfl h.1.1 hd (fun H1 locs1 hP1 hD1 hS1 => by
      rw [he] at hP1 hD1
      exact hG _ _ r _ h.2 H1 locs1 lA hP1 hD1 hS1 hl hL (oT (oT (oT hV))))
  · exact h.1.elim
theorem w_aaload  (cx : bCx p s m args meth c R cA D mi) (hG : ∀ pc ls st M, G pc ls st M → bWk p l e s m args below meth c R φ cA D A Qf mi pc ls st M) (hok : bOk mi pc (.aaload, nx, a, v) = true) (h : bRun call Q G (bStep (.aaload, nx, a, v) ls st M)) : bWk p l e s m args below meth c R φ cA D A Qf mi pc ls st M := by
  obtain ⟨hx, hb, hr, hml, hown, hts, hnw, hlk, hroom, hK, hmL⟩ := cx
  simp only [bOk, Bool.and_eq_true, decide_eq_true_eq] at hok
  obtain ⟨hd, hn⟩ := hok
  have hd := bD_ok hd
  have hn := bq hn
  subst hn
  intro H locs lA hP hD hS hl hL hV
  simp only [bStep] at h
  split at h
  · rename_i i g j r
    have hk : (Nat.beq (bKd g) 1) = true := by
      cases hk : (Nat.beq (bKd g) 1) with
      | false => rw [hk] at h; exact h.1.elim
      | true => rfl
    rw [hk] at h
    simp only [cond_true] at h
    have hkd := bq hk
    have hgj : (g, j) ∈ bVs := oH (oT hV)
    obtain ⟨k, hv⟩ := bVs_at hgj
    have hw := bWd_get (cA := cA) (φ := φ) (M := M) hv
    have hc : bCell cA φ M g j = .inl (cA (bKt g), bKn g, .inr (.inr (.inr (.inr (fun i => some (φ (bRr g j i).1 (bRr g j i).2)))))) := by
      unfold bCell
      rw [hkd]
      rfl
    rw [hc] at hw
    have hlt : i.toNatClampNeg < bKn g := Nat.not_le.mp fun q => h.1 (Or.inr q)
    have ht := ty_at (cA := cA) ((vs1 hgj).2.2.2 (by omega))
    refine W.aald (v := va_rf (some (φ (bRr g j i.toNatClampNeg).1 (bRr g j i.toNatClampNeg).2))) (ty := aTys (bKt g)) hx hb (hP k _ hw) ((hK.2 _ _ ht).1 _ (fun j' => va_rf (some (φ (bRr g j j').1 (bRr g j j').2)))) (vs2 hgj hkd).1 (fun q => by cases q) (by show ¬ (i < 0 ∨ (arrV _ _ _).slots.size ≤ _); rw [arrV_size]; exact h.1) (by show (arrV _ _ _).slots[_]? = _; rw [arrV_read _ _ hlt]) rfl rfl hd ?_
    exact hG _ _ (.inr (.inr (.inl (bRr g j i.toNatClampNeg))) :: r) M h.2 H locs lA hP hD hS hl hL (oR ((vs2 hgj hkd).2 _ hlt) (oT (oT hV)))
  · exact h.1.elim
theorem w_arraylength  (cx : bCx p s m args meth c R cA D mi) (hG : ∀ pc ls st M, G pc ls st M → bWk p l e s m args below meth c R φ cA D A Qf mi pc ls st M) (hok : bOk mi pc (.arraylength, nx, a, v) = true) (h : bRun call Q G (bStep (.arraylength, nx, a, v) ls st M)) : bWk p l e s m args below meth c R φ cA D A Qf mi pc ls st M := by
  obtain ⟨hx, hb, hr, hml, hown, hts, hnw, hlk, hroom, hK, hmL⟩ := cx
  simp only [bOk, Bool.and_eq_true, decide_eq_true_eq] at hok
  obtain ⟨hd, hn⟩ := hok
  have hd := bD_ok hd
  have hn := bq hn
  subst hn
  intro H locs lA hP hD hS hl hL hV
  simp only [bStep] at h
  split at h
  · rename_i g j r
    have hk : (bIs g 0) = true := by
      cases hk : (bIs g 0) with
      | false => rw [hk] at h; exact h.1.elim
      | true => rfl
    rw [hk] at h
    simp only [cond_true] at h
    simp only [bIs, Bool.and_eq_true] at hk
    have hkd := bq hk.1
    have hkt := bq hk.2
    obtain ⟨k, hv⟩ := bVs_at (oH hV : (g, j) ∈ bVs)
    have hw := bWd_get (cA := cA) (φ := φ) (M := M) hv
    have hc : bCell cA φ M g j = .inl (cA 0, bKn g, .inl (M g j)) := by
      unfold bCell
      rw [hkd, hkt]
      rfl
    exact va_alen (x := (bKn g, .inl (M g j))) (v := Int32.ofNat (bKn g)) hx hb hK hP k 0 (by rw [hw, hc]) (ty := .int) rfl rfl hd (hG _ _ (.inl (Int32.ofNat (bKn g)) :: r) M h H locs lA hP hD hS hl hL (oI (oT hV)))
  · exact h.1.elim
theorem w_getfield {idx : Nat} (cx : bCx p s m args meth c R cA D mi) (hG : ∀ pc ls st M, G pc ls st M → bWk p l e s m args below meth c R φ cA D A Qf mi pc ls st M) (hok : bOk mi pc (.getfield idx, nx, a, v) = true) (h : bRun call Q G (bStep (.getfield idx, nx, a, v) ls st M)) : bWk p l e s m args below meth c R φ cA D A Qf mi pc ls st M := by
  obtain ⟨hx, hb, hr, hml, hown, hts, hnw, hlk, hroom, hK, hmL⟩ := cx
  simp only [bOk] at hok
  split at hok
  · rename_i lj ci f zt
    simp only [Bool.and_eq_true] at hok
    obtain ⟨hd, hn, hfk⟩ := hok
    have hd := bD_ok hd
    have hn := bq hn
    subst hn
    intro H locs lA hP hD hS hl hL hV
    simp only [bStep] at h
    split at h
    · rename_i lj' ci' f' g j r hs
      cases hs
      have hk : ((Nat.beq (bKd g) 2 && (Nat.beq (bKt g) ci && Nat.blt f (bKn g)))) = true := by
        cases hk : ((Nat.beq (bKd g) 2 && (Nat.beq (bKt g) ci && Nat.blt f (bKn g)))) with
        | false => rw [hk] at h; exact h.1.elim
        | true => rfl
      rw [hk] at h
      simp only [cond_true] at h
      simp only [Bool.and_eq_true] at hk
      have hkd := bq hk.1
      have hkt := bq hk.2.1
      have hfn := blt' hk.2.2
      obtain ⟨k, hv⟩ := bVs_at (oH hV : (g, j) ∈ bVs)
      have hw := bWd_get (cA := cA) (φ := φ) (M := M) hv
      have hc : bCell cA φ M g j = .inr (ci, (List.range (bKn g)).map (bFld φ M g j)) := by
        unfold bCell
        rw [hkd, hkt]
        rfl
      rw [hc] at hw
      have hfl : ((List.range (bKn g)).map (bFld φ M g j))[f]? = some (bFld φ M g j f) := by
        rw [List.getElem?_map, List.getElem?_range hfn]
        rfl
      obtain ⟨nest, rr, hc0, hf0, hd0, hl0, hl1⟩ := fk_ok hfk
      dsimp only at hc0 hf0 hd0 hl0 hl1
      cases hfr : bFr g f j with
      | none => rw [hfr] at h; exact h.1.elim
      | some t =>
      rw [hfr] at h
      have hval : bFld φ M g j f = .ref (φ t.1 t.2) := by unfold bFld; rw [hfr]
      by_cases hne : nest = 0
      · exact va_get hx hb hts (cl_facts hc0).1 hown hK hP k hw hc0 f hf0 (hts _ (hl0 hne)) (by rw [hd0]; exact fun _ z => z) (by rw [hfl, hval]; rfl) hd (hG _ _ (.inr (.inr (.inl t)) :: r) M h H locs lA hP hD hS hl hL (oR ((vs3 (oH hV : (g, j) ∈ bVs) hkd hfn).1 t hfr) (oT hV)))
      · exact va_getN hx hb hts (cl_facts hc0).1 hown hK hP k hw hc0 f hf0 (va_Nw.use rfl (hnw _ (hl1 hne))) (by rw [hd0]; exact fun _ z => z) (by rw [hfl, hval]; rfl) hd (hG _ _ (.inr (.inr (.inl t)) :: r) M h H locs lA hP hD hS hl hL (oR ((vs3 (oH hV : (g, j) ∈ bVs) hkd hfn).1 t hfr) (oT hV)))
    · rename_i lj' ci' f' zt' g j r hzt hs
      cases hs
      have hk : (bFI g ci f) = true := by
        cases hk : (bFI g ci f) with
        | false => rw [hk] at h; exact h.1.elim
        | true => rfl
      rw [hk] at h
      simp only [cond_true] at h
      simp only [bFI, Bool.and_eq_true] at hk
      have hkd := bq hk.1
      have hkt := bq hk.2.1
      have hfn := blt' hk.2.2.1
      obtain ⟨k, hv⟩ := bVs_at (oH hV : (g, j) ∈ bVs)
      have hw := bWd_get (cA := cA) (φ := φ) (M := M) hv
      have hc : bCell cA φ M g j = .inr (ci, (List.range (bKn g)).map (bFld φ M g j)) := by
        unfold bCell
        rw [hkd, hkt]
        rfl
      rw [hc] at hw
      have hfl : ((List.range (bKn g)).map (bFld φ M g j))[f]? = some (bFld φ M g j f) := by
        rw [List.getElem?_map, List.getElem?_range hfn]
        rfl
      obtain ⟨nest, rr, hc0, hf0, hd0, hl0, hl1⟩ := fk_ok hfk
      dsimp only at hc0 hf0 hd0 hl0 hl1
      have hfr : bFr g f j = none := by
        have h1 := (vs3 (oH hV : (g, j) ∈ bVs) hkd hfn).2
        have h2 := hk.2.2.2
        cases hz : bFr g f 0 with
        | some t => rw [hz] at h2; cases h2
        | none => rw [hz] at h1; simpa using h1
      have hval : bFld φ M g j f = .int (M g j f) := by unfold bFld; rw [hfr]
      by_cases hne : nest = 0
      · exact va_get hx hb hts (cl_facts hc0).1 hown hK hP k hw hc0 f hf0 (hts _ (hl0 hne)) (by rw [hd0]; exact fun _ z => z) (by rw [hfl, hval]; rfl) hd (hG _ _ (.inl (M g j f) :: r) M h H locs lA hP hD hS hl hL (oI (oT hV)))
      · exact va_getN hx hb hts (cl_facts hc0).1 hown hK hP k hw hc0 f hf0 (va_Nw.use rfl (hnw _ (hl1 hne))) (by rw [hd0]; exact fun _ z => z) (by rw [hfl, hval]; rfl) hd (hG _ _ (.inl (M g j f) :: r) M h H locs lA hP hD hS hl hL (oI (oT hV)))
    · exact h.1.elim
  · cases hok
theorem w_putfield {idx : Nat} (cx : bCx p s m args meth c R cA D mi) (hG : ∀ pc ls st M, G pc ls st M → bWk p l e s m args below meth c R φ cA D A Qf mi pc ls st M) (hok : bOk mi pc (.putfield idx, nx, a, v) = true) (h : bRun call Q G (bStep (.putfield idx, nx, a, v) ls st M)) : bWk p l e s m args below meth c R φ cA D A Qf mi pc ls st M := by
  obtain ⟨hx, hb, hr, hml, hown, hts, hnw, hlk, hroom, hK, hmL⟩ := cx
  simp only [bOk] at hok
  simp only [bStep] at h
  split at hok
  · rename_i lj ci f
    simp only [Bool.and_eq_true] at hok
    obtain ⟨hd, hn, hfk, htf⟩ := hok
    have hd := bD_ok hd
    have hn := bq hn
    subst hn
    intro H locs lA hP hD hS hl hL hV
    split at h
    · rename_i lj' ci' f' x g j r hs
      cases hs
      have hk : (bFI g ci f) = true := by
        cases hk : (bFI g ci f) with
        | false => rw [hk] at h; exact h.1.elim
        | true => rfl
      rw [hk] at h
      simp only [cond_true] at h
      simp only [bFI, Bool.and_eq_true] at hk
      have hkd := bq hk.1
      have hkt := bq hk.2.1
      have hfn := blt' hk.2.2.1
      obtain ⟨k, hv⟩ := bVs_at (oH (oT hV) : (g, j) ∈ bVs)
      have hw := bWd_get (cA := cA) (φ := φ) (M := M) hv
      have hc : bCell cA φ M g j = .inr (ci, (List.range (bKn g)).map (bFld φ M g j)) := by
        unfold bCell
        rw [hkd, hkt]
        rfl
      rw [hc] at hw
      have hfl : ((List.range (bKn g)).map (bFld φ M g j))[f]? = some (bFld φ M g j f) := by
        rw [List.getElem?_map, List.getElem?_range hfn]
        rfl
      obtain ⟨nest, rr, hc0, hf0, hd0, hl0, hl1⟩ := fk_ok hfk
      dsimp only at hc0 hf0 hd0 hl0 hl1
      have hfr : bFr g f j = none := by
        have h1 := (vs3 (oH (oT hV) : (g, j) ∈ bVs) hkd hfn).2
        have h2 := hk.2.2.2
        cases hz : bFr g f 0 with
        | some t => rw [hz] at h2; cases h2
        | none => rw [hz] at h1; simpa using h1
      simp only [bTyF, Bool.and_eq_true, decide_eq_true_eq, Bool.not_eq_true'] at htf
      obtain ⟨htf, hfin⟩ := htf
      have hrr : aCl.getD ci ("", aT0, 0) = rr := by rw [List.getD_eq_getElem?_getD, hc0]; rfl
      rw [hrr] at htf hfin
      obtain ⟨hin, ⟨ty0, hty0⟩, hnm⟩ := cl_facts hc0
      have hc2 : bCell cA φ (bU M g j f x) g j = .inr (ci, ((List.range (bKn g)).map (bFld φ M g j)).set f (.int x)) := by
        unfold bCell
        rw [hkd, hkt, bFlds_set hfr]
        rfl
      have he : (bWd cA φ M).set k (φ g j, .inr (ci, ((List.range (bKn g)).map (bFld φ M g j)).set f (.int x))) = bWd cA φ (bU M g j f x) := by
        rw [← hc2]
        exact bWd_set hv (fun g' j' hne => bU_other g' j' hne)
      have hlen : f < ((List.range (bKn g)).map (bFld φ M g j)).length := by rw [List.length_map, List.length_range]; exact hfn
      by_cases hne : nest = 0
      · exact va_put (ty := .int) (v := .int x) hx hb hts hin ty0 hty0 hnm hown hK hP hD hS k hw hc0 f hf0 (hts _ (hl0 hne)) (by rw [hd0]; exact fun _ z => z) hfin htf (rfl) (rfl) hlen hd (fun H1 locs1 hP1 hD1 hS1 => by
          rw [he] at hP1 hD1
          exact hG _ _ r _ h H1 locs1 lA hP1 hD1 hS1 hl hL (oT (oT hV)))
      · exact va_putN (ty := .int) (v := .int x) hx hb hts hin ty0 hty0 hnm hown hK hP hD hS k hw hc0 f hf0 (va_Nw.use rfl (hnw _ (hl1 hne))) (by rw [hd0]; exact fun _ z => z) hfin htf (rfl) (rfl) hlen hd (fun H1 locs1 hP1 hD1 hS1 => by
          rw [he] at hP1 hD1
          exact hG _ _ r _ h H1 locs1 lA hP1 hD1 hS1 hl hL (oT (oT hV)))
    · rename_i hs; cases hs
    · exact h.1.elim
  · rename_i lj ci f
    simp only [Bool.and_eq_true] at hok
    obtain ⟨hd, hn, hfk, htf⟩ := hok
    have hd := bD_ok hd
    have hn := bq hn
    subst hn
    intro H locs lA hP hD hS hl hL hV
    split at h
    · rename_i hs; cases hs
    · rename_i lj' ci' f' x g j r hs
      cases hs
      have hk : (bFI g ci f) = true := by
        cases hk : (bFI g ci f) with
        | false => rw [hk] at h; exact h.1.elim
        | true => rfl
      rw [hk] at h
      simp only [cond_true] at h
      simp only [bFI, Bool.and_eq_true] at hk
      have hkd := bq hk.1
      have hkt := bq hk.2.1
      have hfn := blt' hk.2.2.1
      obtain ⟨k, hv⟩ := bVs_at (oH (oT hV) : (g, j) ∈ bVs)
      have hw := bWd_get (cA := cA) (φ := φ) (M := M) hv
      have hc : bCell cA φ M g j = .inr (ci, (List.range (bKn g)).map (bFld φ M g j)) := by
        unfold bCell
        rw [hkd, hkt]
        rfl
      rw [hc] at hw
      have hfl : ((List.range (bKn g)).map (bFld φ M g j))[f]? = some (bFld φ M g j f) := by
        rw [List.getElem?_map, List.getElem?_range hfn]
        rfl
      obtain ⟨nest, rr, hc0, hf0, hd0, hl0, hl1⟩ := fk_ok hfk
      dsimp only at hc0 hf0 hd0 hl0 hl1
      have hfr : bFr g f j = none := by
        have h1 := (vs3 (oH (oT hV) : (g, j) ∈ bVs) hkd hfn).2
        have h2 := hk.2.2.2
        cases hz : bFr g f 0 with
        | some t => rw [hz] at h2; cases h2
        | none => rw [hz] at h1; simpa using h1
      simp only [bTyF, Bool.and_eq_true, decide_eq_true_eq, Bool.not_eq_true'] at htf
      obtain ⟨htf, hfin⟩ := htf
      have hrr : aCl.getD ci ("", aT0, 0) = rr := by rw [List.getD_eq_getElem?_getD, hc0]; rfl
      rw [hrr] at htf hfin
      obtain ⟨hin, ⟨ty0, hty0⟩, hnm⟩ := cl_facts hc0
      have hc2 : bCell cA φ (bU M g j f x) g j = .inr (ci, ((List.range (bKn g)).map (bFld φ M g j)).set f (.int x)) := by
        unfold bCell
        rw [hkd, hkt, bFlds_set hfr]
        rfl
      have he : (bWd cA φ M).set k (φ g j, .inr (ci, ((List.range (bKn g)).map (bFld φ M g j)).set f (.int x))) = bWd cA φ (bU M g j f x) := by
        rw [← hc2]
        exact bWd_set hv (fun g' j' hne => bU_other g' j' hne)
      have hlen : f < ((List.range (bKn g)).map (bFld φ M g j)).length := by rw [List.length_map, List.length_range]; exact hfn
      by_cases hne : nest = 0
      · exact va_put (ty := .boolean) (v := .int x) hx hb hts hin ty0 hty0 hnm hown hK hP hD hS k hw hc0 f hf0 (hts _ (hl0 hne)) (by rw [hd0]; exact fun _ z => z) hfin htf (by rcases h.1 with rfl | rfl <;> rfl) (by rcases h.1 with rfl | rfl <;> rfl) hlen hd (fun H1 locs1 hP1 hD1 hS1 => by
          rw [he] at hP1 hD1
          exact hG _ _ r _ h.2 H1 locs1 lA hP1 hD1 hS1 hl hL (oT (oT hV)))
      · exact va_putN (ty := .boolean) (v := .int x) hx hb hts hin ty0 hty0 hnm hown hK hP hD hS k hw hc0 f hf0 (va_Nw.use rfl (hnw _ (hl1 hne))) (by rw [hd0]; exact fun _ z => z) hfin htf (by rcases h.1 with rfl | rfl <;> rfl) (by rcases h.1 with rfl | rfl <;> rfl) hlen hd (fun H1 locs1 hP1 hD1 hS1 => by
          rw [he] at hP1 hD1
          exact hG _ _ r _ h.2 H1 locs1 lA hP1 hD1 hS1 hl hL (oT (oT hV)))
    · exact h.1.elim
  · cases hok
end BS
