-- needs: 34 45 90
/-! THE LAW: a case of its switch, two calls that answer alike. -/
def lArg (pc j : Nat) : Bool := bD 176 pc (.aload_n 0) 1 && (bD 176 (pc + 1) (.iload 4) 2 && (bD 176 (pc + 3) (.iconst j) 1 && (bD 176 (pc + 4) .iadd 1 && (bD 176 (pc + 5) .iaload 1 && Nat.blt j 6))))
def lArgs (pc n : Nat) : Bool := (List.range n).all (fun i => lArg (pc + 6 * i) (i + 1))
def lCal (pc n g ix mj lj : Nat) : Bool := bD 176 pc (.invokevirtual ix) 3 && (bMk' 176 lj ix mj && (Nat.beq (aMe mj).2.2.2.2.2.1 1 && (Nat.beq (aMe mj).1 (bKt g) && (Nat.beq (bKd g) 2 && (Nat.beq (aMe mj).2.2.2.2.2.2.2.2 n && (Nat.blt mj 176 && (Nat.ble (n + 1) (aML mj) && decide ((g, 0) ∈ bVs))))))))
def lCase (pc n i1 mj1 l1 i2 mj2 l2 : Nat) : Bool := bD 176 pc (.aload_n 1) 1 && (lArgs (pc + 1) n && (lCal (pc + 1 + 6 * n) n 0 i1 mj1 l1 && (bD 176 (pc + 4 + 6 * n) (.aload_n 2) 1 && (lArgs (pc + 5 + 6 * n) n && (lCal (pc + 5 + 12 * n) n 26 i2 mj2 l2 && bD 176 (pc + 8 + 12 * n) (.if_icmp .eq (1553 - ((pc + 8 + 12 * n : Nat) : Int))) 3)))))
/-- a case's arguments -/
def lAs (xs : Nat → Int32) (k n : Nat) : List Int32 := (List.range n).map (fun i => xs (k + 1 + i))
/-- the law's array of one long -/
def lOut (cA : Nat → ClassId) (ho : Nat) (H : Heap) : Prop := ∃ f : Nat → Int64, H[ho]? = some (vp_cell (cA 5) (1, .inr (.inl f)))
/-- the law's locals -/
def lLs (φ : Nat → Nat → Nat) (b ho k : Nat) : List (Nat × Value) := [(0, .ref b), (1, .ref (φ 0 0)), (2, .ref (φ 26 0)), (3, .ref ho), (4, .int (iI (k : Int)))]
abbrev lA0 (s : State) : Nat → Prop := fun q => s.heap.size ≤ q
theorem iconst_iI {j : Nat} (h : j < 6) : Int32.ofInt (j : Int) = iI (j : Int) := rfl
section LW
variable {p : Program} {l : Launch} {e : Env} {s : State} {m : MethodId} {below : List Frame} {meth : Method} {c : Code} {cA : Nat → ClassId} {D : va_G} {φ : Nat → Nat → Nat} {Qf : State → Prop} {b L ho : Nat} {xs : Nat → Int32} {cells slots : Nat} {lA : Array Slot}
theorem L_arg {pc j k : Nat} {st : List Value} {H : Heap} {locs : List Loc} (cx : bCx p s m #[Value.ref b] meth c room_1 cA D 176) (hX : va_X b L xs s s.heap) (hbl : b < s.heap.size) (hL : L ≤ 3072) (hk : k + 6 ≤ L) (hchk : lArg pc j = true) (hl : lv_has lA 7 (lLs φ b ho k)) (hS : va_S (lA0 s) s.heap H locs)
    (kk : W p l e room_1 s m #[Value.ref b] below meth c H locs cells slots Qf (F0 m (pc + 6) lA (.int (xs (k + j)) :: st))) : W p l e room_1 s m #[Value.ref b] below meth c H locs cells slots Qf (F0 m pc lA st) := by
  obtain ⟨hx, hb, hr0, hml, hown, hts, hnw, hlk, hroom, hK, hmL⟩ := cx
  unfold lArg at hchk
  simp only [Bool.and_eq_true] at hchk
  obtain ⟨h1, h2, h3, h4, h5, h6⟩ := hchk
  have h6 := blt' h6
  refine lv_aload_n hx hb (bD_ok h1) rfl (lv_at hl 0 rfl) ?_
  refine lv_iload hx hb (bD_ok h2) (lv_at hl 4 rfl) ?_
  refine lv_iconst hx hb (bD_ok h3) (iconst_iI h6) ?_
  refine lv_iadd hx hb (bD_ok h4) ?_
  have hs : iI (k : Int) + iI (j : Int) = iI ((k + j : Nat) : Int) := by
    rw [iI_add]
    congr 1
  rw [hs]
  refine va_sld hx hb hX hbl (Nat.not_le.mpr hbl) hS (iI_in (by omega) (by omega) (by omega)) (bD_ok h5) ?_
  rw [iI_cl (by omega)]
  exact kk
theorem L_args {pc k : Nat} {st : List Value} {H : Heap} {locs : List Loc} (cx : bCx p s m #[Value.ref b] meth c room_1 cA D 176) (hX : va_X b L xs s s.heap) (hbl : b < s.heap.size) (hL : L ≤ 3072) (hk : k + 6 ≤ L) (hl : lv_has lA 7 (lLs φ b ho k)) (hS : va_S (lA0 s) s.heap H locs) : ∀ (n : Nat), lArgs pc n = true →
    W p l e room_1 s m #[Value.ref b] below meth c H locs cells slots Qf (F0 m (pc + 6 * n) lA (((lAs xs k n).map Value.int).reverse ++ st)) → W p l e room_1 s m #[Value.ref b] below meth c H locs cells slots Qf (F0 m pc lA st)
  | 0, _, kk => kk
  | n + 1, hchk, kk => by
    have h1 : lArgs pc n = true := List.all_eq_true.mpr fun i hi => List.all_eq_true.mp hchk i (List.mem_range.mpr (by have := List.mem_range.mp hi; omega))
    have h2 : lArg (pc + 6 * n) (n + 1) = true := List.all_eq_true.mp hchk n (List.mem_range.mpr (Nat.lt_succ_self n))
    refine L_args cx hX hbl hL hk hl hS n h1 (L_arg cx hX hbl hL hk h2 hl hS ?_)
    have he : ((lAs xs k (n + 1)).map Value.int).reverse ++ st = .int (xs (k + (n + 1))) :: (((lAs xs k n).map Value.int).reverse ++ st) := by
      unfold lAs
      rw [List.range_succ, List.map_append, List.map_append, List.reverse_append]
      simp only [List.map_cons, List.map_nil, List.reverse_cons, List.reverse_nil, List.nil_append, List.cons_append]
      rw [show k + 1 + n = k + (n + 1) by omega]
    rw [he] at kk
    exact kk
theorem L_call {pc n g ix mj lj : Nat} {as : List Int32} {st : List bV} {M : bM} {Q : bQ} {H : Heap} {locs : List Loc} (cx : bCx p s m #[Value.ref b] meth c room_1 cA D 176) (hchk : lCal pc n g ix mj lj = true) (hn : as.length = n) (h4 : st.length ≤ 4) (hsz0 : lA.size = 7) (hP : va_P D aCl (bWd cA φ M) H) (hD : va_D (lA0 s) (bWd cA φ M)) (hS : va_S (lA0 s) s.heap H locs) (hcs : cells ≤ 601024 ∧ slots ≤ 7293033)
    (hc : bCall mj (cR g 0 :: as.map cI) M Q)
    (kk : ∀ (v : Option bV) (M2 : bM) (H1 : Heap) (locs1 : List Loc), Q v M2 → va_P D aCl (bWd cA φ M2) H1 → va_S (lA0 s) s.heap H1 locs1 → (∀ q : Nat, q < H.size → ¬ va_A (bWd cA φ M) H.size q → H1[q]? = H[q]?) →
      W p l e room_1 s m #[Value.ref b] below meth c H1 locs1 cells slots Qf (F0 m (pc + 3) lA ((v.toList ++ st).map (bTr φ)))) :
    W p l e room_1 s m #[Value.ref b] below meth c H locs cells slots Qf (F0 m pc lA ((as.map Value.int).reverse ++ .ref (φ g 0) :: st.map (bTr φ))) := by
  obtain ⟨hx, hb, hr0, hml, hown, hts, hnw, hlk, hroom, hK, hmL⟩ := cx
  unfold lCal at hchk
  simp only [Bool.and_eq_true, decide_eq_true_eq] at hchk
  obtain ⟨hd, hmk, hkind, hci, hkd, hnp, hmj, haml, hgv⟩ := hchk
  have hd := bD_ok hd
  have hkind := bq hkind
  have hci := bq hci
  have hkd := bq hkd
  have hnp := bq hnp
  have hmj := blt' hmj
  have haml := Nat.le_of_ble_eq_true haml
  have hMo := aMt_ok mj hmj
  obtain ⟨w1, w2, w3, w4, w5, w6, w7, w8, w9, w10⟩ := id hMo
  have hVa : ∀ v ∈ (cR g 0 :: as.map cI : List bV), bOkV v := by
    intro v hv
    rcases List.mem_cons.mp hv with rfl | hv
    · exact hgv
    · obtain ⟨x, -, rfl⟩ := List.mem_map.mp hv
      trivial
  have hba : ∀ (as : List Int32), (bArgs (as.map cI)).length = as.length := fun as => by
    induction as with
    | nil => rfl
    | cons x as ih => exact congrArg (· + 1) ih
  have hbl : (bArgs (cR g 0 :: as.map cI : List bV)).length ≤ aML mj := by
    have : (bArgs (cR g 0 :: as.map cI : List bV)).length = (bArgs (as.map cI)).length + 1 := rfl
    rw [this, hba]
    omega
  have hM := bMet (l := l) (φ := φ) (cA := cA) (D := D) H.size hmj (by rw [hkind]; decide) hVa hbl hc
  obtain ⟨kk0, hv0⟩ := bVs_at hgv
  have hw := bWd_get (cA := cA) (φ := φ) (M := M) hv0
  have h8 : bKt g < 8 := ((vs1 hgv).2.2.1 hkd).1
  have hcl := cl_at h8
  have hcE : bCell cA φ M g 0 = .inr (bKt g, (List.range (bKn g)).map (bFld φ M g 0)) := by
    unfold bCell
    rw [hkd]
    rfl
  rw [hcE] at hw
  have hcls : (aMe mj).2.1.cls = (aCl.getD (bKt g) ("", aT0, 0)).1 := by rw [w7, hci]; exact hcl.2.symm
  obtain ⟨nest, z0, z1⟩ := mk_ok hmk
  dsimp only at z0 z1
  have hrcv := va_recv hK hP hcl.1 hw
  rw [← hcls] at hrcv
  have hpre : PreV s H (aMe mj).2.1.cls (φ g 0) (bPre φ cA D (cR g 0 :: as.map cI) M H.size) (as.map Value.int) := ⟨bPre_blind, hrcv, fun U hU hW => ⟨by rw [List.map_cons, List.map_map]; rfl, by rw [hU], by rw [hU]; exact hP, va_K.moved hW.alike hK, hD.weaken (fun _ _ _ _ => trivial), bNw_warm hW hnw⟩⟩
  have hnp2 : (as.map Value.int).length = (aMe mj).2.2.2.2.2.2.2.2 := by rw [List.length_map]; omega
  have hfr : (bRm mj).frames + 1 ≤ room_1.frames ∧ 8 + ((aMe mj).2.2.2.1 + 11) + (bRm mj).locals ≤ room_1.locals := by
    show mj + 1 + 1 ≤ room_1.frames ∧ 8 + ((aMe mj).2.2.2.1 + 11) + 64 * (mj + 1) ≤ room_1.locals
    omega
  have hAq : ∀ q, q < H.size → va_A (bWd cA φ M) H.size q → lA0 s q := fun q hq hz => by
    rcases hz with ⟨k', e', hz⟩ | hz
    · exact hD.2 k' _ hz
    · omega
  have hfq : ∀ q, va_A (bWd cA φ M) H.size q → lA0 s q := fun q hz => by
    rcases hz with ⟨k', e', hz⟩ | hz
    · exact hD.2 k' _ hz
    · exact Nat.le_trans hS.1 hz
  have hkk : ∀ (w : Option Value) (st₀ t : State) (H1 : Heap) (locs1 : List Loc), st₀.heap = H → t.heap = H1 → bPo φ cA D M Q H.size (Value.ref (φ g 0) :: as.map Value.int).toArray st₀ (.returned w) t → va_S (lA0 s) s.heap H1 locs1 → W p l e room_1 s m #[Value.ref b] below meth c H1 locs1 (cells + 0) (slots + 0) Qf (F0 m (pc + 3) lA (w.toList ++ st.map (bTr φ))) := by
    rintro w st₀ t H1 locs1 hst0 rfl ⟨⟨v2, M2, hv2, hv3, hv4, hv5⟩, hF⟩ hS1
    cases hv2
    have h1 := kk v2 M2 t.heap locs1 hv4 hv5 hS1 (fun q hq hq2 => by rw [← hst0]; exact hF.2 q (by rw [hst0]; exact hq) hq2)
    rw [List.map_append] at h1
    cases v2 with
    | none => exact h1
    | some x => exact h1
  have hsz : (F0 m pc lA ((as.map Value.int).reverse ++ .ref (φ g 0) :: st.map (bTr φ))).locals.size = c.maxLocals := by
    show lA.size = c.maxLocals
    rw [hsz0, hml, ← hmL]
    rfl
  by_cases hne : nest = 0
  · exact h_back (va_runV ⟨hx, hb, hml, hown, hts⟩ hM ⟨callB_of _ hts (bGood hMo) rfl rfl rfl (hts _ w2) (hts _ (z0 hne)) w9 hfr, hts _ (w4 (by rw [hkind]; decide)), hts _ (w5 hkind)⟩ hpre rfl hnp2 (hsz.trans hml) rfl (lv_room (bLe4 h4)) hd ⟨hcs.1, hcs.2⟩) hS hAq hfq (fun _ _ _ z => z.2) hkk
  · exact h_back (va_runVN ⟨hx, hb, hml, hown, hts⟩ hM ⟨va_cnB _ hts (bGood hMo) rfl rfl rfl (hnw _ (z1 hne)) (hts _ w2) w9 hfr, hts _ (w4 (by rw [hkind]; decide)), hts _ (w5 hkind)⟩ hpre rfl hnp2 (hsz.trans hml) rfl (lv_room (bLe4 h4)) hd ⟨hcs.1, hcs.2⟩) hS hAq hfq (fun _ _ _ z => z.2) hkk
/-- what both states are at the loop's head, by the heap -/
def lSt (s : State) (cA : Nat → ClassId) (D : va_G) (φ : Nat → Nat → Nat) (ho : Nat) (M : bM) (H : Heap) (locs : List Loc) : Prop :=
  va_P D aCl (bWd cA φ M) H ∧ va_D (lA0 s) (bWd cA φ M) ∧ va_S (lA0 s) s.heap H locs ∧ lOut cA ho H ∧ ∀ t ∈ bVs, φ t.1 t.2 ≠ ho
theorem lOut_kept {cA : Nat → ClassId} {ho : Nat} {φ : Nat → Nat → Nat} {M : bM} {H H1 : Heap} (h : lOut cA ho H) (hne : ∀ t ∈ bVs, φ t.1 t.2 ≠ ho) (hk : ∀ q : Nat, q < H.size → ¬ va_A (bWd cA φ M) H.size q → H1[q]? = H[q]?) : lOut cA ho H1 := by
  obtain ⟨f, h⟩ := h
  have hlt : ho < H.size := (Array.getElem?_eq_some_iff.mp h).1
  refine ⟨f, (hk ho hlt fun hz => ?_).trans h⟩
  rcases hz with ⟨k, e', hz⟩ | hz
  · unfold bWd at hz
    rw [List.getElem?_map] at hz
    cases hv : bVs[k]? with
    | none => rw [hv] at hz; cases hz
    | some t =>
      rw [hv] at hz
      exact hne t (List.mem_of_getElem? hv) (Prod.mk.inj (Option.some.inj hz)).1
  · omega
theorem L_case {pc n i1 mj1 l1 i2 mj2 l2 k r : Nat} {M : bM} {H : Heap} {locs : List Loc} (cx : bCx p s m #[Value.ref b] meth c room_1 cA D 176) (hX : va_X b L xs s s.heap) (hbl : b < s.heap.size) (hL : L ≤ 3072) (hk : k + 6 ≤ L) (hchk : lCase pc n i1 mj1 l1 i2 mj2 l2 = true) (hl : lv_has lA 7 (lLs φ b ho k)) (hW : lSt s cA D φ ho M H locs) (hcs : cells ≤ 601024 ∧ slots ≤ 7293033)
    (hc : bCall mj1 (cR 0 0 :: (lAs xs k n).map cI) M (fun v M1 => bCall mj2 (cR 26 0 :: (lAs xs k n).map cI) M1 (Alike (r + 1) v)))
    (kk : ∀ (M3 : bM) (H3 : Heap) (locs3 : List Loc), Rel (r + 1) M3 → lSt s cA D φ ho M3 H3 locs3 → W p l e room_1 s m #[Value.ref b] below meth c H3 locs3 cells slots Qf (F0 m 1553 lA [])) :
    W p l e room_1 s m #[Value.ref b] below meth c H locs cells slots Qf (F0 m pc lA []) := by
  unfold lCase at hchk
  simp only [Bool.and_eq_true] at hchk
  obtain ⟨h1, h2, h3, h4, h5, h6, h7⟩ := hchk
  obtain ⟨hP, hD, hS, ho1, ho2⟩ := hW
  have hx := cx.1
  have hb := cx.2.1
  have hln : (lAs xs k n).length = n := by unfold lAs; rw [List.length_map, List.length_range]
  refine lv_aload_n hx hb (bD_ok h1) rfl (lv_at hl 1 rfl) ?_
  refine L_args cx hX hbl hL hk hl hS n h2 ?_
  refine L_call (st := []) cx h3 hln (by simp) hl.1 hP hD hS hcs hc (fun v M2 H2 locs2 hq hP2 hS2 hk2 => ?_)
  have ho3 := lOut_kept ho1 ho2 hk2
  rw [show pc + 1 + 6 * n + 3 = pc + 4 + 6 * n by omega]
  refine lv_aload_n hx hb (bD_ok h4) rfl (lv_at hl 2 rfl) ?_
  rw [show pc + 4 + 6 * n + 1 = pc + 5 + 6 * n by omega]
  refine L_args cx hX hbl hL hk hl hS2 n h5 ?_
  rw [show pc + 5 + 6 * n + 6 * n = pc + 5 + 12 * n by omega]
  refine L_call (st := v.toList ++ []) cx h6 hln (by cases v <;> simp) hl.1 hP2 (dOf hD) hS2 hcs hq (fun v2 M3 H3 locs3 hq3 hP3 hS3 hk3 => ?_)
  obtain ⟨⟨z, e1, e2⟩, hR⟩ := hq3
  subst e1; subst e2
  rw [show pc + 5 + 12 * n + 3 = pc + 8 + 12 * n by omega]
  refine lv_icmp_eq (x := z) (y := z) (tgt := 1553) hx hb (bD_ok h7) (by omega) (fun _ => ?_) (fun hne => absurd rfl hne)
  exact kk M3 H3 locs3 hR ⟨hP3, dOf hD, hS3, lOut_kept ho3 ho2 hk3, ho2⟩
end LW
