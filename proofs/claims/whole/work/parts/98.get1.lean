/-! THE CALL get of the class: it returns a number, or throws one of three. -/
abbrev gOwn : String := "HiddenRelations"
def yGet : MethodName := ⟨"HiddenRelations", "get", "(II)I"⟩
abbrev gCode : ByteArray := prog_1_method_31_code
/-- a call of the second machine from a method that it does not know -/
def kCal (n g mj : Nat) : Bool := Nat.beq (aMe mj).2.2.2.2.2.1 1 && (Nat.beq (aMe mj).1 (bKt g) && (Nat.beq (bKd g) 2 && (Nat.beq (aMe mj).2.2.2.2.2.2.2.2 n && (Nat.blt mj 176 && Nat.ble (n + 1) (aML mj)))))
section GK
variable {p : Program} {l : Launch} {e : Env} {R : Room} {s : State} {m : MethodId} {args : Array Value} {below : List Frame} {meth : Method} {c : Code} {cA : Nat → ClassId} {D : va_G} {φ : Nat → Nat → Nat} {A : Nat → Prop} {Qf : State → Prop} {cells slots : Nat} {lA : Array Slot} {cc : ByteArray}
theorem bArgs_int : ∀ (as : List Int32), (bArgs (as.map cI)).length = as.length
  | [] => rfl
  | _ :: as => congrArg (· + 1) (bArgs_int as)
theorem K_callV {oc pc n g j ix mj nest : Nat} {as : List Int32} {st : List bV} {M : bM} {Q : bQ} {H : Heap} {locs : List Loc} (hx : p.tables.exec = Jvm.exec) (hb : c.code = cc) (hsz : lA.size = c.maxLocals) (hown : s.vm.findClass (aCN oc) = some m.cls) (hts : ∀ w ∈ aWS, w.before args s = true) (hnw : ∀ w ∈ aNW, va_Nw w s) (hK : va_K D aCl (aTyl cA) s) (hR : 178 ≤ R.frames ∧ 11400 ≤ R.locals) (hcs : cells ≤ R.cells ∧ slots ≤ R.slots)
    (hlk : aMlk (oc, ix, mj, nest)) (hchk : kCal n g mj = true) (hgv : (g, j) ∈ bVs) (hn : as.length = n) (h4 : st.length ≤ 4) (hd : decode cc pc = .ok (.invokevirtual ix, 3)) (hP : va_P D aCl (bWd cA φ M) H) (hD : va_D A (bWd cA φ M)) (hS : va_S A s.heap H locs) (hAA : ∀ q, s.heap.size ≤ q → A q)
    (hc : bCall mj (cR g j :: as.map cI) M Q)
    (kk : ∀ (v : Option bV) (M2 : bM) (H1 : Heap) (locs1 : List Loc), Q v M2 → va_P D aCl (bWd cA φ M2) H1 → va_S A s.heap H1 locs1 →
      W p l e R s m args below meth c H1 locs1 cells slots Qf (F0 m (pc + 3) lA ((v.toList ++ st).map (bTr φ)))) :
    W p l e R s m args below meth c H locs cells slots Qf (F0 m pc lA ((as.map Value.int).reverse ++ .ref (φ g j) :: st.map (bTr φ))) := by
  unfold kCal at hchk
  simp only [Bool.and_eq_true] at hchk
  obtain ⟨hkind, hci, hkd, hnp, hmj, haml⟩ := hchk
  have hkind := bq hkind
  have hci := bq hci
  have hkd := bq hkd
  have hnp := bq hnp
  have hmj := blt' hmj
  have haml := Nat.le_of_ble_eq_true haml
  have hMo := aMt_ok mj hmj
  obtain ⟨w1, w2, w3, w4, w5, w6, w7, w8, w9, w10⟩ := id hMo
  have hVa : ∀ v ∈ (cR g j :: as.map cI : List bV), bOkV v := by
    intro v hv
    rcases List.mem_cons.mp hv with rfl | hv
    · exact hgv
    · obtain ⟨x, -, rfl⟩ := List.mem_map.mp hv
      trivial
  have hbl : (bArgs (cR g j :: as.map cI : List bV)).length ≤ aML mj := by
    have : (bArgs (cR g j :: as.map cI : List bV)).length = (bArgs (as.map cI)).length + 1 := rfl
    rw [this, bArgs_int]
    omega
  have hM := bMet (l := l) (φ := φ) (cA := cA) (D := D) H.size hmj (by rw [hkind]; decide) hVa hbl hc
  obtain ⟨kk0, hv0⟩ := bVs_at hgv
  have hw := bWd_get (cA := cA) (φ := φ) (M := M) hv0
  have h8 : bKt g < 8 := ((vs1 hgv).2.2.1 hkd).1
  have hcl := cl_at h8
  have hcE : bCell cA φ M g j = .inr (bKt g, (List.range (bKn g)).map (bFld φ M g j)) := by
    unfold bCell
    rw [hkd]
    rfl
  rw [hcE] at hw
  have hcls : (aMe mj).2.1.cls = (aCl.getD (bKt g) ("", aT0, 0)).1 := by rw [w7, hci]; exact hcl.2.symm
  obtain ⟨z0, z1⟩ := hlk
  dsimp only at z0 z1
  have hrcv := va_recv hK hP hcl.1 hw
  rw [← hcls] at hrcv
  have hpre : PreV s H (aMe mj).2.1.cls (φ g j) (bPre φ cA D (cR g j :: as.map cI) M H.size) (as.map Value.int) := ⟨bPre_blind, hrcv, fun U hU hW => ⟨by rw [List.map_cons, List.map_map]; rfl, by rw [hU], by rw [hU]; exact hP, va_K.moved hW.alike hK, hD.weaken (fun _ _ _ _ => trivial), bNw_warm hW hnw⟩⟩
  have hnp2 : (as.map Value.int).length = (aMe mj).2.2.2.2.2.2.2.2 := by rw [List.length_map]; omega
  have hfr : (bRm mj).frames + 1 ≤ R.frames ∧ 8 + ((aMe mj).2.2.2.1 + 11) + (bRm mj).locals ≤ R.locals := by
    show mj + 1 + 1 ≤ R.frames ∧ 8 + ((aMe mj).2.2.2.1 + 11) + 64 * (mj + 1) ≤ R.locals
    omega
  have hAq : ∀ q, q < H.size → va_A (bWd cA φ M) H.size q → A q := fun q hq hz => by
    rcases hz with ⟨k', e', hz⟩ | hz
    · exact hD.2 k' _ hz
    · omega
  have hfq : ∀ q, va_A (bWd cA φ M) H.size q → A q := fun q hz => by
    rcases hz with ⟨k', e', hz⟩ | hz
    · exact hD.2 k' _ hz
    · exact hAA q (Nat.le_trans hS.1 hz)
  have hkk : ∀ (w : Option Value) (st₀ t : State) (H1 : Heap) (locs1 : List Loc), st₀.heap = H → t.heap = H1 → bPo φ cA D M Q H.size (Value.ref (φ g j) :: as.map Value.int).toArray st₀ (.returned w) t → va_S A s.heap H1 locs1 → W p l e R s m args below meth c H1 locs1 (cells + 0) (slots + 0) Qf (F0 m (pc + 3) lA (w.toList ++ st.map (bTr φ))) := by
    rintro w st₀ t H1 locs1 hst0 rfl ⟨⟨v2, M2, hv2, hv3, hv4, hv5⟩, hF⟩ hS1
    cases hv2
    have h1 := kk v2 M2 t.heap locs1 hv4 hv5 hS1
    rw [List.map_append] at h1
    cases v2 with
    | none => exact h1
    | some x => exact h1
  by_cases hne : nest = 0
  · exact h_back (va_runV ⟨hx, hb, rfl, hown, hts⟩ hM ⟨callB_of _ hts (bGood hMo) rfl rfl rfl (hts _ w2) (hts _ (z0 hne)) w9 hfr, hts _ (w4 (by rw [hkind]; decide)), hts _ (w5 hkind)⟩ hpre rfl hnp2 hsz rfl (lv_room (bLe4 h4)) hd ⟨hcs.1, hcs.2⟩) hS hAq hfq (fun _ _ _ z => z.2) hkk
  · exact h_back (va_runVN ⟨hx, hb, rfl, hown, hts⟩ hM ⟨va_cnB _ hts (bGood hMo) rfl rfl rfl (hnw _ (z1 hne)) (hts _ w2) w9 hfr, hts _ (w4 (by rw [hkind]; decide)), hts _ (w5 hkind)⟩ hpre rfl hnp2 hsz rfl (lv_room (bLe4 h4)) hd ⟨hcs.1, hcs.2⟩) hS hAq hfq (fun _ _ _ z => z.2) hkk
theorem K_callS {oc pc n ix mj : Nat} {as : List Int32} {st : List bV} {M : bM} {Q : bQ} {H : Heap} {locs : List Loc} (hx : p.tables.exec = Jvm.exec) (hb : c.code = cc) (hsz : lA.size = c.maxLocals) (hown : s.vm.findClass (aCN oc) = some m.cls) (hts : ∀ w ∈ aWS, w.before args s = true) (hnw : ∀ w ∈ aNW, va_Nw w s) (hK : va_K D aCl (aTyl cA) s) (hR : 178 ≤ R.frames ∧ 11400 ≤ R.locals) (hcs : cells ≤ R.cells ∧ slots ≤ R.slots)
    (hlk : aMlk (oc, ix, mj, 0)) (hchk : (Nat.beq (aMe mj).2.2.2.2.2.1 0 && (Nat.beq (aMe mj).2.2.2.2.2.2.2.2 n && (Nat.blt mj 176 && Nat.ble n (aML mj)))) = true) (hn : as.length = n) (h4 : st.length ≤ 4) (hd : decode cc pc = .ok (.invokestatic ix, 3)) (hP : va_P D aCl (bWd cA φ M) H) (hD : va_D A (bWd cA φ M)) (hS : va_S A s.heap H locs) (hAA : ∀ q, s.heap.size ≤ q → A q)
    (hc : bCall mj (as.map cI) M Q)
    (kk : ∀ (v : Option bV) (M2 : bM) (H1 : Heap) (locs1 : List Loc), Q v M2 → va_P D aCl (bWd cA φ M2) H1 → va_S A s.heap H1 locs1 →
      W p l e R s m args below meth c H1 locs1 cells slots Qf (F0 m (pc + 3) lA ((v.toList ++ st).map (bTr φ)))) :
    W p l e R s m args below meth c H locs cells slots Qf (F0 m pc lA ((as.map Value.int).reverse ++ st.map (bTr φ))) := by
  simp only [Bool.and_eq_true] at hchk
  obtain ⟨hkind, hnp, hmj, haml⟩ := hchk
  have hkind := bq hkind
  have hnp := bq hnp
  have hmj := blt' hmj
  have haml := Nat.le_of_ble_eq_true haml
  have hMo := aMt_ok mj hmj
  obtain ⟨w1, w2, w3, w4, w5, w6, w7, w8, w9, w10⟩ := id hMo
  have hVa : ∀ v ∈ (as.map cI : List bV), bOkV v := by
    intro v hv
    obtain ⟨x, -, rfl⟩ := List.mem_map.mp hv
    trivial
  have hbl : (bArgs (as.map cI : List bV)).length ≤ aML mj := by rw [bArgs_int]; omega
  have hM := bMet (l := l) (φ := φ) (cA := cA) (D := D) H.size hmj (by rw [hkind]; decide) hVa hbl hc
  obtain ⟨z0, z1⟩ := hlk
  dsimp only at z0 z1
  have hpre : PreS s H (bPre φ cA D (as.map cI) M H.size) (as.map Value.int) := ⟨bPre_blind, fun U hU hW => ⟨by rw [List.map_map]; rfl, by rw [hU], by rw [hU]; exact hP, va_K.moved hW.alike hK, hD.weaken (fun _ _ _ _ => trivial), bNw_warm hW hnw⟩⟩
  have hnp2 : (as.map Value.int).length = (aMe mj).2.2.2.2.2.2.2.2 := by rw [List.length_map]; omega
  have hfr : (bRm mj).frames + 1 ≤ R.frames ∧ 8 + ((aMe mj).2.2.2.1 + 11) + (bRm mj).locals ≤ R.locals := by
    show mj + 1 + 1 ≤ R.frames ∧ 8 + ((aMe mj).2.2.2.1 + 11) + 64 * (mj + 1) ≤ R.locals
    omega
  have hAq : ∀ q, q < H.size → va_A (bWd cA φ M) H.size q → A q := fun q hq hz => by
    rcases hz with ⟨k', e', hz⟩ | hz
    · exact hD.2 k' _ hz
    · omega
  have hfq : ∀ q, va_A (bWd cA φ M) H.size q → A q := fun q hz => by
    rcases hz with ⟨k', e', hz⟩ | hz
    · exact hD.2 k' _ hz
    · exact hAA q (Nat.le_trans hS.1 hz)
  have hkk : ∀ (w : Option Value) (st₀ t : State) (H1 : Heap) (locs1 : List Loc), st₀.heap = H → t.heap = H1 → bPo φ cA D M Q H.size (as.map Value.int).toArray st₀ (.returned w) t → va_S A s.heap H1 locs1 → W p l e R s m args below meth c H1 locs1 (cells + 0) (slots + 0) Qf (F0 m (pc + 3) lA (w.toList ++ st.map (bTr φ))) := by
    rintro w st₀ t H1 locs1 hst0 rfl ⟨⟨v2, M2, hv2, hv3, hv4, hv5⟩, hF⟩ hS1
    cases hv2
    have h1 := kk v2 M2 t.heap locs1 hv4 hv5 hS1
    rw [List.map_append] at h1
    cases v2 with
    | none => exact h1
    | some x => exact h1
  exact h_back (va_runS ⟨hx, hb, rfl, hown, hts⟩ hM ⟨callB_of _ hts (bGood hMo) rfl rfl rfl (hts _ w2) (hts _ (z0 rfl)) w9 hfr, hts _ (w3 hkind)⟩ hpre rfl hnp2 hsz rfl (lv_room (bLe4 h4)) hd ⟨hcs.1, hcs.2⟩) hS hAq hfq (fun _ _ _ z => z.2) hkk
end GK
