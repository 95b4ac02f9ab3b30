-- needs: 01 02 03 04 05 06 08 09 10 20 21 22
/-! CALLS AND ENDS of the second machine, over the first. -/
def bWs (mj : Nat) : List Cond := Cond.code (aMe mj).2.1 (aMe mj).2.2.1 (aMe mj).2.2.2.1 (aMe mj).2.2.2.2.1 :: aWS
def bRm (mj : Nat) : Room := { frames := mj + 1, cells := 0, slots := 0, locals := 64 * (mj + 1) }
def bPre (φ : Nat → Nat → Nat) (cA : Nat → ClassId) (D : va_G) (as : List bV) (M : bM) (sz : Nat) : Array Value → State → Prop :=
  va_Pc (as.map (bTr φ)) (fun U => U.heap.size = sz ∧ va_P D aCl (bWd cA φ M) U.heap ∧ va_K D aCl (aTyl cA) U ∧ va_D (fun _ => True) (bWd cA φ M) ∧ ∀ w ∈ aNW, va_Nw w U)
def bPo (φ : Nat → Nat → Nat) (cA : Nat → ClassId) (D : va_G) (M : bM) (Q : bQ) (sz : Nat) : Array Value → State → Outcome → State → Prop := fun _ st oc t =>
  (∃ (v : Option bV) (M2 : bM), oc = .returned (v.map (bTr φ)) ∧ (∀ w, v = some w → bOkV w) ∧ Q v M2 ∧ va_P D aCl (bWd cA φ M2) t.heap) ∧ va_F (va_A (bWd cA φ M) sz) st t
theorem bNw_tab : aNW.all (fun w => w.onTables && (match w with | .methodLinkNest .. => true | .fieldLinkNest .. => true | _ => false)) = true := by decide +kernel
theorem bNw_same {u U : State} (h : u.vm = U.vm) (hz : ∀ w ∈ aNW, va_Nw w u) : ∀ w ∈ aNW, va_Nw w U := by
  intro w hw
  have h1 := List.all_eq_true.mp bNw_tab w hw
  simp only [Bool.and_eq_true] at h1
  exact va_Nw.same h1.1 h (hz w hw)
theorem bNw_warm {s U : State} (hW : s.WarmedH U.vm) (hz : ∀ w ∈ aNW, va_Nw w s) : ∀ w ∈ aNW, va_Nw w U := by
  intro w hw
  have h1 := List.all_eq_true.mp bNw_tab w hw
  have h2 := hz w hw
  simp only [Bool.and_eq_true] at h1
  revert h2
  match w, h1.2 with
  | .methodLinkNest a i x h, _ => exact fun h2 => va_Nw.warmM hW h2
  | .fieldLinkNest a i b n d h, _ => exact fun h2 => va_Nw.warmF hW h2
theorem bPre_blind {φ : Nat → Nat → Nat} {cA : Nat → ClassId} {D : va_G} {as : List bV} {M : bM} {sz : Nat} : FrameBlind (bPre φ cA D as M sz) := by
  intro a U g mk q
  obtain ⟨q0, q1, q2, q3, q4, q5⟩ := q
  exact ⟨q0, q1, q2, va_K.moved (u := U) (U := U.calling g mk a) (Vm.Alike.refl U.vm) q3, q4, bNw_same (u := U) (U := U.calling g mk a) rfl q5⟩
theorem bGood {mj : Nat} (h : aMok (aMe mj)) : GoodIn aWS (bWs mj) := by
  intro w hw
  rcases List.mem_cons.mp hw with rfl | hw
  · exact ⟨h.1, good_of_word (List.mem_filter.mp h.1).2⟩
  · exact ⟨hw, good_of_word (List.mem_filter.mp hw).2⟩
theorem bLe4 {φ : Nat → Nat → Nat} : ∀ {r : List bV}, r.length ≤ 4 → ((r.map (bTr φ)).map fun v => v.category).sum ≤ 8 := by
  have key : ∀ (r : List bV), ((r.map (bTr φ)).map fun v => v.category).sum ≤ 2 * r.length := by
    intro r
    induction r with
    | nil => exact Nat.le_refl _
    | cons v r ih =>
      simp only [List.map_cons, List.sum_cons, List.length_cons]
      have : (bTr φ v).category ≤ 2 := by
        match v with
        | .inl x => exact Nat.le_of_ble_eq_true rfl
        | .inr (.inl x) => exact Nat.le_of_ble_eq_true rfl
        | .inr (.inr (.inl t)) => exact Nat.le_of_ble_eq_true rfl
        | .inr (.inr (.inr _)) => exact Nat.le_of_ble_eq_true rfl
      omega
  intro r h
  have := key r
  omega
section BC
variable {p : Program} {l : Launch} {e : Env} {s : State} {m : MethodId} {args : Array Value} {below : List Frame} {meth : Method} {c : Code} {R : Room} {φ : Nat → Nat → Nat} {cA : Nat → ClassId} {D : va_G} {A : Nat → Prop} {Qf : State → Prop} {mi : Nat}
variable {call : Nat → List bV → bM → bQ → Prop} {Q : bQ} {G : bG} {pc nx : Nat} {a : List Nat} {v : Int32} {ls : bL} {st : List bV} {M : bM}
/-- behind a call -/
theorem w_back {A1 free : Nat → Prop} {Qa : State → Outcome → State → Prop} {H : Heap} {locs : List Loc} {lA : Array Slot} {st0 rest : List Value} (hr : va_Run p l e R s m args below meth c H locs 0 0 0 0 (F0 m pc lA st0) rest Qa free) (hS : va_S A s.heap H locs) (hA : ∀ q, q < H.size → A1 q → A q) (hf : ∀ q, free q → A q) (hQ : ∀ st oc t, Qa st oc t → va_F A1 st t)
    (kk : ∀ (w : Option Value) (st₀ t : State) (H1 : Heap) (locs1 : List Loc), st₀.heap = H → t.heap = H1 → Qa st₀ (.returned w) t → va_S A s.heap H1 locs1 → W p l e R s m args below meth c H1 locs1 0 0 Qf (F0 m (pc + 3) lA (w.toList ++ rest))) : W p l e R s m args below meth c H locs 0 0 Qf (F0 m pc lA st0) := by
  intro T hT X
  obtain ⟨w, st₀, t, T', L, h0, X', hL, e1, e2, hq, stp⟩ := hr T hT X
  have hF := hQ _ _ _ hq
  obtain ⟨hz, hk⟩ := hF
  rw [h0] at hz hk
  have hS1 : va_S A s.heap T'.heap (locs ++ L) := ⟨Nat.le_trans hS.1 (by rw [e1]; exact hz), fun q h1 h2 => by rw [e1, hk q (Nat.lt_of_lt_of_le h1 hS.1) (fun z => h2 (hA q (Nat.lt_of_lt_of_le h1 hS.1) z))]; exact hS.2.1 q h1 h2, fun q hq => by
      rcases List.mem_append.mp hq with h | h
      · exact hS.2.2 q h
      · exact hf _ (hL q h)⟩
  obtain ⟨t2, a1, b1⟩ := kk w st₀ t T'.heap (locs ++ L) h0 e1.symm hq hS1 T' rfl X'
  exact ⟨t2, stp t2 a1, b1⟩
/-- what a call answered goes onto the stack -/
theorem w_kont {rk : Nat} {w : Option bV} {rest : List bV} {M2 : bM} (hG : ∀ pc ls st M, G pc ls st M → bWk p l e s m args below meth c R φ cA D A Qf mi pc ls st M) (hw : ∀ x, w = some x → bOkV x) (h : bKn0 rk w G nx ls rest M2) {H : Heap} {locs : List Loc} {lA : Array Slot} (hP : va_P D aCl (bWd cA φ M2) H) (hD : va_D A (bWd cA φ M2)) (hS : va_S A s.heap H locs) (hl : lv_has lA (aML mi) (bPr φ 0 ls)) (hL : bOkL ls) (hV : ∀ v ∈ rest, bOkV v) :
    W p l e R s m args below meth c H locs 0 0 Qf (F0 m nx lA ((w.map (bTr φ)).toList ++ rest.map (bTr φ))) := by
  match rk, h with
  | 0, h =>
    have h : bV0 w (G nx ls rest M2) := h
    match w, hw, h with
    | none, hw, h => exact hG _ _ rest M2 h H locs lA hP hD hS hl hL hV
    | some _, hw, h => exact h.elim
  | 1, h =>
    have h : bV1 w (fun x => G nx ls (.inl x :: rest) M2) := h
    match w, hw, h with
    | some (.inl x), hw, h => exact hG _ _ (.inl x :: rest) M2 h H locs lA hP hD hS hl hL (oI hV)
    | some (.inr _), hw, h => exact h.elim
    | none, hw, h => exact h.elim
  | n + 2, h =>
    have h : cond (Nat.ble 200 (n + 2)) (bV5 w (n + 2 - 200) (G nx ls (.inr (.inr (.inr ())) :: rest) M2) (fun j => G nx ls (.inr (.inr (.inl (n + 2 - 200, j))) :: rest) M2)) (bV4 w (n + 2 - 100) (fun j => G nx ls (.inr (.inr (.inl (n + 2 - 100, j))) :: rest) M2)) := h
    generalize n + 2 - 200 = g5 at h
    generalize n + 2 - 100 = g4 at h
    cases hc : Nat.ble 200 (n + 2) with
    | true =>
      rw [hc] at h
      simp only [cond_true] at h
      match w, hw, h with
      | some (.inr (.inr (.inr _))), hw, h => exact hG _ _ (.inr (.inr (.inr ())) :: rest) M2 h H locs lA hP hD hS hl hL (oN hV)
      | some (.inr (.inr (.inl (g', j)))), hw, h =>
        obtain ⟨he, h⟩ := h
        have hb := hw _ rfl
        rw [he] at hb ⊢
        exact hG _ _ (.inr (.inr (.inl (g5, j))) :: rest) M2 h H locs lA hP hD hS hl hL (oR hb hV)
      | some (.inr (.inl _)), hw, h => exact h.elim
      | some (.inl _), hw, h => exact h.elim
      | none, hw, h => exact h.elim
    | false =>
      rw [hc] at h
      simp only [cond_false] at h
      match w, hw, h with
      | some (.inr (.inr (.inl (g', j)))), hw, h =>
        obtain ⟨he, h⟩ := h
        have hb := hw _ rfl
        rw [he] at hb ⊢
        exact hG _ _ (.inr (.inr (.inl (g4, j))) :: rest) M2 h H locs lA hP hD hS hl hL (oR hb hV)
      | some (.inr (.inr (.inr _))), hw, h => exact h.elim
      | some (.inr (.inl _)), hw, h => exact h.elim
      | some (.inl _), hw, h => exact h.elim
      | none, hw, h => exact h.elim
/-- what is known of the methods that are called -/
def bCalls (l : Launch) (φ : Nat → Nat → Nat) (cA : Nat → ClassId) (D : va_G) (mi : Nat) (call : Nat → List bV → bM → bQ → Prop) : Prop :=
  ∀ (mj : Nat) (as : List bV) (M : bM) (Q : bQ) (sz : Nat), mj < mi → (aMe mj).2.2.2.2.2.1 ≠ 2 → call mj as M Q → (∀ v ∈ as, bOkV v) → (bArgs as).length ≤ aML mj → Met l (aMe mj).2.1 (bWs mj) (bRm mj) (bPre φ cA D as M sz) (bPo φ cA D M Q sz) 0 0 (va_A (bWd cA φ M) sz)
theorem w_invokevirtual {idx : Nat} (hmi : mi ≤ 176) (hAA : ∀ q, s.heap.size ≤ q → A q) (hcall : bCalls l φ cA D mi call) (cx : bCx p s m args meth c R cA D mi) (hG : ∀ pc ls st M, G pc ls st M → bWk p l e s m args below meth c R φ cA D A Qf mi pc ls st M) (hok : bOk mi pc (.invokevirtual idx, nx, a, v) = true) (h : bRun call Q G (bStep (.invokevirtual idx, nx, a, v) ls st M)) : bWk p l e s m args below meth c R φ cA D A Qf mi pc ls st M := by
  obtain ⟨hx, hb, hr, hml, hown, hts, hnw, hlk, hroom, hK, hmL⟩ := cx
  simp only [bOk] at hok
  simp only [bStep] at h
  split at hok
  · rename_i mj na rk ci b5 lj
    simp only [Bool.and_eq_true] at hok
    obtain ⟨hd, hn, hmk, hlt, hkind, hna, hci, hci8⟩ := hok
    have hd := bD_ok hd
    have hn := bq hn
    have hlt := blt' hlt
    have hkind := bq hkind
    have hna := bq hna
    have hci := bq hci
    have hci8 := blt' hci8
    subst hn
    intro H locs lA hP hD hS hl hL hV
    have hk : (bCk mj na st && bRcv (st.take na).reverse ci) = true := by
      cases hk : (bCk mj na st && bRcv (st.take na).reverse ci) with
      | false => simp only [hk] at h; exact h.1.elim
      | true => rfl
    simp only [hk, cond_true] at h
    have hcl : call mj (st.take na).reverse M (fun v X' => bKn0 rk v G (pc + 3) ls (st.drop na) X') := h
    simp only [bCk, Bool.and_eq_true] at hk
    obtain ⟨⟨hl1, hl2, hl3⟩, hrc⟩ := hk
    have l1 := Nat.le_of_ble_eq_true hl1
    have l2 := Nat.le_of_ble_eq_true hl2
    have l3 := Nat.le_of_ble_eq_true hl3
    clear h hl1 hl2 hl3
    have hast : st = (st.take na).reverse.reverse ++ st.drop na := by rw [List.reverse_reverse, List.take_append_drop]
    have hlen : (st.take na).reverse.length = na := by rw [List.length_reverse, List.length_take]; omega
    obtain ⟨as, has⟩ : ∃ as, as = (st.take na).reverse := ⟨_, rfl⟩
    obtain ⟨rest, hrest⟩ : ∃ rest, rest = st.drop na := ⟨_, rfl⟩
    rw [← has] at hcl l3 hrc hast hlen
    rw [← hrest] at hcl l2 hast
    clear has hrest
    subst hast
    have hVa : ∀ v ∈ as, bOkV v := fun v hv => hV v (List.mem_append_left _ (List.mem_reverse.mpr hv))
    have hVr : ∀ v ∈ rest, bOkV v := fun v hv => hV v (List.mem_append_right _ hv)
    have hrc2 : ∃ g j as', as = .inr (.inr (.inl (g, j))) :: as' ∧ (Nat.beq (bKd g) 2 && Nat.beq (bKt g) ci) = true := by
      unfold bRcv at hrc
      split at hrc
      · exact ⟨_, _, _, rfl, hrc⟩
      · cases hrc
    clear hrc
    obtain ⟨g, j, as', rfl, hrc2⟩ := hrc2
    · simp only [Bool.and_eq_true] at hrc2
      have hkd := bq hrc2.1
      have hkt := bq hrc2.2
      obtain ⟨k, hv⟩ := bVs_at (oH hVa : (g, j) ∈ bVs)
      have hw := bWd_get (cA := cA) (φ := φ) (M := M) hv
      have hc : bCell cA φ M g j = .inr (ci, (List.range (bKn g)).map (bFld φ M g j)) := by
        unfold bCell
        rw [hkd, hkt]
        rfl
      rw [hc] at hw
      have hMo := aMt_ok mj (by omega)
      have hM := hcall mj _ M _ H.size hlt (by rw [hkind]; decide) hcl hVa l3
      obtain ⟨w1, w2, w3, w4, w5, w6, w7, w8, w9, w10⟩ := id hMo
      have hcls : (aMe mj).2.1.cls = (aCl.getD ci ("", aT0, 0)).1 := by rw [w7, hci]; exact (cl_at hci8).2.symm
      obtain ⟨nest, z0, z1⟩ := mk_ok hmk
      dsimp only at z0 z1
      have hrcv := va_recv hK hP (cl_at hci8).1 hw
      rw [← hcls] at hrcv
      have hpre : PreV s H (aMe mj).2.1.cls (φ g j) (bPre φ cA D (.inr (.inr (.inl (g, j))) :: as') M H.size) (as'.map (bTr φ)) := ⟨bPre_blind, hrcv, fun U hU hW => ⟨rfl, by rw [hU], by rw [hU]; exact hP, va_K.moved hW.alike hK, hD.weaken (fun _ _ _ _ => trivial), bNw_warm hW hnw⟩⟩
      have hnp : (as'.map (bTr φ)).length = (aMe mj).2.2.2.2.2.2.2.2 := by
        rw [List.length_map]
        simp only [List.length_cons] at hlen
        omega
      have hfr : (bRm mj).frames + 1 ≤ R.frames ∧ 8 + ((aMe mj).2.2.2.1 + 11) + (bRm mj).locals ≤ R.locals := by
        show mj + 1 + 1 ≤ R.frames ∧ 8 + ((aMe mj).2.2.2.1 + 11) + 64 * (mj + 1) ≤ R.locals
        omega
      have hstk : ((.inr (.inr (.inl (g, j))) :: as' : List bV).reverse ++ rest).map (bTr φ) = (as'.map (bTr φ)).reverse ++ .ref (φ g j) :: rest.map (bTr φ) := by
        simp [bTr]
      rw [hstk]
      have hkk : ∀ (w : Option Value) (st₀ t : State) (H1 : Heap) (locs1 : List Loc), st₀.heap = H → t.heap = H1 → bPo φ cA D M (fun v X' => bKn0 rk v G (pc + 3) ls rest X') H.size (Value.ref (φ g j) :: as'.map (bTr φ)).toArray st₀ (.returned w) t → va_S A s.heap H1 locs1 → W p l e R s m args below meth c H1 locs1 0 0 Qf (F0 m (pc + 3) lA (w.toList ++ rest.map (bTr φ))) := by
        rintro w st₀ t H1 locs1 hst0 rfl ⟨⟨v2, M2, hv2, hv3, hv4, hv5⟩, -⟩ hS1
        cases hv2
        exact w_kont hG hv3 hv4 hv5 (dOf hD) hS1 hl hL hVr
      have hAq : ∀ q, q < H.size → va_A (bWd cA φ M) H.size q → A q := fun q hq hz => by
        rcases hz with ⟨k', e', hz⟩ | hz
        · exact hD.2 k' _ hz
        · omega
      have hfq : ∀ q, va_A (bWd cA φ M) H.size q → A q := fun q hz => by
        rcases hz with ⟨k', e', hz⟩ | hz
        · exact hD.2 k' _ hz
        · exact hAA q (Nat.le_trans hS.1 hz)
      by_cases hne : nest = 0
      · exact w_back (va_runV ⟨hx, hb, hml, hown, hts⟩ hM ⟨callB_of _ hts (bGood hMo) rfl rfl rfl (hts _ w2) (hts _ (z0 hne)) w9 hfr, hts _ (w4 (by rw [hkind]; decide)), hts _ (w5 hkind)⟩ hpre rfl hnp (by rw [← hmL]; exact hl.1) rfl (lv_room (bLe4 l2)) hd ⟨Nat.zero_le _, Nat.zero_le _⟩) hS hAq hfq (fun _ _ _ z => z.2) hkk
      · exact w_back (va_runVN ⟨hx, hb, hml, hown, hts⟩ hM ⟨va_cnB _ hts (bGood hMo) rfl rfl rfl (hnw _ (z1 hne)) (hts _ w2) w9 hfr, hts _ (w4 (by rw [hkind]; decide)), hts _ (w5 hkind)⟩ hpre rfl hnp (by rw [← hmL]; exact hl.1) rfl (lv_room (bLe4 l2)) hd ⟨Nat.zero_le _, Nat.zero_le _⟩) hS hAq hfq (fun _ _ _ z => z.2) hkk
  · cases hok
theorem w_invokestatic {idx : Nat} (hmi : mi ≤ 176) (hAA : ∀ q, s.heap.size ≤ q → A q) (hcall : bCalls l φ cA D mi call) (cx : bCx p s m args meth c R cA D mi) (hG : ∀ pc ls st M, G pc ls st M → bWk p l e s m args below meth c R φ cA D A Qf mi pc ls st M) (hok : bOk mi pc (.invokestatic idx, nx, a, v) = true) (h : bRun call Q G (bStep (.invokestatic idx, nx, a, v) ls st M)) : bWk p l e s m args below meth c R φ cA D A Qf mi pc ls st M := by
  obtain ⟨hx, hb, hr, hml, hown, hts, hnw, hlk, hroom, hK, hmL⟩ := cx
  simp only [bOk] at hok
  simp only [bStep] at h
  split at hok
  · rename_i mj na rk b4 b5 lj
    simp only [Bool.and_eq_true] at hok
    obtain ⟨hd, hn, hmk, hlt, hkind, hna⟩ := hok
    have hd := bD_ok hd
    have hn := bq hn
    have hlt := blt' hlt
    have hkind := bq hkind
    have hna := bq hna
    subst hn
    intro H locs lA hP hD hS hl hL hV
    have hk : bCk mj na st = true := by
      cases hk : bCk mj na st with
      | false => simp only [hk] at h; exact h.1.elim
      | true => rfl
    simp only [hk, cond_true] at h
    have hcl : call mj (st.take na).reverse M (fun v X' => bKn0 rk v G (pc + 3) ls (st.drop na) X') := h
    simp only [bCk, Bool.and_eq_true] at hk
    obtain ⟨hl1, hl2, hl3⟩ := hk
    have l1 := Nat.le_of_ble_eq_true hl1
    have l2 := Nat.le_of_ble_eq_true hl2
    have l3 := Nat.le_of_ble_eq_true hl3
    clear h hl1 hl2 hl3
    have hast : st = (st.take na).reverse.reverse ++ st.drop na := by rw [List.reverse_reverse, List.take_append_drop]
    have hlen : (st.take na).reverse.length = na := by rw [List.length_reverse, List.length_take]; omega
    obtain ⟨as, has⟩ : ∃ as, as = (st.take na).reverse := ⟨_, rfl⟩
    obtain ⟨rest, hrest⟩ : ∃ rest, rest = st.drop na := ⟨_, rfl⟩
    rw [← has] at hcl l3 hast hlen
    rw [← hrest] at hcl l2 hast
    clear has hrest
    subst hast
    have hVa : ∀ v ∈ as, bOkV v := fun v hv => hV v (List.mem_append_left _ (List.mem_reverse.mpr hv))
    have hVr : ∀ v ∈ rest, bOkV v := fun v hv => hV v (List.mem_append_right _ hv)
    have hMo := aMt_ok mj (by omega)
    have hM := hcall mj _ M _ H.size hlt (by rw [hkind]; decide) hcl hVa l3
    obtain ⟨w1, w2, w3, w4, w5, w6, w7, w8, w9, w10⟩ := id hMo
    obtain ⟨nest, z0, z1⟩ := mk_ok hmk
    dsimp only at z0 z1
    have hpre : PreS s H (bPre φ cA D as M H.size) (as.map (bTr φ)) := ⟨bPre_blind, fun U hU hW => ⟨rfl, by rw [hU], by rw [hU]; exact hP, va_K.moved hW.alike hK, hD.weaken (fun _ _ _ _ => trivial), bNw_warm hW hnw⟩⟩
    have hnp : (as.map (bTr φ)).length = (aMe mj).2.2.2.2.2.2.2.2 := by
      rw [List.length_map]
      omega
    have hfr : (bRm mj).frames + 1 ≤ R.frames ∧ 8 + ((aMe mj).2.2.2.1 + 11) + (bRm mj).locals ≤ R.locals := by
      show mj + 1 + 1 ≤ R.frames ∧ 8 + ((aMe mj).2.2.2.1 + 11) + 64 * (mj + 1) ≤ R.locals
      omega
    have hstk : (as.reverse ++ rest).map (bTr φ) = (as.map (bTr φ)).reverse ++ rest.map (bTr φ) := by simp
    rw [hstk]
    have hkk : ∀ (w : Option Value) (st₀ t : State) (H1 : Heap) (locs1 : List Loc), st₀.heap = H → t.heap = H1 → bPo φ cA D M (fun v X' => bKn0 rk v G (pc + 3) ls rest X') H.size (as.map (bTr φ)).toArray st₀ (.returned w) t → va_S A s.heap H1 locs1 → W p l e R s m args below meth c H1 locs1 0 0 Qf (F0 m (pc + 3) lA (w.toList ++ rest.map (bTr φ))) := by
      rintro w st₀ t H1 locs1 hst0 rfl ⟨⟨v2, M2, hv2, hv3, hv4, hv5⟩, -⟩ hS1
      cases hv2
      exact w_kont hG hv3 hv4 hv5 (dOf hD) hS1 hl hL hVr
    have hAq : ∀ q, q < H.size → va_A (bWd cA φ M) H.size q → A q := fun q hq hz => by
      rcases hz with ⟨k', e', hz⟩ | hz
      · exact hD.2 k' _ hz
      · omega
    have hfq : ∀ q, va_A (bWd cA φ M) H.size q → A q := fun q hz => by
      rcases hz with ⟨k', e', hz⟩ | hz
      · exact hD.2 k' _ hz
      · exact hAA q (Nat.le_trans hS.1 hz)
    by_cases hne : nest = 0
    · exact w_back (va_runS ⟨hx, hb, hml, hown, hts⟩ hM ⟨callB_of _ hts (bGood hMo) rfl rfl rfl (hts _ w2) (hts _ (z0 hne)) w9 hfr, hts _ (w3 hkind)⟩ hpre rfl hnp (by rw [← hmL]; exact hl.1) rfl (lv_room (bLe4 l2)) hd ⟨Nat.zero_le _, Nat.zero_le _⟩) hS hAq hfq (fun _ _ _ z => z.2) hkk
    · exact w_back (va_runSN ⟨hx, hb, hml, hown, hts⟩ hM ⟨va_cnB _ hts (bGood hMo) rfl rfl rfl (hnw _ (z1 hne)) (hts _ w2) w9 hfr, hts _ (w3 hkind), trivial⟩ hpre rfl hnp (by rw [← hmL]; exact hl.1) rfl (lv_room (bLe4 l2)) hd ⟨Nat.zero_le _, Nat.zero_le _⟩) hS hAq hfq (fun _ _ _ z => z.2) hkk
  · rename_i ix
    simp only [Bool.and_eq_true] at hok
    obtain ⟨hd, hn, hix, hany⟩ := hok
    have hd := bD_ok hd
    have hn := bq hn
    subst hn
    obtain ⟨q, hq, hz⟩ := List.any_eq_true.mp hany
    simp only [Bool.and_eq_true] at hz
    have hlink := aCy_ok q hq
    obtain ⟨oc, ii⟩ := q
    have z1 := bq hz.1
    have z2 := bq hz.2
    dsimp only at z1 z2
    subst z1; subst z2
    intro H locs lA hP hD hS hl hL hV
    split at h
    · rename_i hr9
      cases hr9
    · rename_i ix9 hr9
      cases hr9
      split at h
      · rename_i n dp g' j' sp g j r
        have hk : (Nat.ble r.length 4 && (bIs g 0 && bIs g' 0)) = true := by
          cases hk : (Nat.ble r.length 4 && (bIs g 0 && bIs g' 0)) with
          | false => simp only [hk] at h; exact h.1.elim
          | true => rfl
        simp only [hk, cond_true] at h
        simp only [bIs, Bool.and_eq_true] at hk
        obtain ⟨k1, ⟨k2, k3⟩, k4, k5⟩ := hk
        have k1 := Nat.le_of_ble_eq_true k1
        have k2 := bq k2
        have k3 := bq k3
        have k4 := bq k4
        have k5 := bq k5
        obtain ⟨⟨h1, h2, h3, h4, h5⟩, h6⟩ := h
        have hgj : (g, j) ∈ bVs := hV (.inr (.inr (.inl (g, j)))) (by simp)
        have hgj' : (g', j') ∈ bVs := hV (.inr (.inr (.inl (g', j')))) (by simp)
        obtain ⟨k, hv⟩ := bVs_at hgj
        obtain ⟨k', hv'⟩ := bVs_at hgj'
        have hw := bWd_get (cA := cA) (φ := φ) (M := M) hv
        have hw' := bWd_get (cA := cA) (φ := φ) (M := M) hv'
        have hc : bCell cA φ M g j = .inl (cA 0, bKn g, .inl (M g j)) := by
          unfold bCell
          rw [k2, k3]
          rfl
        have hc' : bCell cA φ M g' j' = .inl (cA 0, bKn g', .inl (M g' j')) := by
          unfold bCell
          rw [k4, k5]
          rfl
        rw [hc] at hw
        rw [hc'] at hw'
        have hc2 : bCell cA φ (bCp M g j g' j' sp dp n) g' j' = .inl (cA 0, bKn g', .inl (va_cpy (M g j) (M g' j') sp.toNatClampNeg dp.toNatClampNeg n.toNatClampNeg)) := by
          unfold bCell
          rw [k4, k5, bCp_row]
          rfl
        have he : (bWd cA φ M).set k' (φ g' j', .inl (cA 0, bKn g', .inl (va_cpy (M g j) (M g' j') sp.toNatClampNeg dp.toNatClampNeg n.toNatClampNeg))) = bWd cA φ (bCp M g j g' j' sp dp n) := by
          rw [← hc2]
          exact bWd_set hv' (fun a b hne => bCp_other a b hne)
        have hVr : ∀ v ∈ r, bOkV v := fun v hv => hV v (by simp [hv])
        have hcat := bLe4 (φ := φ) k1
        have hnf : nativeFrameWords "java/lang/System" "arraycopy" 5 ≤ 40 := by decide +kernel
        refine va_copyi (ty := .int) hx hb (hml.trans (hmL.symm.trans hl.1.symm)) hown (hts _ hlink) (hts _ aWcn) (hts _ aWcs) (hts _ aWci) hK hP hD hS k k' 0 0 hw hw' rfl rfl rfl h1 h2 h3 h4 h5 (fun _ _ => rfl) (by omega) (by omega) hd (fun H1 locs1 hP1 hD1 hS1 => ?_)
        rw [he] at hP1 hD1
        exact hG _ _ r _ h6 H1 locs1 lA hP1 hD1 hS1 hl hL hVr
      · exact h.1.elim
    · exact h.1.elim
  · cases hok
end BC
