/-! THE LAW'S OWN get: it catches what the class's get throws. -/
def yLg : MethodName := ⟨"HiddenRelationsLaw", "get", "(LHiddenRelations;II[J)I"⟩
abbrev lgCode : ByteArray := method_3_code
abbrev lgHh : List (Nat × Nat × Nat × Nat) := [(0, 10, 13, 13), (0, 10, 17, 15), (0, 10, 21, 17)]
theorem lgD_0 : decode lgCode 0 = .ok (.aload_n 3, 1) := by decide +kernel
theorem lgD_1 : decode lgCode 1 = .ok (.iconst 0, 1) := by decide +kernel
theorem lgD_2 : decode lgCode 2 = .ok (.aload_n 0, 1) := by decide +kernel
theorem lgD_3 : decode lgCode 3 = .ok (.iload_n 1, 1) := by decide +kernel
theorem lgD_4 : decode lgCode 4 = .ok (.iload_n 2, 1) := by decide +kernel
theorem lgD_5 : decode lgCode 5 = .ok (.invokevirtual 7, 3) := by decide +kernel
theorem lgD_8 : decode lgCode 8 = .ok (.i2l, 1) := by decide +kernel
theorem lgD_9 : decode lgCode 9 = .ok (.lastore, 1) := by decide +kernel
theorem lgD_10 : decode lgCode 10 = .ok (.goto 15, 3) := by decide +kernel
theorem lgD_13 : decode lgCode 13 = .ok (.astore 4, 2) := by decide +kernel
theorem lgD_15 : decode lgCode 15 = .ok (.iconst 1, 1) := by decide +kernel
theorem lgD_16 : decode lgCode 16 = .ok (.ireturn, 1) := by decide +kernel
theorem lgD_17 : decode lgCode 17 = .ok (.astore 4, 2) := by decide +kernel
theorem lgD_19 : decode lgCode 19 = .ok (.iconst 2, 1) := by decide +kernel
theorem lgD_20 : decode lgCode 20 = .ok (.ireturn, 1) := by decide +kernel
theorem lgD_21 : decode lgCode 21 = .ok (.astore 4, 2) := by decide +kernel
theorem lgD_23 : decode lgCode 23 = .ok (.iconst 3, 1) := by decide +kernel
theorem lgD_24 : decode lgCode 24 = .ok (.ireturn, 1) := by decide +kernel
theorem lgD_25 : decode lgCode 25 = .ok (.iconst 0, 1) := by decide +kernel
theorem lgD_26 : decode lgCode 26 = .ok (.ireturn, 1) := by decide +kernel
theorem lgWc : Cond.codeWith yLg lgCode 5 (some .int) lgHh ∈ aWS := List.mem_filter.mpr ⟨gIt 997 (by decide +kernel), by decide +kernel⟩
theorem lgWl : Cond.methodLink "HiddenRelationsLaw" 142 yLg ∈ aWS := List.mem_filter.mpr ⟨gIt 995 (by decide +kernel), by decide +kernel⟩
theorem lgWst : Cond.static yLg ∈ aWS := List.mem_filter.mpr ⟨gIt 996 (by decide +kernel), by decide +kernel⟩
theorem lgWi : Cond.initialized "HiddenRelationsLaw" ∈ aWS := List.mem_filter.mpr ⟨gIt 0 (by decide +kernel), by decide +kernel⟩
theorem lgWg : Cond.methodLink "HiddenRelationsLaw" 7 yGet ∈ aWS := List.mem_filter.mpr ⟨gIt 1001 (by decide +kernel), by decide +kernel⟩
theorem lgWk1 : Cond.classLink "HiddenRelationsLaw" 13 "java/lang/IllegalArgumentException" ∈ aWS := List.mem_filter.mpr ⟨gIt 998 (by decide +kernel), by decide +kernel⟩
theorem lgWk2 : Cond.classLink "HiddenRelationsLaw" 15 "java/lang/IllegalStateException" ∈ aWS := List.mem_filter.mpr ⟨gIt 999 (by decide +kernel), by decide +kernel⟩
theorem lgWk3 : Cond.classLink "HiddenRelationsLaw" 17 "java/lang/IndexOutOfBoundsException" ∈ aWS := List.mem_filter.mpr ⟨gIt 1000 (by decide +kernel), by decide +kernel⟩
theorem gGood : GoodIn aWS gWs := by
  intro w hw
  rcases List.mem_cons.mp hw with rfl | hw
  · exact ⟨gWcode, good_of_word (List.mem_filter.mp gWcode).2⟩
  · exact ⟨hw, good_of_word (List.mem_filter.mp hw).2⟩
/-- none of the three is another of them -/
def gNc (U : State) : Prop := va_Nc "java/lang/IllegalStateException" "java/lang/IllegalArgumentException" U ∧ va_Nc "java/lang/IndexOutOfBoundsException" "java/lang/IllegalArgumentException" U ∧ va_Nc "java/lang/IndexOutOfBoundsException" "java/lang/IllegalStateException" U
theorem gNc.moved {u U : State} (hal : u.vm.Alike U.vm) (h : gNc u) : gNc U := ⟨h.1.moved hal, h.2.1.moved hal, h.2.2.moved hal⟩
/-- the made cells and the law's array -/
def lgW (cA : Nat → ClassId) (φ : Nat → Nat → Nat) (M : bM) (ho : Nat) (f : Nat → Int64) : va_W := bWd cA φ M ++ [(ho, .inl (cA 5, 1, .inr (.inl f)))]
theorem lgW_at {cA : Nat → ClassId} {φ : Nat → Nat → Nat} {M : bM} {ho : Nat} {f : Nat → Int64} : (lgW cA φ M ho f)[bVs.length]? = some (ho, .inl (cA 5, 1, .inr (.inl f))) := by
  have hlen : (bWd cA φ M).length = bVs.length := by unfold bWd; rw [List.length_map]
  unfold lgW
  rw [List.getElem?_append_right (by omega), hlen, Nat.sub_self]
  rfl
theorem lgW_set {cA : Nat → ClassId} {φ : Nat → Nat → Nat} {M : bM} {ho : Nat} {f g : Nat → Int64} : (lgW cA φ M ho f).set bVs.length (ho, .inl (cA 5, 1, .inr (.inl g))) = lgW cA φ M ho g := by
  have hlen : (bWd cA φ M).length = bVs.length := by unfold bWd; rw [List.length_map]
  unfold lgW
  rw [List.set_append_right _ _ (by omega), hlen, Nat.sub_self]
  rfl
theorem lgW_P {D : va_G} {cA : Nat → ClassId} {φ : Nat → Nat → Nat} {M : bM} {ho : Nat} {f : Nat → Int64} {H : Heap} : va_P D aCl (lgW cA φ M ho f) H ↔ va_P D aCl (bWd cA φ M) H ∧ H[ho]? = some (vp_cell (cA 5) (1, .inr (.inl f))) := by
  constructor
  · intro h
    refine ⟨fun k q hk => h k q ?_, h _ _ lgW_at⟩
    unfold lgW
    rw [List.getElem?_append_left (List.getElem?_eq_some_iff.mp hk).1]
    exact hk
  · rintro ⟨h1, h2⟩
    refine h1.app (fun k q hk => ?_)
    have hz : k < 1 := (List.getElem?_eq_some_iff.mp hk).1
    rw [show k = 0 by omega] at hk
    cases hk
    exact h2
theorem lgW_D {A : Nat → Prop} {cA : Nat → ClassId} {φ : Nat → Nat → Nat} {M : bM} {ho : Nat} {f : Nat → Int64} : va_D A (lgW cA φ M ho f) ↔ va_D A (bWd cA φ M) ∧ A ho ∧ ∀ t ∈ bVs, φ t.1 t.2 ≠ ho := by
  have hlen : (bWd cA φ M).length = bVs.length := by unfold bWd; rw [List.length_map]
  have hL : ∀ (k : Nat) (q : Nat × va_E), (bWd cA φ M)[k]? = some q → (lgW cA φ M ho f)[k]? = some q := fun k q hk => by
    unfold lgW
    rw [List.getElem?_append_left (List.getElem?_eq_some_iff.mp hk).1]
    exact hk
  have key : ∀ (k : Nat) (q : Nat × va_E), (lgW cA φ M ho f)[k]? = some q → (bWd cA φ M)[k]? = some q ∧ k < bVs.length ∨ k = bVs.length ∧ q.1 = ho := by
    intro k q hk
    by_cases hl : k < bVs.length
    · left
      unfold lgW at hk
      rw [List.getElem?_append_left (by omega)] at hk
      exact ⟨hk, hl⟩
    · right
      unfold lgW at hk
      rw [List.getElem?_append_right (by omega)] at hk
      have hz : k - (bWd cA φ M).length < 1 := (List.getElem?_eq_some_iff.mp hk).1
      have h0 : k - (bWd cA φ M).length = 0 := by omega
      rw [h0] at hk
      cases hk
      exact ⟨by omega, rfl⟩
  constructor
  · intro h
    refine ⟨⟨fun i j p q hi hj hpq => h.1 i j p q (hL i p hi) (hL j q hj) hpq, fun k q hk => h.2 k q (hL k q hk)⟩, h.2 _ _ lgW_at, fun t ht hE => ?_⟩
    obtain ⟨k, hk⟩ := List.getElem?_of_mem ht
    have h9 := h.1 k bVs.length _ _ (hL k _ (bWd_get hk)) lgW_at hE
    have : k < bVs.length := (List.getElem?_eq_some_iff.mp hk).1
    omega
  · rintro ⟨h1, h2, h3⟩
    have hne : ∀ (k : Nat) (q : Nat × va_E), (bWd cA φ M)[k]? = some q → q.1 ≠ ho := fun k q hk => by
      unfold bWd at hk
      rw [List.getElem?_map] at hk
      cases hv : bVs[k]? with
      | none => rw [hv] at hk; cases hk
      | some t =>
        rw [hv] at hk
        cases hk
        exact h3 t (List.mem_of_getElem? hv)
    refine ⟨fun i j p q hi hj hpq => ?_, fun k q hk => ?_⟩
    · rcases key i p hi with ⟨a1, b1⟩ | ⟨a1, b1⟩ <;> rcases key j q hj with ⟨a2, b2⟩ | ⟨a2, b2⟩
      · exact h1.1 i j p q a1 a2 hpq
      · exact absurd (hpq.trans b2) (hne i p a1)
      · exact absurd (hpq.symm.trans b1) (hne j q a2)
      · omega
    · rcases key k q hk with ⟨a1, b1⟩ | ⟨a1, b1⟩
      · exact h1.2 k q a1
      · rw [b1]
        exact h2
def lgWs : List Cond := Cond.codeWith yLg lgCode 5 (some .int) lgHh :: aWS
def lgRm : Room := { frames := 210, cells := 1, slots := 6, locals := 13000 }
def lgPre (φ : Nat → Nat → Nat) (cA : Nat → ClassId) (D : va_G) (M : bM) (ho : Nat) (f : Nat → Int64) (x y : Int32) (sz : Nat) : Array Value → State → Prop :=
  va_Pc [.ref (φ 0 0), .int x, .int y, .ref ho] (fun U => U.heap.size = sz ∧ va_P D aCl (lgW cA φ M ho f) U.heap ∧ va_K D aCl (aTyl cA) U ∧ va_D (fun _ => True) (lgW cA φ M ho f) ∧ (∀ w ∈ aNW, va_Nw w U) ∧ gXs (va_A (lgW cA φ M ho f) sz) U U.heap ∧ gNc U)
def lgQ (φ : Nat → Nat → Nat) (cA : Nat → ClassId) (D : va_G) (M : bM) (ho : Nat) (f : Nat → Int64) (k v : Int32) (sz : Nat) : Array Value → State → Outcome → State → Prop := fun _ st oc t =>
  (∃ g : Nat → Int64, oc = .returned (some (.int k)) ∧ (k = 0 → g 0 = v.toInt64) ∧ va_P D aCl (lgW cA φ M ho g) t.heap) ∧ va_F (va_A (lgW cA φ M ho f) sz) st t
theorem lgPre_blind {φ : Nat → Nat → Nat} {cA : Nat → ClassId} {D : va_G} {M : bM} {ho : Nat} {f : Nat → Int64} {x y : Int32} {sz : Nat} : FrameBlind (lgPre φ cA D M ho f x y sz) := by
  intro a U g mk q
  obtain ⟨q0, q1, q2, q3, q4, q5, q6, q7⟩ := q
  exact ⟨q0, q1, q2, va_K.moved (u := U) (U := U.calling g mk a) (Vm.Alike.refl U.vm) q3, q4, bNw_same (u := U) (U := U.calling g mk a) rfl q5, gXs.warm (s := U) (U := U.calling g mk a) (State.WarmedH.refl U) q6, gNc.moved (u := U) (U := U.calling g mk a) (Vm.Alike.refl U.vm) q7⟩
section LG
variable {p : Program} {l : Launch} {e : Env} {R : Room} {s : State} {m : MethodId} {args : Array Value} {below : List Frame} {meth : Method} {c : Code} {A : Nat → Prop} {Qf : State → Prop} {cells slots mc ms : Nat} {lA : Array Slot}
/-- behind a call that may throw -/
theorem g_run {A1 free : Nat → Prop} {Qa : State → Outcome → State → Prop} {XC : String → State → State → Prop} {H : Heap} {locs : List Loc} {pc : Nat} {st0 rest : List Value} (hr : vx_Run p l e R s m args below meth c H locs cells slots mc ms (F0 m pc lA st0) rest Qa XC free) (hS : va_S A s.heap H locs) (hA : ∀ q, q < H.size → A1 q → A q) (hf : ∀ q, free q → A q) (hQ : ∀ st oc t, Qa st oc t → va_F A1 st t) (hX : ∀ E st t, XC E st t → va_F A1 st t)
    (kk : ∀ (w : Option Value) (st₀ t : State) (H1 : Heap) (locs1 : List Loc), st₀.heap = H → t.heap = H1 → Qa st₀ (.returned w) t → va_S A s.heap H1 locs1 → W p l e R s m args below meth c H1 locs1 (cells + mc) (slots + ms) Qf (F0 m (pc + 3) lA (w.toList ++ rest)))
    (kx : ∀ (E : String) (ce : Cell) (q : Addr) (st₀ t : State) (H1 : Heap) (locs1 : List Loc), st₀.heap = H → t.heap = H1 → XC E st₀ t → va_S A s.heap H1 locs1 → H1[q]? = some ce → ce.vm = .none → s.vm.findClass E = some ce.cls → vx_W p l e R s m args below meth c H1 locs1 (cells + mc) (slots + ms) Qf (F0 m pc lA rest) q) :
    W p l e R s m args below meth c H locs cells slots Qf (F0 m pc lA st0) := by
  intro T hT X
  rcases hr T hT X with ⟨v, st₀, t, T', L, h0, X', hL, e1, e2, hq, st⟩ | ⟨q, st₀, t, T', L, E, ce, h0, X', hL, e1, e2, hxc, hce, hcv, hcl, st⟩
  · obtain ⟨k1, k2, k3⟩ := vx_keep h0 e1 hS hA hf hL (hQ _ _ _ hq)
    obtain ⟨t2, a1, b1⟩ := kk v st₀ t T'.heap (locs ++ L) h0 e1.symm hq k3 T' rfl X'
    exact ⟨t2, st t2 a1, b1⟩
  · obtain ⟨k1, k2, k3⟩ := vx_keep h0 e1 hS hA hf hL (hX _ _ _ hxc)
    obtain ⟨t2, a1, b1⟩ := kx E ce q st₀ t T'.heap (locs ++ L) h0 e1.symm hxc k3 (by rw [e1]; exact hce) hcv hcl T' rfl X'
    exact ⟨t2, st.trans a1, b1⟩
end LG
set_option maxRecDepth 100000 in
/-- THE CONTRACT of the law's get -/
theorem lgMet (l : Launch) (hl : l.stackTraces = false) {cA : Nat → ClassId} {D : va_G} {φ : Nat → Nat → Nat} {M : bM} {ho : Nat} {f : Nat → Int64} {x y k v : Int32} (hsay : gSay M x y k v) (sz : Nat) : Met l yLg lgWs lgRm (lgPre φ cA D M ho f x y sz) (lgQ φ cA D M ho f k v sz) 1 6 (va_A (lgW cA φ M ho f) sz) := by
  refine va_MetW (cc := lgCode) (maxL := 5) (ret := some .int) (hh := lgHh) (by decide +kernel) rfl ?_
  intro p e s m args below meth c s₁ B hml hv
  obtain ⟨rfl, hsz, hP, hK, hD0, hnw, hX, hNc⟩ := hv
  subst hsz
  have hts0 := atoms_spec (ws := lgWs) B.pre
  have hts := fun (w : Cond) (hw : w ∈ aWS) => hts0 w (List.mem_cons_of_mem _ hw)
  have htab : c.exceptionTable.toList = [⟨0, 10, 13, 13⟩, ⟨0, 10, 17, 15⟩, ⟨0, 10, 21, 17⟩] := vx_table (x := yLg) B (hts0 _ List.mem_cons_self)
  have hown : s.vm.findClass "HiddenRelationsLaw" = some m.cls := findClass_of_methodNamed B.named
  have hx := B.exec
  have hb := B.bytes
  have hD := hD0.self (sz := s.heap.size)
  have hl0 := lv_entry [.ref (φ 0 0), .int x, .int y, .ref ho] (n := 5) (Nat.le_of_ble_eq_true rfl)
  rw [lg_entry_eq]
  generalize (lg_sl [.ref (φ 0 0), .int x, .int y, .ref ho] ++ List.replicate (5 - (lg_sl [.ref (φ 0 0), .int x, .int y, .ref ho]).length) Slot.unset).toArray = lA at hl0 ⊢
  have hl0 : lv_has lA 5 [(0, .ref (φ 0 0)), (1, .int x), (2, .int y), (3, .ref ho)] := hl0
  have hS0 : va_S (va_A (lgW cA φ M ho f) s.heap.size) s.heap s.heap [] := va_S.rf
  have hP0 := lgW_P.mp hP
  have hD1 := lgW_D.mp hD
  have hho : ho < s.heap.size := (Array.getElem?_eq_some_iff.mp hP0.2).1
  have hsub : ∀ q, va_A (bWd cA φ M) s.heap.size q → va_A (lgW cA φ M ho f) s.heap.size q := fun q hz => by
    rcases hz with ⟨k', e', hz⟩ | hz
    · exact hD1.1.2 k' _ hz
    · exact Or.inr hz
  have hnho : ¬ va_A (bWd cA φ M) s.heap.size ho := fun hz => by
    rcases hz with ⟨k', e', hz⟩ | hz
    · unfold bWd at hz
      rw [List.getElem?_map] at hz
      cases hv : bVs[k']? with
      | none => rw [hv] at hz; cases hz
      | some t =>
        rw [hv] at hz
        exact hD1.2.2 t (List.mem_of_getElem? hv) (Prod.mk.inj (Option.some.inj hz)).1
    · omega
  have hM := gMet (cA := cA) (D := D) (φ := φ) l hl hsay s.heap.size
  obtain ⟨kk0, hv0⟩ := bVs_at (show (0, 0) ∈ bVs by decide +kernel)
  have hw0 : (bWd cA φ M)[kk0]? = some (φ 0 0, .inr (6, (List.range 14).map (bFld φ M 0 0))) := bWd_get hv0
  have hrcv := va_recv hK hP0.1 (cl_at (ci := 6) (by decide)).1 hw0
  have hpre : PreV s s.heap gOwn (φ 0 0) (gPre φ cA D M x y s.heap.size) [.int x, .int y] := ⟨gPre_blind, hrcv, fun U hU hW => ⟨rfl, by rw [hU], by rw [hU]; exact hP0.1, va_K.moved hW.alike hK, hD1.1.weaken (fun _ _ _ _ => trivial), bNw_warm hW hnw, by rw [hU]; exact (gXs.warm hW hX).narrow hsub⟩⟩
  refine lv_aload_n hx hb lgD_0 rfl (lv_at hl0 3 rfl) ?_
  refine lv_iconst (v := 0) hx hb lgD_1 rfl ?_
  refine lv_aload_n hx hb lgD_2 rfl (lv_at hl0 0 rfl) ?_
  refine lv_iload_n hx hb lgD_3 rfl (lv_at hl0 1 rfl) ?_
  refine lv_iload_n hx hb lgD_4 rfl (lv_at hl0 2 rfl) ?_
  have hrun := vx_runV (p := p) (l := l) (e := e) (R := (headSpec lgWs lgRm).room) (args := #[Value.ref (φ 0 0), .int x, .int y, .ref ho]) (below := below) (meth := meth) (H := s.heap) (locs := []) (cells := 0) (slots := 0) (g := F0 m 5 lA [.int y, .int x, .ref (φ 0 0), .int 0, .ref ho]) (rest := [.int 0, .ref ho]) (n := 2) (index := 7) ⟨hx, hb, rfl, hown, hts⟩ hM ⟨callB_of 2 hts gGood rfl rfl rfl (hts _ aWini6) (hts _ lgWg) (by decide +kernel) ⟨(by decide : 201 ≤ 210), (by decide : 8 + (3 + 11) + 12000 ≤ 13000)⟩, hts _ gWin, hts _ gWse⟩ hpre rfl rfl (hl0.1.trans hml.symm) rfl (lv_room (Nat.le_of_ble_eq_true rfl)) lgD_5 ⟨Nat.le_refl 1, Nat.le_refl 6⟩
  refine g_run hrun hS0 (fun q _ hz => hsub q hz) (fun q hz => hsub q hz) (fun _ _ _ z => z.2) (fun _ _ _ z => z.2) (fun w st₀ t H1 locs1 hst0 hH1 hq hS1 => ?_) (fun E ce q st₀ t H1 locs1 hst0 hH1 hxc hS1 hce hcv hcl => ?_)
  · obtain ⟨⟨hk, hw, hP1⟩, hF⟩ := hq
    cases hw
    rw [hH1] at hP1
    have ho1 : H1[ho]? = some (vp_cell (cA 5) (1, .inr (.inl f))) := by
      rw [← hH1, hF.2 ho (by rw [hst0]; exact hho) hnho, hst0]
      exact hP0.2
    have hP2 := lgW_P.mpr ⟨hP1, ho1⟩
    refine lv_i2l (v := v.toInt64) hx hb lgD_8 rfl ?_
    refine va_last hx hb hK hP2 hD hS1 bVs.length 5 lgW_at rfl (vin l0) lgD_9 (fun H2 locs2 hP3 hD3 hS3 => ?_)
    rw [lgW_set] at hP3
    refine lv_goto (tgt := 25) hx hb lgD_10 (by omega) ?_
    refine lv_iconst (v := 0) hx hb lgD_25 rfl ?_
    exact W.iret hx hb B.returns (fun t ht hW => ⟨⟨vp_updL f (0 : Int32).toNatClampNeg v.toInt64, by rw [hk], fun _ => rfl, by rw [ht]; exact hP3⟩, hS3.F ht⟩) hS3.2.2 lgD_26 B.notSynchronized
  · obtain ⟨⟨hk, hE, hP1⟩, hF⟩ := hxc
    rw [hH1] at hP1
    have ho1 : H1[ho]? = some (vp_cell (cA 5) (1, .inr (.inl f))) := by
      rw [← hH1, hF.2 ho (by rw [hst0]; exact hho) hnho, hst0]
      exact hP0.2
    have hP2 := lgW_P.mpr ⟨hP1, ho1⟩
    obtain ⟨hB, -, -, -⟩ := hX
    rcases hk with rfl | rfl | rfl
    · have hE : E = "java/lang/IllegalArgumentException" := hE.trans gE_1
      subst hE
      refine vx_catch (own := "HiddenRelationsLaw") (name := "java/lang/IllegalArgumentException") hown [] ⟨0, 10, 13, 13⟩ [⟨0, 10, 17, 15⟩, ⟨0, 10, 21, 17⟩] htab (fun z hz => by cases hz) rfl (by decide) (hts _ lgWk1) (va_tabs rfl rfl (hB _ List.mem_cons_self)) hce hcv hcl ?_
      refine lv_astore (lv' := [(4, .ref q), (0, .ref (φ 0 0)), (1, .int x), (2, .int y), (3, .ref ho)]) hx hb lgD_13 hl0 (by decide) rfl (fun lA2 hl2 => ?_)
      refine lv_iconst (v := 1) hx hb lgD_15 rfl ?_
      exact W.iret hx hb B.returns (fun t ht hW => ⟨⟨f, rfl, fun h => absurd h (by decide), by rw [ht]; exact hP2⟩, hS1.F ht⟩) hS1.2.2 lgD_16 B.notSynchronized
    · have hE : E = "java/lang/IllegalStateException" := hE.trans gE_2
      subst hE
      refine vx_catch (own := "HiddenRelationsLaw") (name := "java/lang/IllegalStateException") hown [⟨0, 10, 13, 13⟩] ⟨0, 10, 17, 15⟩ [⟨0, 10, 21, 17⟩] htab (fun z hz => by
        rcases List.mem_cons.mp hz with rfl | hz
        · exact Or.inr ⟨by decide, _, hts _ lgWk1, hNc.1⟩
        · cases hz) rfl (by decide) (hts _ lgWk2) (va_tabs rfl rfl (hB _ (List.mem_cons_of_mem _ List.mem_cons_self))) hce hcv hcl ?_
      refine lv_astore (lv' := [(4, .ref q), (0, .ref (φ 0 0)), (1, .int x), (2, .int y), (3, .ref ho)]) hx hb lgD_17 hl0 (by decide) rfl (fun lA2 hl2 => ?_)
      refine lv_iconst (v := 2) hx hb lgD_19 rfl ?_
      exact W.iret hx hb B.returns (fun t ht hW => ⟨⟨f, rfl, fun h => absurd h (by decide), by rw [ht]; exact hP2⟩, hS1.F ht⟩) hS1.2.2 lgD_20 B.notSynchronized
    · have hE : E = "java/lang/IndexOutOfBoundsException" := hE.trans gE_3
      subst hE
      refine vx_catch (own := "HiddenRelationsLaw") (name := "java/lang/IndexOutOfBoundsException") hown [⟨0, 10, 13, 13⟩, ⟨0, 10, 17, 15⟩] ⟨0, 10, 21, 17⟩ [] htab (fun z hz => by
        rcases List.mem_cons.mp hz with rfl | hz
        · exact Or.inr ⟨by decide, _, hts _ lgWk1, hNc.2.1⟩
        · rcases List.mem_cons.mp hz with rfl | hz
          · exact Or.inr ⟨by decide, _, hts _ lgWk2, hNc.2.2⟩
          · cases hz) rfl (by decide) (hts _ lgWk3) (va_tabs rfl rfl (hB _ (List.mem_cons_of_mem _ (List.mem_cons_of_mem _ List.mem_cons_self)))) hce hcv hcl ?_
      refine lv_astore (lv' := [(4, .ref q), (0, .ref (φ 0 0)), (1, .int x), (2, .int y), (3, .ref ho)]) hx hb lgD_21 hl0 (by decide) rfl (fun lA2 hl2 => ?_)
      refine lv_iconst (v := 3) hx hb lgD_23 rfl ?_
      exact W.iret hx hb B.returns (fun t ht hW => ⟨⟨f, rfl, fun h => absurd h (by decide), by rw [ht]; exact hP2⟩, hS1.F ht⟩) hS1.2.2 lgD_24 B.notSynchronized
