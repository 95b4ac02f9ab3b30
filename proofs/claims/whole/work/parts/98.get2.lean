/-! THE CALL get of the class, walked. -/
abbrev gNm : List String := ["java/lang/RuntimeException", "java/lang/Exception"]
def gE (k : Int32) : String := if k = 1 then "java/lang/IllegalArgumentException" else if k = 2 then "java/lang/IllegalStateException" else "java/lang/IndexOutOfBoundsException"
theorem gE_1 : gE 1 = "java/lang/IllegalArgumentException" := if_pos rfl
theorem gE_2 : gE 2 = "java/lang/IllegalStateException" := by
  unfold gE
  rw [if_neg (by decide), if_pos rfl]
theorem gE_3 : gE 3 = "java/lang/IndexOutOfBoundsException" := by
  unfold gE
  rw [if_neg (by decide), if_neg (by decide)]
theorem gD_0 : decode gCode 0 = .ok (.iload_n 1, 1) := by decide +kernel
theorem gD_1 : decode gCode 1 = .ok (.invokestatic 179, 3) := by decide +kernel
theorem gD_4 : decode gCode 4 = .ok (.ifCond .ne 14, 3) := by decide +kernel
theorem gD_7 : decode gCode 7 = .ok (.new 261, 3) := by decide +kernel
theorem gD_10 : decode gCode 10 = .ok (.dup, 1) := by decide +kernel
theorem gD_11 : decode gCode 11 = .ok (.ldc_w 263, 3) := by decide +kernel
theorem gD_14 : decode gCode 14 = .ok (.invokespecial 265, 3) := by decide +kernel
theorem gD_17 : decode gCode 17 = .ok (.athrow, 1) := by decide +kernel
theorem gD_18 : decode gCode 18 = .ok (.aload_n 0, 1) := by decide +kernel
theorem gD_19 : decode gCode 19 = .ok (.getfield 73, 3) := by decide +kernel
theorem gD_22 : decode gCode 22 = .ok (.iload_n 1, 1) := by decide +kernel
theorem gD_23 : decode gCode 23 = .ok (.aaload, 1) := by decide +kernel
theorem gD_24 : decode gCode 24 = .ok (.invokevirtual 182, 3) := by decide +kernel
theorem gD_27 : decode gCode 27 = .ok (.ifCond .eq 14, 3) := by decide +kernel
theorem gD_30 : decode gCode 30 = .ok (.new 268, 3) := by decide +kernel
theorem gD_33 : decode gCode 33 = .ok (.dup, 1) := by decide +kernel
theorem gD_34 : decode gCode 34 = .ok (.ldc_w 270, 3) := by decide +kernel
theorem gD_37 : decode gCode 37 = .ok (.invokespecial 272, 3) := by decide +kernel
theorem gD_40 : decode gCode 40 = .ok (.athrow, 1) := by decide +kernel
theorem gD_41 : decode gCode 41 = .ok (.aload_n 0, 1) := by decide +kernel
theorem gD_42 : decode gCode 42 = .ok (.getfield 73, 3) := by decide +kernel
theorem gD_45 : decode gCode 45 = .ok (.iload_n 1, 1) := by decide +kernel
theorem gD_46 : decode gCode 46 = .ok (.aaload, 1) := by decide +kernel
theorem gD_47 : decode gCode 47 = .ok (.iload_n 2, 1) := by decide +kernel
theorem gD_48 : decode gCode 48 = .ok (.iconst 1, 1) := by decide +kernel
theorem gD_49 : decode gCode 49 = .ok (.invokevirtual 255, 3) := by decide +kernel
theorem gD_52 : decode gCode 52 = .ok (.ifCond .ne 14, 3) := by decide +kernel
theorem gD_55 : decode gCode 55 = .ok (.new 273, 3) := by decide +kernel
theorem gD_58 : decode gCode 58 = .ok (.dup, 1) := by decide +kernel
theorem gD_59 : decode gCode 59 = .ok (.ldc_w 275, 3) := by decide +kernel
theorem gD_62 : decode gCode 62 = .ok (.invokespecial 277, 3) := by decide +kernel
theorem gD_65 : decode gCode 65 = .ok (.athrow, 1) := by decide +kernel
theorem gD_66 : decode gCode 66 = .ok (.aload_n 0, 1) := by decide +kernel
theorem gD_67 : decode gCode 67 = .ok (.getfield 73, 3) := by decide +kernel
theorem gD_70 : decode gCode 70 = .ok (.iload_n 1, 1) := by decide +kernel
theorem gD_71 : decode gCode 71 = .ok (.aaload, 1) := by decide +kernel
theorem gD_72 : decode gCode 72 = .ok (.iload_n 2, 1) := by decide +kernel
theorem gD_73 : decode gCode 73 = .ok (.invokevirtual 189, 3) := by decide +kernel
theorem gD_76 : decode gCode 76 = .ok (.ireturn, 1) := by decide +kernel
theorem gL_179 : aMlk (6, 179, 80, 0) := aMl_ok _ (by decide +kernel)
theorem gL_182 : aMlk (6, 182, 57, 1) := aMl_ok _ (by decide +kernel)
theorem gL_255 : aMlk (6, 255, 55, 1) := aMl_ok _ (by decide +kernel)
theorem gL_189 : aMlk (6, 189, 59, 1) := aMl_ok _ (by decide +kernel)
theorem gF_73 : aFok (6, 73, 6, 13, 0) := aFl_ok _ (by decide +kernel)
theorem gVs : ∀ r, r < 3 → (6, r) ∈ bVs := by decide +kernel
theorem gI_1 : vx_atS gOwn 265 "java/lang/IllegalArgumentException" gNm = [12, 374, 383, 388, 391, 393, 375, 376, 34, 35, 377, 382, 389, 623, 364, 624, 366, 625, 368, 378, 380, 370, 619, 620, 622, 370, 610, 611, 612, 613, 356, 613, 614, 615, 616, 358, 616, 617, 618, 619, 360, 1007, 353, 354, 361, 362, 363, 365, 367, 369, 373, 372, 371].filterMap (fun i => tables_1[i]?) := by decide +kernel
theorem gI_2 : vx_atS gOwn 272 "java/lang/IllegalStateException" gNm = [12, 374, 383, 388, 391, 393, 375, 376, 34, 35, 377, 382, 389, 623, 364, 624, 366, 625, 368, 378, 380, 370, 619, 620, 622, 370, 1019, 1020, 1021, 613, 356, 613, 614, 615, 616, 358, 616, 617, 618, 619, 360, 1018, 1009, 1010, 1011, 386, 1012, 1013, 1014, 1015, 373, 372, 1016].filterMap (fun i => tables_1[i]?) := by decide +kernel
theorem gI_3 : vx_atS gOwn 277 "java/lang/IndexOutOfBoundsException" gNm = [12, 374, 383, 388, 391, 393, 375, 376, 34, 35, 377, 382, 389, 623, 364, 624, 366, 625, 368, 378, 380, 370, 619, 620, 622, 370, 679, 680, 681, 613, 356, 613, 614, 615, 616, 358, 616, 617, 618, 619, 360, 1034, 1025, 1026, 1027, 387, 1028, 1029, 1030, 1031, 373, 372, 1032].filterMap (fun i => tables_1[i]?) := by decide +kernel
theorem gIn {L : List Cond} {ps : List Nat} (h : L = ps.filterMap (fun i => tables_1[i]?)) : ∀ w ∈ L, w ∈ lw_tbl := by
  intro w hw
  rw [h] at hw
  obtain ⟨i, -, hi⟩ := List.mem_filterMap.mp hw
  exact List.mem_append_right _ (List.mem_of_getElem? hi)
/-- words that go into a call by a premise -/
def gB : List Cond := [.castable "java/lang/IllegalArgumentException" "java/lang/IllegalArgumentException", .castable "java/lang/IllegalStateException" "java/lang/IllegalStateException", .castable "java/lang/IndexOutOfBoundsException" "java/lang/IndexOutOfBoundsException", .declares (Bundle.initS "java/lang/RuntimeException"), .declares (Bundle.initS "java/lang/Exception"), .declares (Bundle.initS "java/lang/Throwable")]
theorem gIt (i : Nat) {w : Cond} (h : tables_1[i]? = some w) : w ∈ lw_tbl := List.mem_append_right _ (List.mem_of_getElem? h)
theorem gWcode : Cond.code yGet gCode 3 (some .int) ∈ aWS := List.mem_filter.mpr ⟨gIt 1004 (by decide +kernel), by decide +kernel⟩
theorem gWk1 : Cond.classLink gOwn 261 "java/lang/IllegalArgumentException" ∈ aWS := List.mem_filter.mpr ⟨gIt 1005 (by decide +kernel), by decide +kernel⟩
theorem gWk2 : Cond.classLink gOwn 268 "java/lang/IllegalStateException" ∈ aWS := List.mem_filter.mpr ⟨gIt 1008 (by decide +kernel), by decide +kernel⟩
theorem gWk3 : Cond.classLink gOwn 273 "java/lang/IndexOutOfBoundsException" ∈ aWS := List.mem_filter.mpr ⟨gIt 1024 (by decide +kernel), by decide +kernel⟩
theorem gWi1 : Cond.initialized "java/lang/IllegalArgumentException" ∈ aWS := List.mem_filter.mpr ⟨gIt 15 (by decide +kernel), by decide +kernel⟩
theorem gWi2 : Cond.initialized "java/lang/IllegalStateException" ∈ aWS := List.mem_filter.mpr ⟨gIt 27 (by decide +kernel), by decide +kernel⟩
theorem gWi3 : Cond.initialized "java/lang/IndexOutOfBoundsException" ∈ aWS := List.mem_filter.mpr ⟨gIt 25 (by decide +kernel), by decide +kernel⟩
theorem gWin : Cond.instanceMethod yGet ∈ aWS := List.mem_filter.mpr ⟨gIt 1002 (by decide +kernel), by decide +kernel⟩
theorem gWse : Cond.selects gOwn yGet yGet ∈ aWS := List.mem_filter.mpr ⟨gIt 1003 (by decide +kernel), by decide +kernel⟩
theorem gG_1 : ∀ w ∈ Cond.classLink gOwn 261 "java/lang/IllegalArgumentException" :: Cond.initialized "java/lang/IllegalArgumentException" :: vx_atS gOwn 265 "java/lang/IllegalArgumentException" gNm, vx_ot w = true := by decide +kernel
theorem gH_1 : ∀ w ∈ (vx_atS gOwn 265 "java/lang/IllegalArgumentException" gNm).filter (fun w => !goodWord w), w ∈ gB := by decide +kernel
theorem gG_2 : ∀ w ∈ Cond.classLink gOwn 268 "java/lang/IllegalStateException" :: Cond.initialized "java/lang/IllegalStateException" :: vx_atS gOwn 272 "java/lang/IllegalStateException" gNm, vx_ot w = true := by decide +kernel
theorem gH_2 : ∀ w ∈ (vx_atS gOwn 272 "java/lang/IllegalStateException" gNm).filter (fun w => !goodWord w), w ∈ gB := by decide +kernel
theorem gG_3 : ∀ w ∈ Cond.classLink gOwn 273 "java/lang/IndexOutOfBoundsException" :: Cond.initialized "java/lang/IndexOutOfBoundsException" :: vx_atS gOwn 277 "java/lang/IndexOutOfBoundsException" gNm, vx_ot w = true := by decide +kernel
theorem gH_3 : ∀ w ∈ (vx_atS gOwn 277 "java/lang/IndexOutOfBoundsException" gNm).filter (fun w => !goodWord w), w ∈ gB := by decide +kernel
/-- what the throwing stands on, at a state -/
def gXs (A : Nat → Prop) (U : State) (H : Heap) : Prop := (∀ w ∈ gB, w.before #[] U = true) ∧ (∃ a1 a2 a3 : Nat, vk_R gOwn 263 "no such row" a1 U ∧ vk_R gOwn 270 "the row is missing" a2 U ∧ vk_R gOwn 275 "no such place" a3 U) ∧ vx_Zq Bundle.tN "UNASSIGNED_STACK" Bundle.steD A U H ∧ vx_Zq Bundle.tN "SUPPRESSED_SENTINEL" Bundle.listD A U H
theorem gXs.warm {A : Nat → Prop} {s U : State} {H : Heap} (hW : s.WarmedH U.vm) (h : gXs A s H) : gXs A U H := by
  obtain ⟨h1, ⟨a1, a2, a3, h2, h3, h4⟩, h5, h6⟩ := h
  refine ⟨fun w hw => ?_, ⟨a1, a2, a3, h2.warm hW, h3.warm hW, h4.warm hW⟩, h5.moved hW.alike, h6.moved hW.alike⟩
  have h7 := h1 w hw
  simp only [gB, List.mem_cons, List.not_mem_nil, or_false] at hw
  rcases hw with rfl | rfl | rfl | rfl | rfl | rfl
  · exact va_Nw.warmC hW h7
  · exact va_Nw.warmC hW h7
  · exact va_Nw.warmC hW h7
  · exact va_Nw.warmD hW h7
  · exact va_Nw.warmD hW h7
  · exact va_Nw.warmD hW h7
theorem gXs.kept {A : Nat → Prop} {s : State} {H H1 : Heap} (h : gXs A s H) (hk : ∀ a : Nat, a < H.size → ¬ A a → H1[a]? = H[a]?) : gXs A s H1 := ⟨h.1, h.2.1, h.2.2.1.kept hk, h.2.2.2.kept hk⟩
theorem gXs.narrow {A B : Nat → Prop} {s : State} {H : Heap} (h : gXs A s H) (hAB : ∀ q, B q → A q) : gXs B s H := ⟨h.1, h.2.1, h.2.2.1.narrow hAB, h.2.2.2.narrow hAB⟩
theorem gHat {args : Array Value} {s : State} {L : List Cond} {ps : List Nat} (hi : L = ps.filterMap (fun i => tables_1[i]?)) (hh : ∀ w ∈ L.filter (fun w => !goodWord w), w ∈ gB) (hts : ∀ w ∈ aWS, w.before args s = true) (hb : ∀ w ∈ gB, w.before #[] s = true) : ∀ w ∈ L, w.before args s = true :=
  vx_hat (fun w hw => hts w (List.mem_filter.mpr ⟨gIn hi w (List.mem_filter.mp hw).1, (List.mem_filter.mp hw).2⟩)) hh (fun w hw => by
    have h1 := hb w hw
    simp only [gB, List.mem_cons, List.not_mem_nil, or_false] at hw
    rcases hw with rfl | rfl | rfl | rfl | rfl | rfl
    · exact va_tabs rfl rfl h1
    · exact va_tabs rfl rfl h1
    · exact va_tabs rfl rfl h1
    · exact va_tabs rfl rfl h1
    · exact va_tabs rfl rfl h1
    · exact va_tabs rfl rfl h1)
def gWs : List Cond := Cond.code yGet gCode 3 (some .int) :: aWS
def gRm : Room := { frames := 200, cells := 1, slots := 6, locals := 12000 }
def gPre (φ : Nat → Nat → Nat) (cA : Nat → ClassId) (D : va_G) (M : bM) (x y : Int32) (sz : Nat) : Array Value → State → Prop :=
  va_Pc [.ref (φ 0 0), .int x, .int y] (fun U => U.heap.size = sz ∧ va_P D aCl (bWd cA φ M) U.heap ∧ va_K D aCl (aTyl cA) U ∧ va_D (fun _ => True) (bWd cA φ M) ∧ (∀ w ∈ aNW, va_Nw w U) ∧ gXs (va_A (bWd cA φ M) sz) U U.heap)
def gQ (φ : Nat → Nat → Nat) (cA : Nat → ClassId) (D : va_G) (M : bM) (k v : Int32) (sz : Nat) : Array Value → State → Outcome → State → Prop := fun _ st oc t =>
  (k = 0 ∧ oc = .returned (some (.int v)) ∧ va_P D aCl (bWd cA φ M) t.heap) ∧ va_F (va_A (bWd cA φ M) sz) st t
def gX (φ : Nat → Nat → Nat) (cA : Nat → ClassId) (D : va_G) (M : bM) (k : Int32) (sz : Nat) : String → State → State → Prop := fun E st t =>
  ((k = 1 ∨ k = 2 ∨ k = 3) ∧ E = gE k ∧ va_P D aCl (bWd cA φ M) t.heap) ∧ va_F (va_A (bWd cA φ M) sz) st t
theorem gPre_blind {φ : Nat → Nat → Nat} {cA : Nat → ClassId} {D : va_G} {M : bM} {x y : Int32} {sz : Nat} : FrameBlind (gPre φ cA D M x y sz) := by
  intro a U g mk q
  obtain ⟨q0, q1, q2, q3, q4, q5, q6⟩ := q
  exact ⟨q0, q1, q2, va_K.moved (u := U) (U := U.calling g mk a) (Vm.Alike.refl U.vm) q3, q4, bNw_same (u := U) (U := U.calling g mk a) rfl q5, gXs.warm (s := U) (U := U.calling g mk a) (State.WarmedH.refl U) q6⟩
section GG
variable {p : Program} {l : Launch} {e : Env} {R : Room} {s : State} {m : MethodId} {args : Array Value} {below : List Frame} {meth : Method} {c : Code} {cA : Nat → ClassId} {D : va_G} {φ : Nat → Nat → Nat} {Qf : State → Prop} {cells slots : Nat} {lA : Array Slot}
theorem G_sheet {pc r : Nat} {x y : Int32} {st : List Value} {M : bM} {H : Heap} {locs : List Loc} (hx : p.tables.exec = Jvm.exec) (hb : c.code = gCode) (hown : s.vm.findClass gOwn = some m.cls) (hts : ∀ w ∈ aWS, w.before args s = true) (hK : va_K D aCl (aTyl cA) s) (hl : lv_has lA 3 [(0, .ref (φ 0 0)), (1, .int x), (2, .int y)]) (hr : x = iI (r : Int)) (hr3 : r < 3) (hP : va_P D aCl (bWd cA φ M) H)
    (d0 : decode gCode pc = .ok (.aload_n 0, 1)) (d1 : decode gCode (pc + 1) = .ok (.getfield 73, 3)) (d4 : decode gCode (pc + 4) = .ok (.iload_n 1, 1)) (d5 : decode gCode (pc + 5) = .ok (.aaload, 1))
    (kk : W p l e R s m args below meth c H locs cells slots Qf (F0 m (pc + 6) lA (.ref (φ 6 r) :: st))) : W p l e R s m args below meth c H locs cells slots Qf (F0 m pc lA st) := by
  refine lv_aload_n hx hb d0 rfl (lv_at hl 0 rfl) ?_
  obtain ⟨rr, hc0, hf0, hd0, hl0, -⟩ := gF_73
  dsimp only at hc0 hf0 hd0 hl0
  obtain ⟨k0, hv0⟩ := bVs_at (show (0, 0) ∈ bVs by decide +kernel)
  have hw0 : (bWd cA φ M)[k0]? = some (φ 0 0, .inr (6, (List.range 14).map (bFld φ M 0 0))) := bWd_get hv0
  refine va_get (v := .ref (φ 25 0)) hx hb hts (cl_facts hc0).1 hown hK hP k0 hw0 hc0 13 hf0 (hts _ (hl0 rfl)) (by rw [hd0]; exact fun _ z => z) rfl d1 ?_
  refine lv_iload_n hx hb d4 rfl (lv_at hl 1 rfl) ?_
  obtain ⟨k1, hv1⟩ := bVs_at (show (25, 0) ∈ bVs by decide +kernel)
  have hw1 : (bWd cA φ M)[k1]? = some (φ 25 0, .inl (cA 4, 3, .inr (.inr (.inr (.inr (fun i => some (φ (bRr 25 0 i).1 (bRr 25 0 i).2))))))) := bWd_get hv1
  have hin : vp_in x 3 := vin hr
  have hcl : x.toNatClampNeg = r := cl_of hr
  have hlt : x.toNatClampNeg < 3 := by omega
  refine W.aald (v := va_rf (some (φ (bRr 25 0 x.toNatClampNeg).1 (bRr 25 0 x.toNatClampNeg).2))) (ty := aTys 4) hx hb (hP k1 _ hw1) ((hK.2 4 _ rfl).1 _ (fun j' => va_rf (some (φ (bRr 25 0 j').1 (bRr 25 0 j').2)))) rfl (fun q => by cases q) (by show ¬ (x < 0 ∨ (arrV _ _ _).slots.size ≤ _); rw [arrV_size]; exact hin) (by show (arrV _ _ _).slots[_]? = _; rw [arrV_read _ _ hlt]) rfl rfl d5 ?_
  rw [hcl]
  exact kk
set_option maxRecDepth 100000 in
/-- THE CONTRACT of get -/
theorem gMet (l : Launch) (hl : l.stackTraces = false) {M : bM} {x y k v : Int32} (hsay : gSay M x y k v) (sz : Nat) : vx_Met l yGet gWs gRm (gPre φ cA D M x y sz) (gQ φ cA D M k v sz) (gX φ cA D M k sz) 1 6 (va_A (bWd cA φ M) sz) := by
  refine vx_ofW (cc := gCode) (maxL := 3) (ret := some .int) (by decide +kernel) rfl ?_
  intro p e s m args below meth c s₁ B hml hout hv
  obtain ⟨rfl, hsz, hP, hK, hD0, hnw, hX⟩ := hv
  subst hsz
  have hts0 := atoms_spec (ws := gWs) B.pre
  have hts := fun (w : Cond) (hw : w ∈ aWS) => hts0 w (List.mem_cons_of_mem _ hw)
  have hown : s.vm.findClass gOwn = some m.cls := findClass_of_methodNamed B.named
  have hx := B.exec
  have hb := B.bytes
  have hD := hD0.self (sz := s.heap.size)
  have hl0 := lv_entry [.ref (φ 0 0), .int x, .int y] (n := 3) (Nat.le_of_ble_eq_true rfl)
  rw [lg_entry_eq]
  generalize (lg_sl [.ref (φ 0 0), .int x, .int y] ++ List.replicate (3 - (lg_sl [.ref (φ 0 0), .int x, .int y]).length) Slot.unset).toArray = lA at hl0 ⊢
  have hl0 : lv_has lA 3 [(0, .ref (φ 0 0)), (1, .int x), (2, .int y)] := hl0
  have hAA : ∀ q, s.heap.size ≤ q → va_A (bWd cA φ M) s.heap.size q := fun q h => Or.inr h
  have hS0 : va_S (va_A (bWd cA φ M) s.heap.size) s.heap s.heap [] := va_S.rf
  have hsz := hl0.1.trans hml.symm
  have hfin : ∀ {H : Heap} {locs : List Loc}, va_P D aCl (bWd cA φ M) H → va_S (va_A (bWd cA φ M) s.heap.size) s.heap H locs → ∀ t : State, H.size ≤ t.heap.size → (∀ q : Nat, q < H.size → t.heap[q]? = H[q]?) → va_P D aCl (bWd cA φ M) t.heap ∧ va_F (va_A (bWd cA φ M) s.heap.size) s t := fun hP1 hS1 t hle hk => ⟨hP1.kept (fun k x hx => hk x.1 ((hP1 k x hx).lt)), Nat.le_trans hS1.1 hle, fun q h1 h2 => (hk q (Nat.lt_of_lt_of_le h1 hS1.1)).trans (hS1.2.1 q h1 h2)⟩
  obtain ⟨hB, ⟨a1, a2, a3, hr1, hr2, hr3⟩, hU, hN⟩ := hX
  refine lv_iload_n hx hb gD_0 rfl (lv_at hl0 1 rfl) ?_
  rcases hsay with ⟨hk, hnr⟩ | ⟨r, z, hr, hr30, hz, hz1, hz2, hsay⟩
  · subst hk
    refine K_callS (oc := 6) (n := 1) (as := [x]) (st := []) (Q := fun w M' => w = some (cI (0 : Int32)) ∧ M' = M) hx hb hsz hown hts hnw hK ⟨(by decide : 178 ≤ 200), (by decide : 11400 ≤ 12000)⟩ ⟨Nat.zero_le _, Nat.zero_le _⟩ gL_179 (by decide +kernel) rfl (Nat.zero_le _) gD_1 hP hD hS0 hAA (S_isSheet_f hnr ⟨rfl, rfl⟩) (fun w M2 H1 locs1 hq hP1 hS1 => ?_)
    obtain ⟨rfl, hM⟩ := hq
    rw [hM] at hP1
    refine lv_if_ne (x := 0) (tgt := 18) hx hb gD_4 (by omega) (fun h => absurd rfl h) (fun _ => ?_)
    exact vx_throwSW (names := gNm) hx hb hl hown (by decide +kernel) (by decide +kernel) (hts _ gWk1) (hts _ gWi1) hr1 (gHat gI_1 gH_1 hts hB) gG_1 hU hN hS1 hsz gD_7 gD_10 gD_11 gD_14 gD_17 (fun x hx => (hout x hx).elim) (by decide : 2 + 3 < 200) (by decide : 0 + (13 * (2 + 1) + 43) ≤ 12000) (Nat.le_refl 1) (Nat.le_refl 6) B.notSynchronized (fun t hal hle hk => ⟨⟨Or.inl rfl, gE_1.symm, (hfin hP1 hS1 t hle hk).1⟩, (hfin hP1 hS1 t hle hk).2⟩) hS1.2.2 (Nat.le_refl 1) (Nat.le_refl 6)
  · refine K_callS (oc := 6) (n := 1) (as := [x]) (st := []) (Q := fun w M' => w = some (cI (1 : Int32)) ∧ M' = M) hx hb hsz hown hts hnw hK ⟨(by decide : 178 ≤ 200), (by decide : 11400 ≤ 12000)⟩ ⟨Nat.zero_le _, Nat.zero_le _⟩ gL_179 (by decide +kernel) rfl (Nat.zero_le _) gD_1 hP hD hS0 hAA (S_isSheet_t hr hr30 ⟨rfl, rfl⟩) (fun w M2 H1 locs1 hq hP1 hS1 => ?_)
    obtain ⟨rfl, hM⟩ := hq
    rw [hM] at hP1
    refine lv_if_ne (x := 1) (tgt := 18) hx hb gD_4 (by omega) (fun _ => ?_) (fun h => absurd h (by decide))
    refine G_sheet hx hb hown hts hK hl0 hr hr30 hP1 gD_18 gD_19 gD_22 gD_23 ?_
    rcases hsay with ⟨hk, hneg⟩ | ⟨hz0, a, ha, ha1, ha2, hsay⟩
    · subst hk
      refine K_callV (oc := 6) (n := 0) (g := 6) (j := r) (as := []) (st := []) (Q := fun w M' => w = some (cI (1 : Int32)) ∧ M' = M) hx hb hsz hown hts hnw hK ⟨(by decide : 178 ≤ 200), (by decide : 11400 ≤ 12000)⟩ ⟨Nat.zero_le _, Nat.zero_le _⟩ gL_182 (by decide +kernel) (gVs r hr30) rfl (Nat.zero_le _) gD_24 hP1 hD hS1 hAA (S_isMissing_t hz hz1 hneg ⟨rfl, rfl⟩) (fun w M3 H2 locs2 hq hP2 hS2 => ?_)
      obtain ⟨rfl, hM⟩ := hq
      rw [hM] at hP2
      refine lv_if_eq (x := 1) (tgt := 41) hx hb gD_27 (by omega) (fun h => absurd h (by decide)) (fun _ => ?_)
      exact vx_throwSW (names := gNm) hx hb hl hown (by decide +kernel) (by decide +kernel) (hts _ gWk2) (hts _ gWi2) hr2 (gHat gI_2 gH_2 hts hB) gG_2 hU hN hS2 hsz gD_30 gD_33 gD_34 gD_37 gD_40 (fun x hx => (hout x hx).elim) (by decide : 2 + 3 < 200) (by decide : 0 + (13 * (2 + 1) + 43) ≤ 12000) (Nat.le_refl 1) (Nat.le_refl 6) B.notSynchronized (fun t hal hle hk => ⟨⟨Or.inr (Or.inl rfl), gE_2.symm, (hfin hP2 hS2 t hle hk).1⟩, (hfin hP2 hS2 t hle hk).2⟩) hS2.2.2 (Nat.le_refl 1) (Nat.le_refl 6)
    · refine K_callV (oc := 6) (n := 0) (g := 6) (j := r) (as := []) (st := []) (Q := fun w M' => w = some (cI (0 : Int32)) ∧ M' = M) hx hb hsz hown hts hnw hK ⟨(by decide : 178 ≤ 200), (by decide : 11400 ≤ 12000)⟩ ⟨Nat.zero_le _, Nat.zero_le _⟩ gL_182 (by decide +kernel) (gVs r hr30) rfl (Nat.zero_le _) gD_24 hP1 hD hS1 hAA (S_isMissing_f hz hz0 hz2 ⟨rfl, rfl⟩) (fun w M3 H2 locs2 hq hP2 hS2 => ?_)
      obtain ⟨rfl, hM⟩ := hq
      rw [hM] at hP2
      refine lv_if_eq (x := 0) (tgt := 41) hx hb gD_27 (by omega) (fun _ => ?_) (fun h => absurd rfl h)
      refine G_sheet hx hb hown hts hK hl0 hr hr30 hP2 gD_41 gD_42 gD_45 gD_46 ?_
      refine lv_iload_n hx hb gD_47 rfl (lv_at hl0 2 rfl) ?_
      refine lv_iconst (v := 1) hx hb gD_48 rfl ?_
      rcases hsay with ⟨hk, hna⟩ | ⟨hk, hge, hlt, hv⟩
      · subst hk
        refine K_callV (oc := 6) (n := 2) (g := 6) (j := r) (as := [y, 1]) (st := []) (Q := fun w M' => w = some (cI (0 : Int32)) ∧ M' = M) hx hb hsz hown hts hnw hK ⟨(by decide : 178 ≤ 200), (by decide : 11400 ≤ 12000)⟩ ⟨Nat.zero_le _, Nat.zero_le _⟩ gL_255 (by decide +kernel) (gVs r hr30) rfl (Nat.zero_le _) gD_49 hP2 hD hS2 hAA (S_hasPlaces_f (b := 1) hz hz0 hz2 ha rfl ha1 ha2 (by omega) (by omega) (by omega) ⟨rfl, rfl⟩) (fun w M4 H3 locs3 hq hP3 hS3 => ?_)
        obtain ⟨rfl, hM⟩ := hq
        rw [hM] at hP3
        refine lv_if_ne (x := 0) (tgt := 66) hx hb gD_52 (by omega) (fun h => absurd rfl h) (fun _ => ?_)
        exact vx_throwSW (names := gNm) hx hb hl hown (by decide +kernel) (by decide +kernel) (hts _ gWk3) (hts _ gWi3) hr3 (gHat gI_3 gH_3 hts hB) gG_3 hU hN hS3 hsz gD_55 gD_58 gD_59 gD_62 gD_65 (fun x hx => (hout x hx).elim) (by decide : 2 + 3 < 200) (by decide : 0 + (13 * (2 + 1) + 43) ≤ 12000) (Nat.le_refl 1) (Nat.le_refl 6) B.notSynchronized (fun t hal hle hk => ⟨⟨Or.inr (Or.inr rfl), gE_3.symm, (hfin hP3 hS3 t hle hk).1⟩, (hfin hP3 hS3 t hle hk).2⟩) hS3.2.2 (Nat.le_refl 1) (Nat.le_refl 6)
      · subst hk
        refine K_callV (oc := 6) (n := 2) (g := 6) (j := r) (as := [y, 1]) (st := []) (Q := fun w M' => w = some (cI (1 : Int32)) ∧ M' = M) hx hb hsz hown hts hnw hK ⟨(by decide : 178 ≤ 200), (by decide : 11400 ≤ 12000)⟩ ⟨Nat.zero_le _, Nat.zero_le _⟩ gL_255 (by decide +kernel) (gVs r hr30) rfl (Nat.zero_le _) gD_49 hP2 hD hS2 hAA (S_hasPlaces_t (b := 1) hz hz0 hz2 ha rfl hge (by omega) (by omega) ⟨rfl, rfl⟩) (fun w M4 H3 locs3 hq hP3 hS3 => ?_)
        obtain ⟨rfl, hM⟩ := hq
        rw [hM] at hP3
        refine lv_if_ne (x := 1) (tgt := 66) hx hb gD_52 (by omega) (fun _ => ?_) (fun h => absurd h (by decide))
        refine G_sheet hx hb hown hts hK hl0 hr hr30 hP3 gD_66 gD_67 gD_70 gD_71 ?_
        refine lv_iload_n hx hb gD_72 rfl (lv_at hl0 2 rfl) ?_
        have hay : y = iI ((a.toNat : Nat) : Int) := by rw [ha]; congr 1; omega
        refine K_callV (oc := 6) (n := 1) (g := 6) (j := r) (as := [y]) (st := []) (Q := fun w M' => w = some (cI v) ∧ M' = M) hx hb hsz hown hts hnw hK ⟨(by decide : 178 ≤ 200), (by decide : 11400 ≤ 12000)⟩ ⟨Nat.zero_le _, Nat.zero_le _⟩ gL_189 (by decide +kernel) (gVs r hr30) rfl (Nat.zero_le _) gD_73 hP3 hD hS3 hAA (S_numberOrZero (k := a.toNat) hz hz1 hz2 hay (by omega) ⟨by rw [if_pos (by omega), hv], rfl⟩) (fun w M5 H4 locs4 hq hP4 hS4 => ?_)
        obtain ⟨rfl, hM⟩ := hq
        rw [hM] at hP4
        refine W.widen (k := 1) (n := 6) (by decide) (by decide) (vx_ret ?_)
        exact W.iret hx hb B.returns (fun t ht hW => ⟨⟨rfl, rfl, by rw [ht]; exact hP4⟩, hS4.F ht⟩) hS4.2.2 gD_76 B.notSynchronized
end GG
