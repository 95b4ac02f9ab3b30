/-! THE LAW: the case of the call that throws. -/
theorem lF_1313 : decode (aMe 176).2.2.1 1313 = .ok (.aload_n 1, 1) := by decide +kernel
theorem lF_1326 : decode (aMe 176).2.2.1 1326 = .ok (.aload_n 3, 1) := by decide +kernel
theorem lF_1327 : decode (aMe 176).2.2.1 1327 = .ok (.invokestatic 142, 3) := by decide +kernel
theorem lF_1330 : decode (aMe 176).2.2.1 1330 = .ok (.istore 5, 2) := by decide +kernel
theorem lF_1332 : decode (aMe 176).2.2.1 1332 = .ok (.aload_n 2, 1) := by decide +kernel
theorem lF_1348 : decode (aMe 176).2.2.1 1348 = .ok (.istore 6, 2) := by decide +kernel
theorem lF_1350 : decode (aMe 176).2.2.1 1350 = .ok (.aload_n 2, 1) := by decide +kernel
theorem lF_1354 : decode (aMe 176).2.2.1 1354 = .ok (.iload 5, 2) := by decide +kernel
theorem lF_1356 : decode (aMe 176).2.2.1 1356 = .ok (.if_icmp .eq 5, 3) := by decide +kernel
theorem lF_1361 : decode (aMe 176).2.2.1 1361 = .ok (.iload 5, 2) := by decide +kernel
theorem lF_1363 : decode (aMe 176).2.2.1 1363 = .ok (.ifCond .ne 15, 3) := by decide +kernel
theorem lF_1366 : decode (aMe 176).2.2.1 1366 = .ok (.aload_n 3, 1) := by decide +kernel
theorem lF_1367 : decode (aMe 176).2.2.1 1367 = .ok (.iconst 0, 1) := by decide +kernel
theorem lF_1368 : decode (aMe 176).2.2.1 1368 = .ok (.laload, 1) := by decide +kernel
theorem lF_1369 : decode (aMe 176).2.2.1 1369 = .ok (.iload 6, 2) := by decide +kernel
theorem lF_1371 : decode (aMe 176).2.2.1 1371 = .ok (.i2l, 1) := by decide +kernel
theorem lF_1372 : decode (aMe 176).2.2.1 1372 = .ok (.lcmp, 1) := by decide +kernel
theorem lF_1373 : decode (aMe 176).2.2.1 1373 = .ok (.ifCond .eq 5, 3) := by decide +kernel
theorem lF_1378 : decode (aMe 176).2.2.1 1378 = .ok (.goto 175, 3) := by decide +kernel
theorem lF_a : lArgs 1314 2 = true := by decide +kernel
theorem lF_b : lArgs 1333 2 = true := by decide +kernel
theorem lF_c : lCal 1345 2 26 147 140 185 = true := by decide +kernel
theorem lF_d : lCal 1351 0 26 148 170 186 = true := by decide +kernel
theorem lgGood : GoodIn aWS (va_wsS "HiddenRelationsLaw" 142 yLg lgWs) := by
  have hg : ∀ {w : Cond}, w ∈ aWS → w ∈ aWS ∧ ((w.onTables && w.keeps) = true ∨ ∃ ty, w = .arrayClass ty) := fun h => ⟨h, good_of_word (List.mem_filter.mp h).2⟩
  intro w hw
  unfold va_wsS lgWs at hw
  simp only [List.cons_append, List.nil_append, List.mem_cons] at hw
  rcases hw with rfl | rfl | rfl | rfl | hw
  · exact hg lgWl
  · exact hg lgWst
  · exact hg lgWi
  · exact hg lgWc
  · exact hg hw
theorem lHo_kept {cA : Nat → ClassId} {ho : Nat} {φ : Nat → Nat → Nat} {M : bM} {H H1 : Heap} (hlt : ho < H.size) (hne : ∀ t ∈ bVs, φ t.1 t.2 ≠ ho) (hk : ∀ q : Nat, q < H.size → ¬ va_A (bWd cA φ M) H.size q → H1[q]? = H[q]?) : H1[ho]? = H[ho]? := by
  refine hk ho hlt fun hz => ?_
  rcases hz with ⟨k, e', hz⟩ | hz
  · unfold bWd at hz
    rw [List.getElem?_map] at hz
    cases hv : bVs[k]? with
    | none => rw [hv] at hz; cases hz
    | some t =>
      rw [hv] at hz
      exact hne t (List.mem_of_getElem? hv) (Prod.mk.inj (Option.some.inj hz)).1
  · omega
theorem lg_same (x : Int64) : lg_cmp x x = 0 := by
  unfold lg_cmp
  have h : ¬ x > x := fun h => by
    have := Int64.lt_iff_toInt_lt.mp h
    omega
  rw [if_neg h, if_pos rfl]
set_option maxRecDepth 100000 in
theorem L_get {p : Program} {l : Launch} {e : Env} {s : State} {m : MethodId} {below : List Frame} {meth : Method} {c : Code} {cA : Nat → ClassId} {D : va_G} {φ : Nat → Nat → Nat} {b L ho : Nat} {xs : Nat → Int32} (cx : bCx p s m #[Value.ref b] meth c room_1 cA D 176) (hX : va_X b L xs s s.heap) (hbl : b < s.heap.size) (hL : L ≤ 3072) (hlt : l.stackTraces = false) (hXs : gXs (lA0 s) s s.heap) (hNc : gNc s) (hoA : s.heap.size ≤ ho) : lGetOk p l e s m below meth c cA D φ b L ho := by
  intro Qf k r M H locs lA cells slots hk hl hW hcs hR kk
  obtain ⟨hx, hb, hr0, hml, hown, hts, hnw, hlk, hroom, hK, hmL⟩ := id cx
  obtain ⟨hP, hD, hS, ⟨f, ho1⟩, hne⟩ := hW
  have hho : ho < H.size := (Array.getElem?_eq_some_iff.mp ho1).1
  obtain ⟨kc, v, hsay, hmod⟩ := get_say (x := xs (k + 1 + 0)) (y := xs (k + 1 + 1)) hR
  have hPW := lgW_P.mpr ⟨hP, ho1⟩
  have hDW : va_D (lA0 s) (lgW cA φ M ho f) := lgW_D.mpr ⟨hD, hoA, hne⟩
  have hfq : ∀ q, va_A (lgW cA φ M ho f) H.size q → lA0 s q := fun q hz => by
    rcases hz with ⟨k', e', hz⟩ | hz
    · exact hDW.2 k' _ hz
    · exact Nat.le_trans hS.1 hz
  refine lv_aload_n hx hb lF_1313 rfl (lv_at hl 1 rfl) ?_
  refine L_args cx hX hbl hL hk hl hS 2 lF_a ?_
  refine lv_aload_n hx hb lF_1326 rfl (lv_at hl 3 rfl) ?_
  have hM := lgMet (cA := cA) (D := D) (φ := φ) (ho := ho) (f := f) l hlt hsay H.size
  have hpre : PreS s H (lgPre φ cA D M ho f (xs (k + 1 + 0)) (xs (k + 1 + 1)) H.size) [.ref (φ 0 0), .int (xs (k + 1 + 0)), .int (xs (k + 1 + 1)), .ref ho] := ⟨lgPre_blind, fun U hU hW => ⟨rfl, by rw [hU], by rw [hU]; exact hPW, va_K.moved hW.alike hK, hDW.weaken (fun _ _ _ _ => trivial), bNw_warm hW hnw, by rw [hU]; exact gXs.warm hW ((hXs.kept hS.2.1).narrow hfq), hNc.moved hW.alike⟩⟩
  have hrun := vx_runSW (p := p) (l := l) (e := e) (R := room_1) (args := #[Value.ref b]) (below := below) (meth := meth) (H := H) (locs := locs) (cells := cells) (slots := slots) (g := F0 m 1327 lA [.ref ho, .int (xs (k + 1 + 1)), .int (xs (k + 1 + 0)), .ref (φ 0 0)]) (rest := []) (n := 4) (index := 142) ⟨hx, hb, rfl, hown, hts⟩ hM (vx_cwSW (own := "HiddenRelationsLaw") (bytes := lgCode) (maxL := 5) (ret := some .int) (hh := lgHh) 4 hts lgGood rfl rfl rfl (by decide +kernel) ⟨(by decide : 210 + 1 ≤ 2048), (by decide : 8 + (5 + 11) + 13000 ≤ 84000)⟩) hpre rfl rfl (hl.1.trans (hmL.trans hml.symm)) rfl (lv_room (Nat.le_of_ble_eq_true rfl)) lF_1327 ⟨by show cells + 1 ≤ 601024; omega, by show slots + 6 ≤ 7293033; omega⟩
  refine h_back hrun hS (fun q _ hz => hfq q hz) hfq (fun _ _ _ z => z.2) (fun w st₀ t H1 locs1 hst0 hH1 hq hS1 => ?_)
  obtain ⟨⟨g, hw, hgv, hP1⟩, hF⟩ := hq
  cases hw
  rw [hH1] at hP1
  obtain ⟨hP1, ho2⟩ := lgW_P.mp hP1
  refine lv_istore (lv' := [(5, .int kc), (0, .ref b), (1, .ref (φ 0 0)), (2, .ref (φ 26 0)), (3, .ref ho), (4, .int (iI (k : Int)))]) hx hb lF_1330 hl (by decide) rfl (fun lA2 hl2 => ?_)
  have hl3 : lv_has lA2 7 (lLs φ b ho k) := lv_sub hl2 [1, 2, 3, 4, 5] rfl
  refine lv_aload_n hx hb lF_1332 rfl (lv_at hl3 2 rfl) ?_
  refine L_args cx hX hbl hL hk hl3 hS1 2 lF_b ?_
  have hcs1 : cells + 1 ≤ 601024 ∧ slots + 6 ≤ 7293033 := ⟨by omega, by omega⟩
  refine L_call (st := []) (Q := fun w M' => ∃ u : Int32, w = some (cI u) ∧ (kc = 0 → u = v) ∧ M' = bU M 26 0 2 kc) cx lF_c rfl (Nat.zero_le _) hl3.1 hP1 (dOf hD) hS1 hcs1 (hmod (fun u hu => ⟨u, rfl, hu, rfl⟩)) (fun w M2 H2 locs2 hq hP2 hS2 hk2 => ?_)
  obtain ⟨u, rfl, huv, hM2⟩ := hq
  rw [hM2] at hP2
  have ho3 := (lHo_kept (Array.getElem?_eq_some_iff.mp ho2).1 hne hk2).trans ho2
  refine lv_istore (x := u) (lv' := [(6, .int u), (5, .int kc), (0, .ref b), (1, .ref (φ 0 0)), (2, .ref (φ 26 0)), (3, .ref ho), (4, .int (iI (k : Int)))]) hx hb lF_1348 hl2 (by decide) rfl (fun lA3 hl4 => ?_)
  have hl5 : lv_has lA3 7 (lLs φ b ho k) := lv_sub hl4 [2, 3, 4, 5, 6] rfl
  refine lv_aload_n hx hb lF_1350 rfl (lv_at hl5 2 rfl) ?_
  refine L_call (as := []) (st := []) (Q := fun w M' => w = some (cI kc) ∧ M' = bU M 26 0 2 kc) cx lF_d rfl (Nat.zero_le _) hl5.1 hP2 (dOf hD) hS2 hcs1 (g_X7_thrown_0 ⟨by rw [bU_at], rfl⟩) (fun w M3 H3 locs3 hq hP3 hS3 hk3 => ?_)
  obtain ⟨rfl, hM3⟩ := hq
  rw [hM3] at hP3
  have ho4 := (lHo_kept (Array.getElem?_eq_some_iff.mp ho3).1 hne hk3).trans ho3
  have hend : W p l e room_1 s m #[Value.ref b] below meth c H3 locs3 (cells + 1) (slots + 6) Qf (F0 m 1378 lA3 []) := by
    refine lv_goto (tgt := 1553) hx hb lF_1378 (by omega) ?_
    exact kk lA3 _ H3 locs3 (cells + 1) (slots + 6) (hR.thr kc) ⟨hP3, dOf hD, hS3, ⟨g, ho4⟩, hne⟩ hl5 (by omega) (by omega)
  refine lv_iload hx hb lF_1354 (lv_at hl4 1 rfl) ?_
  refine lv_icmp_eq (x := kc) (y := kc) (tgt := 1361) hx hb lF_1356 (by omega) (fun _ => ?_) (fun hn => absurd rfl hn)
  refine lv_iload hx hb lF_1361 (lv_at hl4 1 rfl) ?_
  refine lv_if_ne (tgt := 1378) hx hb lF_1363 (by omega) (fun _ => hend) (fun hz => ?_)
  have hk0 : kc = 0 := hz
  refine lv_aload_n hx hb lF_1366 rfl (lv_at hl5 3 rfl) ?_
  refine lv_iconst (v := 0) hx hb lF_1367 rfl ?_
  refine va_lald hx hb hK (lgW_P.mpr ⟨hP3, ho4⟩) bVs.length 5 lgW_at rfl (vin l0) lF_1368 ?_
  rw [show g (0 : Int32).toNatClampNeg = v.toInt64 from hgv hk0]
  refine lv_iload hx hb lF_1369 (lv_at hl4 0 rfl) ?_
  rw [huv hk0]
  refine lv_i2l (v := v.toInt64) hx hb lF_1371 rfl ?_
  refine W.lcmp hx hb lF_1372 ?_
  rw [lg_same]
  exact lv_if_eq (x := 0) (tgt := 1378) hx hb lF_1373 (by omega) (fun _ => hend) (fun hn => absurd rfl hn)
