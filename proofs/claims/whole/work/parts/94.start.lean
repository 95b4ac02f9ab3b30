-- needs: 93
/-! THE LAW: from its entry to the loop's head. -/
theorem lE_0 : decode (aMe 176).2.2.1 0 = .ok (.new 8, 3) := by decide +kernel
theorem lE_3 : decode (aMe 176).2.2.1 3 = .ok (.dup, 1) := by decide +kernel
theorem lE_4 : decode (aMe 176).2.2.1 4 = .ok (.invokespecial 19, 3) := by decide +kernel
theorem lE_7 : decode (aMe 176).2.2.1 7 = .ok (.astore_n 1, 1) := by decide +kernel
theorem lE_8 : decode (aMe 176).2.2.1 8 = .ok (.new 20, 3) := by decide +kernel
theorem lE_11 : decode (aMe 176).2.2.1 11 = .ok (.dup, 1) := by decide +kernel
theorem lE_12 : decode (aMe 176).2.2.1 12 = .ok (.invokespecial 22, 3) := by decide +kernel
theorem lE_15 : decode (aMe 176).2.2.1 15 = .ok (.astore_n 2, 1) := by decide +kernel
theorem lE_16 : decode (aMe 176).2.2.1 16 = .ok (.iconst 1, 1) := by decide +kernel
theorem lE_17 : decode (aMe 176).2.2.1 17 = .ok (.newarray .long, 2) := by decide +kernel
theorem lE_19 : decode (aMe 176).2.2.1 19 = .ok (.astore_n 3, 1) := by decide +kernel
theorem lE_20 : decode (aMe 176).2.2.1 20 = .ok (.iconst 0, 1) := by decide +kernel
theorem lE_21 : decode (aMe 176).2.2.1 21 = .ok (.istore 4, 2) := by decide +kernel
theorem lM_19 : bMk' 176 125 19 78 = true := by decide +kernel
theorem lM_22 : bMk' 176 126 22 148 = true := by decide +kernel
theorem lKl : (∃ q ∈ aKl, q = (11, 8, "HiddenRelations")) ∧ ∃ q ∈ aKl, q = (11, 20, "HiddenRelationsModel") := ⟨⟨_, List.mem_of_getElem? (i := 12) rfl, rfl⟩, ⟨_, List.mem_of_getElem? (i := 13) rfl, rfl⟩⟩
section LS
variable {p : Program} {l : Launch} {e : Env} {s : State} {m : MethodId} {below : List Frame} {meth : Method} {c : Code} {cA : Nat → ClassId} {D : va_G} {Qf : State → Prop} {b : Nat} {cells slots : Nat} {lA : Array Slot}
/-- the law makes an object -/
theorem L_new {pc ci idx : Nat} {ρ : Nat → Nat} {X : List hC} {H : Heap} {locs : List Loc} {rest : List Value} (cx : bCx p s m #[Value.ref b] meth c room_1 cA D 176) (hci : ci < 8) (hkl : (11, idx, aCN ci) ∈ aKl) (hd : decode (aMe 176).2.2.1 pc = .ok (.new idx, 3)) (hX : X.all (hOkC X.length) = true) (hP : va_P D aCl (hWd cA ρ X) H) (hD : va_D (lA0 s) (hWd cA ρ X)) (hS : va_S (lA0 s) s.heap H locs) (hc1 : cells + 1 ≤ 601024) (hc2 : slots + (hDf ci).length ≤ 7293033)
    (kk : ∀ (x : Nat) (H1 : Heap), va_P D aCl (hWd cA (hAd ρ X.length x) (X ++ [.inr (ci, hDf ci)])) H1 → va_D (lA0 s) (hWd cA (hAd ρ X.length x) (X ++ [.inr (ci, hDf ci)])) → va_S (lA0 s) s.heap H1 locs → W p l e room_1 s m #[Value.ref b] below meth c H1 locs (cells + 1) (slots + (hDf ci).length) Qf (F0 m (pc + 3) lA (.ref x :: rest))) :
    W p l e room_1 s m #[Value.ref b] below meth c H locs cells slots Qf (F0 m pc lA rest) := by
  obtain ⟨hx, hb, hr0, hml, hown, hts, hnw, hlk, hroom, hK, hmL⟩ := cx
  obtain ⟨ty, t1, t2, t3, t4, t5⟩ := cl_new hci
  obtain ⟨c1, c2⟩ := cl_at hci
  have hkl := aKl_ok _ hkl
  generalize hrow : aCl.getD ci ("", aT0, 0) = row at c1 c2 t1 t2 t3
  obtain ⟨C, T0, N⟩ := row
  dsimp only at c2 t1 t2 t3
  subst c2; subst t3
  refine va_new hx hb hts (cl_facts c1).1 ty t1 hown (hts _ hkl) (hts _ t4) (hts _ t5) hK hP hD hS (fun q h => h) c1 t2 hc1 hc2 hd (fun x H1 hP1 hD1 hS1 => ?_)
  have hW := hWd_one (cA := cA) (ρ := ρ) (c := .inr (ci, hDf ci)) (a := x) hX
  have hce : hCe cA (hAd ρ X.length x) (.inr (ci, hDf ci)) = .inr (ci, aDf ci) := by
    show (.inr (ci, (hDf ci).map (hTr (hAd ρ X.length x))) : va_E) = _
    rw [hDf_ok hci]
  rw [hce] at hW
  exact kk x H1 (by rw [hW]; exact hP1) (by rw [hW]; exact hD1) hS1
/-- the law calls a constructor -/
theorem L_init {pc mj idx lj o n : Nat} {ρ : Nat → Nat} {X X' : List hC} {H : Heap} {locs : List Loc} {rest : List Value} (cx : bCx p s m #[Value.ref b] meth c room_1 cA D 176) (hno : ∀ w ∈ aNO, va_Nw w s) (hmj : mj < 176) (hkj : (aMe mj).2.2.2.2.2.1 = 2) (hnp : (aMe mj).2.2.2.2.2.2.2.2 = 0) (hml1 : 1 ≤ aML mj) (hmk : bMk' 176 lj idx mj = true) (hd : decode (aMe 176).2.2.1 pc = .ok (.invokespecial idx, 3)) (hgo : hGo n mj 0 (hEntry (aML mj) [.inr (.inl o)]) [] X 0 0 = some X') (hsz : lA.size = 7) (hrest : (rest.map fun v => v.category).sum ≤ 8)
    (hP : va_P D aCl (hWd cA ρ X) H) (hD : va_D (lA0 s) (hWd cA ρ X)) (hS : va_S (lA0 s) s.heap H locs) (hc1 : cells + hMc mj ≤ 601024) (hc2 : slots + hMs mj ≤ 7293033)
    (kk : ∀ (ρ' : Nat → Nat) (H1 : Heap) (locs1 : List Loc), (∀ i, i < X.length → ρ' i = ρ i) → va_P D aCl (hWd cA ρ' X') H1 → va_D (lA0 s) (hWd cA ρ' X') → va_S (lA0 s) s.heap H1 locs1 → W p l e room_1 s m #[Value.ref b] below meth c H1 locs1 (cells + hMc mj) (slots + hMs mj) Qf (F0 m (pc + 3) lA rest)) :
    W p l e room_1 s m #[Value.ref b] below meth c H locs cells slots Qf (F0 m pc lA (.ref (ρ o) :: rest)) := by
  obtain ⟨hx, hb, hr0, hml, hown, hts, hnw, hlk, hroom, hK, hmL⟩ := cx
  have hMo := aMt_ok mj hmj
  obtain ⟨w1, w2, w3, w4, w5, w6, w7, w8, w9, w10⟩ := id hMo
  have hM := hMet (l := l) (cA := cA) (D := D) (ρ := ρ) H.size hmj hkj (by simpa using hml1) hgo
  obtain ⟨nest, z0, z1⟩ := mk_ok hmk
  dsimp only at z0 z1
  have hpre : PreS s H (hPre ρ cA D [.inr (.inl o)] X H.size) (.ref (ρ o) :: []) := ⟨hPre_blind, fun U hU hW => ⟨rfl, by rw [hU], by rw [hU]; exact hP, va_K.moved hW.alike hK, hD.weaken (fun _ _ _ _ => trivial), bNw_warm hW hnw, hNO_moved hW.alike hno⟩⟩
  have hfr : (hRm mj).frames + 1 ≤ room_1.frames ∧ 8 + ((aMe mj).2.2.2.1 + 11) + (hRm mj).locals ≤ room_1.locals := by
    show mj + 1 + 1 ≤ room_1.frames ∧ 8 + ((aMe mj).2.2.2.1 + 11) + 64 * (mj + 1) ≤ room_1.locals
    omega
  have hAq : ∀ q, q < H.size → va_A (hWd cA ρ X) H.size q → lA0 s q := fun q hq hz => by
    rcases hz with ⟨k', e', hz⟩ | hz
    · exact hD.2 k' _ hz
    · omega
  have hfq : ∀ q, va_A (hWd cA ρ X) H.size q → lA0 s q := fun q hz => by
    rcases hz with ⟨k', e', hz⟩ | hz
    · exact hD.2 k' _ hz
    · exact Nat.le_trans hS.1 hz
  have hkk : ∀ (w : Option Value) (st₀ t : State) (H1 : Heap) (locs1 : List Loc), st₀.heap = H → t.heap = H1 → hPo ρ cA D X X' H.size (Value.ref (ρ o) :: []).toArray st₀ (.returned w) t → va_S (lA0 s) s.heap H1 locs1 → W p l e room_1 s m #[Value.ref b] below meth c H1 locs1 (cells + hMc mj) (slots + hMs mj) Qf (F0 m (pc + 3) lA (w.toList ++ rest)) := by
    rintro w st₀ t H1 locs1 hst0 rfl ⟨⟨ρ', hv2, hv3, hv4, hv5⟩, -⟩ hS1
    cases hv2
    exact kk ρ' t.heap locs1 hv3 hv4 (hv5.weaken (fun _ _ _ z => hfq _ z)) hS1
  have hlm : lA.size = (aMe 176).2.2.2.1 := hsz.trans hmL
  by_cases hne0 : nest = 0
  · exact h_back (va_runI (As := []) ⟨hx, hb, hml, hown, hts⟩ hM ⟨callB_of _ hts (bGood hMo) (by rw [bWs, (w6 hkj).2]) rfl rfl (hts _ w2) (hts _ (z0 hne0)) w9 hfr, (w6 hkj).1, hts _ (w4 (by rw [hkj]; decide))⟩ hpre rfl hnp.symm hlm rfl (lv_room hrest) hd ⟨hc1, hc2⟩) hS hAq hfq (fun _ _ _ z => z.2) hkk
  · exact h_back (va_runIN (As := []) ⟨hx, hb, hml, hown, hts⟩ hM ⟨va_cnB _ hts (bGood hMo) (by rw [bWs, (w6 hkj).2]) rfl rfl (hnw _ (z1 hne0)) (hts _ w2) w9 hfr, (w6 hkj).1, hts _ (w4 (by rw [hkj]; decide))⟩ hpre rfl hnp.symm hlm rfl (lv_room hrest) hd ⟨hc1, hc2⟩) hS hAq hfq (fun _ _ _ z => z.2) hkk
/-- the classes and the arrays' classes, out of the tables' words -/
theorem L_known {args : Array Value} (hts : ∀ w ∈ lw_tbl, w.before args s = true) : ∃ (D : va_G) (cA : Nat → ClassId), va_K D aCl (aTyl cA) s := by
  have haw : ∀ w ∈ aWS, w.before args s = true := fun w hw => hts w (List.mem_filter.mp hw).1
  have h1 : ∀ k : Nat, ∃ cI : ClassId × (Nat → Nat), ∀ q, aCl[k]? = some q → u_Kn s q.1 q.2.1 q.2.2 cI.1 cI.2 := by
    intro k
    cases hk : aCl[k]? with
    | none => exact ⟨(0, fun _ => 0), fun q hq => by cases hq⟩
    | some q =>
      have h8 : k < 8 := (List.getElem?_eq_some_iff.mp hk).1
      obtain ⟨ty, t1, t2, t3, t4, t5⟩ := cl_new h8
      obtain ⟨c1, c2⟩ := cl_at h8
      rw [hk] at c1
      cases c1
      rw [← c2] at t4
      obtain ⟨cC, iS, hKn⟩ := u_known haw (cl_facts hk).1 (haw _ t4)
      exact ⟨(cC, iS), fun q hq => by cases hq; exact hKn⟩
  obtain ⟨f, hf⟩ := Classical.axiomOfChoice h1
  have h2 : ∀ t : Nat, ∃ cl : ClassId, t < 6 → ArrOfT s cl (aTys t) ∧ va_RA s cl (aTys t) := by
    have prim : ∀ {ty : FieldType}, (∀ C, ty ≠ .object C) → (∀ z, ty ≠ .array z) → Cond.arrayClass ty ∈ aWS → ∃ cl : ClassId, ArrOfT s cl ty ∧ s.vm.findClass ("[" ++ ty.toString) = some cl := by
      intro ty hty hty2 hw
      obtain ⟨cl, k, comp, g1, g2, g3⟩ := Cond.arrayClass_spec (haw _ hw)
      exact ⟨cl, fun n z => ⟨(fun q hq => by cases hq), k, g2, comp, g3⟩, g1⟩
    intro t
    match t with
    | 0 =>
      obtain ⟨cl, g1, g2⟩ := prim (ty := .int) (fun _ h => by cases h) (fun _ h => by cases h) aWarr0
      exact ⟨cl, fun _ => ⟨g1, g2⟩⟩
    | 1 =>
      obtain ⟨cl, g1, g2⟩ := prim (ty := .boolean) (fun _ h => by cases h) (fun _ h => by cases h) aWarr1
      exact ⟨cl, fun _ => ⟨g1, g2⟩⟩
    | 2 =>
      obtain ⟨comp, cl, k, g1, g2, g3, g4, g5⟩ := arrayOverA_spec (hts _ (aNO_in _ (List.mem_cons_self : Cond.arrayOver (.array .int) ∈ aNO)))
      exact ⟨cl, fun _ => ⟨fun n z => ⟨(fun q hq => by cases hq), k, g3, comp, g4⟩, g5⟩⟩
    | 3 =>
      obtain ⟨comp, cl, k, g1, g2, g3, g4, g5⟩ := Cond.arrayOver_spec (hts _ (aNO_in _ (List.mem_cons_of_mem _ List.mem_cons_self : Cond.arrayOver (.object "HiddenRelations$Place") ∈ aNO)))
      exact ⟨cl, fun _ => ⟨fun n z => ⟨(fun q hq => by cases hq), k, g3, comp, g4⟩, k, comp, g3, g4, g1, g5⟩⟩
    | 4 =>
      obtain ⟨comp, cl, k, g1, g2, g3, g4, g5⟩ := Cond.arrayOver_spec (hts _ (aNO_in _ (List.mem_cons_of_mem _ (List.mem_cons_of_mem _ List.mem_cons_self) : Cond.arrayOver (.object "HiddenRelations$Sheet") ∈ aNO)))
      exact ⟨cl, fun _ => ⟨fun n z => ⟨(fun q hq => by cases hq), k, g3, comp, g4⟩, k, comp, g3, g4, g1, g5⟩⟩
    | 5 =>
      obtain ⟨cl, g1, g2⟩ := prim (ty := .long) (fun _ h => by cases h) (fun _ h => by cases h) aWarr5
      exact ⟨cl, fun _ => ⟨g1, g2⟩⟩
    | t + 6 => exact ⟨0, fun h => by omega⟩
  obtain ⟨g, hg⟩ := Classical.axiomOfChoice h2
  refine ⟨(fun k => (f k).1, fun k => (f k).2), g, fun k q hq => hf k q hq, fun k q hq => ?_⟩
  match k, hq with
  | 0, hq => cases hq; exact hg 0 (by omega)
  | 1, hq => cases hq; exact hg 1 (by omega)
  | 2, hq => cases hq; exact hg 2 (by omega)
  | 3, hq => cases hq; exact hg 3 (by omega)
  | 4, hq => cases hq; exact hg 4 (by omega)
  | 5, hq => cases hq; exact hg 5 (by omega)
  | k + 6, hq => cases hq
end LS
