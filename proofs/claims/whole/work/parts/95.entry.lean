-- needs: 94
set_option maxRecDepth 100000 in
/-- the law, from its entry, by the case of the call that throws -/
theorem L_entry {p : Program} {e : Env} {s : State} {m : MethodId} {below : List Frame} {meth : Method} {c : Code} (l : Launch) {b L : Nat} {xs : Nat → Int32} (hL : L ≤ 3072) (C0 : lw_At p s m meth c b L xs)
    (hG : ∀ (cA : Nat → ClassId) (D : va_G) (φ : Nat → Nat → Nat) (ho : Nat), bCx p s m #[Value.ref b] meth c room_1 cA D 176 → s.heap.size ≤ ho → lGetOk p l e s m below meth c cA D φ b L ho) :
    W p l e room_1 s m #[Value.ref b] below meth c s.heap [] 0 0 (lw_Z below #[Value.ref b] s) (entryFrame m ([Value.ref b] : List Value).toArray 7) := by
  obtain ⟨hx, hb, hr, hml, hown, htb, hX, hbl, hlocks, hgv⟩ := id C0
  have hts : ∀ w ∈ aWS, w.before #[Value.ref b] s = true := fun w hw => htb w (List.mem_filter.mp hw).1
  have hnw : ∀ w ∈ aNW, va_Nw w s := fun w hw => by
    have h1 := List.all_eq_true.mp bNw_tab w hw
    simp only [Bool.and_eq_true] at h1
    exact va_tabs h1.1 rfl (htb w (aNW_in w hw))
  have hno : ∀ w ∈ aNO, va_Nw w s := fun w hw => by
    have h1 := htb w (aNO_in w hw)
    simp only [aNO, List.mem_cons, List.not_mem_nil, or_false] at hw
    rcases hw with rfl | rfl | rfl
    · exact over_moved (t := .int) (Vm.Alike.refl s.vm) h1
    · exact va_AO.of h1
    · exact va_AO.of h1
  obtain ⟨D, cA, hK⟩ := L_known (s := s) htb
  have cx : bCx p s m #[Value.ref b] meth c room_1 cA D 176 := ⟨hx, hb, hr, hml, hown, hts, hnw, hlocks, ⟨by decide, by decide⟩, hK, rfl⟩
  have hl := lv_entry ([.ref b]) (n := 7) (Nat.le_of_ble_eq_true rfl)
  rw [lg_entry_eq]
  generalize (lg_sl ([.ref b]) ++ List.replicate (7 - (lg_sl ([.ref b])).length) Slot.unset).toArray = ls at hl ⊢
  have hl : lv_has ls 7 [(0, .ref b)] := hl
  obtain ⟨X1, X2, g1, g2, g3, g4, g5, g6⟩ := hTwo_ex
  have hP0 : va_P D aCl (hWd cA (fun _ => 0) []) s.heap := fun k q h => by cases h
  have hD0 : va_D (lA0 s) (hWd cA (fun _ => 0) []) := ⟨(fun i j p q h => by cases h), (fun k q h => by cases h)⟩
  refine L_new (ci := 6) (X := []) (ρ := fun _ => 0) cx (by decide) (List.mem_of_getElem? (i := 12) rfl) lE_0 rfl hP0 hD0 va_S.rf (by decide) (by decide) (fun x H1 hP1 hD1 hS1 => ?_)
  refine lv_dup hx hb lE_3 rfl ?_
  have hx0 : hAd (fun _ => 0) ([] : List hC).length x 0 = x := by show x + (0 - 0) = x; omega
  rw [← hx0]
  refine L_init (o := 0) (rest := [.ref (hAd (fun _ => 0) ([] : List hC).length x 0)]) cx hno (by decide) (by decide +kernel) (by decide +kernel) (by decide +kernel) lM_19 lE_4 g1 hl.1 (Nat.le_of_ble_eq_true rfl) hP1 hD1 hS1 (by decide) (by decide) (fun ρ1 H2 locs2 hag1 hP2 hD2 hS2 => ?_)
  have hx1 : ρ1 0 = x := (hag1 0 (by decide)).trans hx0
  rw [hx0, ← hx1]
  refine lv_astore_n (lv' := [(1, .ref (ρ1 0)), (0, .ref b)]) hx hb lE_7 rfl hl (by decide) rfl (fun ls hl => ?_)
  refine L_new (ci := 7) cx (by decide) (List.mem_of_getElem? (i := 13) rfl) lE_8 g2 hP2 hD2 hS2 (by decide) (by decide) (fun y H3 hP3 hD3 hS3 => ?_)
  refine lv_dup hx hb lE_11 rfl ?_
  have hy0 : hAd ρ1 X1.length y 113 = y := by rw [← g3]; exact hAd_eq
  have hx2 : hAd ρ1 X1.length y 0 = ρ1 0 := hAd_lt (by omega)
  rw [← hy0]
  refine L_init (o := 113) (rest := [.ref (hAd ρ1 X1.length y 113)]) cx hno (by decide) (by decide +kernel) (by decide +kernel) (by decide +kernel) lM_22 lE_12 g4 hl.1 (Nat.le_of_ble_eq_true rfl) hP3 hD3 hS3 (by decide) (by decide) (fun ρ2 H4 locs4 hag2 hP4 hD4 hS4 => ?_)
  have hl2 : (X1 ++ [Sum.inr (7, hDf 7)] : List hC).length = 114 := by rw [List.length_append, g3]; rfl
  have e0 : ρ2 0 = ρ1 0 := (hag2 0 (by omega)).trans hx2
  have e1 : ρ2 113 = hAd ρ1 X1.length y 113 := hag2 113 (by omega)
  rw [← e1]
  rw [← e0] at hl
  refine lv_astore_n (lv' := [(2, .ref (ρ2 113)), (1, .ref (ρ2 0)), (0, .ref b)]) hx hb lE_15 rfl hl (by decide) rfl (fun ls hl => ?_)
  refine lv_iconst (v := 1) hx hb lE_16 rfl ?_
  have hP5 := hMade_P g6 hP4
  have hD5 := hMade_D g6 hD4
  refine va_newa (atype := .long) (N' := 1) (a0 := (1, .inr (.inl (fun _ => 0)))) hx hb (hts _ aWarr5) (rfl : newarray.typeOf .long = .long) hK hP5 hD5 hS4 (fun q h => h) (fun _ => rfl) (by decide) rfl (by decide) (by decide) (by decide) lE_17 (fun ho cc H5 hK6 hP6 hD6 hS6 => ?_)
  have hc0 : cc = cA 5 := hSame (t := 5) (by decide) hK6
  subst hc0
  generalize hφ : (fun g j => ρ2 (hPsi g j)) = φ at hP5 hD5 hP6 hD6
  have f0 : ρ2 0 = φ 0 0 := by rw [← hφ]; rfl
  have f1 : ρ2 113 = φ 26 0 := by rw [← hφ]; rfl
  rw [f0, f1] at hl
  refine lv_astore_n (lv' := [(3, .ref ho), (2, .ref (φ 26 0)), (1, .ref (φ 0 0)), (0, .ref b)]) hx hb lE_19 rfl hl (by decide) rfl (fun ls hl => ?_)
  refine lv_iconst (v := 0) hx hb lE_20 rfl ?_
  refine lv_istore (lv' := [(4, .int 0), (3, .ref ho), (2, .ref (φ 26 0)), (1, .ref (φ 0 0)), (0, .ref b)]) hx hb lE_21 hl (by decide) rfl (fun ls hl => ?_)
  have hlen : (bWd cA φ hM0).length = bVs.length := by unfold bWd; rw [List.length_map]
  have hlast : (bWd cA φ hM0 ++ [(ho, (.inl (cA 5, 1, .inr (.inl (fun _ => 0))) : va_E))])[bVs.length]? = some (ho, .inl (cA 5, 1, .inr (.inl (fun _ => 0)))) := by
    rw [List.getElem?_append_right (by omega), hlen, Nat.sub_self]
    rfl
  have hW : lSt s cA D φ ho hM0 H5 locs4 := by
    refine ⟨fun k q hk => hP6 k q (by rw [List.getElem?_append_left (List.getElem?_eq_some_iff.mp hk).1]; exact hk), hD5, hS6, ⟨fun _ => 0, hP6 _ _ hlast⟩, fun t ht hE => ?_⟩
    obtain ⟨k, hk⟩ := List.getElem?_of_mem ht
    have hkl : k < bVs.length := (List.getElem?_eq_some_iff.mp hk).1
    have h9 := hD6.1 k bVs.length (φ t.1 t.2, bCell cA φ hM0 t.1 t.2) _ (by rw [List.getElem?_append_left (by omega)]; exact bWd_get hk) hlast hE
    omega
  exact L_loop cx hr hX hbl hL (hG cA D φ ho cx (hD6.2 _ _ hlast)) 513 0 rfl (Nat.zero_le L) hM0 H5 locs4 ls _ _ (by decide) (by decide) (lv_sub hl [4, 3, 2, 1, 0] rfl) hW Rel0
