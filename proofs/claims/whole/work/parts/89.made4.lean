-- needs: 01 02 03 04 05 06 08 09 10 20 21 22 23 24 25 84 85 86 87 88
/-! THE MAKER OVER THE MACHINE: the constructors' contract. -/
section HU
variable {p : Program} {l : Launch} {e : Env} {s : State} {m : MethodId} {args : Array Value} {below : List Frame} {meth : Method} {c : Code} {R : Room} {cA : Nat → ClassId} {D : va_G} {A : Nat → Prop}
variable {call : Nat → List hV → List hC → Option (List hC)} {mi pc nx : Nat} {a : List Nat} {v : Int32} {ls : hL} {st : List hV} {X : List hC} {k q : Nat} {ρ : Nat → Nat} {r : hS ⊕ List hC} {Qc : Array Value → State → Outcome → State → Prop}
theorem m_all (hmi : mi ≤ 176) (hAA : ∀ q, s.heap.size ≤ q → A q) (hcall : hCalls l cA D mi call) (cx : hCx p s m args meth c R cA D mi) (hr : hNx p l e s m args below meth c R cA D A (MQ below Qc args s (hMc mi) (hMs mi) A) mi X ρ r)
    (hq : ∀ X', .inr X' = r → ∀ (H : Heap) (locs : List Loc), va_P D aCl (hWd cA ρ X') H → va_D A (hWd cA ρ X') → va_S A s.heap H locs → ∀ t : State, t.heap = H → s.WarmedH t.vm → Qc args s (.returned none) t)
    {e0 : aI} (hok : hOk mi pc e0 = true) (h : hStep call mi e0 ls st X k q = some r) : hWk p l e s m args below meth c R cA D A (MQ below Qc args s (hMc mi) (hMs mi) A) mi pc ls st X k q ρ := by
  obtain ⟨i, nx, a, v⟩ := e0
  cases i
  case iconst n => exact m_iconst cx hr hok h
  case bipush n => exact m_bipush cx hr hok h
  case sipush n => exact m_sipush cx hr hok h
  case iload_n n => exact m_iload_n cx hr hok h
  case aload_n n => exact m_aload_n cx hr hok h
  case istore_n n => exact m_istore_n cx hr hok h
  case iinc i n => exact m_iinc cx hr hok h
  case goto n => exact m_goto cx hr hok h
  case if_icmp cc n => exact m_if_icmp cx hr hok h
  case dup => exact m_dup cx hr hok h
  case getfield n => exact m_getfield cx hr hok h
  case putfield n => exact m_putfield cx hr hok h
  case iastore => exact m_iastore cx hr hok h
  case aastore => exact m_aastore cx hr hok h
  case newarray t => exact m_newarray hAA cx hr hok h
  case anewarray n => exact m_anewarray hAA cx hr hok h
  case multianewarray n d => exact m_multianewarray hAA cx hr hok h
  case new n => exact m_new hAA cx hr hok h
  case invokespecial n => exact m_invokespecial hAA hmi hcall cx hr hok h
  case return_ =>
    obtain ⟨⟨hx, hb, hr0, hml, hown, hts, hnw, hlk, hroom, hK, hmL⟩, hno, hcap, hin2⟩ := cx
    simp only [hOk, bOk, Bool.and_eq_true, decide_eq_true_eq] at hok
    obtain ⟨hd, hrt⟩ := hok
    have hd := bD_ok hd
    simp only [hStep] at h
    intro H locs lA hP hD hS hl
    split at h
    · obtain ⟨hcj, hh⟩ := hCond h
      clear h
      simp only [Bool.and_eq_true] at hcj
      have h1 := bq hcj.1
      have h2 := bq hcj.2
      have hh := Option.some.inj hh
      rw [← h1, ← h2]
      exact W.vret hx hb (hr0.trans hrt) (hq X hh H locs hP hD hS) hS.2.2 hd hlk
    · cases h
  all_goals (simp only [hStep] at h; cases h)
end HU
theorem hOk_at {mi pc : Nat} (h : hOkM mi = true) : hOk mi pc (aCode mi pc) = true := by
  unfold hOkM at h
  simp only [Bool.and_eq_true] at h
  unfold aCode
  cases hc : Nat.ble (aSz mi) pc with
  | true => rfl
  | false =>
    have hlt : pc < aSz mi := by
      have : ¬ aSz mi ≤ pc := fun z => by rw [Nat.ble_eq_true_of_le z] at hc; cases hc
      omega
    exact List.all_eq_true.mp h.2 pc (List.mem_range.mpr hlt)
/-- THE WALK: what the maker does from here to the end, the machine does -/
theorem hSound {l : Launch} {cA : Nat → ClassId} {D : va_G} : ∀ (n : Nat) {mi pc : Nat} {ls : hL} {st : List hV} {X X' : List hC} {k q : Nat}, mi < 176 → (aMe mi).2.2.2.2.2.1 = 2 → hGo n mi pc ls st X k q = some X' →
    ∀ {p : Program} {e : Env} {s : State} {m : MethodId} {args : Array Value} {below : List Frame} {meth : Method} {c : Code} {R : Room} {A : Nat → Prop} {Qc : Array Value → State → Outcome → State → Prop} {ρ : Nat → Nat}, (∀ q, s.heap.size ≤ q → A q) → hCx p s m args meth c R cA D mi →
      (∀ (ρ' : Nat → Nat) (H : Heap) (locs : List Loc), (∀ i, i < X.length → ρ' i = ρ i) → va_P D aCl (hWd cA ρ' X') H → va_D A (hWd cA ρ' X') → va_S A s.heap H locs → ∀ t : State, t.heap = H → s.WarmedH t.vm → Qc args s (.returned none) t) →
      hWk p l e s m args below meth c R cA D A (MQ below Qc args s (hMc mi) (hMs mi) A) mi pc ls st X k q ρ := by
  intro n
  induction n with
  | zero => intro mi pc ls st X X' k q _ _ h; cases h
  | succ n ih =>
    intro mi pc ls st X X' k q hmi hkd h p e s m args below meth c R A Qc ρ hAA cx hq
    have hkM := hOkM_all hmi hkd
    rw [hGo_succ] at h
    have hcall : hCalls l cA D mi (fun mj as X => hGo n mj 0 (hEntry (aML mj) as) [] X 0 0) := by
      intro mj as X X' ρ sz hlt hkj hgo hlen
      have hmj : mj < 176 := by omega
      obtain ⟨w1, w2, w3, w4, w5, w6, w7, w8, w9, w10⟩ := aMt_ok mj hmj
      have hkM := hOkM_all hmj hkj
      unfold hOkM at hkM
      simp only [Bool.and_eq_true] at hkM
      have hmL := bq hkM.1
      refine Met.ofWF (cc := (aMe mj).2.2.1) (maxL := (aMe mj).2.2.2.1) (ret := (aMe mj).2.2.2.2.1) w8 rfl ?_
      intro p e s m args below meth c s₁ B hml hv
      obtain ⟨rfl, hsz, hP, hK, hD0, hnw, hno⟩ := hv
      have hts0 := atoms_spec (ws := bWs mj) B.pre
      have hown : s.vm.findClass (aMe mj).2.1.cls = some m.cls := findClass_of_methodNamed B.named
      rw [w7] at hown
      have hD := hD0.self (sz := s.heap.size)
      subst hsz
      have hl := lv_entry (as.map (hTr ρ)) (n := (aMe mj).2.2.2.1) (by rw [hArgs_len, ← hmL]; exact hlen)
      rw [lg_entry_eq]
      generalize (lg_sl (as.map (hTr ρ)) ++ List.replicate ((aMe mj).2.2.2.1 - (lg_sl (as.map (hTr ρ))).length) Slot.unset).toArray = lA at hl ⊢
      rw [← hmL] at hl
      have hin2 : meth.name = "<init>" := (name_of_methodNamed B.named B.method).1.trans (w6 hkj).1
      refine ih hmj hkj hgo (A := va_A (hWd cA ρ X) s.heap.size) (fun q hq => Or.inr hq) ⟨⟨B.exec, B.bytes, B.returns, hml, hown, fun w hw => hts0 w (List.mem_cons_of_mem _ hw), hnw, B.notSynchronized, ⟨Nat.le_refl _, Nat.le_refl _⟩, hK, hmL⟩, hno, ⟨Nat.le_refl _, Nat.le_refl _⟩, hin2⟩ ?_ s.heap [] lA hP hD va_S.rf (hEntry_has hl)
      intro ρ' H locs h1 h2 h3 h4 t ht hW
      exact ⟨⟨ρ', rfl, h1, by rw [ht]; exact h2, h3⟩, h4.F ht⟩
    split at h
    · rename_i pc' ls' st' Y k' q' hstep
      refine m_all (by omega) hAA hcall cx ?_ (fun X' hz => by cases hz) (hOk_at hkM) hstep
      intro pc2 ls2 st2 X2 k2 q2 hz ρ' hag hle
      cases hz
      exact ih hmi hkd h hAA cx (fun ρ2 H locs hag2 => hq ρ2 H locs (fun i hi => (hag2 i (Nat.lt_of_lt_of_le hi hle)).trans (hag i hi)))
    · rename_i Y hstep
      cases h
      refine m_all (by omega) hAA hcall cx (fun _ _ _ _ _ _ hz => by cases hz) (fun X2 hz H locs hP hD hS => ?_) (hOk_at hkM) hstep
      cases hz
      exact hq ρ H locs (fun _ _ => rfl) hP hD hS
    · cases h
/-- THE CONTRACT of a constructor -/
theorem hMet {l : Launch} {cA : Nat → ClassId} {D : va_G} {mj n : Nat} {as : List hV} {X X' : List hC} {ρ : Nat → Nat} (sz : Nat) (hmj : mj < 176) (hkj : (aMe mj).2.2.2.2.2.1 = 2) (hlen : as.length ≤ aML mj) (hgo : hGo n mj 0 (hEntry (aML mj) as) [] X 0 0 = some X') : Met l (aMe mj).2.1 (bWs mj) (hRm mj) (hPre ρ cA D as X sz) (hPo ρ cA D X X' sz) (hMc mj) (hMs mj) (va_A (hWd cA ρ X) sz) := by
  obtain ⟨w1, w2, w3, w4, w5, w6, w7, w8, w9, w10⟩ := aMt_ok mj hmj
  have hkM := hOkM_all hmj hkj
  unfold hOkM at hkM
  simp only [Bool.and_eq_true] at hkM
  have hmL := bq hkM.1
  refine Met.ofWF (cc := (aMe mj).2.2.1) (maxL := (aMe mj).2.2.2.1) (ret := (aMe mj).2.2.2.2.1) w8 rfl ?_
  intro p e s m args below meth c s₁ B hml hv
  obtain ⟨rfl, hsz, hP, hK, hD0, hnw, hno⟩ := hv
  have hts0 := atoms_spec (ws := bWs mj) B.pre
  have hown : s.vm.findClass (aMe mj).2.1.cls = some m.cls := findClass_of_methodNamed B.named
  rw [w7] at hown
  have hD := hD0.self (sz := s.heap.size)
  subst hsz
  have hl := lv_entry (as.map (hTr ρ)) (n := (aMe mj).2.2.2.1) (by rw [hArgs_len, ← hmL]; exact hlen)
  rw [lg_entry_eq]
  generalize (lg_sl (as.map (hTr ρ)) ++ List.replicate ((aMe mj).2.2.2.1 - (lg_sl (as.map (hTr ρ))).length) Slot.unset).toArray = lA at hl ⊢
  rw [← hmL] at hl
  have hin2 : meth.name = "<init>" := (name_of_methodNamed B.named B.method).1.trans (w6 hkj).1
  refine hSound n hmj hkj hgo (A := va_A (hWd cA ρ X) s.heap.size) (fun q hq => Or.inr hq) ⟨⟨B.exec, B.bytes, B.returns, hml, hown, fun w hw => hts0 w (List.mem_cons_of_mem _ hw), hnw, B.notSynchronized, ⟨Nat.le_refl _, Nat.le_refl _⟩, hK, hmL⟩, hno, ⟨Nat.le_refl _, Nat.le_refl _⟩, hin2⟩ ?_ s.heap [] lA hP hD va_S.rf (hEntry_has hl)
  intro ρ' H locs h1 h2 h3 h4 t ht hW
  exact ⟨⟨ρ', rfl, h1, by rw [ht]; exact h2, h3⟩, h4.F ht⟩
