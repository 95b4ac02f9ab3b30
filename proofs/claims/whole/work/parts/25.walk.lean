-- needs: 01 02 03 04 05 06 08 09 10 20 21 22 23 24
theorem bSw_ex {G : bG} {d : bCfg} {x : Int32} {ls : bL} {r : List bV} {M : bM} : ∀ {ts : List Nat} {lo : Int}, bAll G d (bSw ts lo x ls r M) → (∃ (i : Nat) (t : Nat), ts[i]? = some t ∧ x = Int32.ofInt (lo + i) ∧ G t ls r M) ∨ ((∀ i : Nat, i < ts.length → ¬ x = Int32.ofInt (lo + i)) ∧ bAp G d)
  | [], lo, h => Or.inr ⟨fun i hi => absurd hi (Nat.not_lt_zero i), h⟩
  | t :: ts, lo, h => by
    by_cases hx : x = Int32.ofInt lo
    · exact Or.inl ⟨0, t, rfl, by rw [hx]; congr 1; omega, h.1 hx⟩
    · rcases bSw_ex (ts := ts) (lo := lo + 1) (h.2 hx) with ⟨i, t', h1, h2, h3⟩ | ⟨h1, h2⟩
      · exact Or.inl ⟨i + 1, t', h1, by rw [h2]; congr 1; omega, h3⟩
      · refine Or.inr ⟨fun i hi => ?_, h2⟩
        cases i with
        | zero => simpa using hx
        | succ i =>
          have := h1 i (by simpa using hi)
          rwa [show lo + ((i + 1 : Nat) : Int) = lo + 1 + (i : Int) by omega]
theorem bTs_ok {pc : Nat} : ∀ {os : List Int} {ts : List Nat}, bTs pc os ts = true → os.length = ts.length ∧ ∀ (i t : Nat), ts[i]? = some t → ∃ off, os[i]? = some off ∧ (pc : Int) + off = (t : Int)
  | [], [], _ => ⟨rfl, fun i t h => by cases h⟩
  | o :: os, t :: ts, h => by
    unfold bTs at h
    simp only [Bool.and_eq_true] at h
    obtain ⟨h1, h2⟩ := bTs_ok h.2
    refine ⟨by simp [h1], fun i t' ht => ?_⟩
    cases i with
    | zero => cases ht; exact ⟨o, rfl, bJ_ok h.1⟩
    | succ i => exact h2 i t' ht
  | [], _ :: _, h => by cases h
  | _ :: _, [], h => by cases h
theorem bSl_ex {G : bG} {pc dt : Nat} {dflt : Int} {x : Int32} {ls : bL} {r : List bV} {M : bM} (hd : (pc : Int) + dflt = (dt : Int)) : ∀ {ks : List (Int × Int)} {ts : List Nat}, bLs pc ks ts = true → bAll G (dt, ls, r, M) (bSl ks ts x ls r M) → ∃ (off : Int) (t : Nat), Op.lookupswitch.offset ks dflt x.toInt = off ∧ (pc : Int) + off = (t : Int) ∧ G t ls r M
  | [], [], _, h => ⟨dflt, dt, rfl, hd, h⟩
  | (v, o) :: ks, t :: ts, hk, h => by
    unfold bLs at hk
    simp only [Bool.and_eq_true, decide_eq_true_eq] at hk
    obtain ⟨h1, ⟨h2, h3⟩, h4⟩ := hk
    by_cases hx : x = Int32.ofInt v
    · have hv : v = x.toInt := by rw [hx, Int32.toInt_ofInt_of_le (by omega) (by omega)]
      exact ⟨o, t, by rw [Op.lookupswitch.offset_cons, if_pos hv], bJ_ok h1, h.1 hx⟩
    · obtain ⟨off, t', g1, g2, g3⟩ := bSl_ex hd (ks := ks) (ts := ts) h4 (h.2 hx)
      refine ⟨off, t', ?_, g2, g3⟩
      rw [Op.lookupswitch.offset_cons, if_neg, g1]
      intro hv
      exact hx (by rw [hv, Int32.ofInt_toInt])
  | [], _ :: _, hk, _ => by cases hk
  | _ :: _, [], hk, _ => by unfold bLs at hk; cases hk
section BE
variable {p : Program} {l : Launch} {e : Env} {s : State} {m : MethodId} {args : Array Value} {below : List Frame} {meth : Method} {c : Code} {R : Room} {φ : Nat → Nat → Nat} {cA : Nat → ClassId} {D : va_G} {A : Nat → Prop} {Qf : State → Prop} {mi : Nat}
variable {call : Nat → List bV → bM → bQ → Prop} {Q : bQ} {G : bG} {pc nx : Nat} {a : List Nat} {v : Int32} {ls : bL} {st : List bV} {M : bM} {Qc : Array Value → State → Outcome → State → Prop}
theorem w_tableswitch {dd lo hi : Int} {os : Array Int} (cx : bCx p s m args meth c R cA D mi) (hG : ∀ pc ls st M, G pc ls st M → bWk p l e s m args below meth c R φ cA D A Qf mi pc ls st M) (hok : bOk mi pc (.tableswitch dd lo hi os, nx, a, v) = true) (h : bRun call Q G (bStep (.tableswitch dd lo hi os, nx, a, v) ls st M)) : bWk p l e s m args below meth c R φ cA D A Qf mi pc ls st M := by
  obtain ⟨hx, hb, hr, hml, hown, hts, hnw, hlk, hroom, hK, hmL⟩ := cx
  simp only [bOk] at hok
  simp only [bStep] at h
  split at hok
  · rename_i dt ts
    simp only [Bool.and_eq_true, decide_eq_true_eq] at hok
    obtain ⟨h1, h2, h3, h4, ⟨h5, h6⟩, h7⟩ := hok
    have hd := bD_ok h2
    intro H locs lA hP hD hS hl hL hV
    split at h
    · rename_i dt' ts' x r hs
      cases hs
      obtain ⟨g1, g2⟩ := bTs_ok h4
      rcases bSw_ex h with ⟨i, t, z1, z2, z3⟩ | ⟨z1, z2⟩
      · have hi : i < ts.length := (List.getElem?_eq_some_iff.mp z1).1
        obtain ⟨off, y1, y2⟩ := g2 i t z1
        have hxi : x.toInt = lo + i := by rw [z2, Int32.toInt_ofInt_of_le (by omega) (by omega)]
        refine lv_tableIn hx hb hd (by omega) (by omega) (off := off) ?_ y2 (hG _ _ r M z3 H locs lA hP hD hS hl hL (oT hV))
        rw [hxi, show (lo + (i : Int) - lo).toNat = i by omega, ← Array.getElem?_toList]
        exact y1
      · refine lv_tableOut hx hb hd ?_ (bJ_ok h3) (hG _ _ r M z2 H locs lA hP hD hS hl hL (oT hV))
        by_cases hlo : x.toInt < lo
        · exact Or.inl hlo
        · by_cases hhi : hi < x.toInt
          · exact Or.inr hhi
          · exact absurd (by rw [show lo + ((x.toInt - lo).toNat : Int) = x.toInt by omega, Int32.ofInt_toInt]) (z1 (x.toInt - lo).toNat (by omega))
    · exact h.1.elim
  · cases hok
theorem w_lookupswitch {dd : Int} {ps : Array (Int × Int)} (cx : bCx p s m args meth c R cA D mi) (hG : ∀ pc ls st M, G pc ls st M → bWk p l e s m args below meth c R φ cA D A Qf mi pc ls st M) (hok : bOk mi pc (.lookupswitch dd ps, nx, a, v) = true) (h : bRun call Q G (bStep (.lookupswitch dd ps, nx, a, v) ls st M)) : bWk p l e s m args below meth c R φ cA D A Qf mi pc ls st M := by
  obtain ⟨hx, hb, hr, hml, hown, hts, hnw, hlk, hroom, hK, hmL⟩ := cx
  simp only [bOk] at hok
  simp only [bStep] at h
  split at hok
  · rename_i dt ts
    simp only [Bool.and_eq_true] at hok
    obtain ⟨h1, h2, h3, h4, h5⟩ := hok
    have hd := bD_ok h2
    intro H locs lA hP hD hS hl hL hV
    split at h
    · rename_i dt' ts' x r hs
      cases hs
      obtain ⟨off, t, z1, z2, z3⟩ := bSl_ex (bJ_ok h3) h4 h
      exact lv_lookup hx hb hd h5 z1 z2 (hG _ _ r M z3 H locs lA hP hD hS hl hL (oT hV))
    · exact h.1.elim
  · cases hok
theorem w_return (hq : ∀ (v : Option bV) (M : bM) (H : Heap) (locs : List Loc), Q v M → (∀ w, v = some w → bOkV w) → va_P D aCl (bWd cA φ M) H → va_S A s.heap H locs → ∀ t : State, t.heap = H → s.WarmedH t.vm → Qc args s (.returned (v.map (bTr φ))) t) (cx : bCx p s m args meth c R cA D mi) (hok : bOk mi pc (.return_, nx, a, v) = true) (h : bRun call Q G (bStep (.return_, nx, a, v) ls st M)) : bWk p l e s m args below meth c R φ cA D A (MQ below Qc args s 0 0 A) mi pc ls st M := by
  obtain ⟨hx, hb, hr, hml, hown, hts, hnw, hlk, hroom, hK, hmL⟩ := cx
  simp only [bOk, Bool.and_eq_true, decide_eq_true_eq] at hok
  obtain ⟨hd, hrt⟩ := hok
  have hd := bD_ok hd
  intro H locs lA hP hD hS hl hL hV
  simp only [bStep] at h
  split at h
  · exact W.vret hx hb (hr.trans hrt) (hq none M H locs h (fun w hw => by cases hw) hP hS) hS.2.2 hd hlk
  · exact h.1.elim
theorem w_ireturn (hq : ∀ (v : Option bV) (M : bM) (H : Heap) (locs : List Loc), Q v M → (∀ w, v = some w → bOkV w) → va_P D aCl (bWd cA φ M) H → va_S A s.heap H locs → ∀ t : State, t.heap = H → s.WarmedH t.vm → Qc args s (.returned (v.map (bTr φ))) t) (cx : bCx p s m args meth c R cA D mi) (hok : bOk mi pc (.ireturn, nx, a, v) = true) (h : bRun call Q G (bStep (.ireturn, nx, a, v) ls st M)) : bWk p l e s m args below meth c R φ cA D A (MQ below Qc args s 0 0 A) mi pc ls st M := by
  obtain ⟨hx, hb, hr, hml, hown, hts, hnw, hlk, hroom, hK, hmL⟩ := cx
  simp only [bOk] at hok
  simp only [bStep] at h
  split at hok
  · simp only [Bool.and_eq_true, decide_eq_true_eq] at hok
    obtain ⟨hd, hrt⟩ := hok
    have hd := bD_ok hd
    intro H locs lA hP hD hS hl hL hV
    split at h
    · rename_i x hs
      exact W.iret hx hb (hr.trans hrt) (hq (some (.inl x)) M H locs h (fun w hw => by cases hw; trivial) hP hS) hS.2.2 hd hlk
    · rename_i x hs; cases hs
    · exact h.1.elim
  · simp only [Bool.and_eq_true, decide_eq_true_eq] at hok
    obtain ⟨hd, hrt⟩ := hok
    have hd := bD_ok hd
    intro H locs lA hP hD hS hl hL hV
    split at h
    · rename_i x hs; cases hs
    · rename_i x hs
      exact W.zret hx hb (hr.trans hrt) (by rcases h.1 with rfl | rfl <;> rfl) (hq (some (.inl x)) M H locs h.2 (fun w hw => by cases hw; trivial) hP hS) hS.2.2 hd hlk
    · exact h.1.elim
  · cases hok
theorem w_areturn (hq : ∀ (v : Option bV) (M : bM) (H : Heap) (locs : List Loc), Q v M → (∀ w, v = some w → bOkV w) → va_P D aCl (bWd cA φ M) H → va_S A s.heap H locs → ∀ t : State, t.heap = H → s.WarmedH t.vm → Qc args s (.returned (v.map (bTr φ))) t) (cx : bCx p s m args meth c R cA D mi) (hok : bOk mi pc (.areturn, nx, a, v) = true) (h : bRun call Q G (bStep (.areturn, nx, a, v) ls st M)) : bWk p l e s m args below meth c R φ cA D A (MQ below Qc args s 0 0 A) mi pc ls st M := by
  obtain ⟨hx, hb, hr, hml, hown, hts, hnw, hlk, hroom, hK, hmL⟩ := cx
  simp only [bOk, Bool.and_eq_true] at hok
  obtain ⟨hd, hrt⟩ := hok
  have hd := bD_ok hd
  have hrt : ∃ rt, (aMe mi).2.2.2.2.1 = some rt ∧ ((∃ n, rt = .object n) ∨ ∃ t, rt = .array t) := by
    split at hrt
    · rename_i n hn; exact ⟨_, hn, Or.inl ⟨n, rfl⟩⟩
    · rename_i n hn; exact ⟨_, hn, Or.inr ⟨n, rfl⟩⟩
    · cases hrt
  obtain ⟨rt, hr1, hr2⟩ := hrt
  intro H locs lA hP hD hS hl hL hV
  simp only [bStep] at h
  split at h
  · rename_i t
    exact W.aret hx hb (hr.trans hr1) hr2 (Or.inr ⟨_, rfl⟩) (hq (some (.inr (.inr (.inl t)))) M H locs h (fun w hw => by cases hw; exact oH hV) hP hS) hS.2.2 hd hlk
  · exact W.aret hx hb (hr.trans hr1) hr2 (Or.inl rfl) (hq (some (.inr (.inr (.inr ())))) M H locs h (fun w hw => by cases hw; trivial) hP hS) hS.2.2 hd hlk
  · exact h.1.elim
/-- any instruction -/
theorem w_all (hmi : mi ≤ 176) (hAA : ∀ q, s.heap.size ≤ q → A q) (hcall : bCalls l φ cA D mi call) (hq : ∀ (v : Option bV) (M : bM) (H : Heap) (locs : List Loc), Q v M → (∀ w, v = some w → bOkV w) → va_P D aCl (bWd cA φ M) H → va_S A s.heap H locs → ∀ t : State, t.heap = H → s.WarmedH t.vm → Qc args s (.returned (v.map (bTr φ))) t) (cx : bCx p s m args meth c R cA D mi) (hG : ∀ pc ls st M, G pc ls st M → bWk p l e s m args below meth c R φ cA D A (MQ below Qc args s 0 0 A) mi pc ls st M) {e0 : aI} (hok : bOk mi pc e0 = true) (h : bRun call Q G (bStep e0 ls st M)) : bWk p l e s m args below meth c R φ cA D A (MQ below Qc args s 0 0 A) mi pc ls st M := by
  obtain ⟨i, nx, a, v⟩ := e0
  cases i
  case aconst_null => exact w_null cx hG hok h
  case iconst n => exact w_iconst cx hG hok h
  case bipush n => exact w_bipush cx hG hok h
  case sipush n => exact w_sipush cx hG hok h
  case ldc_w n => exact w_ldc_w cx hG hok h
  case lconst n => exact w_lconst cx hG hok h
  case iload i => exact w_iload cx hG hok h
  case iload_n i => exact w_iload_n cx hG hok h
  case lload_n i => exact w_lload_n cx hG hok h
  case aload i => exact w_aload cx hG hok h
  case aload_n i => exact w_aload_n cx hG hok h
  case istore i => exact w_istore cx hG hok h
  case istore_n i => exact w_istore_n cx hG hok h
  case lstore_n i => exact w_lstore_n cx hG hok h
  case astore i => exact w_astore cx hG hok h
  case astore_n i => exact w_astore_n cx hG hok h
  case iinc i n => exact w_iinc cx hG hok h
  case iadd => exact w_iadd cx hG hok h
  case isub => exact w_isub cx hG hok h
  case imul => exact w_imul cx hG hok h
  case iand => exact w_iand cx hG hok h
  case ior => exact w_ior cx hG hok h
  case ixor => exact w_ixor cx hG hok h
  case ishl => exact w_ishl cx hG hok h
  case ishr => exact w_ishr cx hG hok h
  case iushr => exact w_iushr cx hG hok h
  case ineg => exact w_ineg cx hG hok h
  case idiv => exact w_idiv cx hG hok h
  case irem => exact w_irem cx hG hok h
  case i2l => exact w_i2l cx hG hok h
  case l2i => exact w_l2i cx hG hok h
  case i2b => exact w_i2b cx hG hok h
  case ladd => exact w_ladd cx hG hok h
  case lmul => exact w_lmul cx hG hok h
  case lrem => exact w_lrem cx hG hok h
  case lcmp => exact w_lcmp cx hG hok h
  case dup => exact w_dup cx hG hok h
  case dup2 => exact w_dup2 cx hG hok h
  case iaload => exact w_iaload cx hG hok h
  case baload => exact w_baload cx hG hok h
  case aaload => exact w_aaload cx hG hok h
  case iastore => exact w_iastore cx hG hok h
  case bastore => exact w_bastore cx hG hok h
  case arraylength => exact w_arraylength cx hG hok h
  case goto n => exact w_goto cx hG hok h
  case ifCond cc n => exact w_ifCond cx hG hok h
  case if_icmp cc n => exact w_if_icmp cx hG hok h
  case ifnonnull n => exact w_ifnonnull cx hG hok h
  case getfield n => exact w_getfield cx hG hok h
  case putfield n => exact w_putfield cx hG hok h
  case tableswitch d lo hi os => exact w_tableswitch cx hG hok h
  case lookupswitch d ps => exact w_lookupswitch cx hG hok h
  case invokevirtual n => exact w_invokevirtual hmi hAA hcall cx hG hok h
  case invokestatic n => exact w_invokestatic hmi hAA hcall cx hG hok h
  case return_ => exact w_return hq cx hok h
  case ireturn => exact w_ireturn hq cx hok h
  case areturn => exact w_areturn hq cx hok h
  all_goals exact (And.left (show False ∧ bAp G (0, [], [], fun _ _ _ => 0) from h)).elim
end BE
theorem Met.ofWF {l : Launch} {y : MethodName} {ws ws' : List Cond} {rm : Room} {Pc : Array Value → State → Prop} {Qc : Array Value → State → Outcome → State → Prop} {mc ms : Nat} {free : Addr → Prop} {cc : ByteArray} {maxL : Nat} {ret : Option FieldType}
    (hy : plainFor y = true) (hw : ws = Cond.code y cc maxL ret :: ws')
    (body : ∀ p e s m args below meth c s₁, BodyLoose p l y (headSpec ws rm) cc maxL ret e s m args below meth c s₁ → c.maxLocals = maxL → Pc args s →
      W p l e (headSpec ws rm).room s m args below meth c s.heap [] 0 0 (MQ below Qc args s mc ms free) (entryFrame m args maxL)) : Met l y ws rm Pc Qc mc ms free := by
  refine MetFree.of_bodySF (code := cc) (maxLocals := maxL) (ret := ret) hy ?_ ?_
  · intro args s m h hn
    obtain ⟨meth, c, h1, h2, h3, h4, h5, h6, -, -⟩ := Cond.code_spec hn (atoms_spec (ws := ws) h _ (by rw [hw]; exact List.mem_cons_self))
    exact ⟨meth, c, h1, h2, h3, h4, h5, h6⟩
  · intro p e s m args below meth c s₁ B hml hP _
    have hh0 : s₁.heap = s.heap := by rw [B.state]; rfl
    obtain ⟨t, a1, o, b1, b2, b3⟩ := body p e s m args below meth c s₁ B hml hP s₁ hh0 (Stand.of_body B)
    exact ⟨t, o, a1, b1, b2, ⟨b3.1, b3.2⟩⟩
theorem bOk_at {mi pc : Nat} (h : bOkM mi = true) : bOk mi pc (aCode mi pc) = true := by
  unfold bOkM at h
  simp only [Bool.and_eq_true] at h
  unfold aCode
  cases hc : Nat.ble (aSz mi) pc with
  | true => rfl
  | false =>
    have hlt : pc < aSz mi := by
      have : ¬ aSz mi ≤ pc := fun z => by rw [Nat.ble_eq_true_of_le z] at hc; cases hc
      omega
    exact List.all_eq_true.mp h.2.1 pc (List.mem_range.mpr hlt)
/-- the methods of the second machine: all but the constructors and the law -/
def bMs_0 : List Nat := [0, 1, 2, 3, 4, 5, 6, 7, 8, 9, 10, 11, 12, 13, 14, 15, 16, 17, 19, 20, 21, 22, 25, 26, 27, 28, 29, 30, 32, 33, 34, 35]
theorem bMs_ok0 : ∀ mi ∈ bMs_0, bOkM mi = true := List.forall_mem_cons.mpr ⟨bOk_0, List.forall_mem_cons.mpr ⟨bOk_1, List.forall_mem_cons.mpr ⟨bOk_2, List.forall_mem_cons.mpr ⟨bOk_3, List.forall_mem_cons.mpr ⟨bOk_4, List.forall_mem_cons.mpr ⟨bOk_5, List.forall_mem_cons.mpr ⟨bOk_6, List.forall_mem_cons.mpr ⟨bOk_7, List.forall_mem_cons.mpr ⟨bOk_8, List.forall_mem_cons.mpr ⟨bOk_9, List.forall_mem_cons.mpr ⟨bOk_10, List.forall_mem_cons.mpr ⟨bOk_11, List.forall_mem_cons.mpr ⟨bOk_12, List.forall_mem_cons.mpr ⟨bOk_13, List.forall_mem_cons.mpr ⟨bOk_14, List.forall_mem_cons.mpr ⟨bOk_15, List.forall_mem_cons.mpr ⟨bOk_16, List.forall_mem_cons.mpr ⟨bOk_17, List.forall_mem_cons.mpr ⟨bOk_19, List.forall_mem_cons.mpr ⟨bOk_20, List.forall_mem_cons.mpr ⟨bOk_21, List.forall_mem_cons.mpr ⟨bOk_22, List.forall_mem_cons.mpr ⟨bOk_25, List.forall_mem_cons.mpr ⟨bOk_26, List.forall_mem_cons.mpr ⟨bOk_27, List.forall_mem_cons.mpr ⟨bOk_28, List.forall_mem_cons.mpr ⟨bOk_29, List.forall_mem_cons.mpr ⟨bOk_30, List.forall_mem_cons.mpr ⟨bOk_32, List.forall_mem_cons.mpr ⟨bOk_33, List.forall_mem_cons.mpr ⟨bOk_34, List.forall_mem_cons.mpr ⟨bOk_35, (fun _ h => absurd h List.not_mem_nil)⟩⟩⟩⟩⟩⟩⟩⟩⟩⟩⟩⟩⟩⟩⟩⟩⟩⟩⟩⟩⟩⟩⟩⟩⟩⟩⟩⟩⟩⟩⟩⟩
def bMs_1 : List Nat := [36, 37, 38, 39, 40, 41, 42, 43, 44, 45, 46, 47, 49, 50, 51, 52, 53, 54, 55, 57, 58, 59, 60, 61, 62, 63, 64, 65, 66, 67, 68, 69]
theorem bMs_ok1 : ∀ mi ∈ bMs_1, bOkM mi = true := List.forall_mem_cons.mpr ⟨bOk_36, List.forall_mem_cons.mpr ⟨bOk_37, List.forall_mem_cons.mpr ⟨bOk_38, List.forall_mem_cons.mpr ⟨bOk_39, List.forall_mem_cons.mpr ⟨bOk_40, List.forall_mem_cons.mpr ⟨bOk_41, List.forall_mem_cons.mpr ⟨bOk_42, List.forall_mem_cons.mpr ⟨bOk_43, List.forall_mem_cons.mpr ⟨bOk_44, List.forall_mem_cons.mpr ⟨bOk_45, List.forall_mem_cons.mpr ⟨bOk_46, List.forall_mem_cons.mpr ⟨bOk_47, List.forall_mem_cons.mpr ⟨bOk_49, List.forall_mem_cons.mpr ⟨bOk_50, List.forall_mem_cons.mpr ⟨bOk_51, List.forall_mem_cons.mpr ⟨bOk_52, List.forall_mem_cons.mpr ⟨bOk_53, List.forall_mem_cons.mpr ⟨bOk_54, List.forall_mem_cons.mpr ⟨bOk_55, List.forall_mem_cons.mpr ⟨bOk_57, List.forall_mem_cons.mpr ⟨bOk_58, List.forall_mem_cons.mpr ⟨bOk_59, List.forall_mem_cons.mpr ⟨bOk_60, List.forall_mem_cons.mpr ⟨bOk_61, List.forall_mem_cons.mpr ⟨bOk_62, List.forall_mem_cons.mpr ⟨bOk_63, List.forall_mem_cons.mpr ⟨bOk_64, List.forall_mem_cons.mpr ⟨bOk_65, List.forall_mem_cons.mpr ⟨bOk_66, List.forall_mem_cons.mpr ⟨bOk_67, List.forall_mem_cons.mpr ⟨bOk_68, List.forall_mem_cons.mpr ⟨bOk_69, (fun _ h => absurd h List.not_mem_nil)⟩⟩⟩⟩⟩⟩⟩⟩⟩⟩⟩⟩⟩⟩⟩⟩⟩⟩⟩⟩⟩⟩⟩⟩⟩⟩⟩⟩⟩⟩⟩⟩
def bMs_2 : List Nat := [70, 71, 72, 73, 74, 75, 76, 77, 79, 80, 81, 82, 83, 84, 85, 86, 87, 88, 89, 90, 91, 92, 93, 94, 95, 96, 97, 98, 99, 100, 101, 102]
theorem bMs_ok2 : ∀ mi ∈ bMs_2, bOkM mi = true := List.forall_mem_cons.mpr ⟨bOk_70, List.forall_mem_cons.mpr ⟨bOk_71, List.forall_mem_cons.mpr ⟨bOk_72, List.forall_mem_cons.mpr ⟨bOk_73, List.forall_mem_cons.mpr ⟨bOk_74, List.forall_mem_cons.mpr ⟨bOk_75, List.forall_mem_cons.mpr ⟨bOk_76, List.forall_mem_cons.mpr ⟨bOk_77, List.forall_mem_cons.mpr ⟨bOk_79, List.forall_mem_cons.mpr ⟨bOk_80, List.forall_mem_cons.mpr ⟨bOk_81, List.forall_mem_cons.mpr ⟨bOk_82, List.forall_mem_cons.mpr ⟨bOk_83, List.forall_mem_cons.mpr ⟨bOk_84, List.forall_mem_cons.mpr ⟨bOk_85, List.forall_mem_cons.mpr ⟨bOk_86, List.forall_mem_cons.mpr ⟨bOk_87, List.forall_mem_cons.mpr ⟨bOk_88, List.forall_mem_cons.mpr ⟨bOk_89, List.forall_mem_cons.mpr ⟨bOk_90, List.forall_mem_cons.mpr ⟨bOk_91, List.forall_mem_cons.mpr ⟨bOk_92, List.forall_mem_cons.mpr ⟨bOk_93, List.forall_mem_cons.mpr ⟨bOk_94, List.forall_mem_cons.mpr ⟨bOk_95, List.forall_mem_cons.mpr ⟨bOk_96, List.forall_mem_cons.mpr ⟨bOk_97, List.forall_mem_cons.mpr ⟨bOk_98, List.forall_mem_cons.mpr ⟨bOk_99, List.forall_mem_cons.mpr ⟨bOk_100, List.forall_mem_cons.mpr ⟨bOk_101, List.forall_mem_cons.mpr ⟨bOk_102, (fun _ h => absurd h List.not_mem_nil)⟩⟩⟩⟩⟩⟩⟩⟩⟩⟩⟩⟩⟩⟩⟩⟩⟩⟩⟩⟩⟩⟩⟩⟩⟩⟩⟩⟩⟩⟩⟩⟩
def bMs_3 : List Nat := [103, 104, 105, 106, 107, 108, 109, 110, 111, 112, 113, 114, 115, 116, 117, 118, 119, 120, 121, 122, 123, 124, 125, 126, 127, 128, 129, 130, 131, 132, 133, 134]
theorem bMs_ok3 : ∀ mi ∈ bMs_3, bOkM mi = true := List.forall_mem_cons.mpr ⟨bOk_103, List.forall_mem_cons.mpr ⟨bOk_104, List.forall_mem_cons.mpr ⟨bOk_105, List.forall_mem_cons.mpr ⟨bOk_106, List.forall_mem_cons.mpr ⟨bOk_107, List.forall_mem_cons.mpr ⟨bOk_108, List.forall_mem_cons.mpr ⟨bOk_109, List.forall_mem_cons.mpr ⟨bOk_110, List.forall_mem_cons.mpr ⟨bOk_111, List.forall_mem_cons.mpr ⟨bOk_112, List.forall_mem_cons.mpr ⟨bOk_113, List.forall_mem_cons.mpr ⟨bOk_114, List.forall_mem_cons.mpr ⟨bOk_115, List.forall_mem_cons.mpr ⟨bOk_116, List.forall_mem_cons.mpr ⟨bOk_117, List.forall_mem_cons.mpr ⟨bOk_118, List.forall_mem_cons.mpr ⟨bOk_119, List.forall_mem_cons.mpr ⟨bOk_120, List.forall_mem_cons.mpr ⟨bOk_121, List.forall_mem_cons.mpr ⟨bOk_122, List.forall_mem_cons.mpr ⟨bOk_123, List.forall_mem_cons.mpr ⟨bOk_124, List.forall_mem_cons.mpr ⟨bOk_125, List.forall_mem_cons.mpr ⟨bOk_126, List.forall_mem_cons.mpr ⟨bOk_127, List.forall_mem_cons.mpr ⟨bOk_128, List.forall_mem_cons.mpr ⟨bOk_129, List.forall_mem_cons.mpr ⟨bOk_130, List.forall_mem_cons.mpr ⟨bOk_131, List.forall_mem_cons.mpr ⟨bOk_132, List.forall_mem_cons.mpr ⟨bOk_133, List.forall_mem_cons.mpr ⟨bOk_134, (fun _ h => absurd h List.not_mem_nil)⟩⟩⟩⟩⟩⟩⟩⟩⟩⟩⟩⟩⟩⟩⟩⟩⟩⟩⟩⟩⟩⟩⟩⟩⟩⟩⟩⟩⟩⟩⟩⟩
def bMs_4 : List Nat := [135, 136, 137, 138, 139, 140, 141, 142, 143, 144, 145, 146, 147, 149, 150, 151, 152, 153, 154, 155, 156, 157, 158, 159, 160, 161, 162, 163, 164, 165, 166, 167]
theorem bMs_ok4 : ∀ mi ∈ bMs_4, bOkM mi = true := List.forall_mem_cons.mpr ⟨bOk_135, List.forall_mem_cons.mpr ⟨bOk_136, List.forall_mem_cons.mpr ⟨bOk_137, List.forall_mem_cons.mpr ⟨bOk_138, List.forall_mem_cons.mpr ⟨bOk_139, List.forall_mem_cons.mpr ⟨bOk_140, List.forall_mem_cons.mpr ⟨bOk_141, List.forall_mem_cons.mpr ⟨bOk_142, List.forall_mem_cons.mpr ⟨bOk_143, List.forall_mem_cons.mpr ⟨bOk_144, List.forall_mem_cons.mpr ⟨bOk_145, List.forall_mem_cons.mpr ⟨bOk_146, List.forall_mem_cons.mpr ⟨bOk_147, List.forall_mem_cons.mpr ⟨bOk_149, List.forall_mem_cons.mpr ⟨bOk_150, List.forall_mem_cons.mpr ⟨bOk_151, List.forall_mem_cons.mpr ⟨bOk_152, List.forall_mem_cons.mpr ⟨bOk_153, List.forall_mem_cons.mpr ⟨bOk_154, List.forall_mem_cons.mpr ⟨bOk_155, List.forall_mem_cons.mpr ⟨bOk_156, List.forall_mem_cons.mpr ⟨bOk_157, List.forall_mem_cons.mpr ⟨bOk_158, List.forall_mem_cons.mpr ⟨bOk_159, List.forall_mem_cons.mpr ⟨bOk_160, List.forall_mem_cons.mpr ⟨bOk_161, List.forall_mem_cons.mpr ⟨bOk_162, List.forall_mem_cons.mpr ⟨bOk_163, List.forall_mem_cons.mpr ⟨bOk_164, List.forall_mem_cons.mpr ⟨bOk_165, List.forall_mem_cons.mpr ⟨bOk_166, List.forall_mem_cons.mpr ⟨bOk_167, (fun _ h => absurd h List.not_mem_nil)⟩⟩⟩⟩⟩⟩⟩⟩⟩⟩⟩⟩⟩⟩⟩⟩⟩⟩⟩⟩⟩⟩⟩⟩⟩⟩⟩⟩⟩⟩⟩⟩
def bMs_5 : List Nat := [168, 169, 170, 171, 172, 173, 174, 175]
theorem bMs_ok5 : ∀ mi ∈ bMs_5, bOkM mi = true := List.forall_mem_cons.mpr ⟨bOk_168, List.forall_mem_cons.mpr ⟨bOk_169, List.forall_mem_cons.mpr ⟨bOk_170, List.forall_mem_cons.mpr ⟨bOk_171, List.forall_mem_cons.mpr ⟨bOk_172, List.forall_mem_cons.mpr ⟨bOk_173, List.forall_mem_cons.mpr ⟨bOk_174, List.forall_mem_cons.mpr ⟨bOk_175, (fun _ h => absurd h List.not_mem_nil)⟩⟩⟩⟩⟩⟩⟩⟩
theorem bOkM_all {mi : Nat} (h : mi < 176) (hk : (aMe mi).2.2.2.2.2.1 ≠ 2) : bOkM mi = true := by
  have h1 : (List.range 176).all (fun mi => Nat.beq (aMe mi).2.2.2.2.2.1 2 || (bMs_0.contains mi || bMs_1.contains mi || bMs_2.contains mi || bMs_3.contains mi || bMs_4.contains mi || bMs_5.contains mi)) = true := by decide +kernel
  have h2 := List.all_eq_true.mp h1 mi (List.mem_range.mpr h)
  simp only [Bool.or_eq_true, List.contains_iff_mem] at h2
  rcases h2 with h2 | h2
  · exact absurd (bq h2) hk
  · rcases h2 with ((((h2 | h2) | h2) | h2) | h2) | h2
    · exact bMs_ok0 mi h2
    · exact bMs_ok1 mi h2
    · exact bMs_ok2 mi h2
    · exact bMs_ok3 mi h2
    · exact bMs_ok4 mi h2
    · exact bMs_ok5 mi h2
/-- THE WALK: what the second machine does from here to the end, the first does -/
theorem bSound {l : Launch} {φ : Nat → Nat → Nat} {cA : Nat → ClassId} {D : va_G} : ∀ (n : Nat) {mi : Nat} {Q : bQ} {pc : Nat} {ls : bL} {st : List bV} {M : bM}, mi < 176 → (aMe mi).2.2.2.2.2.1 ≠ 2 → bGo0 n mi Q pc ls st M →
    ∀ {p : Program} {e : Env} {s : State} {m : MethodId} {args : Array Value} {below : List Frame} {meth : Method} {c : Code} {R : Room} {A : Nat → Prop} {Qc : Array Value → State → Outcome → State → Prop}, (∀ q, s.heap.size ≤ q → A q) → bCx p s m args meth c R cA D mi →
      (∀ (v : Option bV) (M : bM) (H : Heap) (locs : List Loc), Q v M → (∀ w, v = some w → bOkV w) → va_P D aCl (bWd cA φ M) H → va_S A s.heap H locs → ∀ t : State, t.heap = H → s.WarmedH t.vm → Qc args s (.returned (v.map (bTr φ))) t) →
      bWk p l e s m args below meth c R φ cA D A (MQ below Qc args s 0 0 A) mi pc ls st M := by
  intro n
  induction n with
  | zero => intro mi Q pc ls st M _ _ h; exact h.elim
  | succ n ih =>
    intro mi Q pc ls st M hmi hkd h p e s m args below meth c R A Qc hAA cx hq
    have hk := bOkM_all hmi hkd
    have hcall : bCalls l φ cA D mi (fun mj args X' Q' => bGo0 n mj Q' 0 (bEntry (aML mj) args) [] X') := by
      intro mj as M' Q' sz hlt hkj hgo hV hlen
      have hmj : mj < 176 := by omega
      obtain ⟨w1, w2, w3, w4, w5, w6, w7, w8, w9, w10⟩ := aMt_ok mj hmj
      have hkM := bOkM_all hmj hkj
      unfold bOkM at hkM
      simp only [Bool.and_eq_true] at hkM
      have hmL := bq hkM.1
      refine Met.ofWF (cc := (aMe mj).2.2.1) (maxL := (aMe mj).2.2.2.1) (ret := (aMe mj).2.2.2.2.1) w8 rfl ?_
      intro p e s m args below meth c s₁ B hml hv
      obtain ⟨rfl, hsz, hP, hK, hD0, hnw⟩ := hv
      have hts0 := atoms_spec (ws := bWs mj) B.pre
      have hown : s.vm.findClass (aMe mj).2.1.cls = some m.cls := findClass_of_methodNamed B.named
      rw [w7] at hown
      have hD := hD0.self (sz := s.heap.size)
      subst hsz
      have hl := lv_entry (as.map (bTr φ)) (n := (aMe mj).2.2.2.1) (by rw [bArgs_len, ← hmL]; exact hlen)
      rw [lg_entry_eq]
      generalize (lg_sl (as.map (bTr φ)) ++ List.replicate ((aMe mj).2.2.2.1 - (lg_sl (as.map (bTr φ))).length) Slot.unset).toArray = lA at hl ⊢
      rw [← hmL] at hl
      refine ih hmj hkj hgo (A := va_A (bWd cA φ M') s.heap.size) (fun q hq => Or.inr hq) ⟨B.exec, B.bytes, B.returns, hml, hown, fun w hw => hts0 w (List.mem_cons_of_mem _ hw), hnw, B.notSynchronized, ⟨Nat.le_refl _, Nat.le_refl _⟩, hK, hmL⟩ ?_ s.heap [] lA hP hD va_S.rf (bEntry_has hl) (fun n v hn => hV v (bArgs_at (bEntry_at hn))) (fun v hv => by cases hv)
      intro v M2 H locs h1 h2 h3 h4 t ht hW
      exact ⟨⟨v, M2, rfl, h2, h1, by rw [ht]; exact h3⟩, h4.F ht⟩
    have hgo : bRun (fun mj args X' Q' => bGo0 n mj Q' 0 (bEntry (aML mj) args) [] X') Q (bGo0 n mi Q) (bStep (aCode mi pc) (bMk (bMask mi pc) ls) st M) := h
    have key := w_all (l := l) (e := e) (below := below) (by omega) hAA hcall hq cx (fun pc ls st M z => ih hmi hkd z hAA cx hq) (bOk_at hk) hgo
    intro H locs lA hP hD hS hl hL hV
    refine key H locs lA hP hD hS (lv_mono hl fun q hq => ?_) (fun i w hw => hL i w (bMk_at hw)) hV
    obtain ⟨i, w, h1, h2⟩ := bPr_mem.mp hq
    exact bPr_mem.mpr ⟨i, w, bMk_at h1, h2⟩
/-- THE CONTRACT of a method of the second machine -/
theorem bMet {l : Launch} {φ : Nat → Nat → Nat} {cA : Nat → ClassId} {D : va_G} {mj : Nat} {as : List bV} {M : bM} {Q : bQ} (sz : Nat) (hmj : mj < 176) (hkj : (aMe mj).2.2.2.2.2.1 ≠ 2) (hV : ∀ v ∈ as, bOkV v) (hlen : (bArgs as).length ≤ aML mj) (h : bCall mj as M Q) : Met l (aMe mj).2.1 (bWs mj) (bRm mj) (bPre φ cA D as M sz) (bPo φ cA D M Q sz) 0 0 (va_A (bWd cA φ M) sz) := by
  obtain ⟨n, hgo⟩ := h
  obtain ⟨w1, w2, w3, w4, w5, w6, w7, w8, w9, w10⟩ := aMt_ok mj hmj
  have hkM := bOkM_all hmj hkj
  unfold bOkM at hkM
  simp only [Bool.and_eq_true] at hkM
  have hmL := bq hkM.1
  refine Met.ofWF (cc := (aMe mj).2.2.1) (maxL := (aMe mj).2.2.2.1) (ret := (aMe mj).2.2.2.2.1) w8 rfl ?_
  intro p e s m args below meth c s₁ B hml hv
  obtain ⟨rfl, hsz, hP, hK, hD0, hnw⟩ := hv
  have hts0 := atoms_spec (ws := bWs mj) B.pre
  have hown : s.vm.findClass (aMe mj).2.1.cls = some m.cls := findClass_of_methodNamed B.named
  rw [w7] at hown
  have hD := hD0.self (sz := s.heap.size)
  subst hsz
  have hl := lv_entry (as.map (bTr φ)) (n := (aMe mj).2.2.2.1) (by rw [bArgs_len, ← hmL]; exact hlen)
  rw [lg_entry_eq]
  generalize (lg_sl (as.map (bTr φ)) ++ List.replicate ((aMe mj).2.2.2.1 - (lg_sl (as.map (bTr φ))).length) Slot.unset).toArray = lA at hl ⊢
  rw [← hmL] at hl
  refine bSound n hmj hkj hgo (A := va_A (bWd cA φ M) s.heap.size) (fun q hq => Or.inr hq) ⟨B.exec, B.bytes, B.returns, hml, hown, fun w hw => hts0 w (List.mem_cons_of_mem _ hw), hnw, B.notSynchronized, ⟨Nat.le_refl _, Nat.le_refl _⟩, hK, hmL⟩ ?_ s.heap [] lA hP hD va_S.rf (bEntry_has hl) (fun n v hn => hV v (bArgs_at (bEntry_at hn))) (fun v hv => by cases hv)
  intro v M2 H locs h1 h2 h3 h4 t ht hW
  exact ⟨⟨v, M2, rfl, h2, h1, by rw [ht]; exact h3⟩, h4.F ht⟩
