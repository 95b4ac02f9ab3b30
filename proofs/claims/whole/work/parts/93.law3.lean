-- needs: 92
/-! THE CLAIM OUT OF ONE WALK OF THE LAW'S BODY. Your part is whole_start (and what it stands on); all else here is the same for every law, but numbers. -/
def R_law : String := "HiddenRelationsLaw"
def lw_P (b : Addr) (xs : List Int32) (args : Array Value) (s : State) : Prop := args = #[.ref b] ∧ s.IntsAt b xs ∧ xs.length ≤ 3072 ∧ (Jvm.Cond.and given_1 narrow_1).before args s = true
def lw_Q (_ : Array Value) (s : State) (o : Outcome) (t : State) : Prop := o = .returned (some (.int 1)) ∧ Framed s o t [] 601024 7293033
def lw_Z (below : List Frame) (a : Array Value) (s : State) : State → Prop := fun t => ∃ o, t.status = .running ∧ Ended t below o ∧ lw_Q a s o t
/-- the law's own end, with 1 on the stack, nothing written that was there before, its room as the claim has it -/
theorem lw_ret {p : Program} {l : Launch} {e : Env} {s : State} {m : MethodId} {below : List Frame} {meth : Method} {c : Code} {b : Nat} (hx : p.tables.exec = Jvm.exec) (hb : c.code = code) (hr : meth.sig.returnType = ret) (hlocks : meth.locks = false) {pc : Nat} {H : Heap} {ls : Array Slot} (hdg : decode code pc = .ok (.ireturn, 1)) : W p l e room_1 s m #[Value.ref b] below meth c H [] 601024 7293033 (lw_Z below #[Value.ref b] s) (F0 m pc ls [.int 1]) := by
  intro T hT X
  obtain ⟨fs, hret, hrun, hended, hW, hframe⟩ := X.leave (v := some (.int 1)) (hlocks := hlocks) (fun h => by rw [hr] at h; cases h)
  have hmeth' : T.vm.method? m = some meth := X.method'
  refine ⟨T.setFrames fs, ?_, .returned (some (.int 1)), hrun, hended, rfl, ⟨_, rfl⟩, hW, hframe⟩
  jvm_step X.here [X.here.top, hx, hb, hdg, hmeth', hr, ret, narrow_b1]
  (try refine ⟨rfl, ?_⟩); (try refine ⟨rfl, ?_⟩)
  first | (intro acts; rw [hret _ acts rfl rfl rfl]) | rw [hret _ _ rfl rfl rfl]
  exact Steps.refl _
/-- what holds at the law's entry: the machine, the code, the tables' words (any of lw_tbl by 'hts w (by decide +kernel)'), the script of L ints xs at the cell b, what the Statement gives of the start (any of its parts by flat_of_before) -/
def lw_At (p : Program) (s : State) (m : MethodId) (meth : Method) (c : Code) (b L : Nat) (xs : Nat → Int32) : Prop :=
  p.tables.exec = Jvm.exec ∧ c.code = code ∧ meth.sig.returnType = ret ∧ c.maxLocals = 7 ∧ s.vm.findClass R_law = some m.cls ∧ (∀ w ∈ lw_tbl, w.before #[Value.ref b] s = true) ∧ va_X b L xs s s.heap ∧ b < s.heap.size ∧ meth.locks = false ∧ (Jvm.Cond.and given_1 narrow_1).before #[Value.ref b] s = true
/-- the case of the call that throws: from its head to the end of the round (1173 cells, 14229 slots at most) -/
def lGetOk (p : Program) (l : Launch) (e : Env) (s : State) (m : MethodId) (below : List Frame) (meth : Method) (c : Code) (cA : Nat → ClassId) (D : va_G) (φ : Nat → Nat → Nat) (b L ho : Nat) : Prop :=
  ∀ (Qf : State → Prop) (k r : Nat) (M : bM) (H : Heap) (locs : List Loc) (lA : Array Slot) (cells slots : Nat), k + 6 ≤ L → lv_has lA 7 (lLs φ b ho k) → lSt s cA D φ ho M H locs → cells + 1173 ≤ 601024 ∧ slots + 14229 ≤ 7293033 → Rel r M →
    (∀ (lA' : Array Slot) (M3 : bM) (H3 : Heap) (locs3 : List Loc) (cells' slots' : Nat), Rel (r + 1) M3 → lSt s cA D φ ho M3 H3 locs3 → lv_has lA' 7 (lLs φ b ho k) → cells' ≤ cells + 1173 → slots' ≤ slots + 14229 → W p l e room_1 s m #[Value.ref b] below meth c H3 locs3 cells' slots' Qf (F0 m 1553 lA' [])) →
    W p l e room_1 s m #[Value.ref b] below meth c H locs cells slots Qf (F0 m 1313 lA [])
theorem lD_23 : decode (aMe 176).2.2.1 23 = .ok (.iload 4, 2) := by decide +kernel
theorem lD_25 : decode (aMe 176).2.2.1 25 = .ok (.aload_n 0, 1) := by decide +kernel
theorem lD_26 : decode (aMe 176).2.2.1 26 = .ok (.arraylength, 1) := by decide +kernel
theorem lD_27 : decode (aMe 176).2.2.1 27 = .ok (.bipush 6, 2) := by decide +kernel
theorem lD_29 : decode (aMe 176).2.2.1 29 = .ok (.isub, 1) := by decide +kernel
theorem lD_30 : decode (aMe 176).2.2.1 30 = .ok (.if_icmp .gt 1529, 3) := by decide +kernel
theorem lD_33 : decode (aMe 176).2.2.1 33 = .ok (.aload_n 0, 1) := by decide +kernel
theorem lD_34 : decode (aMe 176).2.2.1 34 = .ok (.iload 4, 2) := by decide +kernel
theorem lD_36 : decode (aMe 176).2.2.1 36 = .ok (.iaload, 1) := by decide +kernel
theorem lD_37 : decode (aMe 176).2.2.1 37 = .ok (.bipush 63, 2) := by decide +kernel
theorem lD_39 : decode (aMe 176).2.2.1 39 = .ok (.iand, 1) := by decide +kernel
theorem lD_1553 : decode (aMe 176).2.2.1 1553 = .ok (.iinc 4 6, 3) := by decide +kernel
theorem lD_1556 : decode (aMe 176).2.2.1 1556 = .ok (.goto (-1533), 3) := by decide +kernel
theorem lD_1559 : decode (aMe 176).2.2.1 1559 = .ok (.iconst 1, 1) := by decide +kernel
theorem lD_1560 : decode code 1560 = .ok (.ireturn, 1) := by decide +kernel
theorem Rel.up1 {r : Nat} {M : bM} (h : Rel r M) : Rel (r + 1) M := by
  obtain ⟨p0, S0, c0, u0, L0, h0⟩ := h
  exact h0.same
section LL
variable {p : Program} {l : Launch} {e : Env} {s : State} {m : MethodId} {below : List Frame} {meth : Method} {c : Code} {cA : Nat → ClassId} {D : va_G} {φ : Nat → Nat → Nat} {b L ho : Nat} {xs : Nat → Int32}
set_option maxRecDepth 100000 in
theorem L_loop (cx : bCx p s m #[Value.ref b] meth c room_1 cA D 176) (hr : meth.sig.returnType = ret) (hX : va_X b L xs s s.heap) (hbl : b < s.heap.size) (hL : L ≤ 3072) (hG : lGetOk p l e s m below meth c cA D φ b L ho) : ∀ (n r : Nat), r + n = 513 → 6 * r ≤ L → ∀ (M : bM) (H : Heap) (locs : List Loc) (lA : Array Slot) (cells slots : Nat), cells ≤ 149 + 1173 * r → slots ≤ 7393 + 14229 * r → lv_has lA 7 (lLs φ b ho (6 * r)) → lSt s cA D φ ho M H locs → Rel r M →
    W p l e room_1 s m #[Value.ref b] below meth c H locs cells slots (lw_Z below #[Value.ref b] s) (F0 m 23 lA [])
  | 0, r, h0, h6 => by omega
  | n + 1, r, h0, h6 => by
    intro M H locs lA cells slots hc1 hc2 hl hW hR
    have hx := cx.1
    have hb := cx.2.1
    have hS := hW.2.2.1
    refine lv_iload hx hb lD_23 (lv_at hl 4 rfl) ?_
    refine lv_aload_n hx hb lD_25 rfl (lv_at hl 0 rfl) ?_
    refine va_slen hx hb hX hbl (Nat.not_le.mpr hbl) hS lD_26 ?_
    refine lv_bipush (v := iI 6) hx hb lD_27 rfl ?_
    refine lv_isub hx hb lD_29 ?_
    rw [show Int32.ofNat L - iI 6 = iI ((L : Int) - 6) from by rw [← iI_sub]; rfl]
    refine lv_icmp_gt (x := iI ((6 * r : Nat) : Int)) (tgt := 1559) hx hb lD_30 (by omega) (fun hgt => ?_) (fun hgt => ?_)
    · refine lv_iconst (v := 1) hx hb lD_1559 rfl ?_
      refine W.widen (k := 601024) (n := 7293033) (by omega) (by omega) ?_
      exact va_forget (fun q hq => hS.2.2 q hq) (lw_ret hx hb hr cx.2.2.2.2.2.2.2.1 lD_1560)
    · have h62 : 6 * r + 6 ≤ L := by
        have h9 := hgt
        rw [iI_lt (by omega) (by omega) (by omega) (by omega)] at h9
        omega
      refine lv_aload_n hx hb lD_33 rfl (lv_at hl 0 rfl) ?_
      refine lv_iload hx hb lD_34 (lv_at hl 4 rfl) ?_
      refine va_sld hx hb hX hbl (Nat.not_le.mpr hbl) hS (iI_in (by omega) (by omega) (by omega)) lD_36 ?_
      refine lv_bipush (v := 63) hx hb lD_37 rfl ?_
      refine lv_iand hx hb lD_39 ?_
      have hend : ∀ (lA' : Array Slot) (M3 : bM) (H3 : Heap) (locs3 : List Loc) (cells' slots' : Nat), Rel (r + 1) M3 → lSt s cA D φ ho M3 H3 locs3 → lv_has lA' 7 (lLs φ b ho (6 * r)) → cells' ≤ cells + 1173 → slots' ≤ slots + 14229 → W p l e room_1 s m #[Value.ref b] below meth c H3 locs3 cells' slots' (lw_Z below #[Value.ref b] s) (F0 m 1553 lA' []) := by
        intro lA' M3 H3 locs3 cells' slots' hR3 hW3 hl3 hc3 hc4
        refine lv_iinc (k := 4) (v := iI ((6 * (r + 1) : Nat) : Int)) (lv' := [(4, .int (iI ((6 * (r + 1) : Nat) : Int))), (0, .ref b), (1, .ref (φ 0 0)), (2, .ref (φ 26 0)), (3, .ref ho)]) hx hb lD_1553 hl3 rfl ?_ (by omega) rfl (fun lA2 hl2 => ?_)
        · show iI ((6 * r : Nat) : Int) + iI 6 = _
          rw [iI_add]
          congr 1
        · refine lv_goto (tgt := 23) hx hb lD_1556 (by omega) ?_
          have e1 : cells' ≤ 149 + 1173 * (r + 1) := by omega
          have e2 : slots' ≤ 7393 + 14229 * (r + 1) := by omega
          exact L_loop cx hr hX hbl hL hG n (r + 1) (by omega) (by omega) M3 H3 locs3 lA2 cells' slots' e1 e2 (lv_sub hl2 [1, 2, 3, 4, 0] rfl) hW3 hR3
      have hr512 : r ≤ 511 := by omega
      have b1 : cells ≤ 601024 := by omega
      have b2 : slots ≤ 7293033 := by omega
      have b3 : cells + 1173 ≤ 601024 := by omega
      have b4 : slots + 14229 ≤ 7293033 := by omega
      have b5 : r < 1000000 := by omega
      have b6 : cells ≤ cells + 1173 := Nat.le_add_right _ _
      have b7 : slots ≤ slots + 14229 := Nat.le_add_right _ _
      exact L_switch cx hX hbl hL h62 hl hW ⟨b1, b2⟩ b5 hR (hG _ _ r M H locs lA cells slots h62 hl hW ⟨b3, b4⟩ hR hend) (fun M3 H3 locs3 hR3 hW3 => hend lA M3 H3 locs3 cells slots hR3 hW3 hl b6 b7)
end LL
