-- needs: 35 36 37 38 39 40 41 42 43 44 61 62 63 64 68 69 70 71 83 91
/-! THE LAW: its switch. -/
theorem lC_0 : lCase 192 1 23 75 127 27 138 128 = true := by decide +kernel
theorem lC_1 : lCase 217 3 28 96 129 32 167 130 = true := by decide +kernel
theorem lC_2 : lCase 266 2 33 63 131 36 106 132 = true := by decide +kernel
theorem lC_3 : lCase 303 5 37 84 133 41 154 134 = true := by decide +kernel
theorem lC_4 : lCase 376 3 42 99 135 45 171 136 = true := by decide +kernel
theorem lC_5 : lCase 425 2 46 79 137 49 149 138 = true := by decide +kernel
theorem lC_6 : lCase 462 2 50 102 139 53 174 140 = true := by decide +kernel
theorem lC_7 : lCase 499 3 54 93 141 57 164 142 = true := by decide +kernel
theorem lC_8 : lCase 548 2 58 74 143 61 136 144 = true := by decide +kernel
theorem lC_9 : lCase 585 1 62 98 145 65 169 146 = true := by decide +kernel
theorem lC_10 : lCase 610 1 66 103 147 69 175 148 = true := by decide +kernel
theorem lC_11 : lCase 635 1 70 65 149 73 116 150 = true := by decide +kernel
theorem lC_12 : lCase 660 2 74 81 151 77 151 152 = true := by decide +kernel
theorem lC_13 : lCase 697 1 78 86 153 81 157 154 = true := by decide +kernel
theorem lC_14 : lCase 722 1 82 100 155 85 172 156 = true := by decide +kernel
theorem lC_15 : lCase 747 2 86 91 157 89 162 158 = true := by decide +kernel
theorem lC_16 : lCase 784 3 90 73 159 93 135 160 = true := by decide +kernel
theorem lC_17 : lCase 833 2 94 90 161 97 161 162 = true := by decide +kernel
theorem lC_18 : lCase 870 2 98 69 163 101 128 164 = true := by decide +kernel
theorem lC_19 : lCase 907 1 102 89 165 105 160 166 = true := by decide +kernel
theorem lC_20 : lCase 932 5 106 77 167 109 147 168 = true := by decide +kernel
theorem lC_21 : lCase 1005 2 110 64 169 113 114 170 = true := by decide +kernel
theorem lC_22 : lCase 1042 3 114 87 171 117 158 172 = true := by decide +kernel
theorem lC_23 : lCase 1091 2 118 97 173 121 168 174 = true := by decide +kernel
theorem lC_24 : lCase 1128 2 122 101 175 125 173 176 = true := by decide +kernel
theorem lC_25 : lCase 1165 1 126 95 177 129 166 178 = true := by decide +kernel
theorem lC_26 : lCase 1190 1 130 82 179 133 152 180 = true := by decide +kernel
theorem lC_27 : lCase 1215 3 134 92 181 137 163 182 = true := by decide +kernel
theorem lC_28 : lCase 1264 3 138 88 183 141 159 184 = true := by decide +kernel
theorem lC_30 : lCase 1381 5 152 85 187 155 155 188 = true := by decide +kernel
theorem lC_31 : lCase 1454 2 156 83 189 159 153 190 = true := by decide +kernel
theorem lC_32 : lCase 1491 2 160 94 191 163 165 192 = true := by decide +kernel
theorem lC_33 : lCase 1528 1 164 72 193 167 134 194 = true := by decide +kernel
theorem lSw : decode (aMe 176).2.2.1 40 = .ok (.tableswitch 1513 0 33 #[152, 177, 226, 263, 336, 385, 422, 459, 508, 545, 570, 595, 620, 657, 682, 707, 744, 793, 830, 867, 892, 965, 1002, 1051, 1088, 1125, 1150, 1175, 1224, 1273, 1341, 1414, 1451, 1488], 152) := by decide +kernel
section LV
variable {p : Program} {l : Launch} {e : Env} {s : State} {m : MethodId} {below : List Frame} {meth : Method} {c : Code} {cA : Nat → ClassId} {D : va_G} {φ : Nat → Nat → Nat} {Qf : State → Prop} {b L ho : Nat} {xs : Nat → Int32} {cells slots : Nat} {lA : Array Slot}
theorem L_switch {x : Int32} {k r : Nat} {M : bM} {H : Heap} {locs : List Loc} (cx : bCx p s m #[Value.ref b] meth c room_1 cA D 176) (hX : va_X b L xs s s.heap) (hbl : b < s.heap.size) (hL : L ≤ 3072) (hk : k + 6 ≤ L) (hl : lv_has lA 7 (lLs φ b ho k)) (hW : lSt s cA D φ ho M H locs) (hcs : cells ≤ 601024 ∧ slots ≤ 7293033) (hn : r < 1000000) (h : Rel r M)
    (hget : W p l e room_1 s m #[Value.ref b] below meth c H locs cells slots Qf (F0 m 1313 lA []))
    (kk : ∀ (M3 : bM) (H3 : Heap) (locs3 : List Loc), Rel (r + 1) M3 → lSt s cA D φ ho M3 H3 locs3 → W p l e room_1 s m #[Value.ref b] below meth c H3 locs3 cells slots Qf (F0 m 1553 lA [])) :
    W p l e room_1 s m #[Value.ref b] below meth c H locs cells slots Qf (F0 m 40 lA [.int x]) := by
  have hx := cx.1
  have hb := cx.2.1
  by_cases hin : x.toInt < 0 ∨ 33 < x.toInt
  · refine lv_tableOut (tgt := 1553) hx hb lSw hin (by omega) ?_
    obtain ⟨p0, S0, c0, u0, L0, h0⟩ := h
    exact kk M H locs h0.same hW
  · have h1 : ¬ x.toInt < 0 := fun z => hin (Or.inl z)
    have h2 : ¬ 33 < x.toInt := fun z => hin (Or.inr z)
    have hi : (x.toInt - 0).toNat ≤ 33 := by omega
    generalize hgi : (x.toInt - 0).toNat = i at hi
    match i, hi, hgi with
    | 0, _, hgi =>
      refine lv_tableIn (off := 152) (tgt := 192) hx hb lSw h1 h2 (by rw [hgi]; rfl) (by omega) ?_
      exact L_case cx hX hbl hL hk lC_0 hl hW hcs (P_field h) kk
    | 1, _, hgi =>
      refine lv_tableIn (off := 177) (tgt := 217) hx hb lSw h1 h2 (by rw [hgi]; rfl) (by omega) ?_
      exact L_case cx hX hbl hL hk lC_1 hl hW hcs (P_term h) kk
    | 2, _, hgi =>
      refine lv_tableIn (off := 226) (tgt := 266) hx hb lSw h1 h2 (by rw [hgi]; rfl) (by omega) ?_
      exact L_case cx hX hbl hL hk lC_2 hl hW hcs (P_at h) kk
    | 3, _, hgi =>
      refine lv_tableIn (off := 263) (tgt := 303) hx hb lSw h1 h2 (by rw [hgi]; rfl) (by omega) ?_
      exact L_case cx hX hbl hL hk lC_3 hl hW hcs (P_mix h) kk
    | 4, _, hgi =>
      refine lv_tableIn (off := 336) (tgt := 376) hx hb lSw h1 h2 (by rw [hgi]; rfl) (by omega) ?_
      exact L_case cx hX hbl hL hk lC_4 hl hW hcs (P_times h) kk
    | 5, _, hgi =>
      refine lv_tableIn (off := 385) (tgt := 425) hx hb lSw h1 h2 (by rw [hgi]; rfl) (by omega) ?_
      exact L_case cx hX hbl hL hk lC_5 hl hW hcs (P_inverse h) kk
    | 6, _, hgi =>
      refine lv_tableIn (off := 422) (tgt := 462) hx hb lSw h1 h2 (by rw [hgi]; rfl) (by omega) ?_
      exact L_case cx hX hbl hL hk lC_6 hl hW hcs (P_weigh h) kk
    | 7, _, hgi =>
      refine lv_tableIn (off := 459) (tgt := 499) hx hb lSw h1 h2 (by rw [hgi]; rfl) (by omega) ?_
      exact L_case cx hX hbl hL hk lC_7 hl hW hcs (P_shift h) kk
    | 8, _, hgi =>
      refine lv_tableIn (off := 508) (tgt := 548) hx hb lSw h1 h2 (by rw [hgi]; rfl) (by omega) ?_
      exact L_case cx hX hbl hL hk lC_8 hl hW hcs (P_feed h) kk
    | 9, _, hgi =>
      refine lv_tableIn (off := 545) (tgt := 585) hx hb lSw h1 h2 (by rw [hgi]; rfl) (by omega) ?_
      exact L_case cx hX hbl hL hk lC_9 hl hW hcs (P_text h) kk
    | 10, _, hgi =>
      refine lv_tableIn (off := 570) (tgt := 610) hx hb lSw h1 h2 (by rw [hgi]; rfl) (by omega) ?_
      exact L_case cx hX hbl hL hk lC_10 hl hW hcs (P_zeros h) kk
    | 11, _, hgi =>
      refine lv_tableIn (off := 595) (tgt := 635) hx hb lSw h1 h2 (by rw [hgi]; rfl) (by omega) ?_
      exact L_case cx hX hbl hL hk lC_11 hl hW hcs (P_choose h) kk
    | 12, _, hgi =>
      refine lv_tableIn (off := 620) (tgt := 660) hx hb lSw h1 h2 (by rw [hgi]; rfl) (by omega) ?_
      exact L_case cx hX hbl hL hk lC_12 hl hW hcs (P_lift h) kk
    | 13, _, hgi =>
      refine lv_tableIn (off := 657) (tgt := 697) hx hb lSw h1 h2 (by rw [hgi]; rfl) (by omega) ?_
      exact L_case cx hX hbl hL hk lC_13 hl hW hcs (P_order h) kk
    | 14, _, hgi =>
      refine lv_tableIn (off := 682) (tgt := 722) hx hb lSw h1 h2 (by rw [hgi]; rfl) (by omega) ?_
      exact L_case cx hX hbl hL hk lC_14 hl hW hcs (P_told h) kk
    | 15, _, hgi =>
      refine lv_tableIn (off := 707) (tgt := 747) hx hb lSw h1 h2 (by rw [hgi]; rfl) (by omega) ?_
      exact L_case cx hX hbl hL hk lC_15 hl hW hcs (P_row h) kk
    | 16, _, hgi =>
      refine lv_tableIn (off := 744) (tgt := 784) hx hb lSw h1 h2 (by rw [hgi]; rfl) (by omega) ?_
      exact L_case cx hX hbl hL hk lC_16 hl hW hcs (P_entry h) kk
    | 17, _, hgi =>
      refine lv_tableIn (off := 793) (tgt := 833) hx hb lSw h1 h2 (by rw [hgi]; rfl) (by omega) ?_
      exact L_case cx hX hbl hL hk lC_17 hl hW hcs (P_rest h) kk
    | 18, _, hgi =>
      refine lv_tableIn (off := 830) (tgt := 870) hx hb lSw h1 h2 (by rw [hgi]; rfl) (by omega) ?_
      exact L_case cx hX hbl hL hk lC_18 hl hW hcs (P_comes h) kk
    | 19, _, hgi =>
      refine lv_tableIn (off := 867) (tgt := 907) hx hb lSw h1 h2 (by rw [hgi]; rfl) (by omega) ?_
      exact L_case cx hX hbl hL hk lC_19 hl hW hcs (P_relates h) kk
    | 20, _, hgi =>
      refine lv_tableIn (off := 892) (tgt := 932) hx hb lSw h1 h2 (by rw [hgi]; rfl) (by omega) ?_
      exact L_case cx hX hbl hL hk lC_20 hl hW hcs (P_guess hn h) kk
    | 21, _, hgi =>
      refine lv_tableIn (off := 965) (tgt := 1005) hx hb lSw h1 h2 (by rw [hgi]; rfl) (by omega) ?_
      exact L_case cx hX hbl hL hk lC_21 hl hW hcs (P_certificate hn h) kk
    | 22, _, hgi =>
      refine lv_tableIn (off := 1002) (tgt := 1042) hx hb lSw h1 h2 (by rw [hgi]; rfl) (by omega) ?_
      exact L_case cx hX hbl hL hk lC_22 hl hW hcs (P_proof hn h) kk
    | 23, _, hgi =>
      refine lv_tableIn (off := 1051) (tgt := 1091) hx hb lSw h1 h2 (by rw [hgi]; rfl) (by omega) ?_
      exact L_case cx hX hbl hL hk lC_23 hl hW hcs (P_test hn h) kk
    | 24, _, hgi =>
      refine lv_tableIn (off := 1088) (tgt := 1128) hx hb lSw h1 h2 (by rw [hgi]; rfl) (by omega) ?_
      exact L_case cx hX hbl hL hk lC_24 hl hW hcs (P_toldOn hn h) kk
    | 25, _, hgi =>
      refine lv_tableIn (off := 1125) (tgt := 1165) hx hb lSw h1 h2 (by rw [hgi]; rfl) (by omega) ?_
      exact L_case cx hX hbl hL hk lC_25 hl hW hcs (P_strike hn h) kk
    | 26, _, hgi =>
      refine lv_tableIn (off := 1150) (tgt := 1190) hx hb lSw h1 h2 (by rw [hgi]; rfl) (by omega) ?_
      exact L_case cx hX hbl hL hk lC_26 hl hW hcs (P_listed hn h) kk
    | 27, _, hgi =>
      refine lv_tableIn (off := 1175) (tgt := 1215) hx hb lSw h1 h2 (by rw [hgi]; rfl) (by omega) ?_
      exact L_case cx hX hbl hL hk lC_27 hl hW hcs (P_sheet h) kk
    | 28, _, hgi =>
      refine lv_tableIn (off := 1224) (tgt := 1264) hx hb lSw h1 h2 (by rw [hgi]; rfl) (by omega) ?_
      exact L_case cx hX hbl hL hk lC_28 hl hW hcs (P_put h) kk
    | 29, _, hgi =>
      refine lv_tableIn (off := 1273) (tgt := 1313) hx hb lSw h1 h2 (by rw [hgi]; rfl) (by omega) ?_
      exact hget
    | 30, _, hgi =>
      refine lv_tableIn (off := 1341) (tgt := 1381) hx hb lSw h1 h2 (by rw [hgi]; rfl) (by omega) ?_
      exact L_case cx hX hbl hL hk lC_30 hl hW hcs (P_move h) kk
    | 31, _, hgi =>
      refine lv_tableIn (off := 1414) (tgt := 1454) hx hb lSw h1 h2 (by rw [hgi]; rfl) (by omega) ?_
      exact L_case cx hX hbl hL hk lC_31 hl hW hcs (P_loads h) kk
    | 32, _, hgi =>
      refine lv_tableIn (off := 1451) (tgt := 1491) hx hb lSw h1 h2 (by rw [hgi]; rfl) (by omega) ?_
      exact L_case cx hX hbl hL hk lC_32 hl hW hcs (P_spills h) kk
    | 33, _, hgi =>
      refine lv_tableIn (off := 1488) (tgt := 1528) hx hb lSw h1 h2 (by rw [hgi]; rfl) (by omega) ?_
      exact L_case cx hX hbl hL hk lC_33 hl hW hcs (P_count h) kk
    | i + 34, hi, _ => exact absurd hi (by omega)
end LV
