-- needs: 01 02 06 08 09 10 11
theorem E10_0 : aCode 10 0 = (Instr.aload_n 0, 1, [], 0) ∧ bMask 10 0 = [] := ⟨rfl, rfl⟩
theorem E10_1 : aCode 10 1 = (Instr.getfield 9, 4, [3, 2, 0, 0], 0) ∧ bMask 10 1 = [] := ⟨rfl, rfl⟩
theorem E10_4 : aCode 10 4 = (Instr.ifCond .le 14, 7, [18], 0) ∧ bMask 10 4 = [] := ⟨rfl, rfl⟩
theorem E10_7 : aCode 10 7 = (Instr.iload_n 1, 8, [], 0) ∧ bMask 10 7 = [] := ⟨rfl, rfl⟩
theorem E10_8 : aCode 10 8 = (Instr.aload_n 0, 9, [], 0) ∧ bMask 10 8 = [] := ⟨rfl, rfl⟩
theorem E10_9 : aCode 10 9 = (Instr.getfield 9, 12, [3, 2, 0, 0], 0) ∧ bMask 10 9 = [] := ⟨rfl, rfl⟩
theorem E10_12 : aCode 10 12 = (Instr.invokestatic 19, 15, [4, 2, 1, 0, 0, 1], 0) ∧ bMask 10 12 = [] := ⟨rfl, rfl⟩
theorem E10_15 : aCode 10 15 = (Instr.goto 4, 19, [], 0) ∧ bMask 10 15 = [] := ⟨rfl, rfl⟩
theorem E10_18 : aCode 10 18 = (Instr.iconst 0, 19, [], 0) ∧ bMask 10 18 = [] := ⟨rfl, rfl⟩
theorem E10_19 : aCode 10 19 = (Instr.ireturn, 20, [0], 0) ∧ bMask 10 19 = [] := ⟨rfl, rfl⟩
theorem g_X2_taken_0 {Q : bQ} {M : bM} {x1 : Int32} (h : (((M 1 0 0) ≤ 0) → (Q (some (cI (0 : Int32))) M)) ∧ (¬ ((M 1 0 0) ≤ 0) → (bCall 4 [cI x1, cI (M 1 0 0)] M (fun v1 M2 => bV1 v1 fun r3 => (Q (some (cI r3)) M2))))) : bCall 10 [cR 1 0, cI x1] M Q := s_aload_n E10_0.1 (k_ E10_0) rfl (s_getI0 E10_1.1 (k_ E10_1) rfl (s_if_le E10_4.1 (k_ E10_4) ⟨fun c0 => s_iconst E10_18.1 (k_ E10_18) (s_iret E10_19.1 (k_ E10_19) (h.1 c0)), fun c0 => s_iload_n E10_7.1 (k_ E10_7) rfl (s_aload_n E10_8.1 (k_ E10_8) rfl (s_getI0 E10_9.1 (k_ E10_9) rfl (s_scall1 E10_12.1 (k_ E10_12) rfl rfl rfl (h.2 c0) (fun M2 r3 z1 => s_goto E10_15.1 (k_ E10_15) (s_iret E10_19.1 (k_ E10_19) z1)))))⟩))
theorem E34_0 : aCode 34 0 = (Instr.bipush 31, 2, [], 31) ∧ bMask 34 0 = [] := ⟨rfl, rfl⟩
theorem E34_2 : aCode 34 2 = (Instr.istore 4, 4, [], 0) ∧ bMask 34 2 = [] := ⟨rfl, rfl⟩
theorem E34_4 : aCode 34 4 = (Instr.iload 4, 6, [], 0) := rfl
theorem E34_6 : aCode 34 6 = (Instr.ifCond .lt 55, 9, [61], 0) ∧ bMask 34 6 = [] := ⟨rfl, rfl⟩
theorem E34_9 : aCode 34 9 = (Instr.iconst 0, 10, [], 0) ∧ bMask 34 9 = [] := ⟨rfl, rfl⟩
theorem E34_10 : aCode 34 10 = (Instr.istore 5, 12, [], 0) ∧ bMask 34 10 = [] := ⟨rfl, rfl⟩
theorem E34_12 : aCode 34 12 = (Instr.iconst 0, 13, [], 0) ∧ bMask 34 12 = [] := ⟨rfl, rfl⟩
theorem E34_13 : aCode 34 13 = (Instr.istore 6, 15, [], 0) ∧ bMask 34 13 = [] := ⟨rfl, rfl⟩
theorem E34_15 : aCode 34 15 = (Instr.iload 6, 17, [], 0) ∧ bMask 34 15 = [] := ⟨rfl, rfl⟩
theorem E34_17 : aCode 34 17 = (Instr.iload 4, 19, [], 0) ∧ bMask 34 17 = [] := ⟨rfl, rfl⟩
theorem E34_19 : aCode 34 19 = (Instr.if_icmp .gt 26, 22, [45], 0) ∧ bMask 34 19 = [] := ⟨rfl, rfl⟩
theorem E34_22 : aCode 34 22 = (Instr.iload 5, 24, [], 0) ∧ bMask 34 22 = [] := ⟨rfl, rfl⟩
theorem E34_24 : aCode 34 24 = (Instr.aload_n 1, 25, [], 0) ∧ bMask 34 24 = [] := ⟨rfl, rfl⟩
theorem E34_25 : aCode 34 25 = (Instr.iload 6, 27, [], 0) ∧ bMask 34 25 = [] := ⟨rfl, rfl⟩
theorem E34_27 : aCode 34 27 = (Instr.iaload, 28, [0], 0) ∧ bMask 34 27 = [] := ⟨rfl, rfl⟩
theorem E34_28 : aCode 34 28 = (Instr.aload_n 2, 29, [], 0) ∧ bMask 34 28 = [] := ⟨rfl, rfl⟩
theorem E34_29 : aCode 34 29 = (Instr.iload 4, 31, [], 0) ∧ bMask 34 29 = [] := ⟨rfl, rfl⟩
theorem E34_31 : aCode 34 31 = (Instr.iload 6, 33, [], 0) ∧ bMask 34 31 = [] := ⟨rfl, rfl⟩
theorem E34_33 : aCode 34 33 = (Instr.isub, 34, [], 0) ∧ bMask 34 33 = [] := ⟨rfl, rfl⟩
theorem E34_34 : aCode 34 34 = (Instr.iaload, 35, [0], 0) ∧ bMask 34 34 = [] := ⟨rfl, rfl⟩
theorem E34_35 : aCode 34 35 = (Instr.imul, 36, [], 0) ∧ bMask 34 35 = [] := ⟨rfl, rfl⟩
theorem E34_36 : aCode 34 36 = (Instr.iadd, 37, [], 0) ∧ bMask 34 36 = [] := ⟨rfl, rfl⟩
theorem E34_37 : aCode 34 37 = (Instr.istore 5, 39, [], 0) ∧ bMask 34 37 = [] := ⟨rfl, rfl⟩
theorem E34_39 : aCode 34 39 = (Instr.iinc 6 1, 42, [], 1) ∧ bMask 34 39 = [] := ⟨rfl, rfl⟩
theorem E34_42 : aCode 34 42 = (Instr.goto (-27), 15, [], 0) ∧ bMask 34 42 = [] := ⟨rfl, rfl⟩
theorem E34_45 : aCode 34 45 = (Instr.aload_n 3, 46, [], 0) ∧ bMask 34 45 = [] := ⟨rfl, rfl⟩
theorem E34_46 : aCode 34 46 = (Instr.iload 4, 48, [], 0) ∧ bMask 34 46 = [] := ⟨rfl, rfl⟩
theorem E34_48 : aCode 34 48 = (Instr.aload_n 0, 49, [], 0) ∧ bMask 34 48 = [] := ⟨rfl, rfl⟩
theorem E34_49 : aCode 34 49 = (Instr.iload 5, 51, [], 0) ∧ bMask 34 49 = [] := ⟨rfl, rfl⟩
theorem E34_51 : aCode 34 51 = (Instr.invokevirtual 31, 54, [10, 2, 1, 0, 0, 15], 0) ∧ bMask 34 51 = [] := ⟨rfl, rfl⟩
theorem E34_54 : aCode 34 54 = (Instr.iastore, 55, [0], 0) ∧ bMask 34 54 = [] := ⟨rfl, rfl⟩
theorem E34_55 : aCode 34 55 = (Instr.iinc 4 (-1), 58, [], (-1)) ∧ bMask 34 55 = [] := ⟨rfl, rfl⟩
theorem E34_58 : aCode 34 58 = (Instr.goto (-54), 4, [], 0) ∧ bMask 34 58 = [] := ⟨rfl, rfl⟩
theorem E34_61 : aCode 34 61 = (Instr.return_, 62, [], 0) ∧ bMask 34 61 = [] := ⟨rfl, rfl⟩
theorem g_X2_multiply_0 {Q : bQ} {M : bM} {j1 : Nat} {j2 : Nat} {j3 : Nat} (h : bGo 34 Q 4 [some (cR 1 0), some (cR 7 j1), some (cR 7 j2), some (cR 7 j3), some (cI (31 : Int32)), none, none] [] M) : bCall 34 [cR 1 0, cR 7 j1, cR 7 j2, cR 7 j3] M Q := s_bipush E34_0.1 (k_ E34_0) (s_istore E34_2.1 (k_ E34_2) (h))
theorem g_X2_multiply_4 {Q : bQ} {M : bM} {j1 : Nat} {j2 : Nat} {j3 : Nat} {x4 : Int32} {o5 : Option bV} {o6 : Option bV} (h : ((x4 < 0) → (Q none M)) ∧ (¬ (x4 < 0) → bGo 34 Q 15 [some (cR 1 0), some (cR 7 j1), some (cR 7 j2), some (cR 7 j3), some (cI x4), some (cI (0 : Int32)), some (cI (0 : Int32))] [] M)) : bGo 34 Q 4 [some (cR 1 0), some (cR 7 j1), some (cR 7 j2), some (cR 7 j3), some (cI x4), o5, o6] [] M := s_iload E34_4 rfl rfl (s_if_lt E34_6.1 (k_ E34_6) ⟨fun c0 => s_ret E34_61.1 (k_ E34_61) (h.1 c0), fun c0 => s_iconst E34_9.1 (k_ E34_9) (s_istore E34_10.1 (k_ E34_10) (s_iconst E34_12.1 (k_ E34_12) (s_istore E34_13.1 (k_ E34_13) (h.2 c0))))⟩)
theorem g_X2_multiply_15 {Q : bQ} {M : bM} {j1 : Nat} {j2 : Nat} {j3 : Nat} {x4 : Int32} {x5 : Int32} {x6 : Int32} (h : ((x4 < x6) → (bCall 10 [cR 1 0, cI x5] M (fun v1 M2 => bV1 v1 fun r3 => ((vp_in x4 32) ∧ bGo 34 Q 4 [some (cR 1 0), some (cR 7 j1), some (cR 7 j2), some (cR 7 j3), some (cI (x4 + (-1 : Int32))), some (cI x5), some (cI x6)] [] (bU M2 7 j3 x4.toNatClampNeg r3))))) ∧ (¬ (x4 < x6) → ((vp_in x6 32) ∧ ((vp_in (x4 - x6) 32) ∧ bGo 34 Q 15 [some (cR 1 0), some (cR 7 j1), some (cR 7 j2), some (cR 7 j3), some (cI x4), some (cI (x5 + ((M 7 j1 x6.toNatClampNeg) * (M 7 j2 (x4 - x6).toNatClampNeg)))), some (cI (x6 + (1 : Int32)))] [] M)))) : bGo 34 Q 15 [some (cR 1 0), some (cR 7 j1), some (cR 7 j2), some (cR 7 j3), some (cI x4), some (cI x5), some (cI x6)] [] M := s_iload E34_15.1 (k_ E34_15) rfl (s_iload E34_17.1 (k_ E34_17) rfl (s_icmp_gt E34_19.1 (k_ E34_19) ⟨fun c1 => s_aload_n E34_45.1 (k_ E34_45) rfl (s_iload E34_46.1 (k_ E34_46) rfl (s_aload_n E34_48.1 (k_ E34_48) rfl (s_iload E34_49.1 (k_ E34_49) rfl (s_vcall1 E34_51.1 (k_ E34_51) rfl rfl rfl (h.1 c1) (fun M2 r3 z2 => s_iastore E34_54.1 (k_ E34_54) rfl ⟨z2.1, s_iinc E34_55.1 (k_ E34_55) rfl (s_goto E34_58.1 (k_ E34_58) (z2.2))⟩))))), fun c1 => s_iload E34_22.1 (k_ E34_22) rfl (s_aload_n E34_24.1 (k_ E34_24) rfl (s_iload E34_25.1 (k_ E34_25) rfl (s_iaload E34_27.1 (k_ E34_27) rfl ⟨(h.2 c1).1, s_aload_n E34_28.1 (k_ E34_28) rfl (s_iload E34_29.1 (k_ E34_29) rfl (s_iload E34_31.1 (k_ E34_31) rfl (s_isub E34_33.1 (k_ E34_33) (s_iaload E34_34.1 (k_ E34_34) rfl ⟨((h.2 c1).2).1, s_imul E34_35.1 (k_ E34_35) (s_iadd E34_36.1 (k_ E34_36) (s_istore E34_37.1 (k_ E34_37) (s_iinc E34_39.1 (k_ E34_39) rfl (s_goto E34_42.1 (k_ E34_42) (((h.2 c1).2).2)))))⟩))))⟩)))⟩))
theorem E13_0 : aCode 13 0 = (Instr.iconst (-1), 1, [], (-1)) ∧ bMask 13 0 = [] := ⟨rfl, rfl⟩
theorem E13_1 : aCode 13 1 = (Instr.istore_n 2, 2, [], 0) ∧ bMask 13 1 = [] := ⟨rfl, rfl⟩
theorem E13_2 : aCode 13 2 = (Instr.iconst 0, 3, [], 0) ∧ bMask 13 2 = [] := ⟨rfl, rfl⟩
theorem E13_3 : aCode 13 3 = (Instr.istore_n 3, 4, [], 0) ∧ bMask 13 3 = [] := ⟨rfl, rfl⟩
theorem E13_4 : aCode 13 4 = (Instr.iload_n 3, 5, [], 0) := rfl
theorem E13_5 : aCode 13 5 = (Instr.aload_n 0, 6, [], 0) ∧ bMask 13 5 = [] := ⟨rfl, rfl⟩
theorem E13_6 : aCode 13 6 = (Instr.getfield 36, 9, [0, 0, 5, 0], 0) ∧ bMask 13 6 = [] := ⟨rfl, rfl⟩
theorem E13_9 : aCode 13 9 = (Instr.if_icmp .ge 39, 12, [48], 0) ∧ bMask 13 9 = [] := ⟨rfl, rfl⟩
theorem E13_12 : aCode 13 12 = (Instr.aload_n 0, 13, [], 0) ∧ bMask 13 12 = [] := ⟨rfl, rfl⟩
theorem E13_13 : aCode 13 13 = (Instr.getfield 16, 16, [6, 0, 2, 2], 0) ∧ bMask 13 13 = [] := ⟨rfl, rfl⟩
theorem E13_16 : aCode 13 16 = (Instr.iload_n 3, 17, [], 0) ∧ bMask 13 16 = [] := ⟨rfl, rfl⟩
theorem E13_17 : aCode 13 17 = (Instr.aaload, 18, [2], 0) ∧ bMask 13 17 = [] := ⟨rfl, rfl⟩
theorem E13_18 : aCode 13 18 = (Instr.iload_n 1, 19, [], 0) ∧ bMask 13 18 = [] := ⟨rfl, rfl⟩
theorem E13_19 : aCode 13 19 = (Instr.iaload, 20, [0], 0) ∧ bMask 13 19 = [] := ⟨rfl, rfl⟩
theorem E13_20 : aCode 13 20 = (Instr.ifCond .eq 22, 23, [42], 0) ∧ bMask 13 20 = [] := ⟨rfl, rfl⟩
theorem E13_23 : aCode 13 23 = (Instr.iload_n 2, 24, [], 0) ∧ bMask 13 23 = [] := ⟨rfl, rfl⟩
theorem E13_24 : aCode 13 24 = (Instr.ifCond .lt 16, 27, [40], 0) ∧ bMask 13 24 = [] := ⟨rfl, rfl⟩
theorem E13_27 : aCode 13 27 = (Instr.aload_n 0, 28, [], 0) ∧ bMask 13 27 = [] := ⟨rfl, rfl⟩
theorem E13_28 : aCode 13 28 = (Instr.iload_n 3, 29, [], 0) ∧ bMask 13 28 = [] := ⟨rfl, rfl⟩
theorem E13_29 : aCode 13 29 = (Instr.invokevirtual 59, 32, [8, 2, 1, 0, 0, 3], 0) ∧ bMask 13 29 = [] := ⟨rfl, rfl⟩
theorem E13_32 : aCode 13 32 = (Instr.aload_n 0, 33, [], 0) ∧ bMask 13 32 = [] := ⟨rfl, rfl⟩
theorem E13_33 : aCode 13 33 = (Instr.iload_n 2, 34, [], 0) ∧ bMask 13 33 = [] := ⟨rfl, rfl⟩
theorem E13_34 : aCode 13 34 = (Instr.invokevirtual 59, 37, [8, 2, 1, 0, 0, 3], 0) ∧ bMask 13 34 = [] := ⟨rfl, rfl⟩
theorem E13_37 : aCode 13 37 = (Instr.if_icmp .ge 5, 40, [42], 0) ∧ bMask 13 37 = [] := ⟨rfl, rfl⟩
theorem E13_40 : aCode 13 40 = (Instr.iload_n 3, 41, [], 0) ∧ bMask 13 40 = [] := ⟨rfl, rfl⟩
theorem E13_41 : aCode 13 41 = (Instr.istore_n 2, 42, [], 0) ∧ bMask 13 41 = [] := ⟨rfl, rfl⟩
theorem E13_42 : aCode 13 42 = (Instr.iinc 3 1, 45, [], 1) ∧ bMask 13 42 = [] := ⟨rfl, rfl⟩
theorem E13_45 : aCode 13 45 = (Instr.goto (-41), 4, [], 0) ∧ bMask 13 45 = [] := ⟨rfl, rfl⟩
theorem E13_48 : aCode 13 48 = (Instr.iload_n 2, 49, [], 0) ∧ bMask 13 48 = [] := ⟨rfl, rfl⟩
theorem E13_49 : aCode 13 49 = (Instr.ifCond .ge 4, 52, [53], 0) ∧ bMask 13 49 = [] := ⟨rfl, rfl⟩
theorem E13_52 : aCode 13 52 = (Instr.return_, 53, [], 0) ∧ bMask 13 52 = [] := ⟨rfl, rfl⟩
theorem E13_53 : aCode 13 53 = (Instr.aload_n 0, 54, [], 0) ∧ bMask 13 53 = [] := ⟨rfl, rfl⟩
theorem E13_54 : aCode 13 54 = (Instr.getfield 26, 57, [5, 0, 0, 2], 0) ∧ bMask 13 54 = [] := ⟨rfl, rfl⟩
theorem E13_57 : aCode 13 57 = (Instr.aload_n 0, 58, [], 0) ∧ bMask 13 57 = [] := ⟨rfl, rfl⟩
theorem E13_58 : aCode 13 58 = (Instr.getfield 16, 61, [6, 0, 2, 2], 0) ∧ bMask 13 58 = [] := ⟨rfl, rfl⟩
theorem E13_61 : aCode 13 61 = (Instr.iload_n 2, 62, [], 0) ∧ bMask 13 61 = [] := ⟨rfl, rfl⟩
theorem E13_62 : aCode 13 62 = (Instr.aaload, 63, [2], 0) ∧ bMask 13 62 = [] := ⟨rfl, rfl⟩
theorem E13_63 : aCode 13 63 = (Instr.iload_n 1, 64, [], 0) ∧ bMask 13 63 = [] := ⟨rfl, rfl⟩
theorem E13_64 : aCode 13 64 = (Instr.iaload, 65, [0], 0) ∧ bMask 13 64 = [] := ⟨rfl, rfl⟩
theorem E13_65 : aCode 13 65 = (Instr.invokevirtual 66, 68, [9, 2, 1, 0, 0, 4], 0) ∧ bMask 13 65 = [] := ⟨rfl, rfl⟩
theorem E13_68 : aCode 13 68 = (Instr.istore_n 3, 69, [], 0) ∧ bMask 13 68 = [] := ⟨rfl, rfl⟩
theorem E13_69 : aCode 13 69 = (Instr.iconst 0, 70, [], 0) ∧ bMask 13 69 = [] := ⟨rfl, rfl⟩
theorem E13_70 : aCode 13 70 = (Instr.istore 4, 72, [], 0) ∧ bMask 13 70 = [] := ⟨rfl, rfl⟩
theorem E13_72 : aCode 13 72 = (Instr.iload 4, 74, [], 0) ∧ bMask 13 72 = [] := ⟨rfl, rfl⟩
theorem E13_74 : aCode 13 74 = (Instr.aload_n 0, 75, [], 0) ∧ bMask 13 74 = [] := ⟨rfl, rfl⟩
theorem E13_75 : aCode 13 75 = (Instr.getfield 36, 78, [0, 0, 5, 0], 0) ∧ bMask 13 75 = [] := ⟨rfl, rfl⟩
theorem E13_78 : aCode 13 78 = (Instr.if_icmp .ge 53, 81, [131], 0) ∧ bMask 13 78 = [] := ⟨rfl, rfl⟩
theorem E13_81 : aCode 13 81 = (Instr.iload 4, 83, [], 0) ∧ bMask 13 81 = [] := ⟨rfl, rfl⟩
theorem E13_83 : aCode 13 83 = (Instr.iload_n 2, 84, [], 0) ∧ bMask 13 83 = [] := ⟨rfl, rfl⟩
theorem E13_84 : aCode 13 84 = (Instr.if_icmp .eq 41, 87, [125], 0) ∧ bMask 13 84 = [] := ⟨rfl, rfl⟩
theorem E13_87 : aCode 13 87 = (Instr.aload_n 0, 88, [], 0) ∧ bMask 13 87 = [] := ⟨rfl, rfl⟩
theorem E13_88 : aCode 13 88 = (Instr.getfield 16, 91, [6, 0, 2, 2], 0) ∧ bMask 13 88 = [] := ⟨rfl, rfl⟩
theorem E13_91 : aCode 13 91 = (Instr.iload 4, 93, [], 0) ∧ bMask 13 91 = [] := ⟨rfl, rfl⟩
theorem E13_93 : aCode 13 93 = (Instr.aaload, 94, [2], 0) ∧ bMask 13 93 = [] := ⟨rfl, rfl⟩
theorem E13_94 : aCode 13 94 = (Instr.iload_n 1, 95, [], 0) ∧ bMask 13 94 = [] := ⟨rfl, rfl⟩
theorem E13_95 : aCode 13 95 = (Instr.iaload, 96, [0], 0) ∧ bMask 13 95 = [] := ⟨rfl, rfl⟩
theorem E13_96 : aCode 13 96 = (Instr.ifCond .eq 29, 99, [125], 0) ∧ bMask 13 96 = [] := ⟨rfl, rfl⟩
theorem E13_99 : aCode 13 99 = (Instr.aload_n 0, 100, [], 0) ∧ bMask 13 99 = [] := ⟨rfl, rfl⟩
theorem E13_100 : aCode 13 100 = (Instr.iload 4, 102, [], 0) ∧ bMask 13 100 = [] := ⟨rfl, rfl⟩
theorem E13_102 : aCode 13 102 = (Instr.aload_n 0, 103, [], 0) ∧ bMask 13 102 = [] := ⟨rfl, rfl⟩
theorem E13_103 : aCode 13 103 = (Instr.getfield 26, 106, [5, 0, 0, 2], 0) ∧ bMask 13 103 = [] := ⟨rfl, rfl⟩
theorem E13_106 : aCode 13 106 = (Instr.aload_n 0, 107, [], 0) ∧ bMask 13 106 = [] := ⟨rfl, rfl⟩
theorem E13_107 : aCode 13 107 = (Instr.getfield 16, 110, [6, 0, 2, 2], 0) ∧ bMask 13 107 = [] := ⟨rfl, rfl⟩
theorem E13_110 : aCode 13 110 = (Instr.iload 4, 112, [], 0) ∧ bMask 13 110 = [] := ⟨rfl, rfl⟩
theorem E13_112 : aCode 13 112 = (Instr.aaload, 113, [2], 0) ∧ bMask 13 112 = [] := ⟨rfl, rfl⟩
theorem E13_113 : aCode 13 113 = (Instr.iload_n 1, 114, [], 0) ∧ bMask 13 113 = [] := ⟨rfl, rfl⟩
theorem E13_114 : aCode 13 114 = (Instr.iaload, 115, [0], 0) ∧ bMask 13 114 = [] := ⟨rfl, rfl⟩
theorem E13_115 : aCode 13 115 = (Instr.iload_n 3, 116, [], 0) ∧ bMask 13 115 = [] := ⟨rfl, rfl⟩
theorem E13_116 : aCode 13 116 = (Instr.imul, 117, [], 0) ∧ bMask 13 116 = [] := ⟨rfl, rfl⟩
theorem E13_117 : aCode 13 117 = (Instr.invokevirtual 71, 120, [10, 2, 1, 0, 0, 2], 0) ∧ bMask 13 117 = [] := ⟨rfl, rfl⟩
theorem E13_120 : aCode 13 120 = (Instr.iload_n 2, 121, [], 0) ∧ bMask 13 120 = [] := ⟨rfl, rfl⟩
theorem E13_121 : aCode 13 121 = (Instr.iconst 0, 122, [], 0) ∧ bMask 13 121 = [] := ⟨rfl, rfl⟩
theorem E13_122 : aCode 13 122 = (Instr.invokevirtual 74, 125, [11, 5, 0, 0, 0, 5], 0) ∧ bMask 13 122 = [] := ⟨rfl, rfl⟩
theorem E13_125 : aCode 13 125 = (Instr.iinc 4 1, 128, [], 1) ∧ bMask 13 125 = [] := ⟨rfl, rfl⟩
theorem E13_128 : aCode 13 128 = (Instr.goto (-56), 72, [], 0) ∧ bMask 13 128 = [] := ⟨rfl, rfl⟩
theorem E13_131 : aCode 13 131 = (Instr.aload_n 0, 132, [], 0) ∧ bMask 13 131 = [] := ⟨rfl, rfl⟩
theorem E13_132 : aCode 13 132 = (Instr.iload_n 2, 133, [], 0) ∧ bMask 13 132 = [] := ⟨rfl, rfl⟩
theorem E13_133 : aCode 13 133 = (Instr.invokevirtual 78, 136, [12, 2, 0, 0, 0, 6], 0) ∧ bMask 13 133 = [] := ⟨rfl, rfl⟩
theorem E13_136 : aCode 13 136 = (Instr.return_, 137, [], 0) ∧ bMask 13 136 = [] := ⟨rfl, rfl⟩
theorem g_X0_clearTerm_0 {Q : bQ} {M : bM} {x1 : Int32} (h : bGo 13 Q 4 [some (cR 3 0), some (cI x1), some (cI (-1 : Int32)), some (cI (0 : Int32)), none] [] M) : bCall 13 [cR 3 0, cI x1] M Q := s_iconst E13_0.1 (k_ E13_0) (s_istore_n E13_1.1 (k_ E13_1) (s_iconst E13_2.1 (k_ E13_2) (s_istore_n E13_3.1 (k_ E13_3) (h))))
theorem g_X0_clearTerm_4 {Q : bQ} {M : bM} {x1 : Int32} {x2 : Int32} {x3 : Int32} {o4 : Option bV} (h : (((M 3 0 5) ≤ x3) → (((0 ≤ x2) → ((vp_in x2 4) ∧ ((vp_in x1 32) ∧ (bCall 9 [cR 1 0, cI (M 7 (29 + x2.toNatClampNeg) x1.toNatClampNeg)] M (fun v1 M2 => bV1 v1 fun r3 => (bGo 13 Q 72 [some (cR 3 0), some (cI x1), some (cI x2), some (cI r3), some (cI (0 : Int32))] [] M2)))))) ∧ (¬ (0 ≤ x2) → (Q none M)))) ∧ (¬ ((M 3 0 5) ≤ x3) → ((vp_in x3 4) ∧ ((vp_in x1 32) ∧ ((((M 7 (29 + x3.toNatClampNeg) x1.toNatClampNeg) = 0) → bGo 13 Q 4 [some (cR 3 0), some (cI x1), some (cI x2), some (cI (x3 + (1 : Int32))), none] [] M) ∧ (¬ ((M 7 (29 + x3.toNatClampNeg) x1.toNatClampNeg) = 0) → (((x2 < 0) → bGo 13 Q 4 [some (cR 3 0), some (cI x1), some (cI x3), some (cI (x3 + (1 : Int32))), none] [] M) ∧ (¬ (x2 < 0) → (bCall 8 [cR 3 0, cI x3] M (fun v4 M5 => bV1 v4 fun r6 => (bCall 8 [cR 3 0, cI x2] M5 (fun v7 M8 => bV1 v7 fun r9 => (((r9 ≤ r6) → bGo 13 Q 4 [some (cR 3 0), some (cI x1), some (cI x2), some (cI (x3 + (1 : Int32))), none] [] M8) ∧ (¬ (r9 ≤ r6) → bGo 13 Q 4 [some (cR 3 0), some (cI x1), some (cI x3), some (cI (x3 + (1 : Int32))), none] [] M8)))))))))))))) : bGo 13 Q 4 [some (cR 3 0), some (cI x1), some (cI x2), some (cI x3), o4] [] M := s_iload_n E13_4 rfl rfl (s_aload_n E13_5.1 (k_ E13_5) rfl (s_getI0 E13_6.1 (k_ E13_6) rfl (s_icmp_ge E13_9.1 (k_ E13_9) ⟨fun c0 => s_iload_n E13_48.1 (k_ E13_48) rfl (s_if_ge E13_49.1 (k_ E13_49) ⟨fun c1 => s_aload_n E13_53.1 (k_ E13_53) rfl (s_getR E13_54.1 (k_ E13_54) rfl rfl (s_aload_n E13_57.1 (k_ E13_57) rfl (s_getR E13_58.1 (k_ E13_58) rfl rfl (s_iload_n E13_61.1 (k_ E13_61) rfl (s_aaload E13_62.1 (k_ E13_62) rfl ⟨((h.1 c0).1 c1).1, s_iload_n E13_63.1 (k_ E13_63) rfl (s_iaload E13_64.1 (k_ E13_64) rfl ⟨(((h.1 c0).1 c1).2).1, s_vcall1 E13_65.1 (k_ E13_65) rfl rfl rfl ((((h.1 c0).1 c1).2).2) (fun M2 r3 z2 => s_istore_n E13_68.1 (k_ E13_68) (s_iconst E13_69.1 (k_ E13_69) (s_istore E13_70.1 (k_ E13_70) (z2))))⟩)⟩))))), fun c1 => s_ret E13_52.1 (k_ E13_52) ((h.1 c0).2 c1)⟩), fun c0 => s_aload_n E13_12.1 (k_ E13_12) rfl (s_getR E13_13.1 (k_ E13_13) rfl rfl (s_iload_n E13_16.1 (k_ E13_16) rfl (s_aaload E13_17.1 (k_ E13_17) rfl ⟨(h.2 c0).1, s_iload_n E13_18.1 (k_ E13_18) rfl (s_iaload E13_19.1 (k_ E13_19) rfl ⟨((h.2 c0).2).1, s_if_eq E13_20.1 (k_ E13_20) ⟨fun c3 => s_iinc E13_42.1 (k_ E13_42) rfl (s_goto E13_45.1 (k_ E13_45) ((((h.2 c0).2).2).1 c3)), fun c3 => s_iload_n E13_23.1 (k_ E13_23) rfl (s_if_lt E13_24.1 (k_ E13_24) ⟨fun c4 => s_iload_n E13_40.1 (k_ E13_40) rfl (s_istore_n E13_41.1 (k_ E13_41) (s_iinc E13_42.1 (k_ E13_42) rfl (s_goto E13_45.1 (k_ E13_45) (((((h.2 c0).2).2).2 c3).1 c4)))), fun c4 => s_aload_n E13_27.1 (k_ E13_27) rfl (s_iload_n E13_28.1 (k_ E13_28) rfl (s_vcall1 E13_29.1 (k_ E13_29) rfl rfl rfl (((((h.2 c0).2).2).2 c3).2 c4) (fun M5 r6 z5 => s_aload_n E13_32.1 (k_ E13_32) rfl (s_iload_n E13_33.1 (k_ E13_33) rfl (s_vcall1 E13_34.1 (k_ E13_34) rfl rfl rfl z5 (fun M8 r9 z6 => s_icmp_ge E13_37.1 (k_ E13_37) ⟨fun c7 => s_iinc E13_42.1 (k_ E13_42) rfl (s_goto E13_45.1 (k_ E13_45) (z6.1 c7)), fun c7 => s_iload_n E13_40.1 (k_ E13_40) rfl (s_istore_n E13_41.1 (k_ E13_41) (s_iinc E13_42.1 (k_ E13_42) rfl (s_goto E13_45.1 (k_ E13_45) (z6.2 c7))))⟩))))))⟩)⟩⟩)⟩)))⟩)))
theorem g_X0_clearTerm_72 {Q : bQ} {M : bM} {x1 : Int32} {x2 : Int32} {x3 : Int32} {x4 : Int32} (h : (((M 3 0 5) ≤ x4) → (bCall 12 [cR 3 0, cI x2] M (fun v1 M2 => bV0 v1 (Q none M2)))) ∧ (¬ ((M 3 0 5) ≤ x4) → (((x4 = x2) → bGo 13 Q 72 [some (cR 3 0), some (cI x1), some (cI x2), some (cI x3), some (cI (x4 + (1 : Int32)))] [] M) ∧ (¬ (x4 = x2) → ((vp_in x4 4) ∧ ((vp_in x1 32) ∧ ((((M 7 (29 + x4.toNatClampNeg) x1.toNatClampNeg) = 0) → bGo 13 Q 72 [some (cR 3 0), some (cI x1), some (cI x2), some (cI x3), some (cI (x4 + (1 : Int32)))] [] M) ∧ (¬ ((M 7 (29 + x4.toNatClampNeg) x1.toNatClampNeg) = 0) → ((vp_in x4 4) ∧ ((vp_in x1 32) ∧ (bCall 10 [cR 1 0, cI ((M 7 (29 + x4.toNatClampNeg) x1.toNatClampNeg) * x3)] M (fun v3 M4 => bV1 v3 fun r5 => (bCall 11 [cR 3 0, cI x4, cI r5, cI x2, cI (0 : Int32)] M4 (fun v6 M7 => bV0 v6 (bGo 13 Q 72 [some (cR 3 0), some (cI x1), some (cI x2), some (cI x3), some (cI (x4 + (1 : Int32)))] [] M7))))))))))))))) : bGo 13 Q 72 [some (cR 3 0), some (cI x1), some (cI x2), some (cI x3), some (cI x4)] [] M := s_iload E13_72.1 (k_ E13_72) rfl (s_aload_n E13_74.1 (k_ E13_74) rfl (s_getI0 E13_75.1 (k_ E13_75) rfl (s_icmp_ge E13_78.1 (k_ E13_78) ⟨fun c8 => s_aload_n E13_131.1 (k_ E13_131) rfl (s_iload_n E13_132.1 (k_ E13_132) rfl (s_vcall0 E13_133.1 (k_ E13_133) rfl rfl rfl (h.1 c8) (fun M2 z9 => s_ret E13_136.1 (k_ E13_136) z9))), fun c8 => s_iload E13_81.1 (k_ E13_81) rfl (s_iload_n E13_83.1 (k_ E13_83) rfl (s_icmp_eq E13_84.1 (k_ E13_84) ⟨fun c10 => s_iinc E13_125.1 (k_ E13_125) rfl (s_goto E13_128.1 (k_ E13_128) ((h.2 c8).1 c10)), fun c10 => s_aload_n E13_87.1 (k_ E13_87) rfl (s_getR E13_88.1 (k_ E13_88) rfl rfl (s_iload E13_91.1 (k_ E13_91) rfl (s_aaload E13_93.1 (k_ E13_93) rfl ⟨((h.2 c8).2 c10).1, s_iload_n E13_94.1 (k_ E13_94) rfl (s_iaload E13_95.1 (k_ E13_95) rfl ⟨(((h.2 c8).2 c10).2).1, s_if_eq E13_96.1 (k_ E13_96) ⟨fun c11 => s_iinc E13_125.1 (k_ E13_125) rfl (s_goto E13_128.1 (k_ E13_128) (((((h.2 c8).2 c10).2).2).1 c11)), fun c11 => s_aload_n E13_99.1 (k_ E13_99) rfl (s_iload E13_100.1 (k_ E13_100) rfl (s_aload_n E13_102.1 (k_ E13_102) rfl (s_getR E13_103.1 (k_ E13_103) rfl rfl (s_aload_n E13_106.1 (k_ E13_106) rfl (s_getR E13_107.1 (k_ E13_107) rfl rfl (s_iload E13_110.1 (k_ E13_110) rfl (s_aaload E13_112.1 (k_ E13_112) rfl ⟨(((((h.2 c8).2 c10).2).2).2 c11).1, s_iload_n E13_113.1 (k_ E13_113) rfl (s_iaload E13_114.1 (k_ E13_114) rfl ⟨((((((h.2 c8).2 c10).2).2).2 c11).2).1, s_iload_n E13_115.1 (k_ E13_115) rfl (s_imul E13_116.1 (k_ E13_116) (s_vcall1 E13_117.1 (k_ E13_117) rfl rfl rfl (((((((h.2 c8).2 c10).2).2).2 c11).2).2) (fun M4 r5 z12 => s_iload_n E13_120.1 (k_ E13_120) rfl (s_iconst E13_121.1 (k_ E13_121) (s_vcall0 E13_122.1 (k_ E13_122) rfl rfl rfl z12 (fun M7 z13 => s_iinc E13_125.1 (k_ E13_125) rfl (s_goto E13_128.1 (k_ E13_128) (z13))))))))⟩)⟩)))))))⟩⟩)⟩)))⟩))⟩)))
theorem E100_0 : aCode 100 0 = (Instr.iload_n 1, 1, [], 0) ∧ bMask 100 0 = [] := ⟨rfl, rfl⟩
theorem E100_1 : aCode 100 1 = (Instr.ifCond .lt 8, 4, [9], 0) ∧ bMask 100 1 = [] := ⟨rfl, rfl⟩
theorem E100_4 : aCode 100 4 = (Instr.iload_n 1, 5, [], 0) ∧ bMask 100 4 = [] := ⟨rfl, rfl⟩
theorem E100_5 : aCode 100 5 = (Instr.iconst 5, 6, [], 5) ∧ bMask 100 5 = [] := ⟨rfl, rfl⟩
theorem E100_6 : aCode 100 6 = (Instr.if_icmp .le 5, 9, [11], 0) ∧ bMask 100 6 = [] := ⟨rfl, rfl⟩
theorem E100_9 : aCode 100 9 = (Instr.iconst (-1), 10, [], (-1)) ∧ bMask 100 9 = [] := ⟨rfl, rfl⟩
theorem E100_10 : aCode 100 10 = (Instr.ireturn, 11, [0], 0) ∧ bMask 100 10 = [] := ⟨rfl, rfl⟩
theorem E100_11 : aCode 100 11 = (Instr.aload_n 0, 12, [], 0) ∧ bMask 100 11 = [] := ⟨rfl, rfl⟩
theorem E100_12 : aCode 100 12 = (Instr.invokevirtual 148, 15, [68, 1, 103, 0, 0, 50], 0) ∧ bMask 100 12 = [] := ⟨rfl, rfl⟩
theorem E100_15 : aCode 100 15 = (Instr.astore_n 2, 16, [], 0) ∧ bMask 100 15 = [] := ⟨rfl, rfl⟩
theorem E100_16 : aCode 100 16 = (Instr.iload_n 1, 17, [], 0) ∧ bMask 100 16 = [] := ⟨rfl, rfl⟩
theorem E100_17 : aCode 100 17 = (Instr.tableswitch 64 0 4 #[35, 40, 45, 50, 59], 52, [81, 52, 57, 62, 67, 76], 0) ∧ bMask 100 17 = [] := ⟨rfl, rfl⟩
theorem E100_52 : aCode 100 52 = (Instr.aload_n 2, 53, [], 0) ∧ bMask 100 52 = [] := ⟨rfl, rfl⟩
theorem E100_53 : aCode 100 53 = (Instr.getfield 152, 56, [68, 0, 5, 0], 0) ∧ bMask 100 53 = [] := ⟨rfl, rfl⟩
theorem E100_56 : aCode 100 56 = (Instr.ireturn, 57, [0], 0) ∧ bMask 100 56 = [] := ⟨rfl, rfl⟩
theorem E100_57 : aCode 100 57 = (Instr.aload_n 0, 58, [], 0) ∧ bMask 100 57 = [] := ⟨rfl, rfl⟩
theorem E100_58 : aCode 100 58 = (Instr.getfield 34, 61, [56, 6, 4, 0], 0) ∧ bMask 100 58 = [] := ⟨rfl, rfl⟩
theorem E100_61 : aCode 100 61 = (Instr.ireturn, 62, [0], 0) ∧ bMask 100 61 = [] := ⟨rfl, rfl⟩
theorem E100_62 : aCode 100 62 = (Instr.aload_n 2, 63, [], 0) ∧ bMask 100 62 = [] := ⟨rfl, rfl⟩
theorem E100_63 : aCode 100 63 = (Instr.invokevirtual 153, 66, [7, 1, 1, 0, 0, 87], 0) ∧ bMask 100 63 = [] := ⟨rfl, rfl⟩
theorem E100_66 : aCode 100 66 = (Instr.ireturn, 67, [0], 0) ∧ bMask 100 66 = [] := ⟨rfl, rfl⟩
theorem E100_67 : aCode 100 67 = (Instr.aload_n 2, 68, [], 0) ∧ bMask 100 67 = [] := ⟨rfl, rfl⟩
theorem E100_68 : aCode 100 68 = (Instr.aload_n 2, 69, [], 0) ∧ bMask 100 68 = [] := ⟨rfl, rfl⟩
theorem E100_69 : aCode 100 69 = (Instr.invokevirtual 157, 72, [19, 1, 1, 0, 0, 64], 0) ∧ bMask 100 69 = [] := ⟨rfl, rfl⟩
theorem E100_72 : aCode 100 72 = (Instr.invokevirtual 160, 75, [8, 2, 1, 0, 0, 65], 0) ∧ bMask 100 72 = [] := ⟨rfl, rfl⟩
theorem E100_75 : aCode 100 75 = (Instr.ireturn, 76, [0], 0) ∧ bMask 100 75 = [] := ⟨rfl, rfl⟩
theorem E100_76 : aCode 100 76 = (Instr.aload_n 2, 77, [], 0) ∧ bMask 100 76 = [] := ⟨rfl, rfl⟩
theorem E100_77 : aCode 100 77 = (Instr.invokevirtual 163, 80, [17, 1, 1, 0, 0, 88], 0) ∧ bMask 100 77 = [] := ⟨rfl, rfl⟩
theorem E100_80 : aCode 100 80 = (Instr.ireturn, 81, [0], 0) ∧ bMask 100 80 = [] := ⟨rfl, rfl⟩
theorem E100_81 : aCode 100 81 = (Instr.aload_n 2, 82, [], 0) ∧ bMask 100 81 = [] := ⟨rfl, rfl⟩
theorem E100_82 : aCode 100 82 = (Instr.invokevirtual 157, 85, [19, 1, 1, 0, 0, 64], 0) ∧ bMask 100 82 = [] := ⟨rfl, rfl⟩
theorem E100_85 : aCode 100 85 = (Instr.ireturn, 86, [0], 0) ∧ bMask 100 85 = [] := ⟨rfl, rfl⟩
theorem g_X6_told_0 {Q : bQ} {M : bM} {x1 : Int32} (h : ((x1 < 0) → (Q (some (cI (-1 : Int32))) M)) ∧ (¬ (x1 < 0) → (((x1 ≤ (5 : Int32)) → (bCall 68 [cR 0 0] M (fun v1 M2 => bV4 v1 3 fun q3 => (((x1 = Int32.ofInt 0) → (Q (some (cI (M2 3 q3 5))) M2)) ∧ (¬ (x1 = Int32.ofInt 0) → (((x1 = Int32.ofInt 1) → (Q (some (cI (M2 0 0 4))) M2)) ∧ (¬ (x1 = Int32.ofInt 1) → (((x1 = Int32.ofInt 2) → (bCall 7 [cR 3 q3] M2 (fun v16 M17 => bV1 v16 fun r18 => (Q (some (cI r18)) M17)))) ∧ (¬ (x1 = Int32.ofInt 2) → (((x1 = Int32.ofInt 3) → (bCall 19 [cR 3 q3] M2 (fun v10 M11 => bV1 v10 fun r12 => (bCall 8 [cR 3 q3, cI r12] M11 (fun v13 M14 => bV1 v13 fun r15 => (Q (some (cI r15)) M14)))))) ∧ (¬ (x1 = Int32.ofInt 3) → (((x1 = Int32.ofInt 4) → (bCall 17 [cR 3 q3] M2 (fun v7 M8 => bV1 v7 fun r9 => (Q (some (cI r9)) M8)))) ∧ (¬ (x1 = Int32.ofInt 4) → (bCall 19 [cR 3 q3] M2 (fun v4 M5 => bV1 v4 fun r6 => (Q (some (cI r6)) M5)))))))))))))))) ∧ (¬ (x1 ≤ (5 : Int32)) → (Q (some (cI (-1 : Int32))) M))))) : bCall 100 [cR 0 0, cI x1] M Q := s_iload_n E100_0.1 (k_ E100_0) rfl (s_if_lt E100_1.1 (k_ E100_1) ⟨fun c0 => s_iconst E100_9.1 (k_ E100_9) (s_iret E100_10.1 (k_ E100_10) (h.1 c0)), fun c0 => s_iload_n E100_4.1 (k_ E100_4) rfl (s_iconst E100_5.1 (k_ E100_5) (s_icmp_le E100_6.1 (k_ E100_6) ⟨fun c1 => s_aload_n E100_11.1 (k_ E100_11) rfl (s_vcall103 E100_12.1 (k_ E100_12) rfl rfl rfl ((h.2 c0).1 c1) (fun M2 q3 z2 => s_astore_n E100_15.1 (k_ E100_15) (s_iload_n E100_16.1 (k_ E100_16) rfl (s_tsw E100_17.1 (k_ E100_17) (And.intro (fun c3 => s_aload_n E100_52.1 (k_ E100_52) rfl (s_getI0 E100_53.1 (k_ E100_53) rfl (s_iret E100_56.1 (k_ E100_56) (z2.1 c3)))) (fun c3 => And.intro (fun c4 => s_aload_n E100_57.1 (k_ E100_57) rfl (s_getI0 E100_58.1 (k_ E100_58) rfl (s_iret E100_61.1 (k_ E100_61) ((z2.2 c3).1 c4)))) (fun c4 => And.intro (fun c5 => s_aload_n E100_62.1 (k_ E100_62) rfl (s_vcall1 E100_63.1 (k_ E100_63) rfl rfl rfl (((z2.2 c3).2 c4).1 c5) (fun M17 r18 z6 => s_iret E100_66.1 (k_ E100_66) z6))) (fun c5 => And.intro (fun c7 => s_aload_n E100_67.1 (k_ E100_67) rfl (s_aload_n E100_68.1 (k_ E100_68) rfl (s_vcall1 E100_69.1 (k_ E100_69) rfl rfl rfl ((((z2.2 c3).2 c4).2 c5).1 c7) (fun M11 r12 z8 => s_vcall1 E100_72.1 (k_ E100_72) rfl rfl rfl z8 (fun M14 r15 z9 => s_iret E100_75.1 (k_ E100_75) z9))))) (fun c7 => And.intro (fun c10 => s_aload_n E100_76.1 (k_ E100_76) rfl (s_vcall1 E100_77.1 (k_ E100_77) rfl rfl rfl (((((z2.2 c3).2 c4).2 c5).2 c7).1 c10) (fun M8 r9 z11 => s_iret E100_80.1 (k_ E100_80) z11))) (fun c10 => s_aload_n E100_81.1 (k_ E100_81) rfl (s_vcall1 E100_82.1 (k_ E100_82) rfl rfl rfl (((((z2.2 c3).2 c4).2 c5).2 c7).2 c10) (fun M5 r6 z12 => s_iret E100_85.1 (k_ E100_85) z12)))))))))))), fun c1 => s_iconst E100_9.1 (k_ E100_9) (s_iret E100_10.1 (k_ E100_10) ((h.2 c0).2 c1))⟩))⟩)
