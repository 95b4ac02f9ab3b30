-- needs: 01 02 06 08 09 10 11
-- 152: X7_listed
theorem E152_0 : aCode 152 0 = (Instr.iload_n 1, 1, [], 0) ∧ bMask 152 0 = [] := ⟨rfl, rfl⟩
theorem E152_1 : aCode 152 1 = (Instr.iconst 0, 2, [], 0) ∧ bMask 152 1 = [] := ⟨rfl, rfl⟩
theorem E152_2 : aCode 152 2 = (Instr.aload_n 0, 3, [], 0) ∧ bMask 152 2 = [] := ⟨rfl, rfl⟩
theorem E152_3 : aCode 152 3 = (Instr.getfield 272, 6, [84, 7, 38, 0], 0) ∧ bMask 152 3 = [] := ⟨rfl, rfl⟩
theorem E152_6 : aCode 152 6 = (Instr.iconst 1, 7, [], 1) ∧ bMask 152 6 = [] := ⟨rfl, rfl⟩
theorem E152_7 : aCode 152 7 = (Instr.isub, 8, [], 0) ∧ bMask 152 7 = [] := ⟨rfl, rfl⟩
theorem E152_8 : aCode 152 8 = (Instr.invokestatic 126, 11, [104, 3, 1, 0, 0, 89], 0) ∧ bMask 152 8 = [] := ⟨rfl, rfl⟩
theorem E152_11 : aCode 152 11 = (Instr.ifCond .eq 12, 14, [23], 0) ∧ bMask 152 11 = [] := ⟨rfl, rfl⟩
theorem E152_14 : aCode 152 14 = (Instr.aload_n 0, 15, [], 0) ∧ bMask 152 14 = [] := ⟨rfl, rfl⟩
theorem E152_15 : aCode 152 15 = (Instr.getfield 84, 18, [85, 7, 40, 2], 0) ∧ bMask 152 15 = [] := ⟨rfl, rfl⟩
theorem E152_18 : aCode 152 18 = (Instr.iload_n 1, 19, [], 0) ∧ bMask 152 18 = [] := ⟨rfl, rfl⟩
theorem E152_19 : aCode 152 19 = (Instr.iaload, 20, [0], 0) ∧ bMask 152 19 = [] := ⟨rfl, rfl⟩
theorem E152_20 : aCode 152 20 = (Instr.goto 5, 25, [], 0) ∧ bMask 152 20 = [] := ⟨rfl, rfl⟩
theorem E152_23 : aCode 152 23 = (Instr.bipush (-3), 25, [], (-3)) ∧ bMask 152 23 = [] := ⟨rfl, rfl⟩
theorem E152_25 : aCode 152 25 = (Instr.ireturn, 26, [0], 0) ∧ bMask 152 25 = [] := ⟨rfl, rfl⟩
theorem g_X7_listed_0 {Q : bQ} {M : bM} {x1 : Int32} (h : bCall 104 [cI x1, cI (0 : Int32), cI ((M 26 0 38) - (1 : Int32))] M (fun v1 M2 => bV1 v1 fun r3 => (((r3 = 0) → (Q (some (cI (-3 : Int32))) M2)) ∧ (¬ (r3 = 0) → ((vp_in x1 8) ∧ (Q (some (cI (M2 46 0 x1.toNatClampNeg))) M2)))))) : bCall 152 [cR 26 0, cI x1] M Q := s_iload_n E152_0.1 (k_ E152_0) rfl (s_iconst E152_1.1 (k_ E152_1) (s_aload_n E152_2.1 (k_ E152_2) rfl (s_getI0 E152_3.1 (k_ E152_3) rfl (s_iconst E152_6.1 (k_ E152_6) (s_isub E152_7.1 (k_ E152_7) (s_scall1 E152_8.1 (k_ E152_8) rfl rfl rfl h (fun M2 r3 z0 => s_if_eq E152_11.1 (k_ E152_11) ⟨fun c1 => s_bipush E152_23.1 (k_ E152_23) (s_iret E152_25.1 (k_ E152_25) (z0.1 c1)), fun c1 => s_aload_n E152_14.1 (k_ E152_14) rfl (s_getR E152_15.1 (k_ E152_15) rfl rfl (s_iload_n E152_18.1 (k_ E152_18) rfl (s_iaload E152_19.1 (k_ E152_19) rfl ⟨(z0.2 c1).1, s_goto E152_20.1 (k_ E152_20) (s_iret E152_25.1 (k_ E152_25) ((z0.2 c1).2))⟩)))⟩)))))))
-- 153: X7_loads
theorem E153_0 : aCode 153 0 = (Instr.iload_n 1, 1, [], 0) ∧ bMask 153 0 = [] := ⟨rfl, rfl⟩
theorem E153_1 : aCode 153 1 = (Instr.invokestatic 134, 4, [105, 1, 1, 0, 0, 90], 0) ∧ bMask 153 1 = [] := ⟨rfl, rfl⟩
theorem E153_4 : aCode 153 4 = (Instr.ifCond .eq 10, 7, [14], 0) ∧ bMask 153 4 = [] := ⟨rfl, rfl⟩
theorem E153_7 : aCode 153 7 = (Instr.iload_n 2, 8, [], 0) ∧ bMask 153 7 = [] := ⟨rfl, rfl⟩
theorem E153_8 : aCode 153 8 = (Instr.invokestatic 269, 11, [139, 1, 1, 0, 0, 113], 0) ∧ bMask 153 8 = [] := ⟨rfl, rfl⟩
theorem E153_11 : aCode 153 11 = (Instr.ifCond .ne 5, 14, [16], 0) ∧ bMask 153 11 = [] := ⟨rfl, rfl⟩
theorem E153_14 : aCode 153 14 = (Instr.iconst (-1), 15, [], (-1)) ∧ bMask 153 14 = [] := ⟨rfl, rfl⟩
theorem E153_15 : aCode 153 15 = (Instr.ireturn, 16, [0], 0) ∧ bMask 153 15 = [] := ⟨rfl, rfl⟩
theorem E153_16 : aCode 153 16 = (Instr.aload_n 0, 17, [], 0) ∧ bMask 153 16 = [] := ⟨rfl, rfl⟩
theorem E153_17 : aCode 153 17 = (Instr.getfield 108, 20, [113, 7, 48, 2], 0) ∧ bMask 153 17 = [] := ⟨rfl, rfl⟩
theorem E153_20 : aCode 153 20 = (Instr.iload_n 2, 21, [], 0) ∧ bMask 153 20 = [] := ⟨rfl, rfl⟩
theorem E153_21 : aCode 153 21 = (Instr.iaload, 22, [0], 0) ∧ bMask 153 21 = [] := ⟨rfl, rfl⟩
theorem E153_22 : aCode 153 22 = (Instr.ifCond .ge 6, 25, [28], 0) ∧ bMask 153 22 = [] := ⟨rfl, rfl⟩
theorem E153_25 : aCode 153 25 = (Instr.bipush (-11), 27, [], (-11)) ∧ bMask 153 25 = [] := ⟨rfl, rfl⟩
theorem E153_27 : aCode 153 27 = (Instr.ireturn, 28, [0], 0) ∧ bMask 153 27 = [] := ⟨rfl, rfl⟩
theorem E153_28 : aCode 153 28 = (Instr.iconst 0, 29, [], 0) ∧ bMask 153 28 = [] := ⟨rfl, rfl⟩
theorem E153_29 : aCode 153 29 = (Instr.istore_n 3, 30, [], 0) ∧ bMask 153 29 = [] := ⟨rfl, rfl⟩
theorem E153_30 : aCode 153 30 = (Instr.iload_n 3, 31, [], 0) ∧ bMask 153 30 = [] := ⟨rfl, rfl⟩
theorem E153_31 : aCode 153 31 = (Instr.bipush 32, 33, [], 32) ∧ bMask 153 31 = [] := ⟨rfl, rfl⟩
theorem E153_33 : aCode 153 33 = (Instr.if_icmp .ge 50, 36, [83], 0) ∧ bMask 153 33 = [] := ⟨rfl, rfl⟩
theorem E153_36 : aCode 153 36 = (Instr.aload_n 0, 37, [], 0) ∧ bMask 153 36 = [] := ⟨rfl, rfl⟩
theorem E153_37 : aCode 153 37 = (Instr.getfield 13, 40, [69, 7, 1, 2], 0) ∧ bMask 153 37 = [] := ⟨rfl, rfl⟩
theorem E153_40 : aCode 153 40 = (Instr.bipush 32, 42, [], 32) ∧ bMask 153 40 = [] := ⟨rfl, rfl⟩
theorem E153_42 : aCode 153 42 = (Instr.iload_n 1, 43, [], 0) ∧ bMask 153 42 = [] := ⟨rfl, rfl⟩
theorem E153_43 : aCode 153 43 = (Instr.imul, 44, [], 0) ∧ bMask 153 43 = [] := ⟨rfl, rfl⟩
theorem E153_44 : aCode 153 44 = (Instr.iload_n 3, 45, [], 0) ∧ bMask 153 44 = [] := ⟨rfl, rfl⟩
theorem E153_45 : aCode 153 45 = (Instr.iadd, 46, [], 0) ∧ bMask 153 45 = [] := ⟨rfl, rfl⟩
theorem E153_46 : aCode 153 46 = (Instr.iload_n 3, 47, [], 0) ∧ bMask 153 46 = [] := ⟨rfl, rfl⟩
theorem E153_47 : aCode 153 47 = (Instr.aload_n 0, 48, [], 0) ∧ bMask 153 47 = [] := ⟨rfl, rfl⟩
theorem E153_48 : aCode 153 48 = (Instr.getfield 108, 51, [113, 7, 48, 2], 0) ∧ bMask 153 48 = [] := ⟨rfl, rfl⟩
theorem E153_51 : aCode 153 51 = (Instr.iload_n 2, 52, [], 0) ∧ bMask 153 51 = [] := ⟨rfl, rfl⟩
theorem E153_52 : aCode 153 52 = (Instr.iaload, 53, [0], 0) ∧ bMask 153 52 = [] := ⟨rfl, rfl⟩
theorem E153_53 : aCode 153 53 = (Instr.if_icmp .ge 22, 56, [75], 0) ∧ bMask 153 53 = [] := ⟨rfl, rfl⟩
theorem E153_56 : aCode 153 56 = (Instr.aload_n 0, 57, [], 0) ∧ bMask 153 56 = [] := ⟨rfl, rfl⟩
theorem E153_57 : aCode 153 57 = (Instr.aload_n 0, 58, [], 0) ∧ bMask 153 57 = [] := ⟨rfl, rfl⟩
theorem E153_58 : aCode 153 58 = (Instr.getfield 114, 61, [116, 7, 50, 2], 0) ∧ bMask 153 58 = [] := ⟨rfl, rfl⟩
theorem E153_61 : aCode 153 61 = (Instr.bipush 40, 63, [], 40) ∧ bMask 153 61 = [] := ⟨rfl, rfl⟩
theorem E153_63 : aCode 153 63 = (Instr.iload_n 2, 64, [], 0) ∧ bMask 153 63 = [] := ⟨rfl, rfl⟩
theorem E153_64 : aCode 153 64 = (Instr.imul, 65, [], 0) ∧ bMask 153 64 = [] := ⟨rfl, rfl⟩
theorem E153_65 : aCode 153 65 = (Instr.iload_n 3, 66, [], 0) ∧ bMask 153 65 = [] := ⟨rfl, rfl⟩
theorem E153_66 : aCode 153 66 = (Instr.iadd, 67, [], 0) ∧ bMask 153 66 = [] := ⟨rfl, rfl⟩
theorem E153_67 : aCode 153 67 = (Instr.iaload, 68, [0], 0) ∧ bMask 153 67 = [] := ⟨rfl, rfl⟩
theorem E153_68 : aCode 153 68 = (Instr.i2l, 69, [], 0) ∧ bMask 153 68 = [] := ⟨rfl, rfl⟩
theorem E153_69 : aCode 153 69 = (Instr.invokevirtual 137, 72, [118, 2, 1, 7, 0, 98], 0) ∧ bMask 153 69 = [] := ⟨rfl, rfl⟩
theorem E153_72 : aCode 153 72 = (Instr.goto 4, 76, [], 0) ∧ bMask 153 72 = [] := ⟨rfl, rfl⟩
theorem E153_75 : aCode 153 75 = (Instr.iconst 0, 76, [], 0) ∧ bMask 153 75 = [] := ⟨rfl, rfl⟩
theorem E153_76 : aCode 153 76 = (Instr.iastore, 77, [0], 0) ∧ bMask 153 76 = [] := ⟨rfl, rfl⟩
theorem E153_77 : aCode 153 77 = (Instr.iinc 3 1, 80, [], 1) ∧ bMask 153 77 = [] := ⟨rfl, rfl⟩
theorem E153_80 : aCode 153 80 = (Instr.goto (-50), 30, [], 0) ∧ bMask 153 80 = [] := ⟨rfl, rfl⟩
theorem E153_83 : aCode 153 83 = (Instr.aload_n 0, 84, [], 0) ∧ bMask 153 83 = [] := ⟨rfl, rfl⟩
theorem E153_84 : aCode 153 84 = (Instr.getfield 108, 87, [113, 7, 48, 2], 0) ∧ bMask 153 84 = [] := ⟨rfl, rfl⟩
theorem E153_87 : aCode 153 87 = (Instr.iload_n 2, 88, [], 0) ∧ bMask 153 87 = [] := ⟨rfl, rfl⟩
theorem E153_88 : aCode 153 88 = (Instr.iaload, 89, [0], 0) ∧ bMask 153 88 = [] := ⟨rfl, rfl⟩
theorem E153_89 : aCode 153 89 = (Instr.bipush 32, 91, [], 32) ∧ bMask 153 89 = [] := ⟨rfl, rfl⟩
theorem E153_91 : aCode 153 91 = (Instr.if_icmp .ge 12, 94, [103], 0) ∧ bMask 153 91 = [] := ⟨rfl, rfl⟩
theorem E153_94 : aCode 153 94 = (Instr.aload_n 0, 95, [], 0) ∧ bMask 153 94 = [] := ⟨rfl, rfl⟩
theorem E153_95 : aCode 153 95 = (Instr.getfield 108, 98, [113, 7, 48, 2], 0) ∧ bMask 153 95 = [] := ⟨rfl, rfl⟩
theorem E153_98 : aCode 153 98 = (Instr.iload_n 2, 99, [], 0) ∧ bMask 153 98 = [] := ⟨rfl, rfl⟩
theorem E153_99 : aCode 153 99 = (Instr.iaload, 100, [0], 0) ∧ bMask 153 99 = [] := ⟨rfl, rfl⟩
theorem E153_100 : aCode 153 100 = (Instr.goto 5, 105, [], 0) ∧ bMask 153 100 = [] := ⟨rfl, rfl⟩
theorem E153_103 : aCode 153 103 = (Instr.bipush 32, 105, [], 32) ∧ bMask 153 103 = [] := ⟨rfl, rfl⟩
theorem E153_105 : aCode 153 105 = (Instr.ireturn, 106, [0], 0) ∧ bMask 153 105 = [] := ⟨rfl, rfl⟩
theorem g_X7_loads_0 {Q : bQ} {M : bM} {x1 : Int32} {x2 : Int32} (h : bCall 105 [cI x1] M (fun v1 M2 => bV1 v1 fun r3 => (((r3 = 0) → (Q (some (cI (-1 : Int32))) M2)) ∧ (¬ (r3 = 0) → (bCall 139 [cI x2] M2 (fun v4 M5 => bV1 v4 fun r6 => (((¬ r6 = 0) → ((vp_in x2 3) ∧ (((0 ≤ (M5 54 0 x2.toNatClampNeg)) → bGo 153 Q 30 [some (cR 26 0), some (cI x1), some (cI x2), some (cI (0 : Int32))] [] M5) ∧ (¬ (0 ≤ (M5 54 0 x2.toNatClampNeg)) → (Q (some (cI (-11 : Int32))) M5))))) ∧ (¬ (¬ r6 = 0) → (Q (some (cI (-1 : Int32))) M5))))))))) : bCall 153 [cR 26 0, cI x1, cI x2] M Q := s_iload_n E153_0.1 (k_ E153_0) rfl (s_scall1 E153_1.1 (k_ E153_1) rfl rfl rfl h (fun M2 r3 z0 => s_if_eq E153_4.1 (k_ E153_4) ⟨fun c1 => s_iconst E153_14.1 (k_ E153_14) (s_iret E153_15.1 (k_ E153_15) (z0.1 c1)), fun c1 => s_iload_n E153_7.1 (k_ E153_7) rfl (s_scall1 E153_8.1 (k_ E153_8) rfl rfl rfl (z0.2 c1) (fun M5 r6 z2 => s_if_ne E153_11.1 (k_ E153_11) ⟨fun c3 => s_aload_n E153_16.1 (k_ E153_16) rfl (s_getR E153_17.1 (k_ E153_17) rfl rfl (s_iload_n E153_20.1 (k_ E153_20) rfl (s_iaload E153_21.1 (k_ E153_21) rfl ⟨(z2.1 c3).1, s_if_ge E153_22.1 (k_ E153_22) ⟨fun c4 => s_iconst E153_28.1 (k_ E153_28) (s_istore_n E153_29.1 (k_ E153_29) (((z2.1 c3).2).1 c4)), fun c4 => s_bipush E153_25.1 (k_ E153_25) (s_iret E153_27.1 (k_ E153_27) (((z2.1 c3).2).2 c4))⟩⟩))), fun c3 => s_iconst E153_14.1 (k_ E153_14) (s_iret E153_15.1 (k_ E153_15) (z2.2 c3))⟩))⟩))
theorem g_X7_loads_30 {Q : bQ} {M : bM} {x1 : Int32} {x2 : Int32} {x3 : Int32} (h : (((32 : Int32) ≤ x3) → ((vp_in x2 3) ∧ ((((32 : Int32) ≤ (M 54 0 x2.toNatClampNeg)) → (Q (some (cI (32 : Int32))) M)) ∧ (¬ ((32 : Int32) ≤ (M 54 0 x2.toNatClampNeg)) → ((vp_in x2 3) ∧ (Q (some (cI (M 54 0 x2.toNatClampNeg))) M)))))) ∧ (¬ ((32 : Int32) ≤ x3) → ((vp_in x2 3) ∧ ((((M 54 0 x2.toNatClampNeg) ≤ x3) → ((vp_in (((32 : Int32) * x1) + x3) 192) ∧ bGo 153 Q 30 [some (cR 26 0), some (cI x1), some (cI x2), some (cI (x3 + (1 : Int32)))] [] (bU M 28 0 (((32 : Int32) * x1) + x3).toNatClampNeg (0 : Int32)))) ∧ (¬ ((M 54 0 x2.toNatClampNeg) ≤ x3) → ((vp_in (((40 : Int32) * x2) + x3) 120) ∧ (bCall 118 [cR 26 0, cL ((M 56 0 (((40 : Int32) * x2) + x3).toNatClampNeg).toInt64)] M (fun v1 M2 => bV1 v1 fun r3 => ((vp_in (((32 : Int32) * x1) + x3) 192) ∧ bGo 153 Q 30 [some (cR 26 0), some (cI x1), some (cI x2), some (cI (x3 + (1 : Int32)))] [] (bU M2 28 0 (((32 : Int32) * x1) + x3).toNatClampNeg r3)))))))))) : bGo 153 Q 30 [some (cR 26 0), some (cI x1), some (cI x2), some (cI x3)] [] M := s_iload_n E153_30.1 (k_ E153_30) rfl (s_bipush E153_31.1 (k_ E153_31) (s_icmp_ge E153_33.1 (k_ E153_33) ⟨fun c5 => s_aload_n E153_83.1 (k_ E153_83) rfl (s_getR E153_84.1 (k_ E153_84) rfl rfl (s_iload_n E153_87.1 (k_ E153_87) rfl (s_iaload E153_88.1 (k_ E153_88) rfl ⟨(h.1 c5).1, s_bipush E153_89.1 (k_ E153_89) (s_icmp_ge E153_91.1 (k_ E153_91) ⟨fun c6 => s_bipush E153_103.1 (k_ E153_103) (s_iret E153_105.1 (k_ E153_105) (((h.1 c5).2).1 c6)), fun c6 => s_aload_n E153_94.1 (k_ E153_94) rfl (s_getR E153_95.1 (k_ E153_95) rfl rfl (s_iload_n E153_98.1 (k_ E153_98) rfl (s_iaload E153_99.1 (k_ E153_99) rfl ⟨(((h.1 c5).2).2 c6).1, s_goto E153_100.1 (k_ E153_100) (s_iret E153_105.1 (k_ E153_105) ((((h.1 c5).2).2 c6).2))⟩)))⟩)⟩))), fun c5 => s_aload_n E153_36.1 (k_ E153_36) rfl (s_getR E153_37.1 (k_ E153_37) rfl rfl (s_bipush E153_40.1 (k_ E153_40) (s_iload_n E153_42.1 (k_ E153_42) rfl (s_imul E153_43.1 (k_ E153_43) (s_iload_n E153_44.1 (k_ E153_44) rfl (s_iadd E153_45.1 (k_ E153_45) (s_iload_n E153_46.1 (k_ E153_46) rfl (s_aload_n E153_47.1 (k_ E153_47) rfl (s_getR E153_48.1 (k_ E153_48) rfl rfl (s_iload_n E153_51.1 (k_ E153_51) rfl (s_iaload E153_52.1 (k_ E153_52) rfl ⟨(h.2 c5).1, s_icmp_ge E153_53.1 (k_ E153_53) ⟨fun c7 => s_iconst E153_75.1 (k_ E153_75) (s_iastore E153_76.1 (k_ E153_76) rfl ⟨(((h.2 c5).2).1 c7).1, s_iinc E153_77.1 (k_ E153_77) rfl (s_goto E153_80.1 (k_ E153_80) ((((h.2 c5).2).1 c7).2))⟩), fun c7 => s_aload_n E153_56.1 (k_ E153_56) rfl (s_aload_n E153_57.1 (k_ E153_57) rfl (s_getR E153_58.1 (k_ E153_58) rfl rfl (s_bipush E153_61.1 (k_ E153_61) (s_iload_n E153_63.1 (k_ E153_63) rfl (s_imul E153_64.1 (k_ E153_64) (s_iload_n E153_65.1 (k_ E153_65) rfl (s_iadd E153_66.1 (k_ E153_66) (s_iaload E153_67.1 (k_ E153_67) rfl ⟨(((h.2 c5).2).2 c7).1, s_i2l E153_68.1 (k_ E153_68) (s_vcall1 E153_69.1 (k_ E153_69) rfl rfl rfl ((((h.2 c5).2).2 c7).2) (fun M2 r3 z8 => s_goto E153_72.1 (k_ E153_72) (s_iastore E153_76.1 (k_ E153_76) rfl ⟨z8.1, s_iinc E153_77.1 (k_ E153_77) rfl (s_goto E153_80.1 (k_ E153_80) (z8.2))⟩)))⟩))))))))⟩⟩)))))))))))⟩))
-- 154: X7_mix
theorem E154_0 : aCode 154 0 = (Instr.iload_n 1, 1, [], 0) ∧ bMask 154 0 = [] := ⟨rfl, rfl⟩
theorem E154_1 : aCode 154 1 = (Instr.invokestatic 134, 4, [105, 1, 1, 0, 0, 90], 0) ∧ bMask 154 1 = [] := ⟨rfl, rfl⟩
theorem E154_4 : aCode 154 4 = (Instr.ifCond .eq 18, 7, [22], 0) ∧ bMask 154 4 = [] := ⟨rfl, rfl⟩
theorem E154_7 : aCode 154 7 = (Instr.iload_n 3, 8, [], 0) ∧ bMask 154 7 = [] := ⟨rfl, rfl⟩
theorem E154_8 : aCode 154 8 = (Instr.invokestatic 134, 11, [105, 1, 1, 0, 0, 90], 0) ∧ bMask 154 8 = [] := ⟨rfl, rfl⟩
theorem E154_11 : aCode 154 11 = (Instr.ifCond .eq 11, 14, [22], 0) ∧ bMask 154 11 = [] := ⟨rfl, rfl⟩
theorem E154_14 : aCode 154 14 = (Instr.iload 5, 16, [], 0) ∧ bMask 154 14 = [] := ⟨rfl, rfl⟩
theorem E154_16 : aCode 154 16 = (Instr.invokestatic 134, 19, [105, 1, 1, 0, 0, 90], 0) ∧ bMask 154 16 = [] := ⟨rfl, rfl⟩
theorem E154_19 : aCode 154 19 = (Instr.ifCond .ne 5, 22, [24], 0) ∧ bMask 154 19 = [] := ⟨rfl, rfl⟩
theorem E154_22 : aCode 154 22 = (Instr.iconst (-1), 23, [], (-1)) ∧ bMask 154 22 = [] := ⟨rfl, rfl⟩
theorem E154_23 : aCode 154 23 = (Instr.ireturn, 24, [0], 0) ∧ bMask 154 23 = [] := ⟨rfl, rfl⟩
theorem E154_24 : aCode 154 24 = (Instr.iconst 0, 25, [], 0) ∧ bMask 154 24 = [] := ⟨rfl, rfl⟩
theorem E154_25 : aCode 154 25 = (Instr.istore 6, 27, [], 0) ∧ bMask 154 25 = [] := ⟨rfl, rfl⟩
theorem E154_27 : aCode 154 27 = (Instr.iload 6, 29, [], 0) ∧ bMask 154 27 = [] := ⟨rfl, rfl⟩
theorem E154_29 : aCode 154 29 = (Instr.bipush 32, 31, [], 32) ∧ bMask 154 29 = [] := ⟨rfl, rfl⟩
theorem E154_31 : aCode 154 31 = (Instr.if_icmp .ge 64, 34, [95], 0) ∧ bMask 154 31 = [] := ⟨rfl, rfl⟩
theorem E154_34 : aCode 154 34 = (Instr.aload_n 0, 35, [], 0) ∧ bMask 154 34 = [] := ⟨rfl, rfl⟩
theorem E154_35 : aCode 154 35 = (Instr.getfield 17, 38, [108, 7, 3, 2], 0) ∧ bMask 154 35 = [] := ⟨rfl, rfl⟩
theorem E154_38 : aCode 154 38 = (Instr.iload 6, 40, [], 0) ∧ bMask 154 38 = [] := ⟨rfl, rfl⟩
theorem E154_40 : aCode 154 40 = (Instr.aload_n 0, 41, [], 0) ∧ bMask 154 40 = [] := ⟨rfl, rfl⟩
theorem E154_41 : aCode 154 41 = (Instr.aload_n 0, 42, [], 0) ∧ bMask 154 41 = [] := ⟨rfl, rfl⟩
theorem E154_42 : aCode 154 42 = (Instr.iload_n 2, 43, [], 0) ∧ bMask 154 42 = [] := ⟨rfl, rfl⟩
theorem E154_43 : aCode 154 43 = (Instr.i2l, 44, [], 0) ∧ bMask 154 43 = [] := ⟨rfl, rfl⟩
theorem E154_44 : aCode 154 44 = (Instr.invokevirtual 137, 47, [118, 2, 1, 7, 0, 98], 0) ∧ bMask 154 44 = [] := ⟨rfl, rfl⟩
theorem E154_47 : aCode 154 47 = (Instr.i2l, 48, [], 0) ∧ bMask 154 47 = [] := ⟨rfl, rfl⟩
theorem E154_48 : aCode 154 48 = (Instr.aload_n 0, 49, [], 0) ∧ bMask 154 48 = [] := ⟨rfl, rfl⟩
theorem E154_49 : aCode 154 49 = (Instr.getfield 13, 52, [69, 7, 1, 2], 0) ∧ bMask 154 49 = [] := ⟨rfl, rfl⟩
theorem E154_52 : aCode 154 52 = (Instr.bipush 32, 54, [], 32) ∧ bMask 154 52 = [] := ⟨rfl, rfl⟩
theorem E154_54 : aCode 154 54 = (Instr.iload_n 1, 55, [], 0) ∧ bMask 154 54 = [] := ⟨rfl, rfl⟩
theorem E154_55 : aCode 154 55 = (Instr.imul, 56, [], 0) ∧ bMask 154 55 = [] := ⟨rfl, rfl⟩
theorem E154_56 : aCode 154 56 = (Instr.iload 6, 58, [], 0) ∧ bMask 154 56 = [] := ⟨rfl, rfl⟩
theorem E154_58 : aCode 154 58 = (Instr.iadd, 59, [], 0) ∧ bMask 154 58 = [] := ⟨rfl, rfl⟩
theorem E154_59 : aCode 154 59 = (Instr.iaload, 60, [0], 0) ∧ bMask 154 59 = [] := ⟨rfl, rfl⟩
theorem E154_60 : aCode 154 60 = (Instr.i2l, 61, [], 0) ∧ bMask 154 60 = [] := ⟨rfl, rfl⟩
theorem E154_61 : aCode 154 61 = (Instr.lmul, 62, [], 0) ∧ bMask 154 61 = [] := ⟨rfl, rfl⟩
theorem E154_62 : aCode 154 62 = (Instr.aload_n 0, 63, [], 0) ∧ bMask 154 62 = [] := ⟨rfl, rfl⟩
theorem E154_63 : aCode 154 63 = (Instr.iload 4, 65, [], 0) ∧ bMask 154 63 = [] := ⟨rfl, rfl⟩
theorem E154_65 : aCode 154 65 = (Instr.i2l, 66, [], 0) ∧ bMask 154 65 = [] := ⟨rfl, rfl⟩
theorem E154_66 : aCode 154 66 = (Instr.invokevirtual 137, 69, [118, 2, 1, 7, 0, 98], 0) ∧ bMask 154 66 = [] := ⟨rfl, rfl⟩
theorem E154_69 : aCode 154 69 = (Instr.i2l, 70, [], 0) ∧ bMask 154 69 = [] := ⟨rfl, rfl⟩
theorem E154_70 : aCode 154 70 = (Instr.aload_n 0, 71, [], 0) ∧ bMask 154 70 = [] := ⟨rfl, rfl⟩
theorem E154_71 : aCode 154 71 = (Instr.getfield 13, 74, [69, 7, 1, 2], 0) ∧ bMask 154 71 = [] := ⟨rfl, rfl⟩
theorem E154_74 : aCode 154 74 = (Instr.bipush 32, 76, [], 32) ∧ bMask 154 74 = [] := ⟨rfl, rfl⟩
theorem E154_76 : aCode 154 76 = (Instr.iload_n 3, 77, [], 0) ∧ bMask 154 76 = [] := ⟨rfl, rfl⟩
theorem E154_77 : aCode 154 77 = (Instr.imul, 78, [], 0) ∧ bMask 154 77 = [] := ⟨rfl, rfl⟩
theorem E154_78 : aCode 154 78 = (Instr.iload 6, 80, [], 0) ∧ bMask 154 78 = [] := ⟨rfl, rfl⟩
theorem E154_80 : aCode 154 80 = (Instr.iadd, 81, [], 0) ∧ bMask 154 80 = [] := ⟨rfl, rfl⟩
theorem E154_81 : aCode 154 81 = (Instr.iaload, 82, [0], 0) ∧ bMask 154 81 = [] := ⟨rfl, rfl⟩
theorem E154_82 : aCode 154 82 = (Instr.i2l, 83, [], 0) ∧ bMask 154 82 = [] := ⟨rfl, rfl⟩
theorem E154_83 : aCode 154 83 = (Instr.lmul, 84, [], 0) ∧ bMask 154 83 = [] := ⟨rfl, rfl⟩
theorem E154_84 : aCode 154 84 = (Instr.ladd, 85, [], 0) ∧ bMask 154 84 = [] := ⟨rfl, rfl⟩
theorem E154_85 : aCode 154 85 = (Instr.invokevirtual 137, 88, [118, 2, 1, 7, 0, 98], 0) ∧ bMask 154 85 = [] := ⟨rfl, rfl⟩
theorem E154_88 : aCode 154 88 = (Instr.iastore, 89, [0], 0) ∧ bMask 154 88 = [] := ⟨rfl, rfl⟩
theorem E154_89 : aCode 154 89 = (Instr.iinc 6 1, 92, [], 1) ∧ bMask 154 89 = [] := ⟨rfl, rfl⟩
theorem E154_92 : aCode 154 92 = (Instr.goto (-65), 27, [], 0) ∧ bMask 154 92 = [] := ⟨rfl, rfl⟩
theorem E154_95 : aCode 154 95 = (Instr.aload_n 0, 96, [], 0) ∧ bMask 154 95 = [] := ⟨rfl, rfl⟩
theorem E154_96 : aCode 154 96 = (Instr.aload_n 0, 97, [], 0) ∧ bMask 154 96 = [] := ⟨rfl, rfl⟩
theorem E154_97 : aCode 154 97 = (Instr.getfield 17, 100, [108, 7, 3, 2], 0) ∧ bMask 154 97 = [] := ⟨rfl, rfl⟩
theorem E154_100 : aCode 154 100 = (Instr.iload 5, 102, [], 0) ∧ bMask 154 100 = [] := ⟨rfl, rfl⟩
theorem E154_102 : aCode 154 102 = (Instr.invokevirtual 145, 105, [127, 3, 1, 7, 0, 108], 0) ∧ bMask 154 102 = [] := ⟨rfl, rfl⟩
theorem E154_105 : aCode 154 105 = (Instr.ireturn, 106, [0], 0) ∧ bMask 154 105 = [] := ⟨rfl, rfl⟩
theorem g_X7_mix_0 {Q : bQ} {M : bM} {x1 : Int32} {x2 : Int32} {x3 : Int32} {x4 : Int32} {x5 : Int32} (h : bCall 105 [cI x1] M (fun v1 M2 => bV1 v1 fun r3 => (((r3 = 0) → (Q (some (cI (-1 : Int32))) M2)) ∧ (¬ (r3 = 0) → (bCall 105 [cI x3] M2 (fun v4 M5 => bV1 v4 fun r6 => (((r6 = 0) → (Q (some (cI (-1 : Int32))) M5)) ∧ (¬ (r6 = 0) → (bCall 105 [cI x5] M5 (fun v7 M8 => bV1 v7 fun r9 => (((¬ r9 = 0) → bGo 154 Q 27 [some (cR 26 0), some (cI x1), some (cI x2), some (cI x3), some (cI x4), some (cI x5), some (cI (0 : Int32))] [] M8) ∧ (¬ (¬ r9 = 0) → (Q (some (cI (-1 : Int32))) M8))))))))))))) : bCall 154 [cR 26 0, cI x1, cI x2, cI x3, cI x4, cI x5] M Q := s_iload_n E154_0.1 (k_ E154_0) rfl (s_scall1 E154_1.1 (k_ E154_1) rfl rfl rfl h (fun M2 r3 z0 => s_if_eq E154_4.1 (k_ E154_4) ⟨fun c1 => s_iconst E154_22.1 (k_ E154_22) (s_iret E154_23.1 (k_ E154_23) (z0.1 c1)), fun c1 => s_iload_n E154_7.1 (k_ E154_7) rfl (s_scall1 E154_8.1 (k_ E154_8) rfl rfl rfl (z0.2 c1) (fun M5 r6 z2 => s_if_eq E154_11.1 (k_ E154_11) ⟨fun c3 => s_iconst E154_22.1 (k_ E154_22) (s_iret E154_23.1 (k_ E154_23) (z2.1 c3)), fun c3 => s_iload E154_14.1 (k_ E154_14) rfl (s_scall1 E154_16.1 (k_ E154_16) rfl rfl rfl (z2.2 c3) (fun M8 r9 z4 => s_if_ne E154_19.1 (k_ E154_19) ⟨fun c5 => s_iconst E154_24.1 (k_ E154_24) (s_istore E154_25.1 (k_ E154_25) (z4.1 c5)), fun c5 => s_iconst E154_22.1 (k_ E154_22) (s_iret E154_23.1 (k_ E154_23) (z4.2 c5))⟩))⟩))⟩))
theorem g_X7_mix_27 {Q : bQ} {M : bM} {x1 : Int32} {x2 : Int32} {x3 : Int32} {x4 : Int32} {x5 : Int32} {x6 : Int32} (h : (((32 : Int32) ≤ x6) → (bCall 127 [cR 26 0, cR 27 0, cI x5] M (fun v1 M2 => bV1 v1 fun r3 => (Q (some (cI r3)) M2)))) ∧ (¬ ((32 : Int32) ≤ x6) → (bCall 118 [cR 26 0, cL x2.toInt64] M (fun v4 M5 => bV1 v4 fun r6 => ((vp_in (((32 : Int32) * x1) + x6) 192) ∧ (bCall 118 [cR 26 0, cL x4.toInt64] M5 (fun v7 M8 => bV1 v7 fun r9 => ((vp_in (((32 : Int32) * x3) + x6) 192) ∧ (bCall 118 [cR 26 0, cL ((r6.toInt64 * ((M5 28 0 (((32 : Int32) * x1) + x6).toNatClampNeg).toInt64)) + (r9.toInt64 * ((M8 28 0 (((32 : Int32) * x3) + x6).toNatClampNeg).toInt64)))] M8 (fun v10 M11 => bV1 v10 fun r12 => ((vp_in x6 32) ∧ bGo 154 Q 27 [some (cR 26 0), some (cI x1), some (cI x2), some (cI x3), some (cI x4), some (cI x5), some (cI (x6 + (1 : Int32)))] [] (bU M11 27 0 x6.toNatClampNeg r12)))))))))))) : bGo 154 Q 27 [some (cR 26 0), some (cI x1), some (cI x2), some (cI x3), some (cI x4), some (cI x5), some (cI x6)] [] M := s_iload E154_27.1 (k_ E154_27) rfl (s_bipush E154_29.1 (k_ E154_29) (s_icmp_ge E154_31.1 (k_ E154_31) ⟨fun c6 => s_aload_n E154_95.1 (k_ E154_95) rfl (s_aload_n E154_96.1 (k_ E154_96) rfl (s_getR E154_97.1 (k_ E154_97) rfl rfl (s_iload E154_100.1 (k_ E154_100) rfl (s_vcall1 E154_102.1 (k_ E154_102) rfl rfl rfl (h.1 c6) (fun M2 r3 z7 => s_iret E154_105.1 (k_ E154_105) z7))))), fun c6 => s_aload_n E154_34.1 (k_ E154_34) rfl (s_getR E154_35.1 (k_ E154_35) rfl rfl (s_iload E154_38.1 (k_ E154_38) rfl (s_aload_n E154_40.1 (k_ E154_40) rfl (s_aload_n E154_41.1 (k_ E154_41) rfl (s_iload_n E154_42.1 (k_ E154_42) rfl (s_i2l E154_43.1 (k_ E154_43) (s_vcall1 E154_44.1 (k_ E154_44) rfl rfl rfl (h.2 c6) (fun M5 r6 z8 => s_i2l E154_47.1 (k_ E154_47) (s_aload_n E154_48.1 (k_ E154_48) rfl (s_getR E154_49.1 (k_ E154_49) rfl rfl (s_bipush E154_52.1 (k_ E154_52) (s_iload_n E154_54.1 (k_ E154_54) rfl (s_imul E154_55.1 (k_ E154_55) (s_iload E154_56.1 (k_ E154_56) rfl (s_iadd E154_58.1 (k_ E154_58) (s_iaload E154_59.1 (k_ E154_59) rfl ⟨z8.1, s_i2l E154_60.1 (k_ E154_60) (s_lmul E154_61.1 (k_ E154_61) (s_aload_n E154_62.1 (k_ E154_62) rfl (s_iload E154_63.1 (k_ E154_63) rfl (s_i2l E154_65.1 (k_ E154_65) (s_vcall1 E154_66.1 (k_ E154_66) rfl rfl rfl z8.2 (fun M8 r9 z9 => s_i2l E154_69.1 (k_ E154_69) (s_aload_n E154_70.1 (k_ E154_70) rfl (s_getR E154_71.1 (k_ E154_71) rfl rfl (s_bipush E154_74.1 (k_ E154_74) (s_iload_n E154_76.1 (k_ E154_76) rfl (s_imul E154_77.1 (k_ E154_77) (s_iload E154_78.1 (k_ E154_78) rfl (s_iadd E154_80.1 (k_ E154_80) (s_iaload E154_81.1 (k_ E154_81) rfl ⟨z9.1, s_i2l E154_82.1 (k_ E154_82) (s_lmul E154_83.1 (k_ E154_83) (s_ladd E154_84.1 (k_ E154_84) (s_vcall1 E154_85.1 (k_ E154_85) rfl rfl rfl z9.2 (fun M11 r12 z10 => s_iastore E154_88.1 (k_ E154_88) rfl ⟨z10.1, s_iinc E154_89.1 (k_ E154_89) rfl (s_goto E154_92.1 (k_ E154_92) (z10.2))⟩))))⟩))))))))))))))⟩))))))))))))))))⟩))
-- 155: X7_move
theorem E155_0 : aCode 155 0 = (Instr.iload_n 1, 1, [], 0) ∧ bMask 155 0 = [] := ⟨rfl, rfl⟩
theorem E155_1 : aCode 155 1 = (Instr.invokestatic 269, 4, [139, 1, 1, 0, 0, 113], 0) ∧ bMask 155 1 = [] := ⟨rfl, rfl⟩
theorem E155_4 : aCode 155 4 = (Instr.ifCond .eq 10, 7, [14], 0) ∧ bMask 155 4 = [] := ⟨rfl, rfl⟩
theorem E155_7 : aCode 155 7 = (Instr.iload_n 3, 8, [], 0) ∧ bMask 155 7 = [] := ⟨rfl, rfl⟩
theorem E155_8 : aCode 155 8 = (Instr.invokestatic 269, 11, [139, 1, 1, 0, 0, 113], 0) ∧ bMask 155 8 = [] := ⟨rfl, rfl⟩
theorem E155_11 : aCode 155 11 = (Instr.ifCond .ne 5, 14, [16], 0) ∧ bMask 155 11 = [] := ⟨rfl, rfl⟩
theorem E155_14 : aCode 155 14 = (Instr.iconst (-1), 15, [], (-1)) ∧ bMask 155 14 = [] := ⟨rfl, rfl⟩
theorem E155_15 : aCode 155 15 = (Instr.ireturn, 16, [0], 0) ∧ bMask 155 15 = [] := ⟨rfl, rfl⟩
theorem E155_16 : aCode 155 16 = (Instr.aload_n 0, 17, [], 0) ∧ bMask 155 16 = [] := ⟨rfl, rfl⟩
theorem E155_17 : aCode 155 17 = (Instr.getfield 108, 20, [113, 7, 48, 2], 0) ∧ bMask 155 17 = [] := ⟨rfl, rfl⟩
theorem E155_20 : aCode 155 20 = (Instr.iload_n 1, 21, [], 0) ∧ bMask 155 20 = [] := ⟨rfl, rfl⟩
theorem E155_21 : aCode 155 21 = (Instr.iaload, 22, [0], 0) ∧ bMask 155 21 = [] := ⟨rfl, rfl⟩
theorem E155_22 : aCode 155 22 = (Instr.ifCond .lt 12, 25, [34], 0) ∧ bMask 155 22 = [] := ⟨rfl, rfl⟩
theorem E155_25 : aCode 155 25 = (Instr.aload_n 0, 26, [], 0) ∧ bMask 155 25 = [] := ⟨rfl, rfl⟩
theorem E155_26 : aCode 155 26 = (Instr.getfield 108, 29, [113, 7, 48, 2], 0) ∧ bMask 155 26 = [] := ⟨rfl, rfl⟩
theorem E155_29 : aCode 155 29 = (Instr.iload_n 3, 30, [], 0) ∧ bMask 155 29 = [] := ⟨rfl, rfl⟩
theorem E155_30 : aCode 155 30 = (Instr.iaload, 31, [0], 0) ∧ bMask 155 30 = [] := ⟨rfl, rfl⟩
theorem E155_31 : aCode 155 31 = (Instr.ifCond .ge 6, 34, [37], 0) ∧ bMask 155 31 = [] := ⟨rfl, rfl⟩
theorem E155_34 : aCode 155 34 = (Instr.bipush (-11), 36, [], (-11)) ∧ bMask 155 34 = [] := ⟨rfl, rfl⟩
theorem E155_36 : aCode 155 36 = (Instr.ireturn, 37, [0], 0) ∧ bMask 155 36 = [] := ⟨rfl, rfl⟩
theorem E155_37 : aCode 155 37 = (Instr.aload_n 0, 38, [], 0) ∧ bMask 155 37 = [] := ⟨rfl, rfl⟩
theorem E155_38 : aCode 155 38 = (Instr.getfield 111, 41, [119, 7, 49, 2], 0) ∧ bMask 155 38 = [] := ⟨rfl, rfl⟩
theorem E155_41 : aCode 155 41 = (Instr.iload_n 1, 42, [], 0) ∧ bMask 155 41 = [] := ⟨rfl, rfl⟩
theorem E155_42 : aCode 155 42 = (Instr.iaload, 43, [0], 0) ∧ bMask 155 42 = [] := ⟨rfl, rfl⟩
theorem E155_43 : aCode 155 43 = (Instr.aload_n 0, 44, [], 0) ∧ bMask 155 43 = [] := ⟨rfl, rfl⟩
theorem E155_44 : aCode 155 44 = (Instr.getfield 111, 47, [119, 7, 49, 2], 0) ∧ bMask 155 44 = [] := ⟨rfl, rfl⟩
theorem E155_47 : aCode 155 47 = (Instr.iload_n 3, 48, [], 0) ∧ bMask 155 47 = [] := ⟨rfl, rfl⟩
theorem E155_48 : aCode 155 48 = (Instr.iaload, 49, [0], 0) ∧ bMask 155 48 = [] := ⟨rfl, rfl⟩
theorem E155_49 : aCode 155 49 = (Instr.if_icmp .eq 6, 52, [55], 0) ∧ bMask 155 49 = [] := ⟨rfl, rfl⟩
theorem E155_52 : aCode 155 52 = (Instr.bipush (-13), 54, [], (-13)) ∧ bMask 155 52 = [] := ⟨rfl, rfl⟩
theorem E155_54 : aCode 155 54 = (Instr.ireturn, 55, [0], 0) ∧ bMask 155 54 = [] := ⟨rfl, rfl⟩
theorem E155_55 : aCode 155 55 = (Instr.iload 5, 57, [], 0) ∧ bMask 155 55 = [] := ⟨rfl, rfl⟩
theorem E155_57 : aCode 155 57 = (Instr.ifCond .lt 39, 60, [96], 0) ∧ bMask 155 57 = [] := ⟨rfl, rfl⟩
theorem E155_60 : aCode 155 60 = (Instr.iload_n 2, 61, [], 0) ∧ bMask 155 60 = [] := ⟨rfl, rfl⟩
theorem E155_61 : aCode 155 61 = (Instr.ifCond .lt 35, 64, [96], 0) ∧ bMask 155 61 = [] := ⟨rfl, rfl⟩
theorem E155_64 : aCode 155 64 = (Instr.iload 4, 66, [], 0) ∧ bMask 155 64 = [] := ⟨rfl, rfl⟩
theorem E155_66 : aCode 155 66 = (Instr.ifCond .lt 30, 69, [96], 0) ∧ bMask 155 66 = [] := ⟨rfl, rfl⟩
theorem E155_69 : aCode 155 69 = (Instr.iload 5, 71, [], 0) ∧ bMask 155 69 = [] := ⟨rfl, rfl⟩
theorem E155_71 : aCode 155 71 = (Instr.aload_n 0, 72, [], 0) ∧ bMask 155 71 = [] := ⟨rfl, rfl⟩
theorem E155_72 : aCode 155 72 = (Instr.getfield 108, 75, [113, 7, 48, 2], 0) ∧ bMask 155 72 = [] := ⟨rfl, rfl⟩
theorem E155_75 : aCode 155 75 = (Instr.iload_n 1, 76, [], 0) ∧ bMask 155 75 = [] := ⟨rfl, rfl⟩
theorem E155_76 : aCode 155 76 = (Instr.iaload, 77, [0], 0) ∧ bMask 155 76 = [] := ⟨rfl, rfl⟩
theorem E155_77 : aCode 155 77 = (Instr.iload_n 2, 78, [], 0) ∧ bMask 155 77 = [] := ⟨rfl, rfl⟩
theorem E155_78 : aCode 155 78 = (Instr.isub, 79, [], 0) ∧ bMask 155 78 = [] := ⟨rfl, rfl⟩
theorem E155_79 : aCode 155 79 = (Instr.if_icmp .gt 17, 82, [96], 0) ∧ bMask 155 79 = [] := ⟨rfl, rfl⟩
theorem E155_82 : aCode 155 82 = (Instr.iload 5, 84, [], 0) ∧ bMask 155 82 = [] := ⟨rfl, rfl⟩
theorem E155_84 : aCode 155 84 = (Instr.aload_n 0, 85, [], 0) ∧ bMask 155 84 = [] := ⟨rfl, rfl⟩
theorem E155_85 : aCode 155 85 = (Instr.getfield 108, 88, [113, 7, 48, 2], 0) ∧ bMask 155 85 = [] := ⟨rfl, rfl⟩
theorem E155_88 : aCode 155 88 = (Instr.iload_n 3, 89, [], 0) ∧ bMask 155 88 = [] := ⟨rfl, rfl⟩
theorem E155_89 : aCode 155 89 = (Instr.iaload, 90, [0], 0) ∧ bMask 155 89 = [] := ⟨rfl, rfl⟩
theorem E155_90 : aCode 155 90 = (Instr.iload 4, 92, [], 0) ∧ bMask 155 90 = [] := ⟨rfl, rfl⟩
theorem E155_92 : aCode 155 92 = (Instr.isub, 93, [], 0) ∧ bMask 155 92 = [] := ⟨rfl, rfl⟩
theorem E155_93 : aCode 155 93 = (Instr.if_icmp .le 6, 96, [99], 0) ∧ bMask 155 93 = [] := ⟨rfl, rfl⟩
theorem E155_96 : aCode 155 96 = (Instr.bipush (-12), 98, [], (-12)) ∧ bMask 155 96 = [] := ⟨rfl, rfl⟩
theorem E155_98 : aCode 155 98 = (Instr.ireturn, 99, [0], 0) ∧ bMask 155 98 = [] := ⟨rfl, rfl⟩
theorem E155_99 : aCode 155 99 = (Instr.iconst 0, 100, [], 0) ∧ bMask 155 99 = [] := ⟨rfl, rfl⟩
theorem E155_100 : aCode 155 100 = (Instr.istore 6, 102, [], 0) ∧ bMask 155 100 = [] := ⟨rfl, rfl⟩
theorem E155_102 : aCode 155 102 = (Instr.iload 6, 104, [], 0) ∧ bMask 155 102 = [] := ⟨rfl, rfl⟩
theorem E155_104 : aCode 155 104 = (Instr.iload 5, 106, [], 0) ∧ bMask 155 104 = [] := ⟨rfl, rfl⟩
theorem E155_106 : aCode 155 106 = (Instr.if_icmp .ge 30, 109, [136], 0) ∧ bMask 155 106 = [] := ⟨rfl, rfl⟩
theorem E155_109 : aCode 155 109 = (Instr.aload_n 0, 110, [], 0) ∧ bMask 155 109 = [] := ⟨rfl, rfl⟩
theorem E155_110 : aCode 155 110 = (Instr.getfield 117, 113, [120, 7, 51, 2], 0) ∧ bMask 155 110 = [] := ⟨rfl, rfl⟩
theorem E155_113 : aCode 155 113 = (Instr.iload 6, 115, [], 0) ∧ bMask 155 113 = [] := ⟨rfl, rfl⟩
theorem E155_115 : aCode 155 115 = (Instr.aload_n 0, 116, [], 0) ∧ bMask 155 115 = [] := ⟨rfl, rfl⟩
theorem E155_116 : aCode 155 116 = (Instr.getfield 114, 119, [116, 7, 50, 2], 0) ∧ bMask 155 116 = [] := ⟨rfl, rfl⟩
theorem E155_119 : aCode 155 119 = (Instr.bipush 40, 121, [], 40) ∧ bMask 155 119 = [] := ⟨rfl, rfl⟩
theorem E155_121 : aCode 155 121 = (Instr.iload_n 1, 122, [], 0) ∧ bMask 155 121 = [] := ⟨rfl, rfl⟩
theorem E155_122 : aCode 155 122 = (Instr.imul, 123, [], 0) ∧ bMask 155 122 = [] := ⟨rfl, rfl⟩
theorem E155_123 : aCode 155 123 = (Instr.iload_n 2, 124, [], 0) ∧ bMask 155 123 = [] := ⟨rfl, rfl⟩
theorem E155_124 : aCode 155 124 = (Instr.iadd, 125, [], 0) ∧ bMask 155 124 = [] := ⟨rfl, rfl⟩
theorem E155_125 : aCode 155 125 = (Instr.iload 6, 127, [], 0) ∧ bMask 155 125 = [] := ⟨rfl, rfl⟩
theorem E155_127 : aCode 155 127 = (Instr.iadd, 128, [], 0) ∧ bMask 155 127 = [] := ⟨rfl, rfl⟩
theorem E155_128 : aCode 155 128 = (Instr.iaload, 129, [0], 0) ∧ bMask 155 128 = [] := ⟨rfl, rfl⟩
theorem E155_129 : aCode 155 129 = (Instr.iastore, 130, [0], 0) ∧ bMask 155 129 = [] := ⟨rfl, rfl⟩
theorem E155_130 : aCode 155 130 = (Instr.iinc 6 1, 133, [], 1) ∧ bMask 155 130 = [] := ⟨rfl, rfl⟩
theorem E155_133 : aCode 155 133 = (Instr.goto (-31), 102, [], 0) ∧ bMask 155 133 = [] := ⟨rfl, rfl⟩
theorem E155_136 : aCode 155 136 = (Instr.iconst 0, 137, [], 0) ∧ bMask 155 136 = [] := ⟨rfl, rfl⟩
theorem E155_137 : aCode 155 137 = (Instr.istore 6, 139, [], 0) ∧ bMask 155 137 = [] := ⟨rfl, rfl⟩
theorem E155_139 : aCode 155 139 = (Instr.iload 6, 141, [], 0) ∧ bMask 155 139 = [] := ⟨rfl, rfl⟩
theorem E155_141 : aCode 155 141 = (Instr.iload 5, 143, [], 0) ∧ bMask 155 141 = [] := ⟨rfl, rfl⟩
theorem E155_143 : aCode 155 143 = (Instr.if_icmp .ge 31, 146, [174], 0) ∧ bMask 155 143 = [] := ⟨rfl, rfl⟩
theorem E155_146 : aCode 155 146 = (Instr.aload_n 0, 147, [], 0) ∧ bMask 155 146 = [] := ⟨rfl, rfl⟩
theorem E155_147 : aCode 155 147 = (Instr.getfield 114, 150, [116, 7, 50, 2], 0) ∧ bMask 155 147 = [] := ⟨rfl, rfl⟩
theorem E155_150 : aCode 155 150 = (Instr.bipush 40, 152, [], 40) ∧ bMask 155 150 = [] := ⟨rfl, rfl⟩
theorem E155_152 : aCode 155 152 = (Instr.iload_n 3, 153, [], 0) ∧ bMask 155 152 = [] := ⟨rfl, rfl⟩
theorem E155_153 : aCode 155 153 = (Instr.imul, 154, [], 0) ∧ bMask 155 153 = [] := ⟨rfl, rfl⟩
theorem E155_154 : aCode 155 154 = (Instr.iload 4, 156, [], 0) ∧ bMask 155 154 = [] := ⟨rfl, rfl⟩
theorem E155_156 : aCode 155 156 = (Instr.iadd, 157, [], 0) ∧ bMask 155 156 = [] := ⟨rfl, rfl⟩
theorem E155_157 : aCode 155 157 = (Instr.iload 6, 159, [], 0) ∧ bMask 155 157 = [] := ⟨rfl, rfl⟩
theorem E155_159 : aCode 155 159 = (Instr.iadd, 160, [], 0) ∧ bMask 155 159 = [] := ⟨rfl, rfl⟩
theorem E155_160 : aCode 155 160 = (Instr.aload_n 0, 161, [], 0) ∧ bMask 155 160 = [] := ⟨rfl, rfl⟩
theorem E155_161 : aCode 155 161 = (Instr.getfield 117, 164, [120, 7, 51, 2], 0) ∧ bMask 155 161 = [] := ⟨rfl, rfl⟩
theorem E155_164 : aCode 155 164 = (Instr.iload 6, 166, [], 0) ∧ bMask 155 164 = [] := ⟨rfl, rfl⟩
theorem E155_166 : aCode 155 166 = (Instr.iaload, 167, [0], 0) ∧ bMask 155 166 = [] := ⟨rfl, rfl⟩
theorem E155_167 : aCode 155 167 = (Instr.iastore, 168, [0], 0) ∧ bMask 155 167 = [] := ⟨rfl, rfl⟩
theorem E155_168 : aCode 155 168 = (Instr.iinc 6 1, 171, [], 1) ∧ bMask 155 168 = [] := ⟨rfl, rfl⟩
theorem E155_171 : aCode 155 171 = (Instr.goto (-32), 139, [], 0) ∧ bMask 155 171 = [] := ⟨rfl, rfl⟩
theorem E155_174 : aCode 155 174 = (Instr.iload 5, 176, [], 0) ∧ bMask 155 174 = [] := ⟨rfl, rfl⟩
theorem E155_176 : aCode 155 176 = (Instr.ireturn, 177, [0], 0) ∧ bMask 155 176 = [] := ⟨rfl, rfl⟩
theorem g_X7_move_0 {Q : bQ} {M : bM} {x1 : Int32} {x2 : Int32} {x3 : Int32} {x4 : Int32} {x5 : Int32} (h : bCall 139 [cI x1] M (fun v1 M2 => bV1 v1 fun r3 => (((r3 = 0) → (Q (some (cI (-1 : Int32))) M2)) ∧ (¬ (r3 = 0) → (bCall 139 [cI x3] M2 (fun v4 M5 => bV1 v4 fun r6 => (((¬ r6 = 0) → ((vp_in x1 3) ∧ ((((M5 54 0 x1.toNatClampNeg) < 0) → (Q (some (cI (-11 : Int32))) M5)) ∧ (¬ ((M5 54 0 x1.toNatClampNeg) < 0) → ((vp_in x3 3) ∧ (((0 ≤ (M5 54 0 x3.toNatClampNeg)) → ((vp_in x1 3) ∧ ((vp_in x3 3) ∧ ((((M5 55 0 x1.toNatClampNeg) = (M5 55 0 x3.toNatClampNeg)) → (((x5 < 0) → (Q (some (cI (-12 : Int32))) M5)) ∧ (¬ (x5 < 0) → (((x2 < 0) → (Q (some (cI (-12 : Int32))) M5)) ∧ (¬ (x2 < 0) → (((x4 < 0) → (Q (some (cI (-12 : Int32))) M5)) ∧ (¬ (x4 < 0) → ((vp_in x1 3) ∧ (((((M5 54 0 x1.toNatClampNeg) - x2) < x5) → (Q (some (cI (-12 : Int32))) M5)) ∧ (¬ (((M5 54 0 x1.toNatClampNeg) - x2) < x5) → ((vp_in x3 3) ∧ (((x5 ≤ ((M5 54 0 x3.toNatClampNeg) - x4)) → bGo 155 Q 102 [some (cR 26 0), some (cI x1), some (cI x2), some (cI x3), some (cI x4), some (cI x5), some (cI (0 : Int32))] [] M5) ∧ (¬ (x5 ≤ ((M5 54 0 x3.toNatClampNeg) - x4)) → (Q (some (cI (-12 : Int32))) M5)))))))))))))) ∧ (¬ ((M5 55 0 x1.toNatClampNeg) = (M5 55 0 x3.toNatClampNeg)) → (Q (some (cI (-13 : Int32))) M5)))))) ∧ (¬ (0 ≤ (M5 54 0 x3.toNatClampNeg)) → (Q (some (cI (-11 : Int32))) M5)))))))) ∧ (¬ (¬ r6 = 0) → (Q (some (cI (-1 : Int32))) M5))))))))) : bCall 155 [cR 26 0, cI x1, cI x2, cI x3, cI x4, cI x5] M Q := s_iload_n E155_0.1 (k_ E155_0) rfl (s_scall1 E155_1.1 (k_ E155_1) rfl rfl rfl h (fun M2 r3 z0 => s_if_eq E155_4.1 (k_ E155_4) ⟨fun c1 => s_iconst E155_14.1 (k_ E155_14) (s_iret E155_15.1 (k_ E155_15) (z0.1 c1)), fun c1 => s_iload_n E155_7.1 (k_ E155_7) rfl (s_scall1 E155_8.1 (k_ E155_8) rfl rfl rfl (z0.2 c1) (fun M5 r6 z2 => s_if_ne E155_11.1 (k_ E155_11) ⟨fun c3 => s_aload_n E155_16.1 (k_ E155_16) rfl (s_getR E155_17.1 (k_ E155_17) rfl rfl (s_iload_n E155_20.1 (k_ E155_20) rfl (s_iaload E155_21.1 (k_ E155_21) rfl ⟨(z2.1 c3).1, s_if_lt E155_22.1 (k_ E155_22) ⟨fun c4 => s_bipush E155_34.1 (k_ E155_34) (s_iret E155_36.1 (k_ E155_36) (((z2.1 c3).2).1 c4)), fun c4 => s_aload_n E155_25.1 (k_ E155_25) rfl (s_getR E155_26.1 (k_ E155_26) rfl rfl (s_iload_n E155_29.1 (k_ E155_29) rfl (s_iaload E155_30.1 (k_ E155_30) rfl ⟨(((z2.1 c3).2).2 c4).1, s_if_ge E155_31.1 (k_ E155_31) ⟨fun c5 => s_aload_n E155_37.1 (k_ E155_37) rfl (s_getR E155_38.1 (k_ E155_38) rfl rfl (s_iload_n E155_41.1 (k_ E155_41) rfl (s_iaload E155_42.1 (k_ E155_42) rfl ⟨(((((z2.1 c3).2).2 c4).2).1 c5).1, s_aload_n E155_43.1 (k_ E155_43) rfl (s_getR E155_44.1 (k_ E155_44) rfl rfl (s_iload_n E155_47.1 (k_ E155_47) rfl (s_iaload E155_48.1 (k_ E155_48) rfl ⟨((((((z2.1 c3).2).2 c4).2).1 c5).2).1, s_icmp_eq E155_49.1 (k_ E155_49) ⟨fun c6 => s_iload E155_55.1 (k_ E155_55) rfl (s_if_lt E155_57.1 (k_ E155_57) ⟨fun c7 => s_bipush E155_96.1 (k_ E155_96) (s_iret E155_98.1 (k_ E155_98) (((((((((z2.1 c3).2).2 c4).2).1 c5).2).2).1 c6).1 c7)), fun c7 => s_iload_n E155_60.1 (k_ E155_60) rfl (s_if_lt E155_61.1 (k_ E155_61) ⟨fun c8 => s_bipush E155_96.1 (k_ E155_96) (s_iret E155_98.1 (k_ E155_98) ((((((((((z2.1 c3).2).2 c4).2).1 c5).2).2).1 c6).2 c7).1 c8)), fun c8 => s_iload E155_64.1 (k_ E155_64) rfl (s_if_lt E155_66.1 (k_ E155_66) ⟨fun c9 => s_bipush E155_96.1 (k_ E155_96) (s_iret E155_98.1 (k_ E155_98) (((((((((((z2.1 c3).2).2 c4).2).1 c5).2).2).1 c6).2 c7).2 c8).1 c9)), fun c9 => s_iload E155_69.1 (k_ E155_69) rfl (s_aload_n E155_71.1 (k_ E155_71) rfl (s_getR E155_72.1 (k_ E155_72) rfl rfl (s_iload_n E155_75.1 (k_ E155_75) rfl (s_iaload E155_76.1 (k_ E155_76) rfl ⟨(((((((((((z2.1 c3).2).2 c4).2).1 c5).2).2).1 c6).2 c7).2 c8).2 c9).1, s_iload_n E155_77.1 (k_ E155_77) rfl (s_isub E155_78.1 (k_ E155_78) (s_icmp_gt E155_79.1 (k_ E155_79) ⟨fun c10 => s_bipush E155_96.1 (k_ E155_96) (s_iret E155_98.1 (k_ E155_98) (((((((((((((z2.1 c3).2).2 c4).2).1 c5).2).2).1 c6).2 c7).2 c8).2 c9).2).1 c10)), fun c10 => s_iload E155_82.1 (k_ E155_82) rfl (s_aload_n E155_84.1 (k_ E155_84) rfl (s_getR E155_85.1 (k_ E155_85) rfl rfl (s_iload_n E155_88.1 (k_ E155_88) rfl (s_iaload E155_89.1 (k_ E155_89) rfl ⟨(((((((((((((z2.1 c3).2).2 c4).2).1 c5).2).2).1 c6).2 c7).2 c8).2 c9).2).2 c10).1, s_iload E155_90.1 (k_ E155_90) rfl (s_isub E155_92.1 (k_ E155_92) (s_icmp_le E155_93.1 (k_ E155_93) ⟨fun c11 => s_iconst E155_99.1 (k_ E155_99) (s_istore E155_100.1 (k_ E155_100) (((((((((((((((z2.1 c3).2).2 c4).2).1 c5).2).2).1 c6).2 c7).2 c8).2 c9).2).2 c10).2).1 c11)), fun c11 => s_bipush E155_96.1 (k_ E155_96) (s_iret E155_98.1 (k_ E155_98) (((((((((((((((z2.1 c3).2).2 c4).2).1 c5).2).2).1 c6).2 c7).2 c8).2 c9).2).2 c10).2).2 c11))⟩))⟩))))⟩))⟩))))⟩)⟩)⟩), fun c6 => s_bipush E155_52.1 (k_ E155_52) (s_iret E155_54.1 (k_ E155_54) ((((((((z2.1 c3).2).2 c4).2).1 c5).2).2).2 c6))⟩⟩)))⟩))), fun c5 => s_bipush E155_34.1 (k_ E155_34) (s_iret E155_36.1 (k_ E155_36) (((((z2.1 c3).2).2 c4).2).2 c5))⟩⟩)))⟩⟩))), fun c3 => s_iconst E155_14.1 (k_ E155_14) (s_iret E155_15.1 (k_ E155_15) (z2.2 c3))⟩))⟩))
theorem g_X7_move_102 {Q : bQ} {M : bM} {x1 : Int32} {x2 : Int32} {x3 : Int32} {x4 : Int32} {x5 : Int32} {x6 : Int32} (h : ((x5 ≤ x6) → bGo 155 Q 139 [some (cR 26 0), some (cI x1), some (cI x2), some (cI x3), some (cI x4), some (cI x5), some (cI (0 : Int32))] [] M) ∧ (¬ (x5 ≤ x6) → ((vp_in ((((40 : Int32) * x1) + x2) + x6) 120) ∧ ((vp_in x6 40) ∧ bGo 155 Q 102 [some (cR 26 0), some (cI x1), some (cI x2), some (cI x3), some (cI x4), some (cI x5), some (cI (x6 + (1 : Int32)))] [] (bU M 57 0 x6.toNatClampNeg (M 56 0 ((((40 : Int32) * x1) + x2) + x6).toNatClampNeg)))))) : bGo 155 Q 102 [some (cR 26 0), some (cI x1), some (cI x2), some (cI x3), some (cI x4), some (cI x5), some (cI x6)] [] M := s_iload E155_102.1 (k_ E155_102) rfl (s_iload E155_104.1 (k_ E155_104) rfl (s_icmp_ge E155_106.1 (k_ E155_106) ⟨fun c12 => s_iconst E155_136.1 (k_ E155_136) (s_istore E155_137.1 (k_ E155_137) (h.1 c12)), fun c12 => s_aload_n E155_109.1 (k_ E155_109) rfl (s_getR E155_110.1 (k_ E155_110) rfl rfl (s_iload E155_113.1 (k_ E155_113) rfl (s_aload_n E155_115.1 (k_ E155_115) rfl (s_getR E155_116.1 (k_ E155_116) rfl rfl (s_bipush E155_119.1 (k_ E155_119) (s_iload_n E155_121.1 (k_ E155_121) rfl (s_imul E155_122.1 (k_ E155_122) (s_iload_n E155_123.1 (k_ E155_123) rfl (s_iadd E155_124.1 (k_ E155_124) (s_iload E155_125.1 (k_ E155_125) rfl (s_iadd E155_127.1 (k_ E155_127) (s_iaload E155_128.1 (k_ E155_128) rfl ⟨(h.2 c12).1, s_iastore E155_129.1 (k_ E155_129) rfl ⟨((h.2 c12).2).1, s_iinc E155_130.1 (k_ E155_130) rfl (s_goto E155_133.1 (k_ E155_133) (((h.2 c12).2).2))⟩⟩))))))))))))⟩))
theorem g_X7_move_139 {Q : bQ} {M : bM} {x1 : Int32} {x2 : Int32} {x3 : Int32} {x4 : Int32} {x5 : Int32} {x6 : Int32} (h : ((x5 ≤ x6) → (Q (some (cI x5)) M)) ∧ (¬ (x5 ≤ x6) → ((vp_in x6 40) ∧ ((vp_in ((((40 : Int32) * x3) + x4) + x6) 120) ∧ bGo 155 Q 139 [some (cR 26 0), some (cI x1), some (cI x2), some (cI x3), some (cI x4), some (cI x5), some (cI (x6 + (1 : Int32)))] [] (bU M 56 0 ((((40 : Int32) * x3) + x4) + x6).toNatClampNeg (M 57 0 x6.toNatClampNeg)))))) : bGo 155 Q 139 [some (cR 26 0), some (cI x1), some (cI x2), some (cI x3), some (cI x4), some (cI x5), some (cI x6)] [] M := s_iload E155_139.1 (k_ E155_139) rfl (s_iload E155_141.1 (k_ E155_141) rfl (s_icmp_ge E155_143.1 (k_ E155_143) ⟨fun c13 => s_iload E155_174.1 (k_ E155_174) rfl (s_iret E155_176.1 (k_ E155_176) (h.1 c13)), fun c13 => s_aload_n E155_146.1 (k_ E155_146) rfl (s_getR E155_147.1 (k_ E155_147) rfl rfl (s_bipush E155_150.1 (k_ E155_150) (s_iload_n E155_152.1 (k_ E155_152) rfl (s_imul E155_153.1 (k_ E155_153) (s_iload E155_154.1 (k_ E155_154) rfl (s_iadd E155_156.1 (k_ E155_156) (s_iload E155_157.1 (k_ E155_157) rfl (s_iadd E155_159.1 (k_ E155_159) (s_aload_n E155_160.1 (k_ E155_160) rfl (s_getR E155_161.1 (k_ E155_161) rfl rfl (s_iload E155_164.1 (k_ E155_164) rfl (s_iaload E155_166.1 (k_ E155_166) rfl ⟨(h.2 c13).1, s_iastore E155_167.1 (k_ E155_167) rfl ⟨((h.2 c13).2).1, s_iinc E155_168.1 (k_ E155_168) rfl (s_goto E155_171.1 (k_ E155_171) (((h.2 c13).2).2))⟩⟩))))))))))))⟩))
-- 156: X7_moves
theorem E156_0 : aCode 156 0 = (Instr.aload_n 0, 1, [], 0) ∧ bMask 156 0 = [] := ⟨rfl, rfl⟩
theorem E156_1 : aCode 156 1 = (Instr.getfield 84, 4, [85, 7, 40, 2], 0) ∧ bMask 156 1 = [] := ⟨rfl, rfl⟩
theorem E156_4 : aCode 156 4 = (Instr.iload_n 1, 5, [], 0) ∧ bMask 156 4 = [] := ⟨rfl, rfl⟩
theorem E156_5 : aCode 156 5 = (Instr.aload_n 0, 6, [], 0) ∧ bMask 156 5 = [] := ⟨rfl, rfl⟩
theorem E156_6 : aCode 156 6 = (Instr.getfield 84, 9, [85, 7, 40, 2], 0) ∧ bMask 156 6 = [] := ⟨rfl, rfl⟩
theorem E156_9 : aCode 156 9 = (Instr.iload_n 1, 10, [], 0) ∧ bMask 156 9 = [] := ⟨rfl, rfl⟩
theorem E156_10 : aCode 156 10 = (Instr.iconst 1, 11, [], 1) ∧ bMask 156 10 = [] := ⟨rfl, rfl⟩
theorem E156_11 : aCode 156 11 = (Instr.iadd, 12, [], 0) ∧ bMask 156 11 = [] := ⟨rfl, rfl⟩
theorem E156_12 : aCode 156 12 = (Instr.iaload, 13, [0], 0) ∧ bMask 156 12 = [] := ⟨rfl, rfl⟩
theorem E156_13 : aCode 156 13 = (Instr.iastore, 14, [0], 0) ∧ bMask 156 13 = [] := ⟨rfl, rfl⟩
theorem E156_14 : aCode 156 14 = (Instr.aload_n 0, 15, [], 0) ∧ bMask 156 14 = [] := ⟨rfl, rfl⟩
theorem E156_15 : aCode 156 15 = (Instr.getfield 87, 18, [86, 7, 41, 2], 0) ∧ bMask 156 15 = [] := ⟨rfl, rfl⟩
theorem E156_18 : aCode 156 18 = (Instr.iload_n 1, 19, [], 0) ∧ bMask 156 18 = [] := ⟨rfl, rfl⟩
theorem E156_19 : aCode 156 19 = (Instr.aload_n 0, 20, [], 0) ∧ bMask 156 19 = [] := ⟨rfl, rfl⟩
theorem E156_20 : aCode 156 20 = (Instr.getfield 87, 23, [86, 7, 41, 2], 0) ∧ bMask 156 20 = [] := ⟨rfl, rfl⟩
theorem E156_23 : aCode 156 23 = (Instr.iload_n 1, 24, [], 0) ∧ bMask 156 23 = [] := ⟨rfl, rfl⟩
theorem E156_24 : aCode 156 24 = (Instr.iconst 1, 25, [], 1) ∧ bMask 156 24 = [] := ⟨rfl, rfl⟩
theorem E156_25 : aCode 156 25 = (Instr.iadd, 26, [], 0) ∧ bMask 156 25 = [] := ⟨rfl, rfl⟩
theorem E156_26 : aCode 156 26 = (Instr.iaload, 27, [0], 0) ∧ bMask 156 26 = [] := ⟨rfl, rfl⟩
theorem E156_27 : aCode 156 27 = (Instr.iastore, 28, [0], 0) ∧ bMask 156 27 = [] := ⟨rfl, rfl⟩
theorem E156_28 : aCode 156 28 = (Instr.aload_n 0, 29, [], 0) ∧ bMask 156 28 = [] := ⟨rfl, rfl⟩
theorem E156_29 : aCode 156 29 = (Instr.getfield 90, 32, [87, 7, 42, 2], 0) ∧ bMask 156 29 = [] := ⟨rfl, rfl⟩
theorem E156_32 : aCode 156 32 = (Instr.iload_n 1, 33, [], 0) ∧ bMask 156 32 = [] := ⟨rfl, rfl⟩
theorem E156_33 : aCode 156 33 = (Instr.aload_n 0, 34, [], 0) ∧ bMask 156 33 = [] := ⟨rfl, rfl⟩
theorem E156_34 : aCode 156 34 = (Instr.getfield 90, 37, [87, 7, 42, 2], 0) ∧ bMask 156 34 = [] := ⟨rfl, rfl⟩
theorem E156_37 : aCode 156 37 = (Instr.iload_n 1, 38, [], 0) ∧ bMask 156 37 = [] := ⟨rfl, rfl⟩
theorem E156_38 : aCode 156 38 = (Instr.iconst 1, 39, [], 1) ∧ bMask 156 38 = [] := ⟨rfl, rfl⟩
theorem E156_39 : aCode 156 39 = (Instr.iadd, 40, [], 0) ∧ bMask 156 39 = [] := ⟨rfl, rfl⟩
theorem E156_40 : aCode 156 40 = (Instr.iaload, 41, [0], 0) ∧ bMask 156 40 = [] := ⟨rfl, rfl⟩
theorem E156_41 : aCode 156 41 = (Instr.iastore, 42, [0], 0) ∧ bMask 156 41 = [] := ⟨rfl, rfl⟩
theorem E156_42 : aCode 156 42 = (Instr.aload_n 0, 43, [], 0) ∧ bMask 156 42 = [] := ⟨rfl, rfl⟩
theorem E156_43 : aCode 156 43 = (Instr.getfield 93, 46, [88, 7, 43, 2], 0) ∧ bMask 156 43 = [] := ⟨rfl, rfl⟩
theorem E156_46 : aCode 156 46 = (Instr.iload_n 1, 47, [], 0) ∧ bMask 156 46 = [] := ⟨rfl, rfl⟩
theorem E156_47 : aCode 156 47 = (Instr.aload_n 0, 48, [], 0) ∧ bMask 156 47 = [] := ⟨rfl, rfl⟩
theorem E156_48 : aCode 156 48 = (Instr.getfield 93, 51, [88, 7, 43, 2], 0) ∧ bMask 156 48 = [] := ⟨rfl, rfl⟩
theorem E156_51 : aCode 156 51 = (Instr.iload_n 1, 52, [], 0) ∧ bMask 156 51 = [] := ⟨rfl, rfl⟩
theorem E156_52 : aCode 156 52 = (Instr.iconst 1, 53, [], 1) ∧ bMask 156 52 = [] := ⟨rfl, rfl⟩
theorem E156_53 : aCode 156 53 = (Instr.iadd, 54, [], 0) ∧ bMask 156 53 = [] := ⟨rfl, rfl⟩
theorem E156_54 : aCode 156 54 = (Instr.iaload, 55, [0], 0) ∧ bMask 156 54 = [] := ⟨rfl, rfl⟩
theorem E156_55 : aCode 156 55 = (Instr.iastore, 56, [0], 0) ∧ bMask 156 55 = [] := ⟨rfl, rfl⟩
theorem E156_56 : aCode 156 56 = (Instr.aload_n 0, 57, [], 0) ∧ bMask 156 56 = [] := ⟨rfl, rfl⟩
theorem E156_57 : aCode 156 57 = (Instr.getfield 96, 60, [89, 7, 44, 2], 0) ∧ bMask 156 57 = [] := ⟨rfl, rfl⟩
theorem E156_60 : aCode 156 60 = (Instr.iload_n 1, 61, [], 0) ∧ bMask 156 60 = [] := ⟨rfl, rfl⟩
theorem E156_61 : aCode 156 61 = (Instr.aload_n 0, 62, [], 0) ∧ bMask 156 61 = [] := ⟨rfl, rfl⟩
theorem E156_62 : aCode 156 62 = (Instr.getfield 96, 65, [89, 7, 44, 2], 0) ∧ bMask 156 62 = [] := ⟨rfl, rfl⟩
theorem E156_65 : aCode 156 65 = (Instr.iload_n 1, 66, [], 0) ∧ bMask 156 65 = [] := ⟨rfl, rfl⟩
theorem E156_66 : aCode 156 66 = (Instr.iconst 1, 67, [], 1) ∧ bMask 156 66 = [] := ⟨rfl, rfl⟩
theorem E156_67 : aCode 156 67 = (Instr.iadd, 68, [], 0) ∧ bMask 156 67 = [] := ⟨rfl, rfl⟩
theorem E156_68 : aCode 156 68 = (Instr.iaload, 69, [0], 0) ∧ bMask 156 68 = [] := ⟨rfl, rfl⟩
theorem E156_69 : aCode 156 69 = (Instr.iastore, 70, [0], 0) ∧ bMask 156 69 = [] := ⟨rfl, rfl⟩
theorem E156_70 : aCode 156 70 = (Instr.aload_n 0, 71, [], 0) ∧ bMask 156 70 = [] := ⟨rfl, rfl⟩
theorem E156_71 : aCode 156 71 = (Instr.getfield 99, 74, [90, 7, 45, 2], 0) ∧ bMask 156 71 = [] := ⟨rfl, rfl⟩
theorem E156_74 : aCode 156 74 = (Instr.iload_n 1, 75, [], 0) ∧ bMask 156 74 = [] := ⟨rfl, rfl⟩
theorem E156_75 : aCode 156 75 = (Instr.aload_n 0, 76, [], 0) ∧ bMask 156 75 = [] := ⟨rfl, rfl⟩
theorem E156_76 : aCode 156 76 = (Instr.getfield 99, 79, [90, 7, 45, 2], 0) ∧ bMask 156 76 = [] := ⟨rfl, rfl⟩
theorem E156_79 : aCode 156 79 = (Instr.iload_n 1, 80, [], 0) ∧ bMask 156 79 = [] := ⟨rfl, rfl⟩
theorem E156_80 : aCode 156 80 = (Instr.iconst 1, 81, [], 1) ∧ bMask 156 80 = [] := ⟨rfl, rfl⟩
theorem E156_81 : aCode 156 81 = (Instr.iadd, 82, [], 0) ∧ bMask 156 81 = [] := ⟨rfl, rfl⟩
theorem E156_82 : aCode 156 82 = (Instr.iaload, 83, [0], 0) ∧ bMask 156 82 = [] := ⟨rfl, rfl⟩
theorem E156_83 : aCode 156 83 = (Instr.iastore, 84, [0], 0) ∧ bMask 156 83 = [] := ⟨rfl, rfl⟩
theorem E156_84 : aCode 156 84 = (Instr.aload_n 0, 85, [], 0) ∧ bMask 156 84 = [] := ⟨rfl, rfl⟩
theorem E156_85 : aCode 156 85 = (Instr.getfield 102, 88, [91, 7, 46, 2], 0) ∧ bMask 156 85 = [] := ⟨rfl, rfl⟩
theorem E156_88 : aCode 156 88 = (Instr.iload_n 1, 89, [], 0) ∧ bMask 156 88 = [] := ⟨rfl, rfl⟩
theorem E156_89 : aCode 156 89 = (Instr.aload_n 0, 90, [], 0) ∧ bMask 156 89 = [] := ⟨rfl, rfl⟩
theorem E156_90 : aCode 156 90 = (Instr.getfield 102, 93, [91, 7, 46, 2], 0) ∧ bMask 156 90 = [] := ⟨rfl, rfl⟩
theorem E156_93 : aCode 156 93 = (Instr.iload_n 1, 94, [], 0) ∧ bMask 156 93 = [] := ⟨rfl, rfl⟩
theorem E156_94 : aCode 156 94 = (Instr.iconst 1, 95, [], 1) ∧ bMask 156 94 = [] := ⟨rfl, rfl⟩
theorem E156_95 : aCode 156 95 = (Instr.iadd, 96, [], 0) ∧ bMask 156 95 = [] := ⟨rfl, rfl⟩
theorem E156_96 : aCode 156 96 = (Instr.iaload, 97, [0], 0) ∧ bMask 156 96 = [] := ⟨rfl, rfl⟩
theorem E156_97 : aCode 156 97 = (Instr.iastore, 98, [0], 0) ∧ bMask 156 97 = [] := ⟨rfl, rfl⟩
theorem E156_98 : aCode 156 98 = (Instr.iconst 0, 99, [], 0) ∧ bMask 156 98 = [] := ⟨rfl, rfl⟩
theorem E156_99 : aCode 156 99 = (Instr.istore_n 2, 100, [], 0) ∧ bMask 156 99 = [] := ⟨rfl, rfl⟩
theorem E156_100 : aCode 156 100 = (Instr.iload_n 2, 101, [], 0) ∧ bMask 156 100 = [] := ⟨rfl, rfl⟩
theorem E156_101 : aCode 156 101 = (Instr.sipush 132, 104, [], 132) ∧ bMask 156 101 = [] := ⟨rfl, rfl⟩
theorem E156_104 : aCode 156 104 = (Instr.if_icmp .ge 37, 107, [141], 0) ∧ bMask 156 104 = [] := ⟨rfl, rfl⟩
theorem E156_107 : aCode 156 107 = (Instr.aload_n 0, 108, [], 0) ∧ bMask 156 107 = [] := ⟨rfl, rfl⟩
theorem E156_108 : aCode 156 108 = (Instr.getfield 105, 111, [118, 7, 47, 2], 0) ∧ bMask 156 108 = [] := ⟨rfl, rfl⟩
theorem E156_111 : aCode 156 111 = (Instr.sipush 132, 114, [], 132) ∧ bMask 156 111 = [] := ⟨rfl, rfl⟩
theorem E156_114 : aCode 156 114 = (Instr.iload_n 1, 115, [], 0) ∧ bMask 156 114 = [] := ⟨rfl, rfl⟩
theorem E156_115 : aCode 156 115 = (Instr.imul, 116, [], 0) ∧ bMask 156 115 = [] := ⟨rfl, rfl⟩
theorem E156_116 : aCode 156 116 = (Instr.iload_n 2, 117, [], 0) ∧ bMask 156 116 = [] := ⟨rfl, rfl⟩
theorem E156_117 : aCode 156 117 = (Instr.iadd, 118, [], 0) ∧ bMask 156 117 = [] := ⟨rfl, rfl⟩
theorem E156_118 : aCode 156 118 = (Instr.aload_n 0, 119, [], 0) ∧ bMask 156 118 = [] := ⟨rfl, rfl⟩
theorem E156_119 : aCode 156 119 = (Instr.getfield 105, 122, [118, 7, 47, 2], 0) ∧ bMask 156 119 = [] := ⟨rfl, rfl⟩
theorem E156_122 : aCode 156 122 = (Instr.sipush 132, 125, [], 132) ∧ bMask 156 122 = [] := ⟨rfl, rfl⟩
theorem E156_125 : aCode 156 125 = (Instr.iload_n 1, 126, [], 0) ∧ bMask 156 125 = [] := ⟨rfl, rfl⟩
theorem E156_126 : aCode 156 126 = (Instr.imul, 127, [], 0) ∧ bMask 156 126 = [] := ⟨rfl, rfl⟩
theorem E156_127 : aCode 156 127 = (Instr.sipush 132, 130, [], 132) ∧ bMask 156 127 = [] := ⟨rfl, rfl⟩
theorem E156_130 : aCode 156 130 = (Instr.iadd, 131, [], 0) ∧ bMask 156 130 = [] := ⟨rfl, rfl⟩
theorem E156_131 : aCode 156 131 = (Instr.iload_n 2, 132, [], 0) ∧ bMask 156 131 = [] := ⟨rfl, rfl⟩
theorem E156_132 : aCode 156 132 = (Instr.iadd, 133, [], 0) ∧ bMask 156 132 = [] := ⟨rfl, rfl⟩
theorem E156_133 : aCode 156 133 = (Instr.iaload, 134, [0], 0) ∧ bMask 156 133 = [] := ⟨rfl, rfl⟩
theorem E156_134 : aCode 156 134 = (Instr.iastore, 135, [0], 0) ∧ bMask 156 134 = [] := ⟨rfl, rfl⟩
theorem E156_135 : aCode 156 135 = (Instr.iinc 2 1, 138, [], 1) ∧ bMask 156 135 = [] := ⟨rfl, rfl⟩
theorem E156_138 : aCode 156 138 = (Instr.goto (-38), 100, [], 0) ∧ bMask 156 138 = [] := ⟨rfl, rfl⟩
theorem E156_141 : aCode 156 141 = (Instr.return_, 142, [], 0) ∧ bMask 156 141 = [] := ⟨rfl, rfl⟩
theorem g_X7_moves_0 {Q : bQ} {M : bM} {x1 : Int32} (h : (vp_in (x1 + (1 : Int32)) 8) ∧ ((vp_in x1 8) ∧ ((vp_in (x1 + (1 : Int32)) 8) ∧ ((vp_in x1 8) ∧ ((vp_in (x1 + (1 : Int32)) 8) ∧ ((vp_in x1 8) ∧ ((vp_in (x1 + (1 : Int32)) 8) ∧ ((vp_in x1 8) ∧ ((vp_in (x1 + (1 : Int32)) 8) ∧ ((vp_in x1 8) ∧ ((vp_in (x1 + (1 : Int32)) 8) ∧ ((vp_in x1 8) ∧ ((vp_in (x1 + (1 : Int32)) 8) ∧ ((vp_in x1 8) ∧ bGo 156 Q 100 [some (cR 26 0), some (cI x1), some (cI (0 : Int32))] [] (bU (bU (bU (bU (bU (bU (bU M 46 0 x1.toNatClampNeg (M 46 0 (x1 + (1 : Int32)).toNatClampNeg)) 47 0 x1.toNatClampNeg ((bU M 46 0 x1.toNatClampNeg (M 46 0 (x1 + (1 : Int32)).toNatClampNeg)) 47 0 (x1 + (1 : Int32)).toNatClampNeg)) 48 0 x1.toNatClampNeg ((bU (bU M 46 0 x1.toNatClampNeg (M 46 0 (x1 + (1 : Int32)).toNatClampNeg)) 47 0 x1.toNatClampNeg ((bU M 46 0 x1.toNatClampNeg (M 46 0 (x1 + (1 : Int32)).toNatClampNeg)) 47 0 (x1 + (1 : Int32)).toNatClampNeg)) 48 0 (x1 + (1 : Int32)).toNatClampNeg)) 49 0 x1.toNatClampNeg ((bU (bU (bU M 46 0 x1.toNatClampNeg (M 46 0 (x1 + (1 : Int32)).toNatClampNeg)) 47 0 x1.toNatClampNeg ((bU M 46 0 x1.toNatClampNeg (M 46 0 (x1 + (1 : Int32)).toNatClampNeg)) 47 0 (x1 + (1 : Int32)).toNatClampNeg)) 48 0 x1.toNatClampNeg ((bU (bU M 46 0 x1.toNatClampNeg (M 46 0 (x1 + (1 : Int32)).toNatClampNeg)) 47 0 x1.toNatClampNeg ((bU M 46 0 x1.toNatClampNeg (M 46 0 (x1 + (1 : Int32)).toNatClampNeg)) 47 0 (x1 + (1 : Int32)).toNatClampNeg)) 48 0 (x1 + (1 : Int32)).toNatClampNeg)) 49 0 (x1 + (1 : Int32)).toNatClampNeg)) 50 0 x1.toNatClampNeg ((bU (bU (bU (bU M 46 0 x1.toNatClampNeg (M 46 0 (x1 + (1 : Int32)).toNatClampNeg)) 47 0 x1.toNatClampNeg ((bU M 46 0 x1.toNatClampNeg (M 46 0 (x1 + (1 : Int32)).toNatClampNeg)) 47 0 (x1 + (1 : Int32)).toNatClampNeg)) 48 0 x1.toNatClampNeg ((bU (bU M 46 0 x1.toNatClampNeg (M 46 0 (x1 + (1 : Int32)).toNatClampNeg)) 47 0 x1.toNatClampNeg ((bU M 46 0 x1.toNatClampNeg (M 46 0 (x1 + (1 : Int32)).toNatClampNeg)) 47 0 (x1 + (1 : Int32)).toNatClampNeg)) 48 0 (x1 + (1 : Int32)).toNatClampNeg)) 49 0 x1.toNatClampNeg ((bU (bU (bU M 46 0 x1.toNatClampNeg (M 46 0 (x1 + (1 : Int32)).toNatClampNeg)) 47 0 x1.toNatClampNeg ((bU M 46 0 x1.toNatClampNeg (M 46 0 (x1 + (1 : Int32)).toNatClampNeg)) 47 0 (x1 + (1 : Int32)).toNatClampNeg)) 48 0 x1.toNatClampNeg ((bU (bU M 46 0 x1.toNatClampNeg (M 46 0 (x1 + (1 : Int32)).toNatClampNeg)) 47 0 x1.toNatClampNeg ((bU M 46 0 x1.toNatClampNeg (M 46 0 (x1 + (1 : Int32)).toNatClampNeg)) 47 0 (x1 + (1 : Int32)).toNatClampNeg)) 48 0 (x1 + (1 : Int32)).toNatClampNeg)) 49 0 (x1 + (1 : Int32)).toNatClampNeg)) 50 0 (x1 + (1 : Int32)).toNatClampNeg)) 51 0 x1.toNatClampNeg ((bU (bU (bU (bU (bU M 46 0 x1.toNatClampNeg (M 46 0 (x1 + (1 : Int32)).toNatClampNeg)) 47 0 x1.toNatClampNeg ((bU M 46 0 x1.toNatClampNeg (M 46 0 (x1 + (1 : Int32)).toNatClampNeg)) 47 0 (x1 + (1 : Int32)).toNatClampNeg)) 48 0 x1.toNatClampNeg ((bU (bU M 46 0 x1.toNatClampNeg (M 46 0 (x1 + (1 : Int32)).toNatClampNeg)) 47 0 x1.toNatClampNeg ((bU M 46 0 x1.toNatClampNeg (M 46 0 (x1 + (1 : Int32)).toNatClampNeg)) 47 0 (x1 + (1 : Int32)).toNatClampNeg)) 48 0 (x1 + (1 : Int32)).toNatClampNeg)) 49 0 x1.toNatClampNeg ((bU (bU (bU M 46 0 x1.toNatClampNeg (M 46 0 (x1 + (1 : Int32)).toNatClampNeg)) 47 0 x1.toNatClampNeg ((bU M 46 0 x1.toNatClampNeg (M 46 0 (x1 + (1 : Int32)).toNatClampNeg)) 47 0 (x1 + (1 : Int32)).toNatClampNeg)) 48 0 x1.toNatClampNeg ((bU (bU M 46 0 x1.toNatClampNeg (M 46 0 (x1 + (1 : Int32)).toNatClampNeg)) 47 0 x1.toNatClampNeg ((bU M 46 0 x1.toNatClampNeg (M 46 0 (x1 + (1 : Int32)).toNatClampNeg)) 47 0 (x1 + (1 : Int32)).toNatClampNeg)) 48 0 (x1 + (1 : Int32)).toNatClampNeg)) 49 0 (x1 + (1 : Int32)).toNatClampNeg)) 50 0 x1.toNatClampNeg ((bU (bU (bU (bU M 46 0 x1.toNatClampNeg (M 46 0 (x1 + (1 : Int32)).toNatClampNeg)) 47 0 x1.toNatClampNeg ((bU M 46 0 x1.toNatClampNeg (M 46 0 (x1 + (1 : Int32)).toNatClampNeg)) 47 0 (x1 + (1 : Int32)).toNatClampNeg)) 48 0 x1.toNatClampNeg ((bU (bU M 46 0 x1.toNatClampNeg (M 46 0 (x1 + (1 : Int32)).toNatClampNeg)) 47 0 x1.toNatClampNeg ((bU M 46 0 x1.toNatClampNeg (M 46 0 (x1 + (1 : Int32)).toNatClampNeg)) 47 0 (x1 + (1 : Int32)).toNatClampNeg)) 48 0 (x1 + (1 : Int32)).toNatClampNeg)) 49 0 x1.toNatClampNeg ((bU (bU (bU M 46 0 x1.toNatClampNeg (M 46 0 (x1 + (1 : Int32)).toNatClampNeg)) 47 0 x1.toNatClampNeg ((bU M 46 0 x1.toNatClampNeg (M 46 0 (x1 + (1 : Int32)).toNatClampNeg)) 47 0 (x1 + (1 : Int32)).toNatClampNeg)) 48 0 x1.toNatClampNeg ((bU (bU M 46 0 x1.toNatClampNeg (M 46 0 (x1 + (1 : Int32)).toNatClampNeg)) 47 0 x1.toNatClampNeg ((bU M 46 0 x1.toNatClampNeg (M 46 0 (x1 + (1 : Int32)).toNatClampNeg)) 47 0 (x1 + (1 : Int32)).toNatClampNeg)) 48 0 (x1 + (1 : Int32)).toNatClampNeg)) 49 0 (x1 + (1 : Int32)).toNatClampNeg)) 50 0 (x1 + (1 : Int32)).toNatClampNeg)) 51 0 (x1 + (1 : Int32)).toNatClampNeg)) 52 0 x1.toNatClampNeg ((bU (bU (bU (bU (bU (bU M 46 0 x1.toNatClampNeg (M 46 0 (x1 + (1 : Int32)).toNatClampNeg)) 47 0 x1.toNatClampNeg ((bU M 46 0 x1.toNatClampNeg (M 46 0 (x1 + (1 : Int32)).toNatClampNeg)) 47 0 (x1 + (1 : Int32)).toNatClampNeg)) 48 0 x1.toNatClampNeg ((bU (bU M 46 0 x1.toNatClampNeg (M 46 0 (x1 + (1 : Int32)).toNatClampNeg)) 47 0 x1.toNatClampNeg ((bU M 46 0 x1.toNatClampNeg (M 46 0 (x1 + (1 : Int32)).toNatClampNeg)) 47 0 (x1 + (1 : Int32)).toNatClampNeg)) 48 0 (x1 + (1 : Int32)).toNatClampNeg)) 49 0 x1.toNatClampNeg ((bU (bU (bU M 46 0 x1.toNatClampNeg (M 46 0 (x1 + (1 : Int32)).toNatClampNeg)) 47 0 x1.toNatClampNeg ((bU M 46 0 x1.toNatClampNeg (M 46 0 (x1 + (1 : Int32)).toNatClampNeg)) 47 0 (x1 + (1 : Int32)).toNatClampNeg)) 48 0 x1.toNatClampNeg ((bU (bU M 46 0 x1.toNatClampNeg (M 46 0 (x1 + (1 : Int32)).toNatClampNeg)) 47 0 x1.toNatClampNeg ((bU M 46 0 x1.toNatClampNeg (M 46 0 (x1 + (1 : Int32)).toNatClampNeg)) 47 0 (x1 + (1 : Int32)).toNatClampNeg)) 48 0 (x1 + (1 : Int32)).toNatClampNeg)) 49 0 (x1 + (1 : Int32)).toNatClampNeg)) 50 0 x1.toNatClampNeg ((bU (bU (bU (bU M 46 0 x1.toNatClampNeg (M 46 0 (x1 + (1 : Int32)).toNatClampNeg)) 47 0 x1.toNatClampNeg ((bU M 46 0 x1.toNatClampNeg (M 46 0 (x1 + (1 : Int32)).toNatClampNeg)) 47 0 (x1 + (1 : Int32)).toNatClampNeg)) 48 0 x1.toNatClampNeg ((bU (bU M 46 0 x1.toNatClampNeg (M 46 0 (x1 + (1 : Int32)).toNatClampNeg)) 47 0 x1.toNatClampNeg ((bU M 46 0 x1.toNatClampNeg (M 46 0 (x1 + (1 : Int32)).toNatClampNeg)) 47 0 (x1 + (1 : Int32)).toNatClampNeg)) 48 0 (x1 + (1 : Int32)).toNatClampNeg)) 49 0 x1.toNatClampNeg ((bU (bU (bU M 46 0 x1.toNatClampNeg (M 46 0 (x1 + (1 : Int32)).toNatClampNeg)) 47 0 x1.toNatClampNeg ((bU M 46 0 x1.toNatClampNeg (M 46 0 (x1 + (1 : Int32)).toNatClampNeg)) 47 0 (x1 + (1 : Int32)).toNatClampNeg)) 48 0 x1.toNatClampNeg ((bU (bU M 46 0 x1.toNatClampNeg (M 46 0 (x1 + (1 : Int32)).toNatClampNeg)) 47 0 x1.toNatClampNeg ((bU M 46 0 x1.toNatClampNeg (M 46 0 (x1 + (1 : Int32)).toNatClampNeg)) 47 0 (x1 + (1 : Int32)).toNatClampNeg)) 48 0 (x1 + (1 : Int32)).toNatClampNeg)) 49 0 (x1 + (1 : Int32)).toNatClampNeg)) 50 0 (x1 + (1 : Int32)).toNatClampNeg)) 51 0 x1.toNatClampNeg ((bU (bU (bU (bU (bU M 46 0 x1.toNatClampNeg (M 46 0 (x1 + (1 : Int32)).toNatClampNeg)) 47 0 x1.toNatClampNeg ((bU M 46 0 x1.toNatClampNeg (M 46 0 (x1 + (1 : Int32)).toNatClampNeg)) 47 0 (x1 + (1 : Int32)).toNatClampNeg)) 48 0 x1.toNatClampNeg ((bU (bU M 46 0 x1.toNatClampNeg (M 46 0 (x1 + (1 : Int32)).toNatClampNeg)) 47 0 x1.toNatClampNeg ((bU M 46 0 x1.toNatClampNeg (M 46 0 (x1 + (1 : Int32)).toNatClampNeg)) 47 0 (x1 + (1 : Int32)).toNatClampNeg)) 48 0 (x1 + (1 : Int32)).toNatClampNeg)) 49 0 x1.toNatClampNeg ((bU (bU (bU M 46 0 x1.toNatClampNeg (M 46 0 (x1 + (1 : Int32)).toNatClampNeg)) 47 0 x1.toNatClampNeg ((bU M 46 0 x1.toNatClampNeg (M 46 0 (x1 + (1 : Int32)).toNatClampNeg)) 47 0 (x1 + (1 : Int32)).toNatClampNeg)) 48 0 x1.toNatClampNeg ((bU (bU M 46 0 x1.toNatClampNeg (M 46 0 (x1 + (1 : Int32)).toNatClampNeg)) 47 0 x1.toNatClampNeg ((bU M 46 0 x1.toNatClampNeg (M 46 0 (x1 + (1 : Int32)).toNatClampNeg)) 47 0 (x1 + (1 : Int32)).toNatClampNeg)) 48 0 (x1 + (1 : Int32)).toNatClampNeg)) 49 0 (x1 + (1 : Int32)).toNatClampNeg)) 50 0 x1.toNatClampNeg ((bU (bU (bU (bU M 46 0 x1.toNatClampNeg (M 46 0 (x1 + (1 : Int32)).toNatClampNeg)) 47 0 x1.toNatClampNeg ((bU M 46 0 x1.toNatClampNeg (M 46 0 (x1 + (1 : Int32)).toNatClampNeg)) 47 0 (x1 + (1 : Int32)).toNatClampNeg)) 48 0 x1.toNatClampNeg ((bU (bU M 46 0 x1.toNatClampNeg (M 46 0 (x1 + (1 : Int32)).toNatClampNeg)) 47 0 x1.toNatClampNeg ((bU M 46 0 x1.toNatClampNeg (M 46 0 (x1 + (1 : Int32)).toNatClampNeg)) 47 0 (x1 + (1 : Int32)).toNatClampNeg)) 48 0 (x1 + (1 : Int32)).toNatClampNeg)) 49 0 x1.toNatClampNeg ((bU (bU (bU M 46 0 x1.toNatClampNeg (M 46 0 (x1 + (1 : Int32)).toNatClampNeg)) 47 0 x1.toNatClampNeg ((bU M 46 0 x1.toNatClampNeg (M 46 0 (x1 + (1 : Int32)).toNatClampNeg)) 47 0 (x1 + (1 : Int32)).toNatClampNeg)) 48 0 x1.toNatClampNeg ((bU (bU M 46 0 x1.toNatClampNeg (M 46 0 (x1 + (1 : Int32)).toNatClampNeg)) 47 0 x1.toNatClampNeg ((bU M 46 0 x1.toNatClampNeg (M 46 0 (x1 + (1 : Int32)).toNatClampNeg)) 47 0 (x1 + (1 : Int32)).toNatClampNeg)) 48 0 (x1 + (1 : Int32)).toNatClampNeg)) 49 0 (x1 + (1 : Int32)).toNatClampNeg)) 50 0 (x1 + (1 : Int32)).toNatClampNeg)) 51 0 (x1 + (1 : Int32)).toNatClampNeg)) 52 0 (x1 + (1 : Int32)).toNatClampNeg)))))))))))))))) : bCall 156 [cR 26 0, cI x1] M Q := s_aload_n E156_0.1 (k_ E156_0) rfl (s_getR E156_1.1 (k_ E156_1) rfl rfl (s_iload_n E156_4.1 (k_ E156_4) rfl (s_aload_n E156_5.1 (k_ E156_5) rfl (s_getR E156_6.1 (k_ E156_6) rfl rfl (s_iload_n E156_9.1 (k_ E156_9) rfl (s_iconst E156_10.1 (k_ E156_10) (s_iadd E156_11.1 (k_ E156_11) (s_iaload E156_12.1 (k_ E156_12) rfl ⟨h.1, s_iastore E156_13.1 (k_ E156_13) rfl ⟨h.2.1, s_aload_n E156_14.1 (k_ E156_14) rfl (s_getR E156_15.1 (k_ E156_15) rfl rfl (s_iload_n E156_18.1 (k_ E156_18) rfl (s_aload_n E156_19.1 (k_ E156_19) rfl (s_getR E156_20.1 (k_ E156_20) rfl rfl (s_iload_n E156_23.1 (k_ E156_23) rfl (s_iconst E156_24.1 (k_ E156_24) (s_iadd E156_25.1 (k_ E156_25) (s_iaload E156_26.1 (k_ E156_26) rfl ⟨h.2.2.1, s_iastore E156_27.1 (k_ E156_27) rfl ⟨h.2.2.2.1, s_aload_n E156_28.1 (k_ E156_28) rfl (s_getR E156_29.1 (k_ E156_29) rfl rfl (s_iload_n E156_32.1 (k_ E156_32) rfl (s_aload_n E156_33.1 (k_ E156_33) rfl (s_getR E156_34.1 (k_ E156_34) rfl rfl (s_iload_n E156_37.1 (k_ E156_37) rfl (s_iconst E156_38.1 (k_ E156_38) (s_iadd E156_39.1 (k_ E156_39) (s_iaload E156_40.1 (k_ E156_40) rfl ⟨h.2.2.2.2.1, s_iastore E156_41.1 (k_ E156_41) rfl ⟨h.2.2.2.2.2.1, s_aload_n E156_42.1 (k_ E156_42) rfl (s_getR E156_43.1 (k_ E156_43) rfl rfl (s_iload_n E156_46.1 (k_ E156_46) rfl (s_aload_n E156_47.1 (k_ E156_47) rfl (s_getR E156_48.1 (k_ E156_48) rfl rfl (s_iload_n E156_51.1 (k_ E156_51) rfl (s_iconst E156_52.1 (k_ E156_52) (s_iadd E156_53.1 (k_ E156_53) (s_iaload E156_54.1 (k_ E156_54) rfl ⟨h.2.2.2.2.2.2.1, s_iastore E156_55.1 (k_ E156_55) rfl ⟨h.2.2.2.2.2.2.2.1, s_aload_n E156_56.1 (k_ E156_56) rfl (s_getR E156_57.1 (k_ E156_57) rfl rfl (s_iload_n E156_60.1 (k_ E156_60) rfl (s_aload_n E156_61.1 (k_ E156_61) rfl (s_getR E156_62.1 (k_ E156_62) rfl rfl (s_iload_n E156_65.1 (k_ E156_65) rfl (s_iconst E156_66.1 (k_ E156_66) (s_iadd E156_67.1 (k_ E156_67) (s_iaload E156_68.1 (k_ E156_68) rfl ⟨h.2.2.2.2.2.2.2.2.1, s_iastore E156_69.1 (k_ E156_69) rfl ⟨h.2.2.2.2.2.2.2.2.2.1, s_aload_n E156_70.1 (k_ E156_70) rfl (s_getR E156_71.1 (k_ E156_71) rfl rfl (s_iload_n E156_74.1 (k_ E156_74) rfl (s_aload_n E156_75.1 (k_ E156_75) rfl (s_getR E156_76.1 (k_ E156_76) rfl rfl (s_iload_n E156_79.1 (k_ E156_79) rfl (s_iconst E156_80.1 (k_ E156_80) (s_iadd E156_81.1 (k_ E156_81) (s_iaload E156_82.1 (k_ E156_82) rfl ⟨h.2.2.2.2.2.2.2.2.2.2.1, s_iastore E156_83.1 (k_ E156_83) rfl ⟨h.2.2.2.2.2.2.2.2.2.2.2.1, s_aload_n E156_84.1 (k_ E156_84) rfl (s_getR E156_85.1 (k_ E156_85) rfl rfl (s_iload_n E156_88.1 (k_ E156_88) rfl (s_aload_n E156_89.1 (k_ E156_89) rfl (s_getR E156_90.1 (k_ E156_90) rfl rfl (s_iload_n E156_93.1 (k_ E156_93) rfl (s_iconst E156_94.1 (k_ E156_94) (s_iadd E156_95.1 (k_ E156_95) (s_iaload E156_96.1 (k_ E156_96) rfl ⟨h.2.2.2.2.2.2.2.2.2.2.2.2.1, s_iastore E156_97.1 (k_ E156_97) rfl ⟨h.2.2.2.2.2.2.2.2.2.2.2.2.2.1, s_iconst E156_98.1 (k_ E156_98) (s_istore_n E156_99.1 (k_ E156_99) (h.2.2.2.2.2.2.2.2.2.2.2.2.2.2))⟩⟩))))))))⟩⟩))))))))⟩⟩))))))))⟩⟩))))))))⟩⟩))))))))⟩⟩))))))))⟩⟩))))))))
theorem g_X7_moves_100 {Q : bQ} {M : bM} {x1 : Int32} {x2 : Int32} (h : (((132 : Int32) ≤ x2) → (Q none M)) ∧ (¬ ((132 : Int32) ≤ x2) → ((vp_in ((((132 : Int32) * x1) + (132 : Int32)) + x2) 1056) ∧ ((vp_in (((132 : Int32) * x1) + x2) 1056) ∧ bGo 156 Q 100 [some (cR 26 0), some (cI x1), some (cI (x2 + (1 : Int32)))] [] (bU M 53 0 (((132 : Int32) * x1) + x2).toNatClampNeg (M 53 0 ((((132 : Int32) * x1) + (132 : Int32)) + x2).toNatClampNeg)))))) : bGo 156 Q 100 [some (cR 26 0), some (cI x1), some (cI x2)] [] M := s_iload_n E156_100.1 (k_ E156_100) rfl (s_sipush E156_101.1 (k_ E156_101) (s_icmp_ge E156_104.1 (k_ E156_104) ⟨fun c0 => s_ret E156_141.1 (k_ E156_141) (h.1 c0), fun c0 => s_aload_n E156_107.1 (k_ E156_107) rfl (s_getR E156_108.1 (k_ E156_108) rfl rfl (s_sipush E156_111.1 (k_ E156_111) (s_iload_n E156_114.1 (k_ E156_114) rfl (s_imul E156_115.1 (k_ E156_115) (s_iload_n E156_116.1 (k_ E156_116) rfl (s_iadd E156_117.1 (k_ E156_117) (s_aload_n E156_118.1 (k_ E156_118) rfl (s_getR E156_119.1 (k_ E156_119) rfl rfl (s_sipush E156_122.1 (k_ E156_122) (s_iload_n E156_125.1 (k_ E156_125) rfl (s_imul E156_126.1 (k_ E156_126) (s_sipush E156_127.1 (k_ E156_127) (s_iadd E156_130.1 (k_ E156_130) (s_iload_n E156_131.1 (k_ E156_131) rfl (s_iadd E156_132.1 (k_ E156_132) (s_iaload E156_133.1 (k_ E156_133) rfl ⟨(h.2 c0).1, s_iastore E156_134.1 (k_ E156_134) rfl ⟨((h.2 c0).2).1, s_iinc E156_135.1 (k_ E156_135) rfl (s_goto E156_138.1 (k_ E156_138) (((h.2 c0).2).2))⟩⟩))))))))))))))))⟩))
-- 157: X7_order
theorem E157_0 : aCode 157 0 = (Instr.iload_n 1, 1, [], 0) ∧ bMask 157 0 = [] := ⟨rfl, rfl⟩
theorem E157_1 : aCode 157 1 = (Instr.iconst 1, 2, [], 1) ∧ bMask 157 1 = [] := ⟨rfl, rfl⟩
theorem E157_2 : aCode 157 2 = (Instr.bipush 32, 4, [], 32) ∧ bMask 157 2 = [] := ⟨rfl, rfl⟩
theorem E157_4 : aCode 157 4 = (Instr.invokestatic 126, 7, [104, 3, 1, 0, 0, 89], 0) ∧ bMask 157 4 = [] := ⟨rfl, rfl⟩
theorem E157_7 : aCode 157 7 = (Instr.ifCond .ne 5, 10, [12], 0) ∧ bMask 157 7 = [] := ⟨rfl, rfl⟩
theorem E157_10 : aCode 157 10 = (Instr.iconst (-1), 11, [], (-1)) ∧ bMask 157 10 = [] := ⟨rfl, rfl⟩
theorem E157_11 : aCode 157 11 = (Instr.ireturn, 12, [0], 0) ∧ bMask 157 11 = [] := ⟨rfl, rfl⟩
theorem E157_12 : aCode 157 12 = (Instr.aload_n 0, 13, [], 0) ∧ bMask 157 12 = [] := ⟨rfl, rfl⟩
theorem E157_13 : aCode 157 13 = (Instr.getfield 51, 16, [94, 7, 24, 0], 0) ∧ bMask 157 13 = [] := ⟨rfl, rfl⟩
theorem E157_16 : aCode 157 16 = (Instr.istore_n 2, 17, [], 0) ∧ bMask 157 16 = [] := ⟨rfl, rfl⟩
theorem E157_17 : aCode 157 17 = (Instr.aload_n 0, 18, [], 0) ∧ bMask 157 17 = [] := ⟨rfl, rfl⟩
theorem E157_18 : aCode 157 18 = (Instr.iload_n 1, 19, [], 0) ∧ bMask 157 18 = [] := ⟨rfl, rfl⟩
theorem E157_19 : aCode 157 19 = (Instr.putfield 51, 22, [94, 7, 24, 0], 0) ∧ bMask 157 19 = [] := ⟨rfl, rfl⟩
theorem E157_22 : aCode 157 22 = (Instr.iload_n 2, 23, [], 0) ∧ bMask 157 22 = [] := ⟨rfl, rfl⟩
theorem E157_23 : aCode 157 23 = (Instr.ireturn, 24, [0], 0) ∧ bMask 157 23 = [] := ⟨rfl, rfl⟩
theorem g_X7_order_0 {Q : bQ} {M : bM} {x1 : Int32} (h : bCall 104 [cI x1, cI (1 : Int32), cI (32 : Int32)] M (fun v1 M2 => bV1 v1 fun r3 => (((¬ r3 = 0) → (Q (some (cI (M2 26 0 24))) (bU M2 26 0 24 x1))) ∧ (¬ (¬ r3 = 0) → (Q (some (cI (-1 : Int32))) M2))))) : bCall 157 [cR 26 0, cI x1] M Q := s_iload_n E157_0.1 (k_ E157_0) rfl (s_iconst E157_1.1 (k_ E157_1) (s_bipush E157_2.1 (k_ E157_2) (s_scall1 E157_4.1 (k_ E157_4) rfl rfl rfl h (fun M2 r3 z0 => s_if_ne E157_7.1 (k_ E157_7) ⟨fun c1 => s_aload_n E157_12.1 (k_ E157_12) rfl (s_getI0 E157_13.1 (k_ E157_13) rfl (s_istore_n E157_16.1 (k_ E157_16) (s_aload_n E157_17.1 (k_ E157_17) rfl (s_iload_n E157_18.1 (k_ E157_18) rfl (s_putI E157_19.1 (k_ E157_19) rfl (s_iload_n E157_22.1 (k_ E157_22) rfl (s_iret E157_23.1 (k_ E157_23) (z0.1 c1)))))))), fun c1 => s_iconst E157_10.1 (k_ E157_10) (s_iret E157_11.1 (k_ E157_11) (z0.2 c1))⟩))))
-- 158: X7_proof
theorem E158_0 : aCode 158 0 = (Instr.aload_n 0, 1, [], 0) ∧ bMask 158 0 = [] := ⟨rfl, rfl⟩
theorem E158_1 : aCode 158 1 = (Instr.iload_n 1, 2, [], 0) ∧ bMask 158 1 = [] := ⟨rfl, rfl⟩
theorem E158_2 : aCode 158 2 = (Instr.invokevirtual 282, 5, [113, 2, 1, 7, 0, 96], 0) ∧ bMask 158 2 = [] := ⟨rfl, rfl⟩
theorem E158_5 : aCode 158 5 = (Instr.istore 4, 7, [], 0) ∧ bMask 158 5 = [] := ⟨rfl, rfl⟩
theorem E158_7 : aCode 158 7 = (Instr.iload 4, 9, [], 0) ∧ bMask 158 7 = [] := ⟨rfl, rfl⟩
theorem E158_9 : aCode 158 9 = (Instr.ifCond .ge 6, 12, [15], 0) ∧ bMask 158 9 = [] := ⟨rfl, rfl⟩
theorem E158_12 : aCode 158 12 = (Instr.bipush (-3), 14, [], (-3)) ∧ bMask 158 12 = [] := ⟨rfl, rfl⟩
theorem E158_14 : aCode 158 14 = (Instr.ireturn, 15, [0], 0) ∧ bMask 158 14 = [] := ⟨rfl, rfl⟩
theorem E158_15 : aCode 158 15 = (Instr.iload_n 2, 16, [], 0) ∧ bMask 158 15 = [] := ⟨rfl, rfl⟩
theorem E158_16 : aCode 158 16 = (Instr.iconst 0, 17, [], 0) ∧ bMask 158 16 = [] := ⟨rfl, rfl⟩
theorem E158_17 : aCode 158 17 = (Instr.aload_n 0, 18, [], 0) ∧ bMask 158 17 = [] := ⟨rfl, rfl⟩
theorem E158_18 : aCode 158 18 = (Instr.getfield 90, 21, [87, 7, 42, 2], 0) ∧ bMask 158 18 = [] := ⟨rfl, rfl⟩
theorem E158_21 : aCode 158 21 = (Instr.iload 4, 23, [], 0) ∧ bMask 158 21 = [] := ⟨rfl, rfl⟩
theorem E158_23 : aCode 158 23 = (Instr.iaload, 24, [0], 0) ∧ bMask 158 23 = [] := ⟨rfl, rfl⟩
theorem E158_24 : aCode 158 24 = (Instr.iconst 1, 25, [], 1) ∧ bMask 158 24 = [] := ⟨rfl, rfl⟩
theorem E158_25 : aCode 158 25 = (Instr.isub, 26, [], 0) ∧ bMask 158 25 = [] := ⟨rfl, rfl⟩
theorem E158_26 : aCode 158 26 = (Instr.invokestatic 126, 29, [104, 3, 1, 0, 0, 89], 0) ∧ bMask 158 26 = [] := ⟨rfl, rfl⟩
theorem E158_29 : aCode 158 29 = (Instr.ifCond .eq 34, 32, [63], 0) ∧ bMask 158 29 = [] := ⟨rfl, rfl⟩
theorem E158_32 : aCode 158 32 = (Instr.iload_n 3, 33, [], 0) ∧ bMask 158 32 = [] := ⟨rfl, rfl⟩
theorem E158_33 : aCode 158 33 = (Instr.iconst 0, 34, [], 0) ∧ bMask 158 33 = [] := ⟨rfl, rfl⟩
theorem E158_34 : aCode 158 34 = (Instr.bipush 9, 36, [], 9) ∧ bMask 158 34 = [] := ⟨rfl, rfl⟩
theorem E158_36 : aCode 158 36 = (Instr.invokestatic 126, 39, [104, 3, 1, 0, 0, 89], 0) ∧ bMask 158 36 = [] := ⟨rfl, rfl⟩
theorem E158_39 : aCode 158 39 = (Instr.ifCond .eq 24, 42, [63], 0) ∧ bMask 158 39 = [] := ⟨rfl, rfl⟩
theorem E158_42 : aCode 158 42 = (Instr.aload_n 0, 43, [], 0) ∧ bMask 158 42 = [] := ⟨rfl, rfl⟩
theorem E158_43 : aCode 158 43 = (Instr.getfield 105, 46, [118, 7, 47, 2], 0) ∧ bMask 158 43 = [] := ⟨rfl, rfl⟩
theorem E158_46 : aCode 158 46 = (Instr.sipush 132, 49, [], 132) ∧ bMask 158 46 = [] := ⟨rfl, rfl⟩
theorem E158_49 : aCode 158 49 = (Instr.iload 4, 51, [], 0) ∧ bMask 158 49 = [] := ⟨rfl, rfl⟩
theorem E158_51 : aCode 158 51 = (Instr.imul, 52, [], 0) ∧ bMask 158 51 = [] := ⟨rfl, rfl⟩
theorem E158_52 : aCode 158 52 = (Instr.bipush 33, 54, [], 33) ∧ bMask 158 52 = [] := ⟨rfl, rfl⟩
theorem E158_54 : aCode 158 54 = (Instr.iload_n 2, 55, [], 0) ∧ bMask 158 54 = [] := ⟨rfl, rfl⟩
theorem E158_55 : aCode 158 55 = (Instr.imul, 56, [], 0) ∧ bMask 158 55 = [] := ⟨rfl, rfl⟩
theorem E158_56 : aCode 158 56 = (Instr.iadd, 57, [], 0) ∧ bMask 158 56 = [] := ⟨rfl, rfl⟩
theorem E158_57 : aCode 158 57 = (Instr.iload_n 3, 58, [], 0) ∧ bMask 158 57 = [] := ⟨rfl, rfl⟩
theorem E158_58 : aCode 158 58 = (Instr.iadd, 59, [], 0) ∧ bMask 158 58 = [] := ⟨rfl, rfl⟩
theorem E158_59 : aCode 158 59 = (Instr.iaload, 60, [0], 0) ∧ bMask 158 59 = [] := ⟨rfl, rfl⟩
theorem E158_60 : aCode 158 60 = (Instr.goto 4, 64, [], 0) ∧ bMask 158 60 = [] := ⟨rfl, rfl⟩
theorem E158_63 : aCode 158 63 = (Instr.iconst (-1), 64, [], (-1)) ∧ bMask 158 63 = [] := ⟨rfl, rfl⟩
theorem E158_64 : aCode 158 64 = (Instr.ireturn, 65, [0], 0) ∧ bMask 158 64 = [] := ⟨rfl, rfl⟩
theorem g_X7_proof_0 {Q : bQ} {M : bM} {x1 : Int32} {x2 : Int32} {x3 : Int32} (h : bCall 113 [cR 26 0, cI x1] M (fun v1 M2 => bV1 v1 fun r3 => (((0 ≤ r3) → ((vp_in r3 8) ∧ (bCall 104 [cI x2, cI (0 : Int32), cI ((M2 48 0 r3.toNatClampNeg) - (1 : Int32))] M2 (fun v4 M5 => bV1 v4 fun r6 => (((r6 = 0) → (Q (some (cI (-1 : Int32))) M5)) ∧ (¬ (r6 = 0) → (bCall 104 [cI x3, cI (0 : Int32), cI (9 : Int32)] M5 (fun v7 M8 => bV1 v7 fun r9 => (((r9 = 0) → (Q (some (cI (-1 : Int32))) M8)) ∧ (¬ (r9 = 0) → ((vp_in ((((132 : Int32) * r3) + ((33 : Int32) * x2)) + x3) 1056) ∧ (Q (some (cI (M8 53 0 ((((132 : Int32) * r3) + ((33 : Int32) * x2)) + x3).toNatClampNeg))) M8)))))))))))) ∧ (¬ (0 ≤ r3) → (Q (some (cI (-3 : Int32))) M2))))) : bCall 158 [cR 26 0, cI x1, cI x2, cI x3] M Q := s_aload_n E158_0.1 (k_ E158_0) rfl (s_iload_n E158_1.1 (k_ E158_1) rfl (s_vcall1 E158_2.1 (k_ E158_2) rfl rfl rfl h (fun M2 r3 z0 => s_istore E158_5.1 (k_ E158_5) (s_iload E158_7.1 (k_ E158_7) rfl (s_if_ge E158_9.1 (k_ E158_9) ⟨fun c1 => s_iload_n E158_15.1 (k_ E158_15) rfl (s_iconst E158_16.1 (k_ E158_16) (s_aload_n E158_17.1 (k_ E158_17) rfl (s_getR E158_18.1 (k_ E158_18) rfl rfl (s_iload E158_21.1 (k_ E158_21) rfl (s_iaload E158_23.1 (k_ E158_23) rfl ⟨(z0.1 c1).1, s_iconst E158_24.1 (k_ E158_24) (s_isub E158_25.1 (k_ E158_25) (s_scall1 E158_26.1 (k_ E158_26) rfl rfl rfl ((z0.1 c1).2) (fun M5 r6 z2 => s_if_eq E158_29.1 (k_ E158_29) ⟨fun c3 => s_iconst E158_63.1 (k_ E158_63) (s_iret E158_64.1 (k_ E158_64) (z2.1 c3)), fun c3 => s_iload_n E158_32.1 (k_ E158_32) rfl (s_iconst E158_33.1 (k_ E158_33) (s_bipush E158_34.1 (k_ E158_34) (s_scall1 E158_36.1 (k_ E158_36) rfl rfl rfl (z2.2 c3) (fun M8 r9 z4 => s_if_eq E158_39.1 (k_ E158_39) ⟨fun c5 => s_iconst E158_63.1 (k_ E158_63) (s_iret E158_64.1 (k_ E158_64) (z4.1 c5)), fun c5 => s_aload_n E158_42.1 (k_ E158_42) rfl (s_getR E158_43.1 (k_ E158_43) rfl rfl (s_sipush E158_46.1 (k_ E158_46) (s_iload E158_49.1 (k_ E158_49) rfl (s_imul E158_51.1 (k_ E158_51) (s_bipush E158_52.1 (k_ E158_52) (s_iload_n E158_54.1 (k_ E158_54) rfl (s_imul E158_55.1 (k_ E158_55) (s_iadd E158_56.1 (k_ E158_56) (s_iload_n E158_57.1 (k_ E158_57) rfl (s_iadd E158_58.1 (k_ E158_58) (s_iaload E158_59.1 (k_ E158_59) rfl ⟨(z4.2 c5).1, s_goto E158_60.1 (k_ E158_60) (s_iret E158_64.1 (k_ E158_64) ((z4.2 c5).2))⟩)))))))))))⟩))))⟩)))⟩))))), fun c1 => s_bipush E158_12.1 (k_ E158_12) (s_iret E158_14.1 (k_ E158_14) (z0.2 c1))⟩)))))
-- 159: X7_put
theorem E159_0 : aCode 159 0 = (Instr.iload_n 1, 1, [], 0) ∧ bMask 159 0 = [] := ⟨rfl, rfl⟩
theorem E159_1 : aCode 159 1 = (Instr.invokestatic 269, 4, [139, 1, 1, 0, 0, 113], 0) ∧ bMask 159 1 = [] := ⟨rfl, rfl⟩
theorem E159_4 : aCode 159 4 = (Instr.ifCond .ne 5, 7, [9], 0) ∧ bMask 159 4 = [] := ⟨rfl, rfl⟩
theorem E159_7 : aCode 159 7 = (Instr.iconst (-1), 8, [], (-1)) ∧ bMask 159 7 = [] := ⟨rfl, rfl⟩
theorem E159_8 : aCode 159 8 = (Instr.ireturn, 9, [0], 0) ∧ bMask 159 8 = [] := ⟨rfl, rfl⟩
theorem E159_9 : aCode 159 9 = (Instr.aload_n 0, 10, [], 0) ∧ bMask 159 9 = [] := ⟨rfl, rfl⟩
theorem E159_10 : aCode 159 10 = (Instr.getfield 108, 13, [113, 7, 48, 2], 0) ∧ bMask 159 10 = [] := ⟨rfl, rfl⟩
theorem E159_13 : aCode 159 13 = (Instr.iload_n 1, 14, [], 0) ∧ bMask 159 13 = [] := ⟨rfl, rfl⟩
theorem E159_14 : aCode 159 14 = (Instr.iaload, 15, [0], 0) ∧ bMask 159 14 = [] := ⟨rfl, rfl⟩
theorem E159_15 : aCode 159 15 = (Instr.ifCond .ge 6, 18, [21], 0) ∧ bMask 159 15 = [] := ⟨rfl, rfl⟩
theorem E159_18 : aCode 159 18 = (Instr.bipush (-11), 20, [], (-11)) ∧ bMask 159 18 = [] := ⟨rfl, rfl⟩
theorem E159_20 : aCode 159 20 = (Instr.ireturn, 21, [0], 0) ∧ bMask 159 20 = [] := ⟨rfl, rfl⟩
theorem E159_21 : aCode 159 21 = (Instr.iload_n 2, 22, [], 0) ∧ bMask 159 21 = [] := ⟨rfl, rfl⟩
theorem E159_22 : aCode 159 22 = (Instr.iconst 0, 23, [], 0) ∧ bMask 159 22 = [] := ⟨rfl, rfl⟩
theorem E159_23 : aCode 159 23 = (Instr.aload_n 0, 24, [], 0) ∧ bMask 159 23 = [] := ⟨rfl, rfl⟩
theorem E159_24 : aCode 159 24 = (Instr.getfield 108, 27, [113, 7, 48, 2], 0) ∧ bMask 159 24 = [] := ⟨rfl, rfl⟩
theorem E159_27 : aCode 159 27 = (Instr.iload_n 1, 28, [], 0) ∧ bMask 159 27 = [] := ⟨rfl, rfl⟩
theorem E159_28 : aCode 159 28 = (Instr.iaload, 29, [0], 0) ∧ bMask 159 28 = [] := ⟨rfl, rfl⟩
theorem E159_29 : aCode 159 29 = (Instr.iconst 1, 30, [], 1) ∧ bMask 159 29 = [] := ⟨rfl, rfl⟩
theorem E159_30 : aCode 159 30 = (Instr.isub, 31, [], 0) ∧ bMask 159 30 = [] := ⟨rfl, rfl⟩
theorem E159_31 : aCode 159 31 = (Instr.invokestatic 126, 34, [104, 3, 1, 0, 0, 89], 0) ∧ bMask 159 31 = [] := ⟨rfl, rfl⟩
theorem E159_34 : aCode 159 34 = (Instr.ifCond .ne 6, 37, [40], 0) ∧ bMask 159 34 = [] := ⟨rfl, rfl⟩
theorem E159_37 : aCode 159 37 = (Instr.bipush (-12), 39, [], (-12)) ∧ bMask 159 37 = [] := ⟨rfl, rfl⟩
theorem E159_39 : aCode 159 39 = (Instr.ireturn, 40, [0], 0) ∧ bMask 159 39 = [] := ⟨rfl, rfl⟩
theorem E159_40 : aCode 159 40 = (Instr.aload_n 0, 41, [], 0) ∧ bMask 159 40 = [] := ⟨rfl, rfl⟩
theorem E159_41 : aCode 159 41 = (Instr.iload_n 1, 42, [], 0) ∧ bMask 159 41 = [] := ⟨rfl, rfl⟩
theorem E159_42 : aCode 159 42 = (Instr.iload_n 2, 43, [], 0) ∧ bMask 159 42 = [] := ⟨rfl, rfl⟩
theorem E159_43 : aCode 159 43 = (Instr.iload_n 3, 44, [], 0) ∧ bMask 159 43 = [] := ⟨rfl, rfl⟩
theorem E159_44 : aCode 159 44 = (Instr.invokevirtual 288, 47, [150, 4, 0, 7, 0, 121], 0) ∧ bMask 159 44 = [] := ⟨rfl, rfl⟩
theorem E159_47 : aCode 159 47 = (Instr.iconst 1, 48, [], 1) ∧ bMask 159 47 = [] := ⟨rfl, rfl⟩
theorem E159_48 : aCode 159 48 = (Instr.ireturn, 49, [0], 0) ∧ bMask 159 48 = [] := ⟨rfl, rfl⟩
theorem g_X7_put_0 {Q : bQ} {M : bM} {x1 : Int32} {x2 : Int32} {x3 : Int32} (h : bCall 139 [cI x1] M (fun v1 M2 => bV1 v1 fun r3 => (((¬ r3 = 0) → ((vp_in x1 3) ∧ (((0 ≤ (M2 54 0 x1.toNatClampNeg)) → ((vp_in x1 3) ∧ (bCall 104 [cI x2, cI (0 : Int32), cI ((M2 54 0 x1.toNatClampNeg) - (1 : Int32))] M2 (fun v4 M5 => bV1 v4 fun r6 => (((¬ r6 = 0) → (bCall 150 [cR 26 0, cI x1, cI x2, cI x3] M5 (fun v7 M8 => bV0 v7 (Q (some (cI (1 : Int32))) M8)))) ∧ (¬ (¬ r6 = 0) → (Q (some (cI (-12 : Int32))) M5))))))) ∧ (¬ (0 ≤ (M2 54 0 x1.toNatClampNeg)) → (Q (some (cI (-11 : Int32))) M2))))) ∧ (¬ (¬ r3 = 0) → (Q (some (cI (-1 : Int32))) M2))))) : bCall 159 [cR 26 0, cI x1, cI x2, cI x3] M Q := s_iload_n E159_0.1 (k_ E159_0) rfl (s_scall1 E159_1.1 (k_ E159_1) rfl rfl rfl h (fun M2 r3 z0 => s_if_ne E159_4.1 (k_ E159_4) ⟨fun c1 => s_aload_n E159_9.1 (k_ E159_9) rfl (s_getR E159_10.1 (k_ E159_10) rfl rfl (s_iload_n E159_13.1 (k_ E159_13) rfl (s_iaload E159_14.1 (k_ E159_14) rfl ⟨(z0.1 c1).1, s_if_ge E159_15.1 (k_ E159_15) ⟨fun c2 => s_iload_n E159_21.1 (k_ E159_21) rfl (s_iconst E159_22.1 (k_ E159_22) (s_aload_n E159_23.1 (k_ E159_23) rfl (s_getR E159_24.1 (k_ E159_24) rfl rfl (s_iload_n E159_27.1 (k_ E159_27) rfl (s_iaload E159_28.1 (k_ E159_28) rfl ⟨(((z0.1 c1).2).1 c2).1, s_iconst E159_29.1 (k_ E159_29) (s_isub E159_30.1 (k_ E159_30) (s_scall1 E159_31.1 (k_ E159_31) rfl rfl rfl ((((z0.1 c1).2).1 c2).2) (fun M5 r6 z3 => s_if_ne E159_34.1 (k_ E159_34) ⟨fun c4 => s_aload_n E159_40.1 (k_ E159_40) rfl (s_iload_n E159_41.1 (k_ E159_41) rfl (s_iload_n E159_42.1 (k_ E159_42) rfl (s_iload_n E159_43.1 (k_ E159_43) rfl (s_vcall0 E159_44.1 (k_ E159_44) rfl rfl rfl (z3.1 c4) (fun M8 z5 => s_iconst E159_47.1 (k_ E159_47) (s_iret E159_48.1 (k_ E159_48) z5)))))), fun c4 => s_bipush E159_37.1 (k_ E159_37) (s_iret E159_39.1 (k_ E159_39) (z3.2 c4))⟩)))⟩))))), fun c2 => s_bipush E159_18.1 (k_ E159_18) (s_iret E159_20.1 (k_ E159_20) (((z0.1 c1).2).2 c2))⟩⟩))), fun c1 => s_iconst E159_7.1 (k_ E159_7) (s_iret E159_8.1 (k_ E159_8) (z0.2 c1))⟩))
-- 160: X7_relates
theorem E160_0 : aCode 160 0 = (Instr.iload_n 1, 1, [], 0) ∧ bMask 160 0 = [] := ⟨rfl, rfl⟩
theorem E160_1 : aCode 160 1 = (Instr.invokestatic 269, 4, [139, 1, 1, 0, 0, 113], 0) ∧ bMask 160 1 = [] := ⟨rfl, rfl⟩
theorem E160_4 : aCode 160 4 = (Instr.ifCond .ne 5, 7, [9], 0) ∧ bMask 160 4 = [] := ⟨rfl, rfl⟩
theorem E160_7 : aCode 160 7 = (Instr.iconst (-1), 8, [], (-1)) ∧ bMask 160 7 = [] := ⟨rfl, rfl⟩
theorem E160_8 : aCode 160 8 = (Instr.ireturn, 9, [0], 0) ∧ bMask 160 8 = [] := ⟨rfl, rfl⟩
theorem E160_9 : aCode 160 9 = (Instr.aload_n 0, 10, [], 0) ∧ bMask 160 9 = [] := ⟨rfl, rfl⟩
theorem E160_10 : aCode 160 10 = (Instr.getfield 108, 13, [113, 7, 48, 2], 0) ∧ bMask 160 10 = [] := ⟨rfl, rfl⟩
theorem E160_13 : aCode 160 13 = (Instr.iload_n 1, 14, [], 0) ∧ bMask 160 13 = [] := ⟨rfl, rfl⟩
theorem E160_14 : aCode 160 14 = (Instr.iaload, 15, [0], 0) ∧ bMask 160 14 = [] := ⟨rfl, rfl⟩
theorem E160_15 : aCode 160 15 = (Instr.ifCond .ge 6, 18, [21], 0) ∧ bMask 160 15 = [] := ⟨rfl, rfl⟩
theorem E160_18 : aCode 160 18 = (Instr.bipush (-11), 20, [], (-11)) ∧ bMask 160 18 = [] := ⟨rfl, rfl⟩
theorem E160_20 : aCode 160 20 = (Instr.ireturn, 21, [0], 0) ∧ bMask 160 20 = [] := ⟨rfl, rfl⟩
theorem E160_21 : aCode 160 21 = (Instr.aload_n 0, 22, [], 0) ∧ bMask 160 21 = [] := ⟨rfl, rfl⟩
theorem E160_22 : aCode 160 22 = (Instr.invokevirtual 250, 25, [117, 1, 0, 7, 0, 103], 0) ∧ bMask 160 22 = [] := ⟨rfl, rfl⟩
theorem E160_25 : aCode 160 25 = (Instr.iconst 0, 26, [], 0) ∧ bMask 160 25 = [] := ⟨rfl, rfl⟩
theorem E160_26 : aCode 160 26 = (Instr.istore_n 2, 27, [], 0) ∧ bMask 160 26 = [] := ⟨rfl, rfl⟩
theorem E160_27 : aCode 160 27 = (Instr.iconst 0, 28, [], 0) ∧ bMask 160 27 = [] := ⟨rfl, rfl⟩
theorem E160_28 : aCode 160 28 = (Instr.istore_n 3, 29, [], 0) ∧ bMask 160 28 = [] := ⟨rfl, rfl⟩
theorem E160_29 : aCode 160 29 = (Instr.iload_n 3, 30, [], 0) := rfl
theorem E160_30 : aCode 160 30 = (Instr.sipush 132, 33, [], 132) ∧ bMask 160 30 = [] := ⟨rfl, rfl⟩
theorem E160_33 : aCode 160 33 = (Instr.if_icmp .ge 16, 36, [49], 0) ∧ bMask 160 33 = [] := ⟨rfl, rfl⟩
theorem E160_36 : aCode 160 36 = (Instr.aload_n 0, 37, [], 0) ∧ bMask 160 36 = [] := ⟨rfl, rfl⟩
theorem E160_37 : aCode 160 37 = (Instr.getfield 60, 40, [105, 7, 29, 2], 0) ∧ bMask 160 37 = [] := ⟨rfl, rfl⟩
theorem E160_40 : aCode 160 40 = (Instr.iload_n 3, 41, [], 0) ∧ bMask 160 40 = [] := ⟨rfl, rfl⟩
theorem E160_41 : aCode 160 41 = (Instr.iconst 0, 42, [], 0) ∧ bMask 160 41 = [] := ⟨rfl, rfl⟩
theorem E160_42 : aCode 160 42 = (Instr.iastore, 43, [0], 0) ∧ bMask 160 42 = [] := ⟨rfl, rfl⟩
theorem E160_43 : aCode 160 43 = (Instr.iinc 3 1, 46, [], 1) ∧ bMask 160 43 = [] := ⟨rfl, rfl⟩
theorem E160_46 : aCode 160 46 = (Instr.goto (-17), 29, [], 0) ∧ bMask 160 46 = [] := ⟨rfl, rfl⟩
theorem E160_49 : aCode 160 49 = (Instr.iconst 0, 50, [], 0) ∧ bMask 160 49 = [] := ⟨rfl, rfl⟩
theorem E160_50 : aCode 160 50 = (Instr.istore_n 3, 51, [], 0) ∧ bMask 160 50 = [] := ⟨rfl, rfl⟩
theorem E160_51 : aCode 160 51 = (Instr.iload_n 3, 52, [], 0) := rfl
theorem E160_52 : aCode 160 52 = (Instr.bipush 8, 54, [], 8) ∧ bMask 160 52 = [] := ⟨rfl, rfl⟩
theorem E160_54 : aCode 160 54 = (Instr.aload_n 0, 55, [], 0) ∧ bMask 160 54 = [] := ⟨rfl, rfl⟩
theorem E160_55 : aCode 160 55 = (Instr.getfield 227, 58, [93, 7, 25, 0], 0) ∧ bMask 160 55 = [] := ⟨rfl, rfl⟩
theorem E160_58 : aCode 160 58 = (Instr.imul, 59, [], 0) ∧ bMask 160 58 = [] := ⟨rfl, rfl⟩
theorem E160_59 : aCode 160 59 = (Instr.if_icmp .ge 71, 62, [130], 0) ∧ bMask 160 59 = [] := ⟨rfl, rfl⟩
theorem E160_62 : aCode 160 62 = (Instr.iload_n 3, 63, [], 0) ∧ bMask 160 62 = [] := ⟨rfl, rfl⟩
theorem E160_63 : aCode 160 63 = (Instr.aload_n 0, 64, [], 0) ∧ bMask 160 63 = [] := ⟨rfl, rfl⟩
theorem E160_64 : aCode 160 64 = (Instr.getfield 108, 67, [113, 7, 48, 2], 0) ∧ bMask 160 64 = [] := ⟨rfl, rfl⟩
theorem E160_67 : aCode 160 67 = (Instr.iload_n 1, 68, [], 0) ∧ bMask 160 67 = [] := ⟨rfl, rfl⟩
theorem E160_68 : aCode 160 68 = (Instr.iaload, 69, [0], 0) ∧ bMask 160 68 = [] := ⟨rfl, rfl⟩
theorem E160_69 : aCode 160 69 = (Instr.if_icmp .ge 61, 72, [130], 0) ∧ bMask 160 69 = [] := ⟨rfl, rfl⟩
theorem E160_72 : aCode 160 72 = (Instr.aload_n 0, 73, [], 0) ∧ bMask 160 72 = [] := ⟨rfl, rfl⟩
theorem E160_73 : aCode 160 73 = (Instr.aload_n 0, 74, [], 0) ∧ bMask 160 73 = [] := ⟨rfl, rfl⟩
theorem E160_74 : aCode 160 74 = (Instr.getfield 114, 77, [116, 7, 50, 2], 0) ∧ bMask 160 74 = [] := ⟨rfl, rfl⟩
theorem E160_77 : aCode 160 77 = (Instr.bipush 40, 79, [], 40) ∧ bMask 160 77 = [] := ⟨rfl, rfl⟩
theorem E160_79 : aCode 160 79 = (Instr.iload_n 1, 80, [], 0) ∧ bMask 160 79 = [] := ⟨rfl, rfl⟩
theorem E160_80 : aCode 160 80 = (Instr.imul, 81, [], 0) ∧ bMask 160 80 = [] := ⟨rfl, rfl⟩
theorem E160_81 : aCode 160 81 = (Instr.iload_n 3, 82, [], 0) ∧ bMask 160 81 = [] := ⟨rfl, rfl⟩
theorem E160_82 : aCode 160 82 = (Instr.iadd, 83, [], 0) ∧ bMask 160 82 = [] := ⟨rfl, rfl⟩
theorem E160_83 : aCode 160 83 = (Instr.iaload, 84, [0], 0) ∧ bMask 160 83 = [] := ⟨rfl, rfl⟩
theorem E160_84 : aCode 160 84 = (Instr.i2l, 85, [], 0) ∧ bMask 160 84 = [] := ⟨rfl, rfl⟩
theorem E160_85 : aCode 160 85 = (Instr.invokevirtual 137, 88, [118, 2, 1, 7, 0, 98], 0) ∧ bMask 160 85 = [] := ⟨rfl, rfl⟩
theorem E160_88 : aCode 160 88 = (Instr.istore 4, 90, [], 0) ∧ bMask 160 88 = [] := ⟨rfl, rfl⟩
theorem E160_90 : aCode 160 90 = (Instr.iload_n 2, 91, [], 0) ∧ bMask 160 90 = [] := ⟨rfl, rfl⟩
theorem E160_91 : aCode 160 91 = (Instr.ifCond .ne 8, 94, [99], 0) ∧ bMask 160 91 = [] := ⟨rfl, rfl⟩
theorem E160_94 : aCode 160 94 = (Instr.iload 4, 96, [], 0) ∧ bMask 160 94 = [] := ⟨rfl, rfl⟩
theorem E160_96 : aCode 160 96 = (Instr.ifCond .eq 7, 99, [103], 0) ∧ bMask 160 96 = [] := ⟨rfl, rfl⟩
theorem E160_99 : aCode 160 99 = (Instr.iconst 1, 100, [], 1) ∧ bMask 160 99 = [] := ⟨rfl, rfl⟩
theorem E160_100 : aCode 160 100 = (Instr.goto 4, 104, [], 0) ∧ bMask 160 100 = [] := ⟨rfl, rfl⟩
theorem E160_103 : aCode 160 103 = (Instr.iconst 0, 104, [], 0) ∧ bMask 160 103 = [] := ⟨rfl, rfl⟩
theorem E160_104 : aCode 160 104 = (Instr.istore_n 2, 105, [], 0) ∧ bMask 160 104 = [] := ⟨rfl, rfl⟩
theorem E160_105 : aCode 160 105 = (Instr.aload_n 0, 106, [], 0) ∧ bMask 160 105 = [] := ⟨rfl, rfl⟩
theorem E160_106 : aCode 160 106 = (Instr.getfield 60, 109, [105, 7, 29, 2], 0) ∧ bMask 160 106 = [] := ⟨rfl, rfl⟩
theorem E160_109 : aCode 160 109 = (Instr.bipush 33, 111, [], 33) ∧ bMask 160 109 = [] := ⟨rfl, rfl⟩
theorem E160_111 : aCode 160 111 = (Instr.iload_n 3, 112, [], 0) ∧ bMask 160 111 = [] := ⟨rfl, rfl⟩
theorem E160_112 : aCode 160 112 = (Instr.bipush 8, 114, [], 8) ∧ bMask 160 112 = [] := ⟨rfl, rfl⟩
theorem E160_114 : aCode 160 114 = (Instr.idiv, 115, [], 0) ∧ bMask 160 114 = [] := ⟨rfl, rfl⟩
theorem E160_115 : aCode 160 115 = (Instr.imul, 116, [], 0) ∧ bMask 160 115 = [] := ⟨rfl, rfl⟩
theorem E160_116 : aCode 160 116 = (Instr.iload_n 3, 117, [], 0) ∧ bMask 160 116 = [] := ⟨rfl, rfl⟩
theorem E160_117 : aCode 160 117 = (Instr.bipush 8, 119, [], 8) ∧ bMask 160 117 = [] := ⟨rfl, rfl⟩
theorem E160_119 : aCode 160 119 = (Instr.irem, 120, [], 0) ∧ bMask 160 119 = [] := ⟨rfl, rfl⟩
theorem E160_120 : aCode 160 120 = (Instr.iadd, 121, [], 0) ∧ bMask 160 120 = [] := ⟨rfl, rfl⟩
theorem E160_121 : aCode 160 121 = (Instr.iload 4, 123, [], 0) ∧ bMask 160 121 = [] := ⟨rfl, rfl⟩
theorem E160_123 : aCode 160 123 = (Instr.iastore, 124, [0], 0) ∧ bMask 160 123 = [] := ⟨rfl, rfl⟩
theorem E160_124 : aCode 160 124 = (Instr.iinc 3 1, 127, [], 1) ∧ bMask 160 124 = [] := ⟨rfl, rfl⟩
theorem E160_127 : aCode 160 127 = (Instr.goto (-76), 51, [], 0) ∧ bMask 160 127 = [] := ⟨rfl, rfl⟩
theorem E160_130 : aCode 160 130 = (Instr.aload_n 0, 131, [], 0) ∧ bMask 160 130 = [] := ⟨rfl, rfl⟩
theorem E160_131 : aCode 160 131 = (Instr.iconst 0, 132, [], 0) ∧ bMask 160 131 = [] := ⟨rfl, rfl⟩
theorem E160_132 : aCode 160 132 = (Instr.invokevirtual 266, 135, [126, 2, 0, 7, 0, 107], 0) ∧ bMask 160 132 = [] := ⟨rfl, rfl⟩
theorem E160_135 : aCode 160 135 = (Instr.iload_n 2, 136, [], 0) ∧ bMask 160 135 = [] := ⟨rfl, rfl⟩
theorem E160_136 : aCode 160 136 = (Instr.ifCond .eq 22, 139, [158], 0) ∧ bMask 160 136 = [] := ⟨rfl, rfl⟩
theorem E160_139 : aCode 160 139 = (Instr.aload_n 0, 140, [], 0) ∧ bMask 160 139 = [] := ⟨rfl, rfl⟩
theorem E160_140 : aCode 160 140 = (Instr.getfield 17, 143, [108, 7, 3, 2], 0) ∧ bMask 160 140 = [] := ⟨rfl, rfl⟩
theorem E160_143 : aCode 160 143 = (Instr.iconst 0, 144, [], 0) ∧ bMask 160 143 = [] := ⟨rfl, rfl⟩
theorem E160_144 : aCode 160 144 = (Instr.invokestatic 164, 147, [133, 2, 1, 0, 0, 111], 0) ∧ bMask 160 144 = [] := ⟨rfl, rfl⟩
theorem E160_147 : aCode 160 147 = (Instr.aload_n 0, 148, [], 0) ∧ bMask 160 147 = [] := ⟨rfl, rfl⟩
theorem E160_148 : aCode 160 148 = (Instr.getfield 51, 151, [94, 7, 24, 0], 0) ∧ bMask 160 148 = [] := ⟨rfl, rfl⟩
theorem E160_151 : aCode 160 151 = (Instr.if_icmp .lt 7, 154, [158], 0) ∧ bMask 160 151 = [] := ⟨rfl, rfl⟩
theorem E160_154 : aCode 160 154 = (Instr.iconst 1, 155, [], 1) ∧ bMask 160 154 = [] := ⟨rfl, rfl⟩
theorem E160_155 : aCode 160 155 = (Instr.goto 4, 159, [], 0) ∧ bMask 160 155 = [] := ⟨rfl, rfl⟩
theorem E160_158 : aCode 160 158 = (Instr.iconst 0, 159, [], 0) ∧ bMask 160 158 = [] := ⟨rfl, rfl⟩
theorem E160_159 : aCode 160 159 = (Instr.ireturn, 160, [0], 0) ∧ bMask 160 159 = [] := ⟨rfl, rfl⟩
theorem g_X7_relates_0 {Q : bQ} {M : bM} {x1 : Int32} (h : bCall 139 [cI x1] M (fun v1 M2 => bV1 v1 fun r3 => (((¬ r3 = 0) → ((vp_in x1 3) ∧ (((0 ≤ (M2 54 0 x1.toNatClampNeg)) → (bCall 117 [cR 26 0] M2 (fun v4 M5 => bV0 v4 (bGo 160 Q 29 [some (cR 26 0), some (cI x1), some (cI (0 : Int32)), some (cI (0 : Int32)), none] [] M5)))) ∧ (¬ (0 ≤ (M2 54 0 x1.toNatClampNeg)) → (Q (some (cI (-11 : Int32))) M2))))) ∧ (¬ (¬ r3 = 0) → (Q (some (cI (-1 : Int32))) M2))))) : bCall 160 [cR 26 0, cI x1] M Q := s_iload_n E160_0.1 (k_ E160_0) rfl (s_scall1 E160_1.1 (k_ E160_1) rfl rfl rfl h (fun M2 r3 z0 => s_if_ne E160_4.1 (k_ E160_4) ⟨fun c1 => s_aload_n E160_9.1 (k_ E160_9) rfl (s_getR E160_10.1 (k_ E160_10) rfl rfl (s_iload_n E160_13.1 (k_ E160_13) rfl (s_iaload E160_14.1 (k_ E160_14) rfl ⟨(z0.1 c1).1, s_if_ge E160_15.1 (k_ E160_15) ⟨fun c2 => s_aload_n E160_21.1 (k_ E160_21) rfl (s_vcall0 E160_22.1 (k_ E160_22) rfl rfl rfl (((z0.1 c1).2).1 c2) (fun M5 z3 => s_iconst E160_25.1 (k_ E160_25) (s_istore_n E160_26.1 (k_ E160_26) (s_iconst E160_27.1 (k_ E160_27) (s_istore_n E160_28.1 (k_ E160_28) (z3)))))), fun c2 => s_bipush E160_18.1 (k_ E160_18) (s_iret E160_20.1 (k_ E160_20) (((z0.1 c1).2).2 c2))⟩⟩))), fun c1 => s_iconst E160_7.1 (k_ E160_7) (s_iret E160_8.1 (k_ E160_8) (z0.2 c1))⟩))
theorem g_X7_relates_29 {Q : bQ} {M : bM} {x1 : Int32} {x2 : Int32} {x3 : Int32} {o4 : Option bV} (h : (((132 : Int32) ≤ x3) → bGo 160 Q 51 [some (cR 26 0), some (cI x1), some (cI x2), some (cI (0 : Int32)), none] [] M) ∧ (¬ ((132 : Int32) ≤ x3) → ((vp_in x3 528) ∧ bGo 160 Q 29 [some (cR 26 0), some (cI x1), some (cI x2), some (cI (x3 + (1 : Int32))), none] [] (bU M 38 0 x3.toNatClampNeg (0 : Int32))))) : bGo 160 Q 29 [some (cR 26 0), some (cI x1), some (cI x2), some (cI x3), o4] [] M := s_iload_n E160_29 rfl rfl (s_sipush E160_30.1 (k_ E160_30) (s_icmp_ge E160_33.1 (k_ E160_33) ⟨fun c4 => s_iconst E160_49.1 (k_ E160_49) (s_istore_n E160_50.1 (k_ E160_50) (h.1 c4)), fun c4 => s_aload_n E160_36.1 (k_ E160_36) rfl (s_getR E160_37.1 (k_ E160_37) rfl rfl (s_iload_n E160_40.1 (k_ E160_40) rfl (s_iconst E160_41.1 (k_ E160_41) (s_iastore E160_42.1 (k_ E160_42) rfl ⟨(h.2 c4).1, s_iinc E160_43.1 (k_ E160_43) rfl (s_goto E160_46.1 (k_ E160_46) ((h.2 c4).2))⟩))))⟩))
theorem g_X7_relates_51 {Q : bQ} {M : bM} {x1 : Int32} {x2 : Int32} {x3 : Int32} {o4 : Option bV} (h : ((((8 : Int32) * (M 26 0 25)) ≤ x3) → (bCall 126 [cR 26 0, cI (0 : Int32)] M (fun v1 M2 => bV0 v1 (((x2 = 0) → (Q (some (cI (0 : Int32))) M2)) ∧ (¬ (x2 = 0) → (bCall 133 [cR 27 0, cI (0 : Int32)] M2 (fun v3 M4 => bV1 v3 fun r5 => (((r5 < (M4 26 0 24)) → (Q (some (cI (0 : Int32))) M4)) ∧ (¬ (r5 < (M4 26 0 24)) → (Q (some (cI (1 : Int32))) M4)))))))))) ∧ (¬ (((8 : Int32) * (M 26 0 25)) ≤ x3) → ((vp_in x1 3) ∧ ((((M 54 0 x1.toNatClampNeg) ≤ x3) → (bCall 126 [cR 26 0, cI (0 : Int32)] M (fun v6 M7 => bV0 v6 (((x2 = 0) → (Q (some (cI (0 : Int32))) M7)) ∧ (¬ (x2 = 0) → (bCall 133 [cR 27 0, cI (0 : Int32)] M7 (fun v8 M9 => bV1 v8 fun r10 => (((r10 < (M9 26 0 24)) → (Q (some (cI (0 : Int32))) M9)) ∧ (¬ (r10 < (M9 26 0 24)) → (Q (some (cI (1 : Int32))) M9)))))))))) ∧ (¬ ((M 54 0 x1.toNatClampNeg) ≤ x3) → ((vp_in (((40 : Int32) * x1) + x3) 120) ∧ (bCall 118 [cR 26 0, cL ((M 56 0 (((40 : Int32) * x1) + x3).toNatClampNeg).toInt64)] M (fun v11 M12 => bV1 v11 fun r13 => (((¬ x2 = 0) → ((¬ (8 : Int32) = 0) ∧ ((¬ (8 : Int32) = 0) ∧ ((vp_in (((33 : Int32) * (x3 / (8 : Int32))) + (aRem x3 (8 : Int32))) 528) ∧ bGo 160 Q 51 [some (cR 26 0), some (cI x1), some (cI (1 : Int32)), some (cI (x3 + (1 : Int32))), some (cI r13)] [] (bU M12 38 0 (((33 : Int32) * (x3 / (8 : Int32))) + (aRem x3 (8 : Int32))).toNatClampNeg r13))))) ∧ (¬ (¬ x2 = 0) → (((r13 = 0) → ((¬ (8 : Int32) = 0) ∧ ((¬ (8 : Int32) = 0) ∧ ((vp_in (((33 : Int32) * (x3 / (8 : Int32))) + (aRem x3 (8 : Int32))) 528) ∧ bGo 160 Q 51 [some (cR 26 0), some (cI x1), some (cI (0 : Int32)), some (cI (x3 + (1 : Int32))), some (cI r13)] [] (bU M12 38 0 (((33 : Int32) * (x3 / (8 : Int32))) + (aRem x3 (8 : Int32))).toNatClampNeg r13))))) ∧ (¬ (r13 = 0) → ((¬ (8 : Int32) = 0) ∧ ((¬ (8 : Int32) = 0) ∧ ((vp_in (((33 : Int32) * (x3 / (8 : Int32))) + (aRem x3 (8 : Int32))) 528) ∧ bGo 160 Q 51 [some (cR 26 0), some (cI x1), some (cI (1 : Int32)), some (cI (x3 + (1 : Int32))), some (cI r13)] [] (bU M12 38 0 (((33 : Int32) * (x3 / (8 : Int32))) + (aRem x3 (8 : Int32))).toNatClampNeg r13)))))))))))))))) : bGo 160 Q 51 [some (cR 26 0), some (cI x1), some (cI x2), some (cI x3), o4] [] M := s_iload_n E160_51 rfl rfl (s_bipush E160_52.1 (k_ E160_52) (s_aload_n E160_54.1 (k_ E160_54) rfl (s_getI0 E160_55.1 (k_ E160_55) rfl (s_imul E160_58.1 (k_ E160_58) (s_icmp_ge E160_59.1 (k_ E160_59) ⟨fun c5 => s_aload_n E160_130.1 (k_ E160_130) rfl (s_iconst E160_131.1 (k_ E160_131) (s_vcall0 E160_132.1 (k_ E160_132) rfl rfl rfl (h.1 c5) (fun M2 z6 => s_iload_n E160_135.1 (k_ E160_135) rfl (s_if_eq E160_136.1 (k_ E160_136) ⟨fun c7 => s_iconst E160_158.1 (k_ E160_158) (s_iret E160_159.1 (k_ E160_159) (z6.1 c7)), fun c7 => s_aload_n E160_139.1 (k_ E160_139) rfl (s_getR E160_140.1 (k_ E160_140) rfl rfl (s_iconst E160_143.1 (k_ E160_143) (s_scall1 E160_144.1 (k_ E160_144) rfl rfl rfl (z6.2 c7) (fun M4 r5 z8 => s_aload_n E160_147.1 (k_ E160_147) rfl (s_getI0 E160_148.1 (k_ E160_148) rfl (s_icmp_lt E160_151.1 (k_ E160_151) ⟨fun c9 => s_iconst E160_158.1 (k_ E160_158) (s_iret E160_159.1 (k_ E160_159) (z8.1 c9)), fun c9 => s_iconst E160_154.1 (k_ E160_154) (s_goto E160_155.1 (k_ E160_155) (s_iret E160_159.1 (k_ E160_159) (z8.2 c9)))⟩))))))⟩)))), fun c5 => s_iload_n E160_62.1 (k_ E160_62) rfl (s_aload_n E160_63.1 (k_ E160_63) rfl (s_getR E160_64.1 (k_ E160_64) rfl rfl (s_iload_n E160_67.1 (k_ E160_67) rfl (s_iaload E160_68.1 (k_ E160_68) rfl ⟨(h.2 c5).1, s_icmp_ge E160_69.1 (k_ E160_69) ⟨fun c10 => s_aload_n E160_130.1 (k_ E160_130) rfl (s_iconst E160_131.1 (k_ E160_131) (s_vcall0 E160_132.1 (k_ E160_132) rfl rfl rfl (((h.2 c5).2).1 c10) (fun M7 z11 => s_iload_n E160_135.1 (k_ E160_135) rfl (s_if_eq E160_136.1 (k_ E160_136) ⟨fun c12 => s_iconst E160_158.1 (k_ E160_158) (s_iret E160_159.1 (k_ E160_159) (z11.1 c12)), fun c12 => s_aload_n E160_139.1 (k_ E160_139) rfl (s_getR E160_140.1 (k_ E160_140) rfl rfl (s_iconst E160_143.1 (k_ E160_143) (s_scall1 E160_144.1 (k_ E160_144) rfl rfl rfl (z11.2 c12) (fun M9 r10 z13 => s_aload_n E160_147.1 (k_ E160_147) rfl (s_getI0 E160_148.1 (k_ E160_148) rfl (s_icmp_lt E160_151.1 (k_ E160_151) ⟨fun c14 => s_iconst E160_158.1 (k_ E160_158) (s_iret E160_159.1 (k_ E160_159) (z13.1 c14)), fun c14 => s_iconst E160_154.1 (k_ E160_154) (s_goto E160_155.1 (k_ E160_155) (s_iret E160_159.1 (k_ E160_159) (z13.2 c14)))⟩))))))⟩)))), fun c10 => s_aload_n E160_72.1 (k_ E160_72) rfl (s_aload_n E160_73.1 (k_ E160_73) rfl (s_getR E160_74.1 (k_ E160_74) rfl rfl (s_bipush E160_77.1 (k_ E160_77) (s_iload_n E160_79.1 (k_ E160_79) rfl (s_imul E160_80.1 (k_ E160_80) (s_iload_n E160_81.1 (k_ E160_81) rfl (s_iadd E160_82.1 (k_ E160_82) (s_iaload E160_83.1 (k_ E160_83) rfl ⟨(((h.2 c5).2).2 c10).1, s_i2l E160_84.1 (k_ E160_84) (s_vcall1 E160_85.1 (k_ E160_85) rfl rfl rfl ((((h.2 c5).2).2 c10).2) (fun M12 r13 z15 => s_istore E160_88.1 (k_ E160_88) (s_iload_n E160_90.1 (k_ E160_90) rfl (s_if_ne E160_91.1 (k_ E160_91) ⟨fun c16 => s_iconst E160_99.1 (k_ E160_99) (s_goto E160_100.1 (k_ E160_100) (s_istore_n E160_104.1 (k_ E160_104) (s_aload_n E160_105.1 (k_ E160_105) rfl (s_getR E160_106.1 (k_ E160_106) rfl rfl (s_bipush E160_109.1 (k_ E160_109) (s_iload_n E160_111.1 (k_ E160_111) rfl (s_bipush E160_112.1 (k_ E160_112) (s_idiv E160_114.1 (k_ E160_114) ⟨(z15.1 c16).1, s_imul E160_115.1 (k_ E160_115) (s_iload_n E160_116.1 (k_ E160_116) rfl (s_bipush E160_117.1 (k_ E160_117) (s_irem E160_119.1 (k_ E160_119) ⟨((z15.1 c16).2).1, s_iadd E160_120.1 (k_ E160_120) (s_iload E160_121.1 (k_ E160_121) rfl (s_iastore E160_123.1 (k_ E160_123) rfl ⟨(((z15.1 c16).2).2).1, s_iinc E160_124.1 (k_ E160_124) rfl (s_goto E160_127.1 (k_ E160_127) ((((z15.1 c16).2).2).2))⟩))⟩)))⟩)))))))), fun c16 => s_iload E160_94.1 (k_ E160_94) rfl (s_if_eq E160_96.1 (k_ E160_96) ⟨fun c17 => s_iconst E160_103.1 (k_ E160_103) (s_istore_n E160_104.1 (k_ E160_104) (s_aload_n E160_105.1 (k_ E160_105) rfl (s_getR E160_106.1 (k_ E160_106) rfl rfl (s_bipush E160_109.1 (k_ E160_109) (s_iload_n E160_111.1 (k_ E160_111) rfl (s_bipush E160_112.1 (k_ E160_112) (s_idiv E160_114.1 (k_ E160_114) ⟨((z15.2 c16).1 c17).1, s_imul E160_115.1 (k_ E160_115) (s_iload_n E160_116.1 (k_ E160_116) rfl (s_bipush E160_117.1 (k_ E160_117) (s_irem E160_119.1 (k_ E160_119) ⟨(((z15.2 c16).1 c17).2).1, s_iadd E160_120.1 (k_ E160_120) (s_iload E160_121.1 (k_ E160_121) rfl (s_iastore E160_123.1 (k_ E160_123) rfl ⟨((((z15.2 c16).1 c17).2).2).1, s_iinc E160_124.1 (k_ E160_124) rfl (s_goto E160_127.1 (k_ E160_127) (((((z15.2 c16).1 c17).2).2).2))⟩))⟩)))⟩))))))), fun c17 => s_iconst E160_99.1 (k_ E160_99) (s_goto E160_100.1 (k_ E160_100) (s_istore_n E160_104.1 (k_ E160_104) (s_aload_n E160_105.1 (k_ E160_105) rfl (s_getR E160_106.1 (k_ E160_106) rfl rfl (s_bipush E160_109.1 (k_ E160_109) (s_iload_n E160_111.1 (k_ E160_111) rfl (s_bipush E160_112.1 (k_ E160_112) (s_idiv E160_114.1 (k_ E160_114) ⟨((z15.2 c16).2 c17).1, s_imul E160_115.1 (k_ E160_115) (s_iload_n E160_116.1 (k_ E160_116) rfl (s_bipush E160_117.1 (k_ E160_117) (s_irem E160_119.1 (k_ E160_119) ⟨(((z15.2 c16).2 c17).2).1, s_iadd E160_120.1 (k_ E160_120) (s_iload E160_121.1 (k_ E160_121) rfl (s_iastore E160_123.1 (k_ E160_123) rfl ⟨((((z15.2 c16).2 c17).2).2).1, s_iinc E160_124.1 (k_ E160_124) rfl (s_goto E160_127.1 (k_ E160_127) (((((z15.2 c16).2 c17).2).2).2))⟩))⟩)))⟩))))))))⟩)⟩))))⟩))))))))⟩⟩))))⟩)))))
-- 161: X7_rest
theorem E161_0 : aCode 161 0 = (Instr.aload_n 0, 1, [], 0) ∧ bMask 161 0 = [] := ⟨rfl, rfl⟩
theorem E161_1 : aCode 161 1 = (Instr.iload_n 1, 2, [], 0) ∧ bMask 161 1 = [] := ⟨rfl, rfl⟩
theorem E161_2 : aCode 161 2 = (Instr.invokevirtual 263, 5, [125, 2, 1, 7, 0, 106], 0) ∧ bMask 161 2 = [] := ⟨rfl, rfl⟩
theorem E161_5 : aCode 161 5 = (Instr.ifCond .eq 13, 8, [18], 0) ∧ bMask 161 5 = [] := ⟨rfl, rfl⟩
theorem E161_8 : aCode 161 8 = (Instr.iload_n 2, 9, [], 0) ∧ bMask 161 8 = [] := ⟨rfl, rfl⟩
theorem E161_9 : aCode 161 9 = (Instr.iconst 0, 10, [], 0) ∧ bMask 161 9 = [] := ⟨rfl, rfl⟩
theorem E161_10 : aCode 161 10 = (Instr.bipush 31, 12, [], 31) ∧ bMask 161 10 = [] := ⟨rfl, rfl⟩
theorem E161_12 : aCode 161 12 = (Instr.invokestatic 126, 15, [104, 3, 1, 0, 0, 89], 0) ∧ bMask 161 12 = [] := ⟨rfl, rfl⟩
theorem E161_15 : aCode 161 15 = (Instr.ifCond .ne 5, 18, [20], 0) ∧ bMask 161 15 = [] := ⟨rfl, rfl⟩
theorem E161_18 : aCode 161 18 = (Instr.iconst (-1), 19, [], (-1)) ∧ bMask 161 18 = [] := ⟨rfl, rfl⟩
theorem E161_19 : aCode 161 19 = (Instr.ireturn, 20, [0], 0) ∧ bMask 161 19 = [] := ⟨rfl, rfl⟩
theorem E161_20 : aCode 161 20 = (Instr.aload_n 0, 21, [], 0) ∧ bMask 161 20 = [] := ⟨rfl, rfl⟩
theorem E161_21 : aCode 161 21 = (Instr.iload_n 1, 22, [], 0) ∧ bMask 161 21 = [] := ⟨rfl, rfl⟩
theorem E161_22 : aCode 161 22 = (Instr.invokevirtual 266, 25, [126, 2, 0, 7, 0, 107], 0) ∧ bMask 161 22 = [] := ⟨rfl, rfl⟩
theorem E161_25 : aCode 161 25 = (Instr.aload_n 0, 26, [], 0) ∧ bMask 161 25 = [] := ⟨rfl, rfl⟩
theorem E161_26 : aCode 161 26 = (Instr.getfield 17, 29, [108, 7, 3, 2], 0) ∧ bMask 161 26 = [] := ⟨rfl, rfl⟩
theorem E161_29 : aCode 161 29 = (Instr.iload_n 2, 30, [], 0) ∧ bMask 161 29 = [] := ⟨rfl, rfl⟩
theorem E161_30 : aCode 161 30 = (Instr.iaload, 31, [0], 0) ∧ bMask 161 30 = [] := ⟨rfl, rfl⟩
theorem E161_31 : aCode 161 31 = (Instr.ireturn, 32, [0], 0) ∧ bMask 161 31 = [] := ⟨rfl, rfl⟩
theorem g_X7_rest_0 {Q : bQ} {M : bM} {x1 : Int32} {x2 : Int32} (h : bCall 125 [cR 26 0, cI x1] M (fun v1 M2 => bV1 v1 fun r3 => (((r3 = 0) → (Q (some (cI (-1 : Int32))) M2)) ∧ (¬ (r3 = 0) → (bCall 104 [cI x2, cI (0 : Int32), cI (31 : Int32)] M2 (fun v4 M5 => bV1 v4 fun r6 => (((¬ r6 = 0) → (bCall 126 [cR 26 0, cI x1] M5 (fun v7 M8 => bV0 v7 ((vp_in x2 32) ∧ (Q (some (cI (M8 27 0 x2.toNatClampNeg))) M8))))) ∧ (¬ (¬ r6 = 0) → (Q (some (cI (-1 : Int32))) M5))))))))) : bCall 161 [cR 26 0, cI x1, cI x2] M Q := s_aload_n E161_0.1 (k_ E161_0) rfl (s_iload_n E161_1.1 (k_ E161_1) rfl (s_vcall1 E161_2.1 (k_ E161_2) rfl rfl rfl h (fun M2 r3 z0 => s_if_eq E161_5.1 (k_ E161_5) ⟨fun c1 => s_iconst E161_18.1 (k_ E161_18) (s_iret E161_19.1 (k_ E161_19) (z0.1 c1)), fun c1 => s_iload_n E161_8.1 (k_ E161_8) rfl (s_iconst E161_9.1 (k_ E161_9) (s_bipush E161_10.1 (k_ E161_10) (s_scall1 E161_12.1 (k_ E161_12) rfl rfl rfl (z0.2 c1) (fun M5 r6 z2 => s_if_ne E161_15.1 (k_ E161_15) ⟨fun c3 => s_aload_n E161_20.1 (k_ E161_20) rfl (s_iload_n E161_21.1 (k_ E161_21) rfl (s_vcall0 E161_22.1 (k_ E161_22) rfl rfl rfl (z2.1 c3) (fun M8 z4 => s_aload_n E161_25.1 (k_ E161_25) rfl (s_getR E161_26.1 (k_ E161_26) rfl rfl (s_iload_n E161_29.1 (k_ E161_29) rfl (s_iaload E161_30.1 (k_ E161_30) rfl ⟨z4.1, s_iret E161_31.1 (k_ E161_31) z4.2⟩)))))), fun c3 => s_iconst E161_18.1 (k_ E161_18) (s_iret E161_19.1 (k_ E161_19) (z2.2 c3))⟩))))⟩)))
-- 162: X7_row
theorem E162_0 : aCode 162 0 = (Instr.aload_n 0, 1, [], 0) ∧ bMask 162 0 = [] := ⟨rfl, rfl⟩
theorem E162_1 : aCode 162 1 = (Instr.iload_n 1, 2, [], 0) ∧ bMask 162 1 = [] := ⟨rfl, rfl⟩
theorem E162_2 : aCode 162 2 = (Instr.invokevirtual 263, 5, [125, 2, 1, 7, 0, 106], 0) ∧ bMask 162 2 = [] := ⟨rfl, rfl⟩
theorem E162_5 : aCode 162 5 = (Instr.ifCond .eq 12, 8, [17], 0) ∧ bMask 162 5 = [] := ⟨rfl, rfl⟩
theorem E162_8 : aCode 162 8 = (Instr.iload_n 2, 9, [], 0) ∧ bMask 162 8 = [] := ⟨rfl, rfl⟩
theorem E162_9 : aCode 162 9 = (Instr.iconst 0, 10, [], 0) ∧ bMask 162 9 = [] := ⟨rfl, rfl⟩
theorem E162_10 : aCode 162 10 = (Instr.iconst 2, 11, [], 2) ∧ bMask 162 10 = [] := ⟨rfl, rfl⟩
theorem E162_11 : aCode 162 11 = (Instr.invokestatic 126, 14, [104, 3, 1, 0, 0, 89], 0) ∧ bMask 162 11 = [] := ⟨rfl, rfl⟩
theorem E162_14 : aCode 162 14 = (Instr.ifCond .ne 5, 17, [19], 0) ∧ bMask 162 14 = [] := ⟨rfl, rfl⟩
theorem E162_17 : aCode 162 17 = (Instr.iconst (-1), 18, [], (-1)) ∧ bMask 162 17 = [] := ⟨rfl, rfl⟩
theorem E162_18 : aCode 162 18 = (Instr.ireturn, 19, [0], 0) ∧ bMask 162 18 = [] := ⟨rfl, rfl⟩
theorem E162_19 : aCode 162 19 = (Instr.iload_n 2, 20, [], 0) ∧ bMask 162 19 = [] := ⟨rfl, rfl⟩
theorem E162_20 : aCode 162 20 = (Instr.iconst 2, 21, [], 2) ∧ bMask 162 20 = [] := ⟨rfl, rfl⟩
theorem E162_21 : aCode 162 21 = (Instr.if_icmp .ne 17, 24, [38], 0) ∧ bMask 162 21 = [] := ⟨rfl, rfl⟩
theorem E162_24 : aCode 162 24 = (Instr.aload_n 0, 25, [], 0) ∧ bMask 162 24 = [] := ⟨rfl, rfl⟩
theorem E162_25 : aCode 162 25 = (Instr.iload_n 1, 26, [], 0) ∧ bMask 162 25 = [] := ⟨rfl, rfl⟩
theorem E162_26 : aCode 162 26 = (Instr.invokevirtual 266, 29, [126, 2, 0, 7, 0, 107], 0) ∧ bMask 162 26 = [] := ⟨rfl, rfl⟩
theorem E162_29 : aCode 162 29 = (Instr.aload_n 0, 30, [], 0) ∧ bMask 162 29 = [] := ⟨rfl, rfl⟩
theorem E162_30 : aCode 162 30 = (Instr.getfield 17, 33, [108, 7, 3, 2], 0) ∧ bMask 162 30 = [] := ⟨rfl, rfl⟩
theorem E162_33 : aCode 162 33 = (Instr.iconst 0, 34, [], 0) ∧ bMask 162 33 = [] := ⟨rfl, rfl⟩
theorem E162_34 : aCode 162 34 = (Instr.invokestatic 164, 37, [133, 2, 1, 0, 0, 111], 0) ∧ bMask 162 34 = [] := ⟨rfl, rfl⟩
theorem E162_37 : aCode 162 37 = (Instr.ireturn, 38, [0], 0) ∧ bMask 162 37 = [] := ⟨rfl, rfl⟩
theorem E162_38 : aCode 162 38 = (Instr.iload_n 2, 39, [], 0) ∧ bMask 162 38 = [] := ⟨rfl, rfl⟩
theorem E162_39 : aCode 162 39 = (Instr.ifCond .ne 12, 42, [51], 0) ∧ bMask 162 39 = [] := ⟨rfl, rfl⟩
theorem E162_42 : aCode 162 42 = (Instr.aload_n 0, 43, [], 0) ∧ bMask 162 42 = [] := ⟨rfl, rfl⟩
theorem E162_43 : aCode 162 43 = (Instr.getfield 63, 46, [107, 7, 30, 2], 0) ∧ bMask 162 43 = [] := ⟨rfl, rfl⟩
theorem E162_46 : aCode 162 46 = (Instr.iload_n 1, 47, [], 0) ∧ bMask 162 46 = [] := ⟨rfl, rfl⟩
theorem E162_47 : aCode 162 47 = (Instr.iaload, 48, [0], 0) ∧ bMask 162 47 = [] := ⟨rfl, rfl⟩
theorem E162_48 : aCode 162 48 = (Instr.goto 16, 64, [], 0) ∧ bMask 162 48 = [] := ⟨rfl, rfl⟩
theorem E162_51 : aCode 162 51 = (Instr.aload_n 0, 52, [], 0) ∧ bMask 162 51 = [] := ⟨rfl, rfl⟩
theorem E162_52 : aCode 162 52 = (Instr.getfield 63, 55, [107, 7, 30, 2], 0) ∧ bMask 162 52 = [] := ⟨rfl, rfl⟩
theorem E162_55 : aCode 162 55 = (Instr.iload_n 1, 56, [], 0) ∧ bMask 162 55 = [] := ⟨rfl, rfl⟩
theorem E162_56 : aCode 162 56 = (Instr.iaload, 57, [0], 0) ∧ bMask 162 56 = [] := ⟨rfl, rfl⟩
theorem E162_57 : aCode 162 57 = (Instr.aload_n 0, 58, [], 0) ∧ bMask 162 57 = [] := ⟨rfl, rfl⟩
theorem E162_58 : aCode 162 58 = (Instr.getfield 57, 61, [97, 7, 28, 2], 0) ∧ bMask 162 58 = [] := ⟨rfl, rfl⟩
theorem E162_61 : aCode 162 61 = (Instr.iload_n 1, 62, [], 0) ∧ bMask 162 61 = [] := ⟨rfl, rfl⟩
theorem E162_62 : aCode 162 62 = (Instr.iaload, 63, [0], 0) ∧ bMask 162 62 = [] := ⟨rfl, rfl⟩
theorem E162_63 : aCode 162 63 = (Instr.iadd, 64, [], 0) ∧ bMask 162 63 = [] := ⟨rfl, rfl⟩
theorem E162_64 : aCode 162 64 = (Instr.ireturn, 65, [0], 0) ∧ bMask 162 64 = [] := ⟨rfl, rfl⟩
theorem g_X7_row_0 {Q : bQ} {M : bM} {x1 : Int32} {x2 : Int32} (h : bCall 125 [cR 26 0, cI x1] M (fun v1 M2 => bV1 v1 fun r3 => (((r3 = 0) → (Q (some (cI (-1 : Int32))) M2)) ∧ (¬ (r3 = 0) → (bCall 104 [cI x2, cI (0 : Int32), cI (2 : Int32)] M2 (fun v4 M5 => bV1 v4 fun r6 => (((¬ r6 = 0) → (((¬ x2 = (2 : Int32)) → (((¬ x2 = 0) → ((vp_in x1 4) ∧ ((vp_in x1 4) ∧ (Q (some (cI ((M5 39 0 x1.toNatClampNeg) + (M5 37 0 x1.toNatClampNeg)))) M5)))) ∧ (¬ (¬ x2 = 0) → ((vp_in x1 4) ∧ (Q (some (cI (M5 39 0 x1.toNatClampNeg))) M5))))) ∧ (¬ (¬ x2 = (2 : Int32)) → (bCall 126 [cR 26 0, cI x1] M5 (fun v7 M8 => bV0 v7 (bCall 133 [cR 27 0, cI (0 : Int32)] M8 (fun v9 M10 => bV1 v9 fun r11 => (Q (some (cI r11)) M10)))))))) ∧ (¬ (¬ r6 = 0) → (Q (some (cI (-1 : Int32))) M5))))))))) : bCall 162 [cR 26 0, cI x1, cI x2] M Q := s_aload_n E162_0.1 (k_ E162_0) rfl (s_iload_n E162_1.1 (k_ E162_1) rfl (s_vcall1 E162_2.1 (k_ E162_2) rfl rfl rfl h (fun M2 r3 z0 => s_if_eq E162_5.1 (k_ E162_5) ⟨fun c1 => s_iconst E162_17.1 (k_ E162_17) (s_iret E162_18.1 (k_ E162_18) (z0.1 c1)), fun c1 => s_iload_n E162_8.1 (k_ E162_8) rfl (s_iconst E162_9.1 (k_ E162_9) (s_iconst E162_10.1 (k_ E162_10) (s_scall1 E162_11.1 (k_ E162_11) rfl rfl rfl (z0.2 c1) (fun M5 r6 z2 => s_if_ne E162_14.1 (k_ E162_14) ⟨fun c3 => s_iload_n E162_19.1 (k_ E162_19) rfl (s_iconst E162_20.1 (k_ E162_20) (s_icmp_ne E162_21.1 (k_ E162_21) ⟨fun c4 => s_iload_n E162_38.1 (k_ E162_38) rfl (s_if_ne E162_39.1 (k_ E162_39) ⟨fun c5 => s_aload_n E162_51.1 (k_ E162_51) rfl (s_getR E162_52.1 (k_ E162_52) rfl rfl (s_iload_n E162_55.1 (k_ E162_55) rfl (s_iaload E162_56.1 (k_ E162_56) rfl ⟨(((z2.1 c3).1 c4).1 c5).1, s_aload_n E162_57.1 (k_ E162_57) rfl (s_getR E162_58.1 (k_ E162_58) rfl rfl (s_iload_n E162_61.1 (k_ E162_61) rfl (s_iaload E162_62.1 (k_ E162_62) rfl ⟨((((z2.1 c3).1 c4).1 c5).2).1, s_iadd E162_63.1 (k_ E162_63) (s_iret E162_64.1 (k_ E162_64) (((((z2.1 c3).1 c4).1 c5).2).2))⟩)))⟩))), fun c5 => s_aload_n E162_42.1 (k_ E162_42) rfl (s_getR E162_43.1 (k_ E162_43) rfl rfl (s_iload_n E162_46.1 (k_ E162_46) rfl (s_iaload E162_47.1 (k_ E162_47) rfl ⟨(((z2.1 c3).1 c4).2 c5).1, s_goto E162_48.1 (k_ E162_48) (s_iret E162_64.1 (k_ E162_64) ((((z2.1 c3).1 c4).2 c5).2))⟩)))⟩), fun c4 => s_aload_n E162_24.1 (k_ E162_24) rfl (s_iload_n E162_25.1 (k_ E162_25) rfl (s_vcall0 E162_26.1 (k_ E162_26) rfl rfl rfl ((z2.1 c3).2 c4) (fun M8 z6 => s_aload_n E162_29.1 (k_ E162_29) rfl (s_getR E162_30.1 (k_ E162_30) rfl rfl (s_iconst E162_33.1 (k_ E162_33) (s_scall1 E162_34.1 (k_ E162_34) rfl rfl rfl z6 (fun M10 r11 z7 => s_iret E162_37.1 (k_ E162_37) z7)))))))⟩)), fun c3 => s_iconst E162_17.1 (k_ E162_17) (s_iret E162_18.1 (k_ E162_18) (z2.2 c3))⟩))))⟩)))
-- 163: X7_sheet
theorem E163_0 : aCode 163 0 = (Instr.iload_n 1, 1, [], 0) ∧ bMask 163 0 = [] := ⟨rfl, rfl⟩
theorem E163_1 : aCode 163 1 = (Instr.invokestatic 269, 4, [139, 1, 1, 0, 0, 113], 0) ∧ bMask 163 1 = [] := ⟨rfl, rfl⟩
theorem E163_4 : aCode 163 4 = (Instr.ifCond .eq 18, 7, [22], 0) ∧ bMask 163 4 = [] := ⟨rfl, rfl⟩
theorem E163_7 : aCode 163 7 = (Instr.iload_n 2, 8, [], 0) ∧ bMask 163 7 = [] := ⟨rfl, rfl⟩
theorem E163_8 : aCode 163 8 = (Instr.iconst 0, 9, [], 0) ∧ bMask 163 8 = [] := ⟨rfl, rfl⟩
theorem E163_9 : aCode 163 9 = (Instr.iconst 1, 10, [], 1) ∧ bMask 163 9 = [] := ⟨rfl, rfl⟩
theorem E163_10 : aCode 163 10 = (Instr.invokestatic 126, 13, [104, 3, 1, 0, 0, 89], 0) ∧ bMask 163 10 = [] := ⟨rfl, rfl⟩
theorem E163_13 : aCode 163 13 = (Instr.ifCond .eq 9, 16, [22], 0) ∧ bMask 163 13 = [] := ⟨rfl, rfl⟩
theorem E163_16 : aCode 163 16 = (Instr.iload_n 3, 17, [], 0) ∧ bMask 163 16 = [] := ⟨rfl, rfl⟩
theorem E163_17 : aCode 163 17 = (Instr.bipush 40, 19, [], 40) ∧ bMask 163 17 = [] := ⟨rfl, rfl⟩
theorem E163_19 : aCode 163 19 = (Instr.if_icmp .le 5, 22, [24], 0) ∧ bMask 163 19 = [] := ⟨rfl, rfl⟩
theorem E163_22 : aCode 163 22 = (Instr.iconst (-1), 23, [], (-1)) ∧ bMask 163 22 = [] := ⟨rfl, rfl⟩
theorem E163_23 : aCode 163 23 = (Instr.ireturn, 24, [0], 0) ∧ bMask 163 23 = [] := ⟨rfl, rfl⟩
theorem E163_24 : aCode 163 24 = (Instr.iload_n 3, 25, [], 0) ∧ bMask 163 24 = [] := ⟨rfl, rfl⟩
theorem E163_25 : aCode 163 25 = (Instr.ifCond .ge 6, 28, [31], 0) ∧ bMask 163 25 = [] := ⟨rfl, rfl⟩
theorem E163_28 : aCode 163 28 = (Instr.bipush (-14), 30, [], (-14)) ∧ bMask 163 28 = [] := ⟨rfl, rfl⟩
theorem E163_30 : aCode 163 30 = (Instr.ireturn, 31, [0], 0) ∧ bMask 163 30 = [] := ⟨rfl, rfl⟩
theorem E163_31 : aCode 163 31 = (Instr.aload_n 0, 32, [], 0) ∧ bMask 163 31 = [] := ⟨rfl, rfl⟩
theorem E163_32 : aCode 163 32 = (Instr.getfield 108, 35, [113, 7, 48, 2], 0) ∧ bMask 163 32 = [] := ⟨rfl, rfl⟩
theorem E163_35 : aCode 163 35 = (Instr.iload_n 1, 36, [], 0) ∧ bMask 163 35 = [] := ⟨rfl, rfl⟩
theorem E163_36 : aCode 163 36 = (Instr.iload_n 3, 37, [], 0) ∧ bMask 163 36 = [] := ⟨rfl, rfl⟩
theorem E163_37 : aCode 163 37 = (Instr.iastore, 38, [0], 0) ∧ bMask 163 37 = [] := ⟨rfl, rfl⟩
theorem E163_38 : aCode 163 38 = (Instr.aload_n 0, 39, [], 0) ∧ bMask 163 38 = [] := ⟨rfl, rfl⟩
theorem E163_39 : aCode 163 39 = (Instr.getfield 111, 42, [119, 7, 49, 2], 0) ∧ bMask 163 39 = [] := ⟨rfl, rfl⟩
theorem E163_42 : aCode 163 42 = (Instr.iload_n 1, 43, [], 0) ∧ bMask 163 42 = [] := ⟨rfl, rfl⟩
theorem E163_43 : aCode 163 43 = (Instr.iload_n 2, 44, [], 0) ∧ bMask 163 43 = [] := ⟨rfl, rfl⟩
theorem E163_44 : aCode 163 44 = (Instr.iastore, 45, [0], 0) ∧ bMask 163 44 = [] := ⟨rfl, rfl⟩
theorem E163_45 : aCode 163 45 = (Instr.iconst 0, 46, [], 0) ∧ bMask 163 45 = [] := ⟨rfl, rfl⟩
theorem E163_46 : aCode 163 46 = (Instr.istore 4, 48, [], 0) ∧ bMask 163 46 = [] := ⟨rfl, rfl⟩
theorem E163_48 : aCode 163 48 = (Instr.iload 4, 50, [], 0) ∧ bMask 163 48 = [] := ⟨rfl, rfl⟩
theorem E163_50 : aCode 163 50 = (Instr.bipush 40, 52, [], 40) ∧ bMask 163 50 = [] := ⟨rfl, rfl⟩
theorem E163_52 : aCode 163 52 = (Instr.if_icmp .ge 22, 55, [74], 0) ∧ bMask 163 52 = [] := ⟨rfl, rfl⟩
theorem E163_55 : aCode 163 55 = (Instr.aload_n 0, 56, [], 0) ∧ bMask 163 55 = [] := ⟨rfl, rfl⟩
theorem E163_56 : aCode 163 56 = (Instr.getfield 114, 59, [116, 7, 50, 2], 0) ∧ bMask 163 56 = [] := ⟨rfl, rfl⟩
theorem E163_59 : aCode 163 59 = (Instr.bipush 40, 61, [], 40) ∧ bMask 163 59 = [] := ⟨rfl, rfl⟩
theorem E163_61 : aCode 163 61 = (Instr.iload_n 1, 62, [], 0) ∧ bMask 163 61 = [] := ⟨rfl, rfl⟩
theorem E163_62 : aCode 163 62 = (Instr.imul, 63, [], 0) ∧ bMask 163 62 = [] := ⟨rfl, rfl⟩
theorem E163_63 : aCode 163 63 = (Instr.iload 4, 65, [], 0) ∧ bMask 163 63 = [] := ⟨rfl, rfl⟩
theorem E163_65 : aCode 163 65 = (Instr.iadd, 66, [], 0) ∧ bMask 163 65 = [] := ⟨rfl, rfl⟩
theorem E163_66 : aCode 163 66 = (Instr.iconst 0, 67, [], 0) ∧ bMask 163 66 = [] := ⟨rfl, rfl⟩
theorem E163_67 : aCode 163 67 = (Instr.iastore, 68, [0], 0) ∧ bMask 163 67 = [] := ⟨rfl, rfl⟩
theorem E163_68 : aCode 163 68 = (Instr.iinc 4 1, 71, [], 1) ∧ bMask 163 68 = [] := ⟨rfl, rfl⟩
theorem E163_71 : aCode 163 71 = (Instr.goto (-23), 48, [], 0) ∧ bMask 163 71 = [] := ⟨rfl, rfl⟩
theorem E163_74 : aCode 163 74 = (Instr.iconst 1, 75, [], 1) ∧ bMask 163 74 = [] := ⟨rfl, rfl⟩
theorem E163_75 : aCode 163 75 = (Instr.ireturn, 76, [0], 0) ∧ bMask 163 75 = [] := ⟨rfl, rfl⟩
theorem g_X7_sheet_0 {Q : bQ} {M : bM} {x1 : Int32} {x2 : Int32} {x3 : Int32} (h : bCall 139 [cI x1] M (fun v1 M2 => bV1 v1 fun r3 => (((r3 = 0) → (Q (some (cI (-1 : Int32))) M2)) ∧ (¬ (r3 = 0) → (bCall 104 [cI x2, cI (0 : Int32), cI (1 : Int32)] M2 (fun v4 M5 => bV1 v4 fun r6 => (((r6 = 0) → (Q (some (cI (-1 : Int32))) M5)) ∧ (¬ (r6 = 0) → (((x3 ≤ (40 : Int32)) → (((0 ≤ x3) → ((vp_in x1 3) ∧ ((vp_in x1 3) ∧ bGo 163 Q 48 [some (cR 26 0), some (cI x1), some (cI x2), some (cI x3), some (cI (0 : Int32))] [] (bU (bU M5 54 0 x1.toNatClampNeg x3) 55 0 x1.toNatClampNeg x2)))) ∧ (¬ (0 ≤ x3) → (Q (some (cI (-14 : Int32))) M5)))) ∧ (¬ (x3 ≤ (40 : Int32)) → (Q (some (cI (-1 : Int32))) M5))))))))))) : bCall 163 [cR 26 0, cI x1, cI x2, cI x3] M Q := s_iload_n E163_0.1 (k_ E163_0) rfl (s_scall1 E163_1.1 (k_ E163_1) rfl rfl rfl h (fun M2 r3 z0 => s_if_eq E163_4.1 (k_ E163_4) ⟨fun c1 => s_iconst E163_22.1 (k_ E163_22) (s_iret E163_23.1 (k_ E163_23) (z0.1 c1)), fun c1 => s_iload_n E163_7.1 (k_ E163_7) rfl (s_iconst E163_8.1 (k_ E163_8) (s_iconst E163_9.1 (k_ E163_9) (s_scall1 E163_10.1 (k_ E163_10) rfl rfl rfl (z0.2 c1) (fun M5 r6 z2 => s_if_eq E163_13.1 (k_ E163_13) ⟨fun c3 => s_iconst E163_22.1 (k_ E163_22) (s_iret E163_23.1 (k_ E163_23) (z2.1 c3)), fun c3 => s_iload_n E163_16.1 (k_ E163_16) rfl (s_bipush E163_17.1 (k_ E163_17) (s_icmp_le E163_19.1 (k_ E163_19) ⟨fun c4 => s_iload_n E163_24.1 (k_ E163_24) rfl (s_if_ge E163_25.1 (k_ E163_25) ⟨fun c5 => s_aload_n E163_31.1 (k_ E163_31) rfl (s_getR E163_32.1 (k_ E163_32) rfl rfl (s_iload_n E163_35.1 (k_ E163_35) rfl (s_iload_n E163_36.1 (k_ E163_36) rfl (s_iastore E163_37.1 (k_ E163_37) rfl ⟨(((z2.2 c3).1 c4).1 c5).1, s_aload_n E163_38.1 (k_ E163_38) rfl (s_getR E163_39.1 (k_ E163_39) rfl rfl (s_iload_n E163_42.1 (k_ E163_42) rfl (s_iload_n E163_43.1 (k_ E163_43) rfl (s_iastore E163_44.1 (k_ E163_44) rfl ⟨((((z2.2 c3).1 c4).1 c5).2).1, s_iconst E163_45.1 (k_ E163_45) (s_istore E163_46.1 (k_ E163_46) (((((z2.2 c3).1 c4).1 c5).2).2))⟩))))⟩)))), fun c5 => s_bipush E163_28.1 (k_ E163_28) (s_iret E163_30.1 (k_ E163_30) (((z2.2 c3).1 c4).2 c5))⟩), fun c4 => s_iconst E163_22.1 (k_ E163_22) (s_iret E163_23.1 (k_ E163_23) ((z2.2 c3).2 c4))⟩))⟩))))⟩))
theorem g_X7_sheet_48 {Q : bQ} {M : bM} {x1 : Int32} {x2 : Int32} {x3 : Int32} {x4 : Int32} (h : (((40 : Int32) ≤ x4) → (Q (some (cI (1 : Int32))) M)) ∧ (¬ ((40 : Int32) ≤ x4) → ((vp_in (((40 : Int32) * x1) + x4) 120) ∧ bGo 163 Q 48 [some (cR 26 0), some (cI x1), some (cI x2), some (cI x3), some (cI (x4 + (1 : Int32)))] [] (bU M 56 0 (((40 : Int32) * x1) + x4).toNatClampNeg (0 : Int32))))) : bGo 163 Q 48 [some (cR 26 0), some (cI x1), some (cI x2), some (cI x3), some (cI x4)] [] M := s_iload E163_48.1 (k_ E163_48) rfl (s_bipush E163_50.1 (k_ E163_50) (s_icmp_ge E163_52.1 (k_ E163_52) ⟨fun c6 => s_iconst E163_74.1 (k_ E163_74) (s_iret E163_75.1 (k_ E163_75) (h.1 c6)), fun c6 => s_aload_n E163_55.1 (k_ E163_55) rfl (s_getR E163_56.1 (k_ E163_56) rfl rfl (s_bipush E163_59.1 (k_ E163_59) (s_iload_n E163_61.1 (k_ E163_61) rfl (s_imul E163_62.1 (k_ E163_62) (s_iload E163_63.1 (k_ E163_63) rfl (s_iadd E163_65.1 (k_ E163_65) (s_iconst E163_66.1 (k_ E163_66) (s_iastore E163_67.1 (k_ E163_67) rfl ⟨(h.2 c6).1, s_iinc E163_68.1 (k_ E163_68) rfl (s_goto E163_71.1 (k_ E163_71) ((h.2 c6).2))⟩))))))))⟩))
-- 164: X7_shift
theorem E164_0 : aCode 164 0 = (Instr.iload_n 1, 1, [], 0) ∧ bMask 164 0 = [] := ⟨rfl, rfl⟩
theorem E164_1 : aCode 164 1 = (Instr.invokestatic 134, 4, [105, 1, 1, 0, 0, 90], 0) ∧ bMask 164 1 = [] := ⟨rfl, rfl⟩
theorem E164_4 : aCode 164 4 = (Instr.ifCond .eq 20, 7, [24], 0) ∧ bMask 164 4 = [] := ⟨rfl, rfl⟩
theorem E164_7 : aCode 164 7 = (Instr.iload_n 2, 8, [], 0) ∧ bMask 164 7 = [] := ⟨rfl, rfl⟩
theorem E164_8 : aCode 164 8 = (Instr.iconst 0, 9, [], 0) ∧ bMask 164 8 = [] := ⟨rfl, rfl⟩
theorem E164_9 : aCode 164 9 = (Instr.bipush 31, 11, [], 31) ∧ bMask 164 9 = [] := ⟨rfl, rfl⟩
theorem E164_11 : aCode 164 11 = (Instr.invokestatic 126, 14, [104, 3, 1, 0, 0, 89], 0) ∧ bMask 164 11 = [] := ⟨rfl, rfl⟩
theorem E164_14 : aCode 164 14 = (Instr.ifCond .eq 10, 17, [24], 0) ∧ bMask 164 14 = [] := ⟨rfl, rfl⟩
theorem E164_17 : aCode 164 17 = (Instr.iload_n 3, 18, [], 0) ∧ bMask 164 17 = [] := ⟨rfl, rfl⟩
theorem E164_18 : aCode 164 18 = (Instr.invokestatic 134, 21, [105, 1, 1, 0, 0, 90], 0) ∧ bMask 164 18 = [] := ⟨rfl, rfl⟩
theorem E164_21 : aCode 164 21 = (Instr.ifCond .ne 5, 24, [26], 0) ∧ bMask 164 21 = [] := ⟨rfl, rfl⟩
theorem E164_24 : aCode 164 24 = (Instr.iconst (-1), 25, [], (-1)) ∧ bMask 164 24 = [] := ⟨rfl, rfl⟩
theorem E164_25 : aCode 164 25 = (Instr.ireturn, 26, [0], 0) ∧ bMask 164 25 = [] := ⟨rfl, rfl⟩
theorem E164_26 : aCode 164 26 = (Instr.aload_n 0, 27, [], 0) ∧ bMask 164 26 = [] := ⟨rfl, rfl⟩
theorem E164_27 : aCode 164 27 = (Instr.iload_n 1, 28, [], 0) ∧ bMask 164 27 = [] := ⟨rfl, rfl⟩
theorem E164_28 : aCode 164 28 = (Instr.aload_n 0, 29, [], 0) ∧ bMask 164 28 = [] := ⟨rfl, rfl⟩
theorem E164_29 : aCode 164 29 = (Instr.getfield 20, 32, [110, 7, 4, 2], 0) ∧ bMask 164 29 = [] := ⟨rfl, rfl⟩
theorem E164_32 : aCode 164 32 = (Instr.invokevirtual 149, 35, [144, 3, 0, 7, 0, 118], 0) ∧ bMask 164 32 = [] := ⟨rfl, rfl⟩
theorem E164_35 : aCode 164 35 = (Instr.iconst 0, 36, [], 0) ∧ bMask 164 35 = [] := ⟨rfl, rfl⟩
theorem E164_36 : aCode 164 36 = (Instr.istore 4, 38, [], 0) ∧ bMask 164 36 = [] := ⟨rfl, rfl⟩
theorem E164_38 : aCode 164 38 = (Instr.iload 4, 40, [], 0) ∧ bMask 164 38 = [] := ⟨rfl, rfl⟩
theorem E164_40 : aCode 164 40 = (Instr.bipush 32, 42, [], 32) ∧ bMask 164 40 = [] := ⟨rfl, rfl⟩
theorem E164_42 : aCode 164 42 = (Instr.if_icmp .ge 40, 45, [82], 0) ∧ bMask 164 42 = [] := ⟨rfl, rfl⟩
theorem E164_45 : aCode 164 45 = (Instr.aload_n 0, 46, [], 0) ∧ bMask 164 45 = [] := ⟨rfl, rfl⟩
theorem E164_46 : aCode 164 46 = (Instr.getfield 13, 49, [69, 7, 1, 2], 0) ∧ bMask 164 46 = [] := ⟨rfl, rfl⟩
theorem E164_49 : aCode 164 49 = (Instr.bipush 32, 51, [], 32) ∧ bMask 164 49 = [] := ⟨rfl, rfl⟩
theorem E164_51 : aCode 164 51 = (Instr.iload_n 3, 52, [], 0) ∧ bMask 164 51 = [] := ⟨rfl, rfl⟩
theorem E164_52 : aCode 164 52 = (Instr.imul, 53, [], 0) ∧ bMask 164 52 = [] := ⟨rfl, rfl⟩
theorem E164_53 : aCode 164 53 = (Instr.iload 4, 55, [], 0) ∧ bMask 164 53 = [] := ⟨rfl, rfl⟩
theorem E164_55 : aCode 164 55 = (Instr.iadd, 56, [], 0) ∧ bMask 164 55 = [] := ⟨rfl, rfl⟩
theorem E164_56 : aCode 164 56 = (Instr.iload 4, 58, [], 0) ∧ bMask 164 56 = [] := ⟨rfl, rfl⟩
theorem E164_58 : aCode 164 58 = (Instr.iload_n 2, 59, [], 0) ∧ bMask 164 58 = [] := ⟨rfl, rfl⟩
theorem E164_59 : aCode 164 59 = (Instr.if_icmp .ge 7, 62, [66], 0) ∧ bMask 164 59 = [] := ⟨rfl, rfl⟩
theorem E164_62 : aCode 164 62 = (Instr.iconst 0, 63, [], 0) ∧ bMask 164 62 = [] := ⟨rfl, rfl⟩
theorem E164_63 : aCode 164 63 = (Instr.goto 12, 75, [], 0) ∧ bMask 164 63 = [] := ⟨rfl, rfl⟩
theorem E164_66 : aCode 164 66 = (Instr.aload_n 0, 67, [], 0) ∧ bMask 164 66 = [] := ⟨rfl, rfl⟩
theorem E164_67 : aCode 164 67 = (Instr.getfield 20, 70, [110, 7, 4, 2], 0) ∧ bMask 164 67 = [] := ⟨rfl, rfl⟩
theorem E164_70 : aCode 164 70 = (Instr.iload 4, 72, [], 0) ∧ bMask 164 70 = [] := ⟨rfl, rfl⟩
theorem E164_72 : aCode 164 72 = (Instr.iload_n 2, 73, [], 0) ∧ bMask 164 72 = [] := ⟨rfl, rfl⟩
theorem E164_73 : aCode 164 73 = (Instr.isub, 74, [], 0) ∧ bMask 164 73 = [] := ⟨rfl, rfl⟩
theorem E164_74 : aCode 164 74 = (Instr.iaload, 75, [0], 0) ∧ bMask 164 74 = [] := ⟨rfl, rfl⟩
theorem E164_75 : aCode 164 75 = (Instr.iastore, 76, [0], 0) ∧ bMask 164 75 = [] := ⟨rfl, rfl⟩
theorem E164_76 : aCode 164 76 = (Instr.iinc 4 1, 79, [], 1) ∧ bMask 164 76 = [] := ⟨rfl, rfl⟩
theorem E164_79 : aCode 164 79 = (Instr.goto (-41), 38, [], 0) ∧ bMask 164 79 = [] := ⟨rfl, rfl⟩
theorem E164_82 : aCode 164 82 = (Instr.iconst 1, 83, [], 1) ∧ bMask 164 82 = [] := ⟨rfl, rfl⟩
theorem E164_83 : aCode 164 83 = (Instr.ireturn, 84, [0], 0) ∧ bMask 164 83 = [] := ⟨rfl, rfl⟩
theorem g_X7_shift_0 {Q : bQ} {M : bM} {x1 : Int32} {x2 : Int32} {x3 : Int32} (h : bCall 105 [cI x1] M (fun v1 M2 => bV1 v1 fun r3 => (((r3 = 0) → (Q (some (cI (-1 : Int32))) M2)) ∧ (¬ (r3 = 0) → (bCall 104 [cI x2, cI (0 : Int32), cI (31 : Int32)] M2 (fun v4 M5 => bV1 v4 fun r6 => (((r6 = 0) → (Q (some (cI (-1 : Int32))) M5)) ∧ (¬ (r6 = 0) → (bCall 105 [cI x3] M5 (fun v7 M8 => bV1 v7 fun r9 => (((¬ r9 = 0) → (bCall 144 [cR 26 0, cI x1, cR 27 1] M8 (fun v10 M11 => bV0 v10 (bGo 164 Q 38 [some (cR 26 0), some (cI x1), some (cI x2), some (cI x3), some (cI (0 : Int32))] [] M11)))) ∧ (¬ (¬ r9 = 0) → (Q (some (cI (-1 : Int32))) M8))))))))))))) : bCall 164 [cR 26 0, cI x1, cI x2, cI x3] M Q := s_iload_n E164_0.1 (k_ E164_0) rfl (s_scall1 E164_1.1 (k_ E164_1) rfl rfl rfl h (fun M2 r3 z0 => s_if_eq E164_4.1 (k_ E164_4) ⟨fun c1 => s_iconst E164_24.1 (k_ E164_24) (s_iret E164_25.1 (k_ E164_25) (z0.1 c1)), fun c1 => s_iload_n E164_7.1 (k_ E164_7) rfl (s_iconst E164_8.1 (k_ E164_8) (s_bipush E164_9.1 (k_ E164_9) (s_scall1 E164_11.1 (k_ E164_11) rfl rfl rfl (z0.2 c1) (fun M5 r6 z2 => s_if_eq E164_14.1 (k_ E164_14) ⟨fun c3 => s_iconst E164_24.1 (k_ E164_24) (s_iret E164_25.1 (k_ E164_25) (z2.1 c3)), fun c3 => s_iload_n E164_17.1 (k_ E164_17) rfl (s_scall1 E164_18.1 (k_ E164_18) rfl rfl rfl (z2.2 c3) (fun M8 r9 z4 => s_if_ne E164_21.1 (k_ E164_21) ⟨fun c5 => s_aload_n E164_26.1 (k_ E164_26) rfl (s_iload_n E164_27.1 (k_ E164_27) rfl (s_aload_n E164_28.1 (k_ E164_28) rfl (s_getR E164_29.1 (k_ E164_29) rfl rfl (s_vcall0 E164_32.1 (k_ E164_32) rfl rfl rfl (z4.1 c5) (fun M11 z6 => s_iconst E164_35.1 (k_ E164_35) (s_istore E164_36.1 (k_ E164_36) (z6))))))), fun c5 => s_iconst E164_24.1 (k_ E164_24) (s_iret E164_25.1 (k_ E164_25) (z4.2 c5))⟩))⟩))))⟩))
theorem g_X7_shift_38 {Q : bQ} {M : bM} {x1 : Int32} {x2 : Int32} {x3 : Int32} {x4 : Int32} (h : (((32 : Int32) ≤ x4) → (Q (some (cI (1 : Int32))) M)) ∧ (¬ ((32 : Int32) ≤ x4) → (((x2 ≤ x4) → ((vp_in (x4 - x2) 32) ∧ ((vp_in (((32 : Int32) * x3) + x4) 192) ∧ bGo 164 Q 38 [some (cR 26 0), some (cI x1), some (cI x2), some (cI x3), some (cI (x4 + (1 : Int32)))] [] (bU M 28 0 (((32 : Int32) * x3) + x4).toNatClampNeg (M 27 1 (x4 - x2).toNatClampNeg))))) ∧ (¬ (x2 ≤ x4) → ((vp_in (((32 : Int32) * x3) + x4) 192) ∧ bGo 164 Q 38 [some (cR 26 0), some (cI x1), some (cI x2), some (cI x3), some (cI (x4 + (1 : Int32)))] [] (bU M 28 0 (((32 : Int32) * x3) + x4).toNatClampNeg (0 : Int32))))))) : bGo 164 Q 38 [some (cR 26 0), some (cI x1), some (cI x2), some (cI x3), some (cI x4)] [] M := s_iload E164_38.1 (k_ E164_38) rfl (s_bipush E164_40.1 (k_ E164_40) (s_icmp_ge E164_42.1 (k_ E164_42) ⟨fun c7 => s_iconst E164_82.1 (k_ E164_82) (s_iret E164_83.1 (k_ E164_83) (h.1 c7)), fun c7 => s_aload_n E164_45.1 (k_ E164_45) rfl (s_getR E164_46.1 (k_ E164_46) rfl rfl (s_bipush E164_49.1 (k_ E164_49) (s_iload_n E164_51.1 (k_ E164_51) rfl (s_imul E164_52.1 (k_ E164_52) (s_iload E164_53.1 (k_ E164_53) rfl (s_iadd E164_55.1 (k_ E164_55) (s_iload E164_56.1 (k_ E164_56) rfl (s_iload_n E164_58.1 (k_ E164_58) rfl (s_icmp_ge E164_59.1 (k_ E164_59) ⟨fun c8 => s_aload_n E164_66.1 (k_ E164_66) rfl (s_getR E164_67.1 (k_ E164_67) rfl rfl (s_iload E164_70.1 (k_ E164_70) rfl (s_iload_n E164_72.1 (k_ E164_72) rfl (s_isub E164_73.1 (k_ E164_73) (s_iaload E164_74.1 (k_ E164_74) rfl ⟨((h.2 c7).1 c8).1, s_iastore E164_75.1 (k_ E164_75) rfl ⟨(((h.2 c7).1 c8).2).1, s_iinc E164_76.1 (k_ E164_76) rfl (s_goto E164_79.1 (k_ E164_79) ((((h.2 c7).1 c8).2).2))⟩⟩))))), fun c8 => s_iconst E164_62.1 (k_ E164_62) (s_goto E164_63.1 (k_ E164_63) (s_iastore E164_75.1 (k_ E164_75) rfl ⟨((h.2 c7).2 c8).1, s_iinc E164_76.1 (k_ E164_76) rfl (s_goto E164_79.1 (k_ E164_79) (((h.2 c7).2 c8).2))⟩))⟩)))))))))⟩))
-- 165: X7_spills
theorem E165_0 : aCode 165 0 = (Instr.iload_n 1, 1, [], 0) ∧ bMask 165 0 = [] := ⟨rfl, rfl⟩
theorem E165_1 : aCode 165 1 = (Instr.invokestatic 134, 4, [105, 1, 1, 0, 0, 90], 0) ∧ bMask 165 1 = [] := ⟨rfl, rfl⟩
theorem E165_4 : aCode 165 4 = (Instr.ifCond .eq 10, 7, [14], 0) ∧ bMask 165 4 = [] := ⟨rfl, rfl⟩
theorem E165_7 : aCode 165 7 = (Instr.iload_n 2, 8, [], 0) ∧ bMask 165 7 = [] := ⟨rfl, rfl⟩
theorem E165_8 : aCode 165 8 = (Instr.invokestatic 269, 11, [139, 1, 1, 0, 0, 113], 0) ∧ bMask 165 8 = [] := ⟨rfl, rfl⟩
theorem E165_11 : aCode 165 11 = (Instr.ifCond .ne 5, 14, [16], 0) ∧ bMask 165 11 = [] := ⟨rfl, rfl⟩
theorem E165_14 : aCode 165 14 = (Instr.iconst (-1), 15, [], (-1)) ∧ bMask 165 14 = [] := ⟨rfl, rfl⟩
theorem E165_15 : aCode 165 15 = (Instr.ireturn, 16, [0], 0) ∧ bMask 165 15 = [] := ⟨rfl, rfl⟩
theorem E165_16 : aCode 165 16 = (Instr.aload_n 0, 17, [], 0) ∧ bMask 165 16 = [] := ⟨rfl, rfl⟩
theorem E165_17 : aCode 165 17 = (Instr.getfield 108, 20, [113, 7, 48, 2], 0) ∧ bMask 165 17 = [] := ⟨rfl, rfl⟩
theorem E165_20 : aCode 165 20 = (Instr.iload_n 2, 21, [], 0) ∧ bMask 165 20 = [] := ⟨rfl, rfl⟩
theorem E165_21 : aCode 165 21 = (Instr.iaload, 22, [0], 0) ∧ bMask 165 21 = [] := ⟨rfl, rfl⟩
theorem E165_22 : aCode 165 22 = (Instr.ifCond .ge 6, 25, [28], 0) ∧ bMask 165 22 = [] := ⟨rfl, rfl⟩
theorem E165_25 : aCode 165 25 = (Instr.bipush (-11), 27, [], (-11)) ∧ bMask 165 25 = [] := ⟨rfl, rfl⟩
theorem E165_27 : aCode 165 27 = (Instr.ireturn, 28, [0], 0) ∧ bMask 165 27 = [] := ⟨rfl, rfl⟩
theorem E165_28 : aCode 165 28 = (Instr.aload_n 0, 29, [], 0) ∧ bMask 165 28 = [] := ⟨rfl, rfl⟩
theorem E165_29 : aCode 165 29 = (Instr.getfield 108, 32, [113, 7, 48, 2], 0) ∧ bMask 165 29 = [] := ⟨rfl, rfl⟩
theorem E165_32 : aCode 165 32 = (Instr.iload_n 2, 33, [], 0) ∧ bMask 165 32 = [] := ⟨rfl, rfl⟩
theorem E165_33 : aCode 165 33 = (Instr.iaload, 34, [0], 0) ∧ bMask 165 33 = [] := ⟨rfl, rfl⟩
theorem E165_34 : aCode 165 34 = (Instr.bipush 32, 36, [], 32) ∧ bMask 165 34 = [] := ⟨rfl, rfl⟩
theorem E165_36 : aCode 165 36 = (Instr.if_icmp .ge 12, 39, [48], 0) ∧ bMask 165 36 = [] := ⟨rfl, rfl⟩
theorem E165_39 : aCode 165 39 = (Instr.aload_n 0, 40, [], 0) ∧ bMask 165 39 = [] := ⟨rfl, rfl⟩
theorem E165_40 : aCode 165 40 = (Instr.getfield 108, 43, [113, 7, 48, 2], 0) ∧ bMask 165 40 = [] := ⟨rfl, rfl⟩
theorem E165_43 : aCode 165 43 = (Instr.iload_n 2, 44, [], 0) ∧ bMask 165 43 = [] := ⟨rfl, rfl⟩
theorem E165_44 : aCode 165 44 = (Instr.iaload, 45, [0], 0) ∧ bMask 165 44 = [] := ⟨rfl, rfl⟩
theorem E165_45 : aCode 165 45 = (Instr.goto 5, 50, [], 0) ∧ bMask 165 45 = [] := ⟨rfl, rfl⟩
theorem E165_48 : aCode 165 48 = (Instr.bipush 32, 50, [], 32) ∧ bMask 165 48 = [] := ⟨rfl, rfl⟩
theorem E165_50 : aCode 165 50 = (Instr.istore_n 3, 51, [], 0) ∧ bMask 165 50 = [] := ⟨rfl, rfl⟩
theorem E165_51 : aCode 165 51 = (Instr.iconst 0, 52, [], 0) ∧ bMask 165 51 = [] := ⟨rfl, rfl⟩
theorem E165_52 : aCode 165 52 = (Instr.istore 4, 54, [], 0) ∧ bMask 165 52 = [] := ⟨rfl, rfl⟩
theorem E165_54 : aCode 165 54 = (Instr.iload 4, 56, [], 0) ∧ bMask 165 54 = [] := ⟨rfl, rfl⟩
theorem E165_56 : aCode 165 56 = (Instr.iload_n 3, 57, [], 0) ∧ bMask 165 56 = [] := ⟨rfl, rfl⟩
theorem E165_57 : aCode 165 57 = (Instr.if_icmp .ge 28, 60, [85], 0) ∧ bMask 165 57 = [] := ⟨rfl, rfl⟩
theorem E165_60 : aCode 165 60 = (Instr.aload_n 0, 61, [], 0) ∧ bMask 165 60 = [] := ⟨rfl, rfl⟩
theorem E165_61 : aCode 165 61 = (Instr.iload_n 2, 62, [], 0) ∧ bMask 165 61 = [] := ⟨rfl, rfl⟩
theorem E165_62 : aCode 165 62 = (Instr.iload 4, 64, [], 0) ∧ bMask 165 62 = [] := ⟨rfl, rfl⟩
theorem E165_64 : aCode 165 64 = (Instr.aload_n 0, 65, [], 0) ∧ bMask 165 64 = [] := ⟨rfl, rfl⟩
theorem E165_65 : aCode 165 65 = (Instr.getfield 13, 68, [69, 7, 1, 2], 0) ∧ bMask 165 65 = [] := ⟨rfl, rfl⟩
theorem E165_68 : aCode 165 68 = (Instr.bipush 32, 70, [], 32) ∧ bMask 165 68 = [] := ⟨rfl, rfl⟩
theorem E165_70 : aCode 165 70 = (Instr.iload_n 1, 71, [], 0) ∧ bMask 165 70 = [] := ⟨rfl, rfl⟩
theorem E165_71 : aCode 165 71 = (Instr.imul, 72, [], 0) ∧ bMask 165 71 = [] := ⟨rfl, rfl⟩
theorem E165_72 : aCode 165 72 = (Instr.iload 4, 74, [], 0) ∧ bMask 165 72 = [] := ⟨rfl, rfl⟩
theorem E165_74 : aCode 165 74 = (Instr.iadd, 75, [], 0) ∧ bMask 165 74 = [] := ⟨rfl, rfl⟩
theorem E165_75 : aCode 165 75 = (Instr.iaload, 76, [0], 0) ∧ bMask 165 75 = [] := ⟨rfl, rfl⟩
theorem E165_76 : aCode 165 76 = (Instr.invokevirtual 288, 79, [150, 4, 0, 7, 0, 121], 0) ∧ bMask 165 76 = [] := ⟨rfl, rfl⟩
theorem E165_79 : aCode 165 79 = (Instr.iinc 4 1, 82, [], 1) ∧ bMask 165 79 = [] := ⟨rfl, rfl⟩
theorem E165_82 : aCode 165 82 = (Instr.goto (-28), 54, [], 0) ∧ bMask 165 82 = [] := ⟨rfl, rfl⟩
theorem E165_85 : aCode 165 85 = (Instr.iload_n 3, 86, [], 0) ∧ bMask 165 85 = [] := ⟨rfl, rfl⟩
theorem E165_86 : aCode 165 86 = (Instr.ireturn, 87, [0], 0) ∧ bMask 165 86 = [] := ⟨rfl, rfl⟩
theorem g_X7_spills_0 {Q : bQ} {M : bM} {x1 : Int32} {x2 : Int32} (h : bCall 105 [cI x1] M (fun v1 M2 => bV1 v1 fun r3 => (((r3 = 0) → (Q (some (cI (-1 : Int32))) M2)) ∧ (¬ (r3 = 0) → (bCall 139 [cI x2] M2 (fun v4 M5 => bV1 v4 fun r6 => (((¬ r6 = 0) → ((vp_in x2 3) ∧ (((0 ≤ (M5 54 0 x2.toNatClampNeg)) → ((vp_in x2 3) ∧ ((((32 : Int32) ≤ (M5 54 0 x2.toNatClampNeg)) → bGo 165 Q 54 [some (cR 26 0), some (cI x1), some (cI x2), some (cI (32 : Int32)), some (cI (0 : Int32))] [] M5) ∧ (¬ ((32 : Int32) ≤ (M5 54 0 x2.toNatClampNeg)) → ((vp_in x2 3) ∧ bGo 165 Q 54 [some (cR 26 0), some (cI x1), some (cI x2), some (cI (M5 54 0 x2.toNatClampNeg)), some (cI (0 : Int32))] [] M5))))) ∧ (¬ (0 ≤ (M5 54 0 x2.toNatClampNeg)) → (Q (some (cI (-11 : Int32))) M5))))) ∧ (¬ (¬ r6 = 0) → (Q (some (cI (-1 : Int32))) M5))))))))) : bCall 165 [cR 26 0, cI x1, cI x2] M Q := s_iload_n E165_0.1 (k_ E165_0) rfl (s_scall1 E165_1.1 (k_ E165_1) rfl rfl rfl h (fun M2 r3 z0 => s_if_eq E165_4.1 (k_ E165_4) ⟨fun c1 => s_iconst E165_14.1 (k_ E165_14) (s_iret E165_15.1 (k_ E165_15) (z0.1 c1)), fun c1 => s_iload_n E165_7.1 (k_ E165_7) rfl (s_scall1 E165_8.1 (k_ E165_8) rfl rfl rfl (z0.2 c1) (fun M5 r6 z2 => s_if_ne E165_11.1 (k_ E165_11) ⟨fun c3 => s_aload_n E165_16.1 (k_ E165_16) rfl (s_getR E165_17.1 (k_ E165_17) rfl rfl (s_iload_n E165_20.1 (k_ E165_20) rfl (s_iaload E165_21.1 (k_ E165_21) rfl ⟨(z2.1 c3).1, s_if_ge E165_22.1 (k_ E165_22) ⟨fun c4 => s_aload_n E165_28.1 (k_ E165_28) rfl (s_getR E165_29.1 (k_ E165_29) rfl rfl (s_iload_n E165_32.1 (k_ E165_32) rfl (s_iaload E165_33.1 (k_ E165_33) rfl ⟨(((z2.1 c3).2).1 c4).1, s_bipush E165_34.1 (k_ E165_34) (s_icmp_ge E165_36.1 (k_ E165_36) ⟨fun c5 => s_bipush E165_48.1 (k_ E165_48) (s_istore_n E165_50.1 (k_ E165_50) (s_iconst E165_51.1 (k_ E165_51) (s_istore E165_52.1 (k_ E165_52) (((((z2.1 c3).2).1 c4).2).1 c5)))), fun c5 => s_aload_n E165_39.1 (k_ E165_39) rfl (s_getR E165_40.1 (k_ E165_40) rfl rfl (s_iload_n E165_43.1 (k_ E165_43) rfl (s_iaload E165_44.1 (k_ E165_44) rfl ⟨(((((z2.1 c3).2).1 c4).2).2 c5).1, s_goto E165_45.1 (k_ E165_45) (s_istore_n E165_50.1 (k_ E165_50) (s_iconst E165_51.1 (k_ E165_51) (s_istore E165_52.1 (k_ E165_52) ((((((z2.1 c3).2).1 c4).2).2 c5).2))))⟩)))⟩)⟩))), fun c4 => s_bipush E165_25.1 (k_ E165_25) (s_iret E165_27.1 (k_ E165_27) (((z2.1 c3).2).2 c4))⟩⟩))), fun c3 => s_iconst E165_14.1 (k_ E165_14) (s_iret E165_15.1 (k_ E165_15) (z2.2 c3))⟩))⟩))
theorem g_X7_spills_54 {Q : bQ} {M : bM} {x1 : Int32} {x2 : Int32} {x3 : Int32} {x4 : Int32} (h : ((x3 ≤ x4) → (Q (some (cI x3)) M)) ∧ (¬ (x3 ≤ x4) → ((vp_in (((32 : Int32) * x1) + x4) 192) ∧ (bCall 150 [cR 26 0, cI x2, cI x4, cI (M 28 0 (((32 : Int32) * x1) + x4).toNatClampNeg)] M (fun v1 M2 => bV0 v1 (bGo 165 Q 54 [some (cR 26 0), some (cI x1), some (cI x2), some (cI x3), some (cI (x4 + (1 : Int32)))] [] M2)))))) : bGo 165 Q 54 [some (cR 26 0), some (cI x1), some (cI x2), some (cI x3), some (cI x4)] [] M := s_iload E165_54.1 (k_ E165_54) rfl (s_iload_n E165_56.1 (k_ E165_56) rfl (s_icmp_ge E165_57.1 (k_ E165_57) ⟨fun c6 => s_iload_n E165_85.1 (k_ E165_85) rfl (s_iret E165_86.1 (k_ E165_86) (h.1 c6)), fun c6 => s_aload_n E165_60.1 (k_ E165_60) rfl (s_iload_n E165_61.1 (k_ E165_61) rfl (s_iload E165_62.1 (k_ E165_62) rfl (s_aload_n E165_64.1 (k_ E165_64) rfl (s_getR E165_65.1 (k_ E165_65) rfl rfl (s_bipush E165_68.1 (k_ E165_68) (s_iload_n E165_70.1 (k_ E165_70) rfl (s_imul E165_71.1 (k_ E165_71) (s_iload E165_72.1 (k_ E165_72) rfl (s_iadd E165_74.1 (k_ E165_74) (s_iaload E165_75.1 (k_ E165_75) rfl ⟨(h.2 c6).1, s_vcall0 E165_76.1 (k_ E165_76) rfl rfl rfl ((h.2 c6).2) (fun M2 z7 => s_iinc E165_79.1 (k_ E165_79) rfl (s_goto E165_82.1 (k_ E165_82) (z7)))⟩))))))))))⟩))
-- 166: X7_strike
theorem E166_0 : aCode 166 0 = (Instr.aload_n 0, 1, [], 0) ∧ bMask 166 0 = [] := ⟨rfl, rfl⟩
theorem E166_1 : aCode 166 1 = (Instr.iload_n 1, 2, [], 0) ∧ bMask 166 1 = [] := ⟨rfl, rfl⟩
theorem E166_2 : aCode 166 2 = (Instr.invokevirtual 282, 5, [113, 2, 1, 7, 0, 96], 0) ∧ bMask 166 2 = [] := ⟨rfl, rfl⟩
theorem E166_5 : aCode 166 5 = (Instr.istore_n 2, 6, [], 0) ∧ bMask 166 5 = [] := ⟨rfl, rfl⟩
theorem E166_6 : aCode 166 6 = (Instr.iload_n 2, 7, [], 0) ∧ bMask 166 6 = [] := ⟨rfl, rfl⟩
theorem E166_7 : aCode 166 7 = (Instr.ifCond .ge 6, 10, [13], 0) ∧ bMask 166 7 = [] := ⟨rfl, rfl⟩
theorem E166_10 : aCode 166 10 = (Instr.bipush (-3), 12, [], (-3)) ∧ bMask 166 10 = [] := ⟨rfl, rfl⟩
theorem E166_12 : aCode 166 12 = (Instr.ireturn, 13, [0], 0) ∧ bMask 166 12 = [] := ⟨rfl, rfl⟩
theorem E166_13 : aCode 166 13 = (Instr.iload_n 2, 14, [], 0) ∧ bMask 166 13 = [] := ⟨rfl, rfl⟩
theorem E166_14 : aCode 166 14 = (Instr.istore_n 3, 15, [], 0) ∧ bMask 166 14 = [] := ⟨rfl, rfl⟩
theorem E166_15 : aCode 166 15 = (Instr.iload_n 3, 16, [], 0) ∧ bMask 166 15 = [] := ⟨rfl, rfl⟩
theorem E166_16 : aCode 166 16 = (Instr.aload_n 0, 17, [], 0) ∧ bMask 166 16 = [] := ⟨rfl, rfl⟩
theorem E166_17 : aCode 166 17 = (Instr.getfield 272, 20, [84, 7, 38, 0], 0) ∧ bMask 166 17 = [] := ⟨rfl, rfl⟩
theorem E166_20 : aCode 166 20 = (Instr.iconst 1, 21, [], 1) ∧ bMask 166 20 = [] := ⟨rfl, rfl⟩
theorem E166_21 : aCode 166 21 = (Instr.isub, 22, [], 0) ∧ bMask 166 21 = [] := ⟨rfl, rfl⟩
theorem E166_22 : aCode 166 22 = (Instr.if_icmp .ge 14, 25, [36], 0) ∧ bMask 166 22 = [] := ⟨rfl, rfl⟩
theorem E166_25 : aCode 166 25 = (Instr.aload_n 0, 26, [], 0) ∧ bMask 166 25 = [] := ⟨rfl, rfl⟩
theorem E166_26 : aCode 166 26 = (Instr.iload_n 3, 27, [], 0) ∧ bMask 166 26 = [] := ⟨rfl, rfl⟩
theorem E166_27 : aCode 166 27 = (Instr.invokevirtual 285, 30, [156, 2, 0, 7, 0, 122], 0) ∧ bMask 166 27 = [] := ⟨rfl, rfl⟩
theorem E166_30 : aCode 166 30 = (Instr.iinc 3 1, 33, [], 1) ∧ bMask 166 30 = [] := ⟨rfl, rfl⟩
theorem E166_33 : aCode 166 33 = (Instr.goto (-18), 15, [], 0) ∧ bMask 166 33 = [] := ⟨rfl, rfl⟩
theorem E166_36 : aCode 166 36 = (Instr.aload_n 0, 37, [], 0) ∧ bMask 166 36 = [] := ⟨rfl, rfl⟩
theorem E166_37 : aCode 166 37 = (Instr.dup, 38, [], 0) ∧ bMask 166 37 = [] := ⟨rfl, rfl⟩
theorem E166_38 : aCode 166 38 = (Instr.getfield 272, 41, [84, 7, 38, 0], 0) ∧ bMask 166 38 = [] := ⟨rfl, rfl⟩
theorem E166_41 : aCode 166 41 = (Instr.iconst 1, 42, [], 1) ∧ bMask 166 41 = [] := ⟨rfl, rfl⟩
theorem E166_42 : aCode 166 42 = (Instr.isub, 43, [], 0) ∧ bMask 166 42 = [] := ⟨rfl, rfl⟩
theorem E166_43 : aCode 166 43 = (Instr.putfield 272, 46, [84, 7, 38, 0], 0) ∧ bMask 166 43 = [] := ⟨rfl, rfl⟩
theorem E166_46 : aCode 166 46 = (Instr.aload_n 0, 47, [], 0) ∧ bMask 166 46 = [] := ⟨rfl, rfl⟩
theorem E166_47 : aCode 166 47 = (Instr.getfield 272, 50, [84, 7, 38, 0], 0) ∧ bMask 166 47 = [] := ⟨rfl, rfl⟩
theorem E166_50 : aCode 166 50 = (Instr.ireturn, 51, [0], 0) ∧ bMask 166 50 = [] := ⟨rfl, rfl⟩
theorem g_X7_strike_0 {Q : bQ} {M : bM} {x1 : Int32} (h : bCall 113 [cR 26 0, cI x1] M (fun v1 M2 => bV1 v1 fun r3 => (((0 ≤ r3) → bGo 166 Q 15 [some (cR 26 0), some (cI x1), some (cI r3), some (cI r3)] [] M2) ∧ (¬ (0 ≤ r3) → (Q (some (cI (-3 : Int32))) M2))))) : bCall 166 [cR 26 0, cI x1] M Q := s_aload_n E166_0.1 (k_ E166_0) rfl (s_iload_n E166_1.1 (k_ E166_1) rfl (s_vcall1 E166_2.1 (k_ E166_2) rfl rfl rfl h (fun M2 r3 z0 => s_istore_n E166_5.1 (k_ E166_5) (s_iload_n E166_6.1 (k_ E166_6) rfl (s_if_ge E166_7.1 (k_ E166_7) ⟨fun c1 => s_iload_n E166_13.1 (k_ E166_13) rfl (s_istore_n E166_14.1 (k_ E166_14) (z0.1 c1)), fun c1 => s_bipush E166_10.1 (k_ E166_10) (s_iret E166_12.1 (k_ E166_12) (z0.2 c1))⟩)))))
theorem g_X7_strike_15 {Q : bQ} {M : bM} {x1 : Int32} {x2 : Int32} {x3 : Int32} (h : ((((M 26 0 38) - (1 : Int32)) ≤ x3) → (Q (some (cI ((bU M 26 0 38 ((M 26 0 38) - (1 : Int32))) 26 0 38))) (bU M 26 0 38 ((M 26 0 38) - (1 : Int32))))) ∧ (¬ (((M 26 0 38) - (1 : Int32)) ≤ x3) → (bCall 156 [cR 26 0, cI x3] M (fun v1 M2 => bV0 v1 (bGo 166 Q 15 [some (cR 26 0), some (cI x1), some (cI x2), some (cI (x3 + (1 : Int32)))] [] M2))))) : bGo 166 Q 15 [some (cR 26 0), some (cI x1), some (cI x2), some (cI x3)] [] M := s_iload_n E166_15.1 (k_ E166_15) rfl (s_aload_n E166_16.1 (k_ E166_16) rfl (s_getI0 E166_17.1 (k_ E166_17) rfl (s_iconst E166_20.1 (k_ E166_20) (s_isub E166_21.1 (k_ E166_21) (s_icmp_ge E166_22.1 (k_ E166_22) ⟨fun c2 => s_aload_n E166_36.1 (k_ E166_36) rfl (s_dupR E166_37.1 (k_ E166_37) (s_getI0 E166_38.1 (k_ E166_38) rfl (s_iconst E166_41.1 (k_ E166_41) (s_isub E166_42.1 (k_ E166_42) (s_putI E166_43.1 (k_ E166_43) rfl (s_aload_n E166_46.1 (k_ E166_46) rfl (s_getI0 E166_47.1 (k_ E166_47) rfl (s_iret E166_50.1 (k_ E166_50) (h.1 c2))))))))), fun c2 => s_aload_n E166_25.1 (k_ E166_25) rfl (s_iload_n E166_26.1 (k_ E166_26) rfl (s_vcall0 E166_27.1 (k_ E166_27) rfl rfl rfl (h.2 c2) (fun M2 z3 => s_iinc E166_30.1 (k_ E166_30) rfl (s_goto E166_33.1 (k_ E166_33) (z3)))))⟩)))))
-- 167: X7_term
theorem E167_0 : aCode 167 0 = (Instr.iload_n 1, 1, [], 0) ∧ bMask 167 0 = [] := ⟨rfl, rfl⟩
theorem E167_1 : aCode 167 1 = (Instr.invokestatic 134, 4, [105, 1, 1, 0, 0, 90], 0) ∧ bMask 167 1 = [] := ⟨rfl, rfl⟩
theorem E167_4 : aCode 167 4 = (Instr.ifCond .eq 13, 7, [17], 0) ∧ bMask 167 4 = [] := ⟨rfl, rfl⟩
theorem E167_7 : aCode 167 7 = (Instr.iload_n 2, 8, [], 0) ∧ bMask 167 7 = [] := ⟨rfl, rfl⟩
theorem E167_8 : aCode 167 8 = (Instr.iconst 0, 9, [], 0) ∧ bMask 167 8 = [] := ⟨rfl, rfl⟩
theorem E167_9 : aCode 167 9 = (Instr.bipush 31, 11, [], 31) ∧ bMask 167 9 = [] := ⟨rfl, rfl⟩
theorem E167_11 : aCode 167 11 = (Instr.invokestatic 126, 14, [104, 3, 1, 0, 0, 89], 0) ∧ bMask 167 11 = [] := ⟨rfl, rfl⟩
theorem E167_14 : aCode 167 14 = (Instr.ifCond .ne 5, 17, [19], 0) ∧ bMask 167 14 = [] := ⟨rfl, rfl⟩
theorem E167_17 : aCode 167 17 = (Instr.iconst (-1), 18, [], (-1)) ∧ bMask 167 17 = [] := ⟨rfl, rfl⟩
theorem E167_18 : aCode 167 18 = (Instr.ireturn, 19, [0], 0) ∧ bMask 167 18 = [] := ⟨rfl, rfl⟩
theorem E167_19 : aCode 167 19 = (Instr.aload_n 0, 20, [], 0) ∧ bMask 167 19 = [] := ⟨rfl, rfl⟩
theorem E167_20 : aCode 167 20 = (Instr.getfield 13, 23, [69, 7, 1, 2], 0) ∧ bMask 167 20 = [] := ⟨rfl, rfl⟩
theorem E167_23 : aCode 167 23 = (Instr.bipush 32, 25, [], 32) ∧ bMask 167 23 = [] := ⟨rfl, rfl⟩
theorem E167_25 : aCode 167 25 = (Instr.iload_n 1, 26, [], 0) ∧ bMask 167 25 = [] := ⟨rfl, rfl⟩
theorem E167_26 : aCode 167 26 = (Instr.imul, 27, [], 0) ∧ bMask 167 26 = [] := ⟨rfl, rfl⟩
theorem E167_27 : aCode 167 27 = (Instr.iload_n 2, 28, [], 0) ∧ bMask 167 27 = [] := ⟨rfl, rfl⟩
theorem E167_28 : aCode 167 28 = (Instr.iadd, 29, [], 0) ∧ bMask 167 28 = [] := ⟨rfl, rfl⟩
theorem E167_29 : aCode 167 29 = (Instr.iaload, 30, [0], 0) ∧ bMask 167 29 = [] := ⟨rfl, rfl⟩
theorem E167_30 : aCode 167 30 = (Instr.istore 4, 32, [], 0) ∧ bMask 167 30 = [] := ⟨rfl, rfl⟩
theorem E167_32 : aCode 167 32 = (Instr.aload_n 0, 33, [], 0) ∧ bMask 167 32 = [] := ⟨rfl, rfl⟩
theorem E167_33 : aCode 167 33 = (Instr.getfield 13, 36, [69, 7, 1, 2], 0) ∧ bMask 167 33 = [] := ⟨rfl, rfl⟩
theorem E167_36 : aCode 167 36 = (Instr.bipush 32, 38, [], 32) ∧ bMask 167 36 = [] := ⟨rfl, rfl⟩
theorem E167_38 : aCode 167 38 = (Instr.iload_n 1, 39, [], 0) ∧ bMask 167 38 = [] := ⟨rfl, rfl⟩
theorem E167_39 : aCode 167 39 = (Instr.imul, 40, [], 0) ∧ bMask 167 39 = [] := ⟨rfl, rfl⟩
theorem E167_40 : aCode 167 40 = (Instr.iload_n 2, 41, [], 0) ∧ bMask 167 40 = [] := ⟨rfl, rfl⟩
theorem E167_41 : aCode 167 41 = (Instr.iadd, 42, [], 0) ∧ bMask 167 41 = [] := ⟨rfl, rfl⟩
theorem E167_42 : aCode 167 42 = (Instr.aload_n 0, 43, [], 0) ∧ bMask 167 42 = [] := ⟨rfl, rfl⟩
theorem E167_43 : aCode 167 43 = (Instr.iload_n 3, 44, [], 0) ∧ bMask 167 43 = [] := ⟨rfl, rfl⟩
theorem E167_44 : aCode 167 44 = (Instr.i2l, 45, [], 0) ∧ bMask 167 44 = [] := ⟨rfl, rfl⟩
theorem E167_45 : aCode 167 45 = (Instr.invokevirtual 137, 48, [118, 2, 1, 7, 0, 98], 0) ∧ bMask 167 45 = [] := ⟨rfl, rfl⟩
theorem E167_48 : aCode 167 48 = (Instr.iastore, 49, [0], 0) ∧ bMask 167 48 = [] := ⟨rfl, rfl⟩
theorem E167_49 : aCode 167 49 = (Instr.iload 4, 51, [], 0) ∧ bMask 167 49 = [] := ⟨rfl, rfl⟩
theorem E167_51 : aCode 167 51 = (Instr.ireturn, 52, [0], 0) ∧ bMask 167 51 = [] := ⟨rfl, rfl⟩
theorem g_X7_term_0 {Q : bQ} {M : bM} {x1 : Int32} {x2 : Int32} {x3 : Int32} (h : bCall 105 [cI x1] M (fun v1 M2 => bV1 v1 fun r3 => (((r3 = 0) → (Q (some (cI (-1 : Int32))) M2)) ∧ (¬ (r3 = 0) → (bCall 104 [cI x2, cI (0 : Int32), cI (31 : Int32)] M2 (fun v4 M5 => bV1 v4 fun r6 => (((¬ r6 = 0) → ((vp_in (((32 : Int32) * x1) + x2) 192) ∧ (bCall 118 [cR 26 0, cL x3.toInt64] M5 (fun v7 M8 => bV1 v7 fun r9 => ((vp_in (((32 : Int32) * x1) + x2) 192) ∧ (Q (some (cI (M5 28 0 (((32 : Int32) * x1) + x2).toNatClampNeg))) (bU M8 28 0 (((32 : Int32) * x1) + x2).toNatClampNeg r9))))))) ∧ (¬ (¬ r6 = 0) → (Q (some (cI (-1 : Int32))) M5))))))))) : bCall 167 [cR 26 0, cI x1, cI x2, cI x3] M Q := s_iload_n E167_0.1 (k_ E167_0) rfl (s_scall1 E167_1.1 (k_ E167_1) rfl rfl rfl h (fun M2 r3 z0 => s_if_eq E167_4.1 (k_ E167_4) ⟨fun c1 => s_iconst E167_17.1 (k_ E167_17) (s_iret E167_18.1 (k_ E167_18) (z0.1 c1)), fun c1 => s_iload_n E167_7.1 (k_ E167_7) rfl (s_iconst E167_8.1 (k_ E167_8) (s_bipush E167_9.1 (k_ E167_9) (s_scall1 E167_11.1 (k_ E167_11) rfl rfl rfl (z0.2 c1) (fun M5 r6 z2 => s_if_ne E167_14.1 (k_ E167_14) ⟨fun c3 => s_aload_n E167_19.1 (k_ E167_19) rfl (s_getR E167_20.1 (k_ E167_20) rfl rfl (s_bipush E167_23.1 (k_ E167_23) (s_iload_n E167_25.1 (k_ E167_25) rfl (s_imul E167_26.1 (k_ E167_26) (s_iload_n E167_27.1 (k_ E167_27) rfl (s_iadd E167_28.1 (k_ E167_28) (s_iaload E167_29.1 (k_ E167_29) rfl ⟨(z2.1 c3).1, s_istore E167_30.1 (k_ E167_30) (s_aload_n E167_32.1 (k_ E167_32) rfl (s_getR E167_33.1 (k_ E167_33) rfl rfl (s_bipush E167_36.1 (k_ E167_36) (s_iload_n E167_38.1 (k_ E167_38) rfl (s_imul E167_39.1 (k_ E167_39) (s_iload_n E167_40.1 (k_ E167_40) rfl (s_iadd E167_41.1 (k_ E167_41) (s_aload_n E167_42.1 (k_ E167_42) rfl (s_iload_n E167_43.1 (k_ E167_43) rfl (s_i2l E167_44.1 (k_ E167_44) (s_vcall1 E167_45.1 (k_ E167_45) rfl rfl rfl ((z2.1 c3).2) (fun M8 r9 z4 => s_iastore E167_48.1 (k_ E167_48) rfl ⟨z4.1, s_iload E167_49.1 (k_ E167_49) rfl (s_iret E167_51.1 (k_ E167_51) z4.2)⟩))))))))))))⟩))))))), fun c3 => s_iconst E167_17.1 (k_ E167_17) (s_iret E167_18.1 (k_ E167_18) (z2.2 c3))⟩))))⟩))
-- 168: X7_test
theorem E168_0 : aCode 168 0 = (Instr.iload_n 2, 1, [], 0) ∧ bMask 168 0 = [] := ⟨rfl, rfl⟩
theorem E168_1 : aCode 168 1 = (Instr.invokestatic 134, 4, [105, 1, 1, 0, 0, 90], 0) ∧ bMask 168 1 = [] := ⟨rfl, rfl⟩
theorem E168_4 : aCode 168 4 = (Instr.ifCond .ne 5, 7, [9], 0) ∧ bMask 168 4 = [] := ⟨rfl, rfl⟩
theorem E168_7 : aCode 168 7 = (Instr.iconst (-1), 8, [], (-1)) ∧ bMask 168 7 = [] := ⟨rfl, rfl⟩
theorem E168_8 : aCode 168 8 = (Instr.ireturn, 9, [0], 0) ∧ bMask 168 8 = [] := ⟨rfl, rfl⟩
theorem E168_9 : aCode 168 9 = (Instr.aload_n 0, 10, [], 0) ∧ bMask 168 9 = [] := ⟨rfl, rfl⟩
theorem E168_10 : aCode 168 10 = (Instr.iload_n 1, 11, [], 0) ∧ bMask 168 10 = [] := ⟨rfl, rfl⟩
theorem E168_11 : aCode 168 11 = (Instr.invokevirtual 282, 14, [113, 2, 1, 7, 0, 96], 0) ∧ bMask 168 11 = [] := ⟨rfl, rfl⟩
theorem E168_14 : aCode 168 14 = (Instr.istore_n 3, 15, [], 0) ∧ bMask 168 14 = [] := ⟨rfl, rfl⟩
theorem E168_15 : aCode 168 15 = (Instr.iload_n 3, 16, [], 0) ∧ bMask 168 15 = [] := ⟨rfl, rfl⟩
theorem E168_16 : aCode 168 16 = (Instr.ifCond .ge 6, 19, [22], 0) ∧ bMask 168 16 = [] := ⟨rfl, rfl⟩
theorem E168_19 : aCode 168 19 = (Instr.bipush (-3), 21, [], (-3)) ∧ bMask 168 19 = [] := ⟨rfl, rfl⟩
theorem E168_21 : aCode 168 21 = (Instr.ireturn, 22, [0], 0) ∧ bMask 168 21 = [] := ⟨rfl, rfl⟩
theorem E168_22 : aCode 168 22 = (Instr.aload_n 0, 23, [], 0) ∧ bMask 168 22 = [] := ⟨rfl, rfl⟩
theorem E168_23 : aCode 168 23 = (Instr.getfield 102, 26, [91, 7, 46, 2], 0) ∧ bMask 168 23 = [] := ⟨rfl, rfl⟩
theorem E168_26 : aCode 168 26 = (Instr.iload_n 3, 27, [], 0) ∧ bMask 168 26 = [] := ⟨rfl, rfl⟩
theorem E168_27 : aCode 168 27 = (Instr.iaload, 28, [0], 0) ∧ bMask 168 27 = [] := ⟨rfl, rfl⟩
theorem E168_28 : aCode 168 28 = (Instr.aload_n 0, 29, [], 0) ∧ bMask 168 28 = [] := ⟨rfl, rfl⟩
theorem E168_29 : aCode 168 29 = (Instr.getfield 7, 32, [82, 7, 0, 0], 0) ∧ bMask 168 29 = [] := ⟨rfl, rfl⟩
theorem E168_32 : aCode 168 32 = (Instr.if_icmp .eq 6, 35, [38], 0) ∧ bMask 168 32 = [] := ⟨rfl, rfl⟩
theorem E168_35 : aCode 168 35 = (Instr.bipush (-2), 37, [], (-2)) ∧ bMask 168 35 = [] := ⟨rfl, rfl⟩
theorem E168_37 : aCode 168 37 = (Instr.ireturn, 38, [0], 0) ∧ bMask 168 37 = [] := ⟨rfl, rfl⟩
theorem E168_38 : aCode 168 38 = (Instr.aload_n 0, 39, [], 0) ∧ bMask 168 38 = [] := ⟨rfl, rfl⟩
theorem E168_39 : aCode 168 39 = (Instr.iload_n 2, 40, [], 0) ∧ bMask 168 39 = [] := ⟨rfl, rfl⟩
theorem E168_40 : aCode 168 40 = (Instr.aload_n 0, 41, [], 0) ∧ bMask 168 40 = [] := ⟨rfl, rfl⟩
theorem E168_41 : aCode 168 41 = (Instr.getfield 87, 44, [86, 7, 41, 2], 0) ∧ bMask 168 41 = [] := ⟨rfl, rfl⟩
theorem E168_44 : aCode 168 44 = (Instr.iload_n 3, 45, [], 0) ∧ bMask 168 44 = [] := ⟨rfl, rfl⟩
theorem E168_45 : aCode 168 45 = (Instr.iaload, 46, [0], 0) ∧ bMask 168 45 = [] := ⟨rfl, rfl⟩
theorem E168_46 : aCode 168 46 = (Instr.aload_n 0, 47, [], 0) ∧ bMask 168 46 = [] := ⟨rfl, rfl⟩
theorem E168_47 : aCode 168 47 = (Instr.getfield 90, 50, [87, 7, 42, 2], 0) ∧ bMask 168 47 = [] := ⟨rfl, rfl⟩
theorem E168_50 : aCode 168 50 = (Instr.iload_n 3, 51, [], 0) ∧ bMask 168 50 = [] := ⟨rfl, rfl⟩
theorem E168_51 : aCode 168 51 = (Instr.iaload, 52, [0], 0) ∧ bMask 168 51 = [] := ⟨rfl, rfl⟩
theorem E168_52 : aCode 168 52 = (Instr.invokevirtual 275, 55, [145, 4, 0, 7, 0, 119], 0) ∧ bMask 168 52 = [] := ⟨rfl, rfl⟩
theorem E168_55 : aCode 168 55 = (Instr.iconst 0, 56, [], 0) ∧ bMask 168 55 = [] := ⟨rfl, rfl⟩
theorem E168_56 : aCode 168 56 = (Instr.istore 4, 58, [], 0) ∧ bMask 168 56 = [] := ⟨rfl, rfl⟩
theorem E168_58 : aCode 168 58 = (Instr.iload 4, 60, [], 0) ∧ bMask 168 58 = [] := ⟨rfl, rfl⟩
theorem E168_60 : aCode 168 60 = (Instr.sipush 132, 63, [], 132) ∧ bMask 168 60 = [] := ⟨rfl, rfl⟩
theorem E168_63 : aCode 168 63 = (Instr.if_icmp .ge 29, 66, [92], 0) ∧ bMask 168 63 = [] := ⟨rfl, rfl⟩
theorem E168_66 : aCode 168 66 = (Instr.aload_n 0, 67, [], 0) ∧ bMask 168 66 = [] := ⟨rfl, rfl⟩
theorem E168_67 : aCode 168 67 = (Instr.getfield 60, 70, [105, 7, 29, 2], 0) ∧ bMask 168 67 = [] := ⟨rfl, rfl⟩
theorem E168_70 : aCode 168 70 = (Instr.iload 4, 72, [], 0) ∧ bMask 168 70 = [] := ⟨rfl, rfl⟩
theorem E168_72 : aCode 168 72 = (Instr.aload_n 0, 73, [], 0) ∧ bMask 168 72 = [] := ⟨rfl, rfl⟩
theorem E168_73 : aCode 168 73 = (Instr.getfield 105, 76, [118, 7, 47, 2], 0) ∧ bMask 168 73 = [] := ⟨rfl, rfl⟩
theorem E168_76 : aCode 168 76 = (Instr.sipush 132, 79, [], 132) ∧ bMask 168 76 = [] := ⟨rfl, rfl⟩
theorem E168_79 : aCode 168 79 = (Instr.iload_n 3, 80, [], 0) ∧ bMask 168 79 = [] := ⟨rfl, rfl⟩
theorem E168_80 : aCode 168 80 = (Instr.imul, 81, [], 0) ∧ bMask 168 80 = [] := ⟨rfl, rfl⟩
theorem E168_81 : aCode 168 81 = (Instr.iload 4, 83, [], 0) ∧ bMask 168 81 = [] := ⟨rfl, rfl⟩
theorem E168_83 : aCode 168 83 = (Instr.iadd, 84, [], 0) ∧ bMask 168 83 = [] := ⟨rfl, rfl⟩
theorem E168_84 : aCode 168 84 = (Instr.iaload, 85, [0], 0) ∧ bMask 168 84 = [] := ⟨rfl, rfl⟩
theorem E168_85 : aCode 168 85 = (Instr.iastore, 86, [0], 0) ∧ bMask 168 85 = [] := ⟨rfl, rfl⟩
theorem E168_86 : aCode 168 86 = (Instr.iinc 4 1, 89, [], 1) ∧ bMask 168 86 = [] := ⟨rfl, rfl⟩
theorem E168_89 : aCode 168 89 = (Instr.goto (-31), 58, [], 0) ∧ bMask 168 89 = [] := ⟨rfl, rfl⟩
theorem E168_92 : aCode 168 92 = (Instr.aload_n 0, 93, [], 0) ∧ bMask 168 92 = [] := ⟨rfl, rfl⟩
theorem E168_93 : aCode 168 93 = (Instr.iconst 0, 94, [], 0) ∧ bMask 168 93 = [] := ⟨rfl, rfl⟩
theorem E168_94 : aCode 168 94 = (Instr.invokevirtual 266, 97, [126, 2, 0, 7, 0, 107], 0) ∧ bMask 168 94 = [] := ⟨rfl, rfl⟩
theorem E168_97 : aCode 168 97 = (Instr.aload_n 0, 98, [], 0) ∧ bMask 168 97 = [] := ⟨rfl, rfl⟩
theorem E168_98 : aCode 168 98 = (Instr.getfield 17, 101, [108, 7, 3, 2], 0) ∧ bMask 168 98 = [] := ⟨rfl, rfl⟩
theorem E168_101 : aCode 168 101 = (Instr.iconst 0, 102, [], 0) ∧ bMask 168 101 = [] := ⟨rfl, rfl⟩
theorem E168_102 : aCode 168 102 = (Instr.invokestatic 164, 105, [133, 2, 1, 0, 0, 111], 0) ∧ bMask 168 102 = [] := ⟨rfl, rfl⟩
theorem E168_105 : aCode 168 105 = (Instr.ireturn, 106, [0], 0) ∧ bMask 168 105 = [] := ⟨rfl, rfl⟩
theorem g_X7_test_0 {Q : bQ} {M : bM} {x1 : Int32} {x2 : Int32} (h : bCall 105 [cI x2] M (fun v1 M2 => bV1 v1 fun r3 => (((¬ r3 = 0) → (bCall 113 [cR 26 0, cI x1] M2 (fun v4 M5 => bV1 v4 fun r6 => (((0 ≤ r6) → ((vp_in r6 8) ∧ ((((M5 52 0 r6.toNatClampNeg) = (M5 26 0 0)) → ((vp_in r6 8) ∧ ((vp_in r6 8) ∧ (bCall 145 [cR 26 0, cI x2, cI (M5 47 0 r6.toNatClampNeg), cI (M5 48 0 r6.toNatClampNeg)] M5 (fun v7 M8 => bV0 v7 (bGo 168 Q 58 [some (cR 26 0), some (cI x1), some (cI x2), some (cI r6), some (cI (0 : Int32))] [] M8)))))) ∧ (¬ ((M5 52 0 r6.toNatClampNeg) = (M5 26 0 0)) → (Q (some (cI (-2 : Int32))) M5))))) ∧ (¬ (0 ≤ r6) → (Q (some (cI (-3 : Int32))) M5)))))) ∧ (¬ (¬ r3 = 0) → (Q (some (cI (-1 : Int32))) M2))))) : bCall 168 [cR 26 0, cI x1, cI x2] M Q := s_iload_n E168_0.1 (k_ E168_0) rfl (s_scall1 E168_1.1 (k_ E168_1) rfl rfl rfl h (fun M2 r3 z0 => s_if_ne E168_4.1 (k_ E168_4) ⟨fun c1 => s_aload_n E168_9.1 (k_ E168_9) rfl (s_iload_n E168_10.1 (k_ E168_10) rfl (s_vcall1 E168_11.1 (k_ E168_11) rfl rfl rfl (z0.1 c1) (fun M5 r6 z2 => s_istore_n E168_14.1 (k_ E168_14) (s_iload_n E168_15.1 (k_ E168_15) rfl (s_if_ge E168_16.1 (k_ E168_16) ⟨fun c3 => s_aload_n E168_22.1 (k_ E168_22) rfl (s_getR E168_23.1 (k_ E168_23) rfl rfl (s_iload_n E168_26.1 (k_ E168_26) rfl (s_iaload E168_27.1 (k_ E168_27) rfl ⟨(z2.1 c3).1, s_aload_n E168_28.1 (k_ E168_28) rfl (s_getI0 E168_29.1 (k_ E168_29) rfl (s_icmp_eq E168_32.1 (k_ E168_32) ⟨fun c4 => s_aload_n E168_38.1 (k_ E168_38) rfl (s_iload_n E168_39.1 (k_ E168_39) rfl (s_aload_n E168_40.1 (k_ E168_40) rfl (s_getR E168_41.1 (k_ E168_41) rfl rfl (s_iload_n E168_44.1 (k_ E168_44) rfl (s_iaload E168_45.1 (k_ E168_45) rfl ⟨(((z2.1 c3).2).1 c4).1, s_aload_n E168_46.1 (k_ E168_46) rfl (s_getR E168_47.1 (k_ E168_47) rfl rfl (s_iload_n E168_50.1 (k_ E168_50) rfl (s_iaload E168_51.1 (k_ E168_51) rfl ⟨((((z2.1 c3).2).1 c4).2).1, s_vcall0 E168_52.1 (k_ E168_52) rfl rfl rfl (((((z2.1 c3).2).1 c4).2).2) (fun M8 z5 => s_iconst E168_55.1 (k_ E168_55) (s_istore E168_56.1 (k_ E168_56) (z5)))⟩)))⟩))))), fun c4 => s_bipush E168_35.1 (k_ E168_35) (s_iret E168_37.1 (k_ E168_37) (((z2.1 c3).2).2 c4))⟩))⟩))), fun c3 => s_bipush E168_19.1 (k_ E168_19) (s_iret E168_21.1 (k_ E168_21) (z2.2 c3))⟩))))), fun c1 => s_iconst E168_7.1 (k_ E168_7) (s_iret E168_8.1 (k_ E168_8) (z0.2 c1))⟩))
theorem g_X7_test_58 {Q : bQ} {M : bM} {x1 : Int32} {x2 : Int32} {x3 : Int32} {x4 : Int32} (h : (((132 : Int32) ≤ x4) → (bCall 126 [cR 26 0, cI (0 : Int32)] M (fun v1 M2 => bV0 v1 (bCall 133 [cR 27 0, cI (0 : Int32)] M2 (fun v3 M4 => bV1 v3 fun r5 => (Q (some (cI r5)) M4)))))) ∧ (¬ ((132 : Int32) ≤ x4) → ((vp_in (((132 : Int32) * x3) + x4) 1056) ∧ ((vp_in x4 528) ∧ bGo 168 Q 58 [some (cR 26 0), some (cI x1), some (cI x2), some (cI x3), some (cI (x4 + (1 : Int32)))] [] (bU M 38 0 x4.toNatClampNeg (M 53 0 (((132 : Int32) * x3) + x4).toNatClampNeg)))))) : bGo 168 Q 58 [some (cR 26 0), some (cI x1), some (cI x2), some (cI x3), some (cI x4)] [] M := s_iload E168_58.1 (k_ E168_58) rfl (s_sipush E168_60.1 (k_ E168_60) (s_icmp_ge E168_63.1 (k_ E168_63) ⟨fun c6 => s_aload_n E168_92.1 (k_ E168_92) rfl (s_iconst E168_93.1 (k_ E168_93) (s_vcall0 E168_94.1 (k_ E168_94) rfl rfl rfl (h.1 c6) (fun M2 z7 => s_aload_n E168_97.1 (k_ E168_97) rfl (s_getR E168_98.1 (k_ E168_98) rfl rfl (s_iconst E168_101.1 (k_ E168_101) (s_scall1 E168_102.1 (k_ E168_102) rfl rfl rfl z7 (fun M4 r5 z8 => s_iret E168_105.1 (k_ E168_105) z8))))))), fun c6 => s_aload_n E168_66.1 (k_ E168_66) rfl (s_getR E168_67.1 (k_ E168_67) rfl rfl (s_iload E168_70.1 (k_ E168_70) rfl (s_aload_n E168_72.1 (k_ E168_72) rfl (s_getR E168_73.1 (k_ E168_73) rfl rfl (s_sipush E168_76.1 (k_ E168_76) (s_iload_n E168_79.1 (k_ E168_79) rfl (s_imul E168_80.1 (k_ E168_80) (s_iload E168_81.1 (k_ E168_81) rfl (s_iadd E168_83.1 (k_ E168_83) (s_iaload E168_84.1 (k_ E168_84) rfl ⟨(h.2 c6).1, s_iastore E168_85.1 (k_ E168_85) rfl ⟨((h.2 c6).2).1, s_iinc E168_86.1 (k_ E168_86) rfl (s_goto E168_89.1 (k_ E168_89) (((h.2 c6).2).2))⟩⟩))))))))))⟩))
-- 169: X7_text
theorem E169_0 : aCode 169 0 = (Instr.iload_n 1, 1, [], 0) ∧ bMask 169 0 = [] := ⟨rfl, rfl⟩
theorem E169_1 : aCode 169 1 = (Instr.invokestatic 134, 4, [105, 1, 1, 0, 0, 90], 0) ∧ bMask 169 1 = [] := ⟨rfl, rfl⟩
theorem E169_4 : aCode 169 4 = (Instr.ifCond .ne 5, 7, [9], 0) ∧ bMask 169 4 = [] := ⟨rfl, rfl⟩
theorem E169_7 : aCode 169 7 = (Instr.iconst (-1), 8, [], (-1)) ∧ bMask 169 7 = [] := ⟨rfl, rfl⟩
theorem E169_8 : aCode 169 8 = (Instr.ireturn, 9, [0], 0) ∧ bMask 169 8 = [] := ⟨rfl, rfl⟩
theorem E169_9 : aCode 169 9 = (Instr.aload_n 0, 10, [], 0) ∧ bMask 169 9 = [] := ⟨rfl, rfl⟩
theorem E169_10 : aCode 169 10 = (Instr.iconst 0, 11, [], 0) ∧ bMask 169 10 = [] := ⟨rfl, rfl⟩
theorem E169_11 : aCode 169 11 = (Instr.putfield 170, 14, [74, 7, 8, 0], 0) ∧ bMask 169 11 = [] := ⟨rfl, rfl⟩
theorem E169_14 : aCode 169 14 = (Instr.aload_n 0, 15, [], 0) ∧ bMask 169 14 = [] := ⟨rfl, rfl⟩
theorem E169_15 : aCode 169 15 = (Instr.iconst 0, 16, [], 0) ∧ bMask 169 15 = [] := ⟨rfl, rfl⟩
theorem E169_16 : aCode 169 16 = (Instr.putfield 188, 19, [71, 7, 17, 0], 0) ∧ bMask 169 16 = [] := ⟨rfl, rfl⟩
theorem E169_19 : aCode 169 19 = (Instr.aload_n 0, 20, [], 0) ∧ bMask 169 19 = [] := ⟨rfl, rfl⟩
theorem E169_20 : aCode 169 20 = (Instr.iconst (-1), 21, [], (-1)) ∧ bMask 169 20 = [] := ⟨rfl, rfl⟩
theorem E169_21 : aCode 169 21 = (Instr.putfield 191, 24, [111, 7, 18, 0], 0) ∧ bMask 169 21 = [] := ⟨rfl, rfl⟩
theorem E169_24 : aCode 169 24 = (Instr.aload_n 0, 25, [], 0) ∧ bMask 169 24 = [] := ⟨rfl, rfl⟩
theorem E169_25 : aCode 169 25 = (Instr.iconst 2, 26, [], 2) ∧ bMask 169 25 = [] := ⟨rfl, rfl⟩
theorem E169_26 : aCode 169 26 = (Instr.putfield 197, 29, [80, 7, 20, 0], 0) ∧ bMask 169 26 = [] := ⟨rfl, rfl⟩
theorem E169_29 : aCode 169 29 = (Instr.aload_n 0, 30, [], 0) ∧ bMask 169 29 = [] := ⟨rfl, rfl⟩
theorem E169_30 : aCode 169 30 = (Instr.invokevirtual 194, 33, [107, 1, 0, 7, 0, 93], 0) ∧ bMask 169 30 = [] := ⟨rfl, rfl⟩
theorem E169_33 : aCode 169 33 = (Instr.aload_n 0, 34, [], 0) ∧ bMask 169 33 = [] := ⟨rfl, rfl⟩
theorem E169_34 : aCode 169 34 = (Instr.invokevirtual 200, 37, [110, 1, 0, 7, 0, 94], 0) ∧ bMask 169 34 = [] := ⟨rfl, rfl⟩
theorem E169_37 : aCode 169 37 = (Instr.iconst 1, 38, [], 1) ∧ bMask 169 37 = [] := ⟨rfl, rfl⟩
theorem E169_38 : aCode 169 38 = (Instr.istore_n 2, 39, [], 0) ∧ bMask 169 38 = [] := ⟨rfl, rfl⟩
theorem E169_39 : aCode 169 39 = (Instr.iload_n 2, 40, [], 0) := rfl
theorem E169_40 : aCode 169 40 = (Instr.ifCond .eq 85, 43, [125], 0) ∧ bMask 169 40 = [] := ⟨rfl, rfl⟩
theorem E169_43 : aCode 169 43 = (Instr.aload_n 0, 44, [], 0) ∧ bMask 169 43 = [] := ⟨rfl, rfl⟩
theorem E169_44 : aCode 169 44 = (Instr.getfield 176, 47, [78, 7, 10, 0], 0) ∧ bMask 169 44 = [] := ⟨rfl, rfl⟩
theorem E169_47 : aCode 169 47 = (Instr.ifCond .ne 17, 50, [64], 0) ∧ bMask 169 47 = [] := ⟨rfl, rfl⟩
theorem E169_50 : aCode 169 50 = (Instr.aload_n 0, 51, [], 0) ∧ bMask 169 50 = [] := ⟨rfl, rfl⟩
theorem E169_51 : aCode 169 51 = (Instr.getfield 197, 54, [80, 7, 20, 0], 0) ∧ bMask 169 51 = [] := ⟨rfl, rfl⟩
theorem E169_54 : aCode 169 54 = (Instr.ifCond .ne 10, 57, [64], 0) ∧ bMask 169 54 = [] := ⟨rfl, rfl⟩
theorem E169_57 : aCode 169 57 = (Instr.aload_n 0, 58, [], 0) ∧ bMask 169 57 = [] := ⟨rfl, rfl⟩
theorem E169_58 : aCode 169 58 = (Instr.getfield 188, 61, [71, 7, 17, 0], 0) ∧ bMask 169 58 = [] := ⟨rfl, rfl⟩
theorem E169_61 : aCode 169 61 = (Instr.ifCond .le 64, 64, [125], 0) ∧ bMask 169 61 = [] := ⟨rfl, rfl⟩
theorem E169_64 : aCode 169 64 = (Instr.aload_n 0, 65, [], 0) ∧ bMask 169 64 = [] := ⟨rfl, rfl⟩
theorem E169_65 : aCode 169 65 = (Instr.getfield 197, 68, [80, 7, 20, 0], 0) ∧ bMask 169 65 = [] := ⟨rfl, rfl⟩
theorem E169_68 : aCode 169 68 = (Instr.iconst 2, 69, [], 2) ∧ bMask 169 68 = [] := ⟨rfl, rfl⟩
theorem E169_69 : aCode 169 69 = (Instr.if_icmp .ne 34, 72, [103], 0) ∧ bMask 169 69 = [] := ⟨rfl, rfl⟩
theorem E169_72 : aCode 169 72 = (Instr.aload_n 0, 73, [], 0) ∧ bMask 169 72 = [] := ⟨rfl, rfl⟩
theorem E169_73 : aCode 169 73 = (Instr.getfield 176, 76, [78, 7, 10, 0], 0) ∧ bMask 169 73 = [] := ⟨rfl, rfl⟩
theorem E169_76 : aCode 169 76 = (Instr.bipush 45, 78, [], 45) ∧ bMask 169 76 = [] := ⟨rfl, rfl⟩
theorem E169_78 : aCode 169 78 = (Instr.if_icmp .ne 25, 81, [103], 0) ∧ bMask 169 78 = [] := ⟨rfl, rfl⟩
theorem E169_81 : aCode 169 81 = (Instr.aload_n 0, 82, [], 0) ∧ bMask 169 81 = [] := ⟨rfl, rfl⟩
theorem E169_82 : aCode 169 82 = (Instr.getfield 35, 85, [72, 7, 14, 2], 0) ∧ bMask 169 82 = [] := ⟨rfl, rfl⟩
theorem E169_85 : aCode 169 85 = (Instr.aload_n 0, 86, [], 0) ∧ bMask 169 85 = [] := ⟨rfl, rfl⟩
theorem E169_86 : aCode 169 86 = (Instr.getfield 188, 89, [71, 7, 17, 0], 0) ∧ bMask 169 86 = [] := ⟨rfl, rfl⟩
theorem E169_89 : aCode 169 89 = (Instr.iconst 1, 90, [], 1) ∧ bMask 169 89 = [] := ⟨rfl, rfl⟩
theorem E169_90 : aCode 169 90 = (Instr.bastore, 91, [1], 0) ∧ bMask 169 90 = [] := ⟨rfl, rfl⟩
theorem E169_91 : aCode 169 91 = (Instr.aload_n 0, 92, [], 0) ∧ bMask 169 91 = [] := ⟨rfl, rfl⟩
theorem E169_92 : aCode 169 92 = (Instr.iconst 1, 93, [], 1) ∧ bMask 169 92 = [] := ⟨rfl, rfl⟩
theorem E169_93 : aCode 169 93 = (Instr.putfield 197, 96, [80, 7, 20, 0], 0) ∧ bMask 169 93 = [] := ⟨rfl, rfl⟩
theorem E169_96 : aCode 169 96 = (Instr.aload_n 0, 97, [], 0) ∧ bMask 169 96 = [] := ⟨rfl, rfl⟩
theorem E169_97 : aCode 169 97 = (Instr.invokevirtual 200, 100, [110, 1, 0, 7, 0, 94], 0) ∧ bMask 169 97 = [] := ⟨rfl, rfl⟩
theorem E169_100 : aCode 169 100 = (Instr.goto (-61), 39, [], 0) ∧ bMask 169 100 = [] := ⟨rfl, rfl⟩
theorem E169_103 : aCode 169 103 = (Instr.aload_n 0, 104, [], 0) ∧ bMask 169 103 = [] := ⟨rfl, rfl⟩
theorem E169_104 : aCode 169 104 = (Instr.getfield 197, 107, [80, 7, 20, 0], 0) ∧ bMask 169 104 = [] := ⟨rfl, rfl⟩
theorem E169_107 : aCode 169 107 = (Instr.ifCond .le 10, 110, [117], 0) ∧ bMask 169 107 = [] := ⟨rfl, rfl⟩
theorem E169_110 : aCode 169 110 = (Instr.aload_n 0, 111, [], 0) ∧ bMask 169 110 = [] := ⟨rfl, rfl⟩
theorem E169_111 : aCode 169 111 = (Instr.invokevirtual 221, 114, [112, 1, 1, 7, 0, 123], 0) ∧ bMask 169 111 = [] := ⟨rfl, rfl⟩
theorem E169_114 : aCode 169 114 = (Instr.goto 7, 121, [], 0) ∧ bMask 169 114 = [] := ⟨rfl, rfl⟩
theorem E169_117 : aCode 169 117 = (Instr.aload_n 0, 118, [], 0) ∧ bMask 169 117 = [] := ⟨rfl, rfl⟩
theorem E169_118 : aCode 169 118 = (Instr.invokevirtual 224, 121, [143, 1, 1, 7, 0, 124], 0) ∧ bMask 169 118 = [] := ⟨rfl, rfl⟩
theorem E169_121 : aCode 169 121 = (Instr.istore_n 2, 122, [], 0) ∧ bMask 169 121 = [] := ⟨rfl, rfl⟩
theorem E169_122 : aCode 169 122 = (Instr.goto (-83), 39, [], 0) ∧ bMask 169 122 = [] := ⟨rfl, rfl⟩
theorem E169_125 : aCode 169 125 = (Instr.aload_n 0, 126, [], 0) ∧ bMask 169 125 = [] := ⟨rfl, rfl⟩
theorem E169_126 : aCode 169 126 = (Instr.iconst 0, 127, [], 0) ∧ bMask 169 126 = [] := ⟨rfl, rfl⟩
theorem E169_127 : aCode 169 127 = (Instr.putfield 167, 130, [75, 7, 7, 0], 0) ∧ bMask 169 127 = [] := ⟨rfl, rfl⟩
theorem E169_130 : aCode 169 130 = (Instr.iload_n 2, 131, [], 0) ∧ bMask 169 130 = [] := ⟨rfl, rfl⟩
theorem E169_131 : aCode 169 131 = (Instr.ifCond .ne 11, 134, [142], 0) ∧ bMask 169 131 = [] := ⟨rfl, rfl⟩
theorem E169_134 : aCode 169 134 = (Instr.bipush (-100), 136, [], (-100)) ∧ bMask 169 134 = [] := ⟨rfl, rfl⟩
theorem E169_136 : aCode 169 136 = (Instr.aload_n 0, 137, [], 0) ∧ bMask 169 136 = [] := ⟨rfl, rfl⟩
theorem E169_137 : aCode 169 137 = (Instr.getfield 173, 140, [77, 7, 9, 0], 0) ∧ bMask 169 137 = [] := ⟨rfl, rfl⟩
theorem E169_140 : aCode 169 140 = (Instr.isub, 141, [], 0) ∧ bMask 169 140 = [] := ⟨rfl, rfl⟩
theorem E169_141 : aCode 169 141 = (Instr.ireturn, 142, [0], 0) ∧ bMask 169 141 = [] := ⟨rfl, rfl⟩
theorem E169_142 : aCode 169 142 = (Instr.aload_n 0, 143, [], 0) ∧ bMask 169 142 = [] := ⟨rfl, rfl⟩
theorem E169_143 : aCode 169 143 = (Instr.invokevirtual 215, 146, [132, 1, 0, 7, 0, 116], 0) ∧ bMask 169 143 = [] := ⟨rfl, rfl⟩
theorem E169_146 : aCode 169 146 = (Instr.aload_n 0, 147, [], 0) ∧ bMask 169 146 = [] := ⟨rfl, rfl⟩
theorem E169_147 : aCode 169 147 = (Instr.invokevirtual 218, 150, [129, 1, 0, 7, 0, 117], 0) ∧ bMask 169 147 = [] := ⟨rfl, rfl⟩
theorem E169_150 : aCode 169 150 = (Instr.aload_n 0, 151, [], 0) ∧ bMask 169 150 = [] := ⟨rfl, rfl⟩
theorem E169_151 : aCode 169 151 = (Instr.getfield 191, 154, [111, 7, 18, 0], 0) ∧ bMask 169 151 = [] := ⟨rfl, rfl⟩
theorem E169_154 : aCode 169 154 = (Instr.ifCond .lt 12, 157, [166], 0) ∧ bMask 169 154 = [] := ⟨rfl, rfl⟩
theorem E169_157 : aCode 169 157 = (Instr.sipush (-200), 160, [], (-200)) ∧ bMask 169 157 = [] := ⟨rfl, rfl⟩
theorem E169_160 : aCode 169 160 = (Instr.aload_n 0, 161, [], 0) ∧ bMask 169 160 = [] := ⟨rfl, rfl⟩
theorem E169_161 : aCode 169 161 = (Instr.getfield 191, 164, [111, 7, 18, 0], 0) ∧ bMask 169 161 = [] := ⟨rfl, rfl⟩
theorem E169_164 : aCode 169 164 = (Instr.isub, 165, [], 0) ∧ bMask 169 164 = [] := ⟨rfl, rfl⟩
theorem E169_165 : aCode 169 165 = (Instr.ireturn, 166, [0], 0) ∧ bMask 169 165 = [] := ⟨rfl, rfl⟩
theorem E169_166 : aCode 169 166 = (Instr.iconst 0, 167, [], 0) ∧ bMask 169 166 = [] := ⟨rfl, rfl⟩
theorem E169_167 : aCode 169 167 = (Instr.istore_n 3, 168, [], 0) ∧ bMask 169 167 = [] := ⟨rfl, rfl⟩
theorem E169_168 : aCode 169 168 = (Instr.iload_n 3, 169, [], 0) ∧ bMask 169 168 = [] := ⟨rfl, rfl⟩
theorem E169_169 : aCode 169 169 = (Instr.bipush 32, 171, [], 32) ∧ bMask 169 169 = [] := ⟨rfl, rfl⟩
theorem E169_171 : aCode 169 171 = (Instr.if_icmp .ge 26, 174, [197], 0) ∧ bMask 169 171 = [] := ⟨rfl, rfl⟩
theorem E169_174 : aCode 169 174 = (Instr.aload_n 0, 175, [], 0) ∧ bMask 169 174 = [] := ⟨rfl, rfl⟩
theorem E169_175 : aCode 169 175 = (Instr.getfield 13, 178, [69, 7, 1, 2], 0) ∧ bMask 169 175 = [] := ⟨rfl, rfl⟩
theorem E169_178 : aCode 169 178 = (Instr.bipush 32, 180, [], 32) ∧ bMask 169 178 = [] := ⟨rfl, rfl⟩
theorem E169_180 : aCode 169 180 = (Instr.iload_n 1, 181, [], 0) ∧ bMask 169 180 = [] := ⟨rfl, rfl⟩
theorem E169_181 : aCode 169 181 = (Instr.imul, 182, [], 0) ∧ bMask 169 181 = [] := ⟨rfl, rfl⟩
theorem E169_182 : aCode 169 182 = (Instr.iload_n 3, 183, [], 0) ∧ bMask 169 182 = [] := ⟨rfl, rfl⟩
theorem E169_183 : aCode 169 183 = (Instr.iadd, 184, [], 0) ∧ bMask 169 183 = [] := ⟨rfl, rfl⟩
theorem E169_184 : aCode 169 184 = (Instr.aload_n 0, 185, [], 0) ∧ bMask 169 184 = [] := ⟨rfl, rfl⟩
theorem E169_185 : aCode 169 185 = (Instr.getfield 29, 188, [70, 7, 12, 2], 0) ∧ bMask 169 185 = [] := ⟨rfl, rfl⟩
theorem E169_188 : aCode 169 188 = (Instr.iload_n 3, 189, [], 0) ∧ bMask 169 188 = [] := ⟨rfl, rfl⟩
theorem E169_189 : aCode 169 189 = (Instr.iaload, 190, [0], 0) ∧ bMask 169 189 = [] := ⟨rfl, rfl⟩
theorem E169_190 : aCode 169 190 = (Instr.iastore, 191, [0], 0) ∧ bMask 169 190 = [] := ⟨rfl, rfl⟩
theorem E169_191 : aCode 169 191 = (Instr.iinc 3 1, 194, [], 1) ∧ bMask 169 191 = [] := ⟨rfl, rfl⟩
theorem E169_194 : aCode 169 194 = (Instr.goto (-26), 168, [], 0) ∧ bMask 169 194 = [] := ⟨rfl, rfl⟩
theorem E169_197 : aCode 169 197 = (Instr.iconst 1, 198, [], 1) ∧ bMask 169 197 = [] := ⟨rfl, rfl⟩
theorem E169_198 : aCode 169 198 = (Instr.ireturn, 199, [0], 0) ∧ bMask 169 198 = [] := ⟨rfl, rfl⟩
theorem g_X7_text_0 {Q : bQ} {M : bM} {x1 : Int32} (h : bCall 105 [cI x1] M (fun v1 M2 => bV1 v1 fun r3 => (((¬ r3 = 0) → (bCall 107 [cR 26 0] (bU (bU (bU (bU M2 26 0 8 (0 : Int32)) 26 0 17 (0 : Int32)) 26 0 18 (-1 : Int32)) 26 0 20 (2 : Int32)) (fun v4 M5 => bV0 v4 (bCall 110 [cR 26 0] M5 (fun v6 M7 => bV0 v6 (bGo 169 Q 39 [some (cR 26 0), some (cI x1), some (cI (1 : Int32)), none] [] M7)))))) ∧ (¬ (¬ r3 = 0) → (Q (some (cI (-1 : Int32))) M2))))) : bCall 169 [cR 26 0, cI x1] M Q := s_iload_n E169_0.1 (k_ E169_0) rfl (s_scall1 E169_1.1 (k_ E169_1) rfl rfl rfl h (fun M2 r3 z0 => s_if_ne E169_4.1 (k_ E169_4) ⟨fun c1 => s_aload_n E169_9.1 (k_ E169_9) rfl (s_iconst E169_10.1 (k_ E169_10) (s_putI E169_11.1 (k_ E169_11) rfl (s_aload_n E169_14.1 (k_ E169_14) rfl (s_iconst E169_15.1 (k_ E169_15) (s_putI E169_16.1 (k_ E169_16) rfl (s_aload_n E169_19.1 (k_ E169_19) rfl (s_iconst E169_20.1 (k_ E169_20) (s_putI E169_21.1 (k_ E169_21) rfl (s_aload_n E169_24.1 (k_ E169_24) rfl (s_iconst E169_25.1 (k_ E169_25) (s_putI E169_26.1 (k_ E169_26) rfl (s_aload_n E169_29.1 (k_ E169_29) rfl (s_vcall0 E169_30.1 (k_ E169_30) rfl rfl rfl (z0.1 c1) (fun M5 z2 => s_aload_n E169_33.1 (k_ E169_33) rfl (s_vcall0 E169_34.1 (k_ E169_34) rfl rfl rfl z2 (fun M7 z3 => s_iconst E169_37.1 (k_ E169_37) (s_istore_n E169_38.1 (k_ E169_38) (z3)))))))))))))))))), fun c1 => s_iconst E169_7.1 (k_ E169_7) (s_iret E169_8.1 (k_ E169_8) (z0.2 c1))⟩))
theorem g_X7_text_39 {Q : bQ} {M : bM} {x1 : Int32} {x2 : Int32} {o3 : Option bV} (h : ((x2 = 0) → (((¬ x2 = 0) → (bCall 132 [cR 26 0] (bU M 26 0 7 (0 : Int32)) (fun v1 M2 => bV0 v1 (bCall 129 [cR 26 0] M2 (fun v3 M4 => bV0 v3 ((((M4 26 0 18) < 0) → bGo 169 Q 168 [some (cR 26 0), some (cI x1), some (cI x2), some (cI (0 : Int32))] [] M4) ∧ (¬ ((M4 26 0 18) < 0) → (Q (some (cI ((-200 : Int32) - (M4 26 0 18)))) M4)))))))) ∧ (¬ (¬ x2 = 0) → (Q (some (cI ((-100 : Int32) - ((bU M 26 0 7 (0 : Int32)) 26 0 9)))) (bU M 26 0 7 (0 : Int32)))))) ∧ (¬ (x2 = 0) → (((¬ (M 26 0 10) = 0) → (((¬ (M 26 0 20) = (2 : Int32)) → ((((M 26 0 20) ≤ 0) → (bCall 143 [cR 26 0] M (fun v5 M6 => bV1 v5 fun r7 => (bGo 169 Q 39 [some (cR 26 0), some (cI x1), some (cI r7), none] [] M6)))) ∧ (¬ ((M 26 0 20) ≤ 0) → (bCall 112 [cR 26 0] M (fun v8 M9 => bV1 v8 fun r10 => (bGo 169 Q 39 [some (cR 26 0), some (cI x1), some (cI r10), none] [] M9)))))) ∧ (¬ (¬ (M 26 0 20) = (2 : Int32)) → (((¬ (M 26 0 10) = (45 : Int32)) → ((((M 26 0 20) ≤ 0) → (bCall 143 [cR 26 0] M (fun v11 M12 => bV1 v11 fun r13 => (bGo 169 Q 39 [some (cR 26 0), some (cI x1), some (cI r13), none] [] M12)))) ∧ (¬ ((M 26 0 20) ≤ 0) → (bCall 112 [cR 26 0] M (fun v14 M15 => bV1 v14 fun r16 => (bGo 169 Q 39 [some (cR 26 0), some (cI x1), some (cI r16), none] [] M15)))))) ∧ (¬ (¬ (M 26 0 10) = (45 : Int32)) → ((vp_in (M 26 0 17) 5 ∧ ((1 : Int32) = 0 ∨ (1 : Int32) = 1)) ∧ (bCall 110 [cR 26 0] (bU (bU M 32 0 (M 26 0 17).toNatClampNeg (1 : Int32)) 26 0 20 (1 : Int32)) (fun v17 M18 => bV0 v17 (bGo 169 Q 39 [some (cR 26 0), some (cI x1), some (cI x2), none] [] M18))))))))) ∧ (¬ (¬ (M 26 0 10) = 0) → (((¬ (M 26 0 20) = 0) → (((¬ (M 26 0 20) = (2 : Int32)) → ((((M 26 0 20) ≤ 0) → (bCall 143 [cR 26 0] M (fun v19 M20 => bV1 v19 fun r21 => (bGo 169 Q 39 [some (cR 26 0), some (cI x1), some (cI r21), none] [] M20)))) ∧ (¬ ((M 26 0 20) ≤ 0) → (bCall 112 [cR 26 0] M (fun v22 M23 => bV1 v22 fun r24 => (bGo 169 Q 39 [some (cR 26 0), some (cI x1), some (cI r24), none] [] M23)))))) ∧ (¬ (¬ (M 26 0 20) = (2 : Int32)) → (((¬ (M 26 0 10) = (45 : Int32)) → ((((M 26 0 20) ≤ 0) → (bCall 143 [cR 26 0] M (fun v25 M26 => bV1 v25 fun r27 => (bGo 169 Q 39 [some (cR 26 0), some (cI x1), some (cI r27), none] [] M26)))) ∧ (¬ ((M 26 0 20) ≤ 0) → (bCall 112 [cR 26 0] M (fun v28 M29 => bV1 v28 fun r30 => (bGo 169 Q 39 [some (cR 26 0), some (cI x1), some (cI r30), none] [] M29)))))) ∧ (¬ (¬ (M 26 0 10) = (45 : Int32)) → ((vp_in (M 26 0 17) 5 ∧ ((1 : Int32) = 0 ∨ (1 : Int32) = 1)) ∧ (bCall 110 [cR 26 0] (bU (bU M 32 0 (M 26 0 17).toNatClampNeg (1 : Int32)) 26 0 20 (1 : Int32)) (fun v31 M32 => bV0 v31 (bGo 169 Q 39 [some (cR 26 0), some (cI x1), some (cI x2), none] [] M32))))))))) ∧ (¬ (¬ (M 26 0 20) = 0) → ((((M 26 0 17) ≤ 0) → (((¬ x2 = 0) → (bCall 132 [cR 26 0] (bU M 26 0 7 (0 : Int32)) (fun v33 M34 => bV0 v33 (bCall 129 [cR 26 0] M34 (fun v35 M36 => bV0 v35 ((((M36 26 0 18) < 0) → bGo 169 Q 168 [some (cR 26 0), some (cI x1), some (cI x2), some (cI (0 : Int32))] [] M36) ∧ (¬ ((M36 26 0 18) < 0) → (Q (some (cI ((-200 : Int32) - (M36 26 0 18)))) M36)))))))) ∧ (¬ (¬ x2 = 0) → (Q (some (cI ((-100 : Int32) - ((bU M 26 0 7 (0 : Int32)) 26 0 9)))) (bU M 26 0 7 (0 : Int32)))))) ∧ (¬ ((M 26 0 17) ≤ 0) → (((¬ (M 26 0 20) = (2 : Int32)) → ((((M 26 0 20) ≤ 0) → (bCall 143 [cR 26 0] M (fun v37 M38 => bV1 v37 fun r39 => (bGo 169 Q 39 [some (cR 26 0), some (cI x1), some (cI r39), none] [] M38)))) ∧ (¬ ((M 26 0 20) ≤ 0) → (bCall 112 [cR 26 0] M (fun v40 M41 => bV1 v40 fun r42 => (bGo 169 Q 39 [some (cR 26 0), some (cI x1), some (cI r42), none] [] M41)))))) ∧ (¬ (¬ (M 26 0 20) = (2 : Int32)) → (((¬ (M 26 0 10) = (45 : Int32)) → ((((M 26 0 20) ≤ 0) → (bCall 143 [cR 26 0] M (fun v43 M44 => bV1 v43 fun r45 => (bGo 169 Q 39 [some (cR 26 0), some (cI x1), some (cI r45), none] [] M44)))) ∧ (¬ ((M 26 0 20) ≤ 0) → (bCall 112 [cR 26 0] M (fun v46 M47 => bV1 v46 fun r48 => (bGo 169 Q 39 [some (cR 26 0), some (cI x1), some (cI r48), none] [] M47)))))) ∧ (¬ (¬ (M 26 0 10) = (45 : Int32)) → ((vp_in (M 26 0 17) 5 ∧ ((1 : Int32) = 0 ∨ (1 : Int32) = 1)) ∧ (bCall 110 [cR 26 0] (bU (bU M 32 0 (M 26 0 17).toNatClampNeg (1 : Int32)) 26 0 20 (1 : Int32)) (fun v49 M50 => bV0 v49 (bGo 169 Q 39 [some (cR 26 0), some (cI x1), some (cI x2), none] [] M50)))))))))))))))) : bGo 169 Q 39 [some (cR 26 0), some (cI x1), some (cI x2), o3] [] M := s_iload_n E169_39 rfl rfl (s_if_eq E169_40.1 (k_ E169_40) ⟨fun c4 => s_aload_n E169_125.1 (k_ E169_125) rfl (s_iconst E169_126.1 (k_ E169_126) (s_putI E169_127.1 (k_ E169_127) rfl (s_iload_n E169_130.1 (k_ E169_130) rfl (s_if_ne E169_131.1 (k_ E169_131) ⟨fun c5 => s_aload_n E169_142.1 (k_ E169_142) rfl (s_vcall0 E169_143.1 (k_ E169_143) rfl rfl rfl ((h.1 c4).1 c5) (fun M2 z6 => s_aload_n E169_146.1 (k_ E169_146) rfl (s_vcall0 E169_147.1 (k_ E169_147) rfl rfl rfl z6 (fun M4 z7 => s_aload_n E169_150.1 (k_ E169_150) rfl (s_getI0 E169_151.1 (k_ E169_151) rfl (s_if_lt E169_154.1 (k_ E169_154) ⟨fun c8 => s_iconst E169_166.1 (k_ E169_166) (s_istore_n E169_167.1 (k_ E169_167) (z7.1 c8)), fun c8 => s_sipush E169_157.1 (k_ E169_157) (s_aload_n E169_160.1 (k_ E169_160) rfl (s_getI0 E169_161.1 (k_ E169_161) rfl (s_isub E169_164.1 (k_ E169_164) (s_iret E169_165.1 (k_ E169_165) (z7.2 c8)))))⟩)))))), fun c5 => s_bipush E169_134.1 (k_ E169_134) (s_aload_n E169_136.1 (k_ E169_136) rfl (s_getI0 E169_137.1 (k_ E169_137) rfl (s_isub E169_140.1 (k_ E169_140) (s_iret E169_141.1 (k_ E169_141) ((h.1 c4).2 c5)))))⟩)))), fun c4 => s_aload_n E169_43.1 (k_ E169_43) rfl (s_getI0 E169_44.1 (k_ E169_44) rfl (s_if_ne E169_47.1 (k_ E169_47) ⟨fun c9 => s_aload_n E169_64.1 (k_ E169_64) rfl (s_getI0 E169_65.1 (k_ E169_65) rfl (s_iconst E169_68.1 (k_ E169_68) (s_icmp_ne E169_69.1 (k_ E169_69) ⟨fun c10 => s_aload_n E169_103.1 (k_ E169_103) rfl (s_getI0 E169_104.1 (k_ E169_104) rfl (s_if_le E169_107.1 (k_ E169_107) ⟨fun c11 => s_aload_n E169_117.1 (k_ E169_117) rfl (s_vcall1 E169_118.1 (k_ E169_118) rfl rfl rfl ((((h.2 c4).1 c9).1 c10).1 c11) (fun M6 r7 z12 => s_istore_n E169_121.1 (k_ E169_121) (s_goto E169_122.1 (k_ E169_122) (z12)))), fun c11 => s_aload_n E169_110.1 (k_ E169_110) rfl (s_vcall1 E169_111.1 (k_ E169_111) rfl rfl rfl ((((h.2 c4).1 c9).1 c10).2 c11) (fun M9 r10 z13 => s_goto E169_114.1 (k_ E169_114) (s_istore_n E169_121.1 (k_ E169_121) (s_goto E169_122.1 (k_ E169_122) (z13)))))⟩)), fun c10 => s_aload_n E169_72.1 (k_ E169_72) rfl (s_getI0 E169_73.1 (k_ E169_73) rfl (s_bipush E169_76.1 (k_ E169_76) (s_icmp_ne E169_78.1 (k_ E169_78) ⟨fun c14 => s_aload_n E169_103.1 (k_ E169_103) rfl (s_getI0 E169_104.1 (k_ E169_104) rfl (s_if_le E169_107.1 (k_ E169_107) ⟨fun c15 => s_aload_n E169_117.1 (k_ E169_117) rfl (s_vcall1 E169_118.1 (k_ E169_118) rfl rfl rfl (((((h.2 c4).1 c9).2 c10).1 c14).1 c15) (fun M12 r13 z16 => s_istore_n E169_121.1 (k_ E169_121) (s_goto E169_122.1 (k_ E169_122) (z16)))), fun c15 => s_aload_n E169_110.1 (k_ E169_110) rfl (s_vcall1 E169_111.1 (k_ E169_111) rfl rfl rfl (((((h.2 c4).1 c9).2 c10).1 c14).2 c15) (fun M15 r16 z17 => s_goto E169_114.1 (k_ E169_114) (s_istore_n E169_121.1 (k_ E169_121) (s_goto E169_122.1 (k_ E169_122) (z17)))))⟩)), fun c14 => s_aload_n E169_81.1 (k_ E169_81) rfl (s_getR E169_82.1 (k_ E169_82) rfl rfl (s_aload_n E169_85.1 (k_ E169_85) rfl (s_getI0 E169_86.1 (k_ E169_86) rfl (s_iconst E169_89.1 (k_ E169_89) (s_bastore E169_90.1 (k_ E169_90) rfl ⟨((((h.2 c4).1 c9).2 c10).2 c14).1, s_aload_n E169_91.1 (k_ E169_91) rfl (s_iconst E169_92.1 (k_ E169_92) (s_putI E169_93.1 (k_ E169_93) rfl (s_aload_n E169_96.1 (k_ E169_96) rfl (s_vcall0 E169_97.1 (k_ E169_97) rfl rfl rfl (((((h.2 c4).1 c9).2 c10).2 c14).2) (fun M18 z18 => s_goto E169_100.1 (k_ E169_100) (z18))))))⟩)))))⟩)))⟩))), fun c9 => s_aload_n E169_50.1 (k_ E169_50) rfl (s_getI0 E169_51.1 (k_ E169_51) rfl (s_if_ne E169_54.1 (k_ E169_54) ⟨fun c19 => s_aload_n E169_64.1 (k_ E169_64) rfl (s_getI0 E169_65.1 (k_ E169_65) rfl (s_iconst E169_68.1 (k_ E169_68) (s_icmp_ne E169_69.1 (k_ E169_69) ⟨fun c20 => s_aload_n E169_103.1 (k_ E169_103) rfl (s_getI0 E169_104.1 (k_ E169_104) rfl (s_if_le E169_107.1 (k_ E169_107) ⟨fun c21 => s_aload_n E169_117.1 (k_ E169_117) rfl (s_vcall1 E169_118.1 (k_ E169_118) rfl rfl rfl (((((h.2 c4).2 c9).1 c19).1 c20).1 c21) (fun M20 r21 z22 => s_istore_n E169_121.1 (k_ E169_121) (s_goto E169_122.1 (k_ E169_122) (z22)))), fun c21 => s_aload_n E169_110.1 (k_ E169_110) rfl (s_vcall1 E169_111.1 (k_ E169_111) rfl rfl rfl (((((h.2 c4).2 c9).1 c19).1 c20).2 c21) (fun M23 r24 z23 => s_goto E169_114.1 (k_ E169_114) (s_istore_n E169_121.1 (k_ E169_121) (s_goto E169_122.1 (k_ E169_122) (z23)))))⟩)), fun c20 => s_aload_n E169_72.1 (k_ E169_72) rfl (s_getI0 E169_73.1 (k_ E169_73) rfl (s_bipush E169_76.1 (k_ E169_76) (s_icmp_ne E169_78.1 (k_ E169_78) ⟨fun c24 => s_aload_n E169_103.1 (k_ E169_103) rfl (s_getI0 E169_104.1 (k_ E169_104) rfl (s_if_le E169_107.1 (k_ E169_107) ⟨fun c25 => s_aload_n E169_117.1 (k_ E169_117) rfl (s_vcall1 E169_118.1 (k_ E169_118) rfl rfl rfl ((((((h.2 c4).2 c9).1 c19).2 c20).1 c24).1 c25) (fun M26 r27 z26 => s_istore_n E169_121.1 (k_ E169_121) (s_goto E169_122.1 (k_ E169_122) (z26)))), fun c25 => s_aload_n E169_110.1 (k_ E169_110) rfl (s_vcall1 E169_111.1 (k_ E169_111) rfl rfl rfl ((((((h.2 c4).2 c9).1 c19).2 c20).1 c24).2 c25) (fun M29 r30 z27 => s_goto E169_114.1 (k_ E169_114) (s_istore_n E169_121.1 (k_ E169_121) (s_goto E169_122.1 (k_ E169_122) (z27)))))⟩)), fun c24 => s_aload_n E169_81.1 (k_ E169_81) rfl (s_getR E169_82.1 (k_ E169_82) rfl rfl (s_aload_n E169_85.1 (k_ E169_85) rfl (s_getI0 E169_86.1 (k_ E169_86) rfl (s_iconst E169_89.1 (k_ E169_89) (s_bastore E169_90.1 (k_ E169_90) rfl ⟨(((((h.2 c4).2 c9).1 c19).2 c20).2 c24).1, s_aload_n E169_91.1 (k_ E169_91) rfl (s_iconst E169_92.1 (k_ E169_92) (s_putI E169_93.1 (k_ E169_93) rfl (s_aload_n E169_96.1 (k_ E169_96) rfl (s_vcall0 E169_97.1 (k_ E169_97) rfl rfl rfl ((((((h.2 c4).2 c9).1 c19).2 c20).2 c24).2) (fun M32 z28 => s_goto E169_100.1 (k_ E169_100) (z28))))))⟩)))))⟩)))⟩))), fun c19 => s_aload_n E169_57.1 (k_ E169_57) rfl (s_getI0 E169_58.1 (k_ E169_58) rfl (s_if_le E169_61.1 (k_ E169_61) ⟨fun c29 => s_aload_n E169_125.1 (k_ E169_125) rfl (s_iconst E169_126.1 (k_ E169_126) (s_putI E169_127.1 (k_ E169_127) rfl (s_iload_n E169_130.1 (k_ E169_130) rfl (s_if_ne E169_131.1 (k_ E169_131) ⟨fun c30 => s_aload_n E169_142.1 (k_ E169_142) rfl (s_vcall0 E169_143.1 (k_ E169_143) rfl rfl rfl (((((h.2 c4).2 c9).2 c19).1 c29).1 c30) (fun M34 z31 => s_aload_n E169_146.1 (k_ E169_146) rfl (s_vcall0 E169_147.1 (k_ E169_147) rfl rfl rfl z31 (fun M36 z32 => s_aload_n E169_150.1 (k_ E169_150) rfl (s_getI0 E169_151.1 (k_ E169_151) rfl (s_if_lt E169_154.1 (k_ E169_154) ⟨fun c33 => s_iconst E169_166.1 (k_ E169_166) (s_istore_n E169_167.1 (k_ E169_167) (z32.1 c33)), fun c33 => s_sipush E169_157.1 (k_ E169_157) (s_aload_n E169_160.1 (k_ E169_160) rfl (s_getI0 E169_161.1 (k_ E169_161) rfl (s_isub E169_164.1 (k_ E169_164) (s_iret E169_165.1 (k_ E169_165) (z32.2 c33)))))⟩)))))), fun c30 => s_bipush E169_134.1 (k_ E169_134) (s_aload_n E169_136.1 (k_ E169_136) rfl (s_getI0 E169_137.1 (k_ E169_137) rfl (s_isub E169_140.1 (k_ E169_140) (s_iret E169_141.1 (k_ E169_141) (((((h.2 c4).2 c9).2 c19).1 c29).2 c30)))))⟩)))), fun c29 => s_aload_n E169_64.1 (k_ E169_64) rfl (s_getI0 E169_65.1 (k_ E169_65) rfl (s_iconst E169_68.1 (k_ E169_68) (s_icmp_ne E169_69.1 (k_ E169_69) ⟨fun c34 => s_aload_n E169_103.1 (k_ E169_103) rfl (s_getI0 E169_104.1 (k_ E169_104) rfl (s_if_le E169_107.1 (k_ E169_107) ⟨fun c35 => s_aload_n E169_117.1 (k_ E169_117) rfl (s_vcall1 E169_118.1 (k_ E169_118) rfl rfl rfl ((((((h.2 c4).2 c9).2 c19).2 c29).1 c34).1 c35) (fun M38 r39 z36 => s_istore_n E169_121.1 (k_ E169_121) (s_goto E169_122.1 (k_ E169_122) (z36)))), fun c35 => s_aload_n E169_110.1 (k_ E169_110) rfl (s_vcall1 E169_111.1 (k_ E169_111) rfl rfl rfl ((((((h.2 c4).2 c9).2 c19).2 c29).1 c34).2 c35) (fun M41 r42 z37 => s_goto E169_114.1 (k_ E169_114) (s_istore_n E169_121.1 (k_ E169_121) (s_goto E169_122.1 (k_ E169_122) (z37)))))⟩)), fun c34 => s_aload_n E169_72.1 (k_ E169_72) rfl (s_getI0 E169_73.1 (k_ E169_73) rfl (s_bipush E169_76.1 (k_ E169_76) (s_icmp_ne E169_78.1 (k_ E169_78) ⟨fun c38 => s_aload_n E169_103.1 (k_ E169_103) rfl (s_getI0 E169_104.1 (k_ E169_104) rfl (s_if_le E169_107.1 (k_ E169_107) ⟨fun c39 => s_aload_n E169_117.1 (k_ E169_117) rfl (s_vcall1 E169_118.1 (k_ E169_118) rfl rfl rfl (((((((h.2 c4).2 c9).2 c19).2 c29).2 c34).1 c38).1 c39) (fun M44 r45 z40 => s_istore_n E169_121.1 (k_ E169_121) (s_goto E169_122.1 (k_ E169_122) (z40)))), fun c39 => s_aload_n E169_110.1 (k_ E169_110) rfl (s_vcall1 E169_111.1 (k_ E169_111) rfl rfl rfl (((((((h.2 c4).2 c9).2 c19).2 c29).2 c34).1 c38).2 c39) (fun M47 r48 z41 => s_goto E169_114.1 (k_ E169_114) (s_istore_n E169_121.1 (k_ E169_121) (s_goto E169_122.1 (k_ E169_122) (z41)))))⟩)), fun c38 => s_aload_n E169_81.1 (k_ E169_81) rfl (s_getR E169_82.1 (k_ E169_82) rfl rfl (s_aload_n E169_85.1 (k_ E169_85) rfl (s_getI0 E169_86.1 (k_ E169_86) rfl (s_iconst E169_89.1 (k_ E169_89) (s_bastore E169_90.1 (k_ E169_90) rfl ⟨((((((h.2 c4).2 c9).2 c19).2 c29).2 c34).2 c38).1, s_aload_n E169_91.1 (k_ E169_91) rfl (s_iconst E169_92.1 (k_ E169_92) (s_putI E169_93.1 (k_ E169_93) rfl (s_aload_n E169_96.1 (k_ E169_96) rfl (s_vcall0 E169_97.1 (k_ E169_97) rfl rfl rfl (((((((h.2 c4).2 c9).2 c19).2 c29).2 c34).2 c38).2) (fun M50 z42 => s_goto E169_100.1 (k_ E169_100) (z42))))))⟩)))))⟩)))⟩)))⟩))⟩))⟩))⟩)
theorem g_X7_text_168 {Q : bQ} {M : bM} {x1 : Int32} {x2 : Int32} {x3 : Int32} (h : (((32 : Int32) ≤ x3) → (Q (some (cI (1 : Int32))) M)) ∧ (¬ ((32 : Int32) ≤ x3) → ((vp_in x3 160) ∧ ((vp_in (((32 : Int32) * x1) + x3) 192) ∧ bGo 169 Q 168 [some (cR 26 0), some (cI x1), some (cI x2), some (cI (x3 + (1 : Int32)))] [] (bU M 28 0 (((32 : Int32) * x1) + x3).toNatClampNeg (M 30 0 x3.toNatClampNeg)))))) : bGo 169 Q 168 [some (cR 26 0), some (cI x1), some (cI x2), some (cI x3)] [] M := s_iload_n E169_168.1 (k_ E169_168) rfl (s_bipush E169_169.1 (k_ E169_169) (s_icmp_ge E169_171.1 (k_ E169_171) ⟨fun c43 => s_iconst E169_197.1 (k_ E169_197) (s_iret E169_198.1 (k_ E169_198) (h.1 c43)), fun c43 => s_aload_n E169_174.1 (k_ E169_174) rfl (s_getR E169_175.1 (k_ E169_175) rfl rfl (s_bipush E169_178.1 (k_ E169_178) (s_iload_n E169_180.1 (k_ E169_180) rfl (s_imul E169_181.1 (k_ E169_181) (s_iload_n E169_182.1 (k_ E169_182) rfl (s_iadd E169_183.1 (k_ E169_183) (s_aload_n E169_184.1 (k_ E169_184) rfl (s_getR E169_185.1 (k_ E169_185) rfl rfl (s_iload_n E169_188.1 (k_ E169_188) rfl (s_iaload E169_189.1 (k_ E169_189) rfl ⟨(h.2 c43).1, s_iastore E169_190.1 (k_ E169_190) rfl ⟨((h.2 c43).2).1, s_iinc E169_191.1 (k_ E169_191) rfl (s_goto E169_194.1 (k_ E169_194) (((h.2 c43).2).2))⟩⟩))))))))))⟩))
-- 170: X7_thrown
theorem E170_0 : aCode 170 0 = (Instr.aload_n 0, 1, [], 0) ∧ bMask 170 0 = [] := ⟨rfl, rfl⟩
theorem E170_1 : aCode 170 1 = (Instr.getfield 123, 4, [115, 7, 2, 0], 0) ∧ bMask 170 1 = [] := ⟨rfl, rfl⟩
theorem E170_4 : aCode 170 4 = (Instr.ireturn, 5, [0], 0) ∧ bMask 170 4 = [] := ⟨rfl, rfl⟩
theorem g_X7_thrown_0 {Q : bQ} {M : bM}  (h : Q (some (cI (M 26 0 2))) M) : bCall 170 [cR 26 0] M Q := s_aload_n E170_0.1 (k_ E170_0) rfl (s_getI0 E170_1.1 (k_ E170_1) rfl (s_iret E170_4.1 (k_ E170_4) h))
-- 171: X7_times
theorem E171_0 : aCode 171 0 = (Instr.iload_n 1, 1, [], 0) ∧ bMask 171 0 = [] := ⟨rfl, rfl⟩
theorem E171_1 : aCode 171 1 = (Instr.invokestatic 134, 4, [105, 1, 1, 0, 0, 90], 0) ∧ bMask 171 1 = [] := ⟨rfl, rfl⟩
theorem E171_4 : aCode 171 4 = (Instr.ifCond .eq 17, 7, [21], 0) ∧ bMask 171 4 = [] := ⟨rfl, rfl⟩
theorem E171_7 : aCode 171 7 = (Instr.iload_n 2, 8, [], 0) ∧ bMask 171 7 = [] := ⟨rfl, rfl⟩
theorem E171_8 : aCode 171 8 = (Instr.invokestatic 134, 11, [105, 1, 1, 0, 0, 90], 0) ∧ bMask 171 8 = [] := ⟨rfl, rfl⟩
theorem E171_11 : aCode 171 11 = (Instr.ifCond .eq 10, 14, [21], 0) ∧ bMask 171 11 = [] := ⟨rfl, rfl⟩
theorem E171_14 : aCode 171 14 = (Instr.iload_n 3, 15, [], 0) ∧ bMask 171 14 = [] := ⟨rfl, rfl⟩
theorem E171_15 : aCode 171 15 = (Instr.invokestatic 134, 18, [105, 1, 1, 0, 0, 90], 0) ∧ bMask 171 15 = [] := ⟨rfl, rfl⟩
theorem E171_18 : aCode 171 18 = (Instr.ifCond .ne 5, 21, [23], 0) ∧ bMask 171 18 = [] := ⟨rfl, rfl⟩
theorem E171_21 : aCode 171 21 = (Instr.iconst (-1), 22, [], (-1)) ∧ bMask 171 21 = [] := ⟨rfl, rfl⟩
theorem E171_22 : aCode 171 22 = (Instr.ireturn, 23, [0], 0) ∧ bMask 171 22 = [] := ⟨rfl, rfl⟩
theorem E171_23 : aCode 171 23 = (Instr.aload_n 0, 24, [], 0) ∧ bMask 171 23 = [] := ⟨rfl, rfl⟩
theorem E171_24 : aCode 171 24 = (Instr.iload_n 1, 25, [], 0) ∧ bMask 171 24 = [] := ⟨rfl, rfl⟩
theorem E171_25 : aCode 171 25 = (Instr.aload_n 0, 26, [], 0) ∧ bMask 171 25 = [] := ⟨rfl, rfl⟩
theorem E171_26 : aCode 171 26 = (Instr.getfield 20, 29, [110, 7, 4, 2], 0) ∧ bMask 171 26 = [] := ⟨rfl, rfl⟩
theorem E171_29 : aCode 171 29 = (Instr.invokevirtual 149, 32, [144, 3, 0, 7, 0, 118], 0) ∧ bMask 171 29 = [] := ⟨rfl, rfl⟩
theorem E171_32 : aCode 171 32 = (Instr.aload_n 0, 33, [], 0) ∧ bMask 171 32 = [] := ⟨rfl, rfl⟩
theorem E171_33 : aCode 171 33 = (Instr.iload_n 2, 34, [], 0) ∧ bMask 171 33 = [] := ⟨rfl, rfl⟩
theorem E171_34 : aCode 171 34 = (Instr.aload_n 0, 35, [], 0) ∧ bMask 171 34 = [] := ⟨rfl, rfl⟩
theorem E171_35 : aCode 171 35 = (Instr.getfield 23, 38, [117, 7, 5, 2], 0) ∧ bMask 171 35 = [] := ⟨rfl, rfl⟩
theorem E171_38 : aCode 171 38 = (Instr.invokevirtual 149, 41, [144, 3, 0, 7, 0, 118], 0) ∧ bMask 171 38 = [] := ⟨rfl, rfl⟩
theorem E171_41 : aCode 171 41 = (Instr.aload_n 0, 42, [], 0) ∧ bMask 171 41 = [] := ⟨rfl, rfl⟩
theorem E171_42 : aCode 171 42 = (Instr.aload_n 0, 43, [], 0) ∧ bMask 171 42 = [] := ⟨rfl, rfl⟩
theorem E171_43 : aCode 171 43 = (Instr.getfield 20, 46, [110, 7, 4, 2], 0) ∧ bMask 171 43 = [] := ⟨rfl, rfl⟩
theorem E171_46 : aCode 171 46 = (Instr.aload_n 0, 47, [], 0) ∧ bMask 171 46 = [] := ⟨rfl, rfl⟩
theorem E171_47 : aCode 171 47 = (Instr.getfield 23, 50, [117, 7, 5, 2], 0) ∧ bMask 171 47 = [] := ⟨rfl, rfl⟩
theorem E171_50 : aCode 171 50 = (Instr.invokevirtual 153, 53, [130, 3, 0, 7, 0, 109], 0) ∧ bMask 171 50 = [] := ⟨rfl, rfl⟩
theorem E171_53 : aCode 171 53 = (Instr.aload_n 0, 54, [], 0) ∧ bMask 171 53 = [] := ⟨rfl, rfl⟩
theorem E171_54 : aCode 171 54 = (Instr.aload_n 0, 55, [], 0) ∧ bMask 171 54 = [] := ⟨rfl, rfl⟩
theorem E171_55 : aCode 171 55 = (Instr.getfield 17, 58, [108, 7, 3, 2], 0) ∧ bMask 171 55 = [] := ⟨rfl, rfl⟩
theorem E171_58 : aCode 171 58 = (Instr.iload_n 3, 59, [], 0) ∧ bMask 171 58 = [] := ⟨rfl, rfl⟩
theorem E171_59 : aCode 171 59 = (Instr.invokevirtual 145, 62, [127, 3, 1, 7, 0, 108], 0) ∧ bMask 171 59 = [] := ⟨rfl, rfl⟩
theorem E171_62 : aCode 171 62 = (Instr.ireturn, 63, [0], 0) ∧ bMask 171 62 = [] := ⟨rfl, rfl⟩
theorem g_X7_times_0 {Q : bQ} {M : bM} {x1 : Int32} {x2 : Int32} {x3 : Int32} (h : bCall 105 [cI x1] M (fun v1 M2 => bV1 v1 fun r3 => (((r3 = 0) → (Q (some (cI (-1 : Int32))) M2)) ∧ (¬ (r3 = 0) → (bCall 105 [cI x2] M2 (fun v4 M5 => bV1 v4 fun r6 => (((r6 = 0) → (Q (some (cI (-1 : Int32))) M5)) ∧ (¬ (r6 = 0) → (bCall 105 [cI x3] M5 (fun v7 M8 => bV1 v7 fun r9 => (((¬ r9 = 0) → (bCall 144 [cR 26 0, cI x1, cR 27 1] M8 (fun v10 M11 => bV0 v10 (bCall 144 [cR 26 0, cI x2, cR 27 2] M11 (fun v12 M13 => bV0 v12 (bCall 130 [cR 26 0, cR 27 1, cR 27 2] M13 (fun v14 M15 => bV0 v14 (bCall 127 [cR 26 0, cR 27 0, cI x3] M15 (fun v16 M17 => bV1 v16 fun r18 => (Q (some (cI r18)) M17)))))))))) ∧ (¬ (¬ r9 = 0) → (Q (some (cI (-1 : Int32))) M8))))))))))))) : bCall 171 [cR 26 0, cI x1, cI x2, cI x3] M Q := s_iload_n E171_0.1 (k_ E171_0) rfl (s_scall1 E171_1.1 (k_ E171_1) rfl rfl rfl h (fun M2 r3 z0 => s_if_eq E171_4.1 (k_ E171_4) ⟨fun c1 => s_iconst E171_21.1 (k_ E171_21) (s_iret E171_22.1 (k_ E171_22) (z0.1 c1)), fun c1 => s_iload_n E171_7.1 (k_ E171_7) rfl (s_scall1 E171_8.1 (k_ E171_8) rfl rfl rfl (z0.2 c1) (fun M5 r6 z2 => s_if_eq E171_11.1 (k_ E171_11) ⟨fun c3 => s_iconst E171_21.1 (k_ E171_21) (s_iret E171_22.1 (k_ E171_22) (z2.1 c3)), fun c3 => s_iload_n E171_14.1 (k_ E171_14) rfl (s_scall1 E171_15.1 (k_ E171_15) rfl rfl rfl (z2.2 c3) (fun M8 r9 z4 => s_if_ne E171_18.1 (k_ E171_18) ⟨fun c5 => s_aload_n E171_23.1 (k_ E171_23) rfl (s_iload_n E171_24.1 (k_ E171_24) rfl (s_aload_n E171_25.1 (k_ E171_25) rfl (s_getR E171_26.1 (k_ E171_26) rfl rfl (s_vcall0 E171_29.1 (k_ E171_29) rfl rfl rfl (z4.1 c5) (fun M11 z6 => s_aload_n E171_32.1 (k_ E171_32) rfl (s_iload_n E171_33.1 (k_ E171_33) rfl (s_aload_n E171_34.1 (k_ E171_34) rfl (s_getR E171_35.1 (k_ E171_35) rfl rfl (s_vcall0 E171_38.1 (k_ E171_38) rfl rfl rfl z6 (fun M13 z7 => s_aload_n E171_41.1 (k_ E171_41) rfl (s_aload_n E171_42.1 (k_ E171_42) rfl (s_getR E171_43.1 (k_ E171_43) rfl rfl (s_aload_n E171_46.1 (k_ E171_46) rfl (s_getR E171_47.1 (k_ E171_47) rfl rfl (s_vcall0 E171_50.1 (k_ E171_50) rfl rfl rfl z7 (fun M15 z8 => s_aload_n E171_53.1 (k_ E171_53) rfl (s_aload_n E171_54.1 (k_ E171_54) rfl (s_getR E171_55.1 (k_ E171_55) rfl rfl (s_iload_n E171_58.1 (k_ E171_58) rfl (s_vcall1 E171_59.1 (k_ E171_59) rfl rfl rfl z8 (fun M17 r18 z9 => s_iret E171_62.1 (k_ E171_62) z9))))))))))))))))))))), fun c5 => s_iconst E171_21.1 (k_ E171_21) (s_iret E171_22.1 (k_ E171_22) (z4.2 c5))⟩))⟩))⟩))
-- 172: X7_told
theorem E172_0 : aCode 172 0 = (Instr.iload_n 1, 1, [], 0) ∧ bMask 172 0 = [] := ⟨rfl, rfl⟩
theorem E172_1 : aCode 172 1 = (Instr.iconst 0, 2, [], 0) ∧ bMask 172 1 = [] := ⟨rfl, rfl⟩
theorem E172_2 : aCode 172 2 = (Instr.iconst 5, 3, [], 5) ∧ bMask 172 2 = [] := ⟨rfl, rfl⟩
theorem E172_3 : aCode 172 3 = (Instr.invokestatic 126, 6, [104, 3, 1, 0, 0, 89], 0) ∧ bMask 172 3 = [] := ⟨rfl, rfl⟩
theorem E172_6 : aCode 172 6 = (Instr.ifCond .ne 5, 9, [11], 0) ∧ bMask 172 6 = [] := ⟨rfl, rfl⟩
theorem E172_9 : aCode 172 9 = (Instr.iconst (-1), 10, [], (-1)) ∧ bMask 172 9 = [] := ⟨rfl, rfl⟩
theorem E172_10 : aCode 172 10 = (Instr.ireturn, 11, [0], 0) ∧ bMask 172 10 = [] := ⟨rfl, rfl⟩
theorem E172_11 : aCode 172 11 = (Instr.aload_n 0, 12, [], 0) ∧ bMask 172 11 = [] := ⟨rfl, rfl⟩
theorem E172_12 : aCode 172 12 = (Instr.invokevirtual 256, 15, [124, 1, 0, 7, 0, 105], 0) ∧ bMask 172 12 = [] := ⟨rfl, rfl⟩
theorem E172_15 : aCode 172 15 = (Instr.iconst 0, 16, [], 0) ∧ bMask 172 15 = [] := ⟨rfl, rfl⟩
theorem E172_16 : aCode 172 16 = (Instr.istore_n 2, 17, [], 0) ∧ bMask 172 16 = [] := ⟨rfl, rfl⟩
theorem E172_17 : aCode 172 17 = (Instr.iconst 0, 18, [], 0) ∧ bMask 172 17 = [] := ⟨rfl, rfl⟩
theorem E172_18 : aCode 172 18 = (Instr.istore_n 3, 19, [], 0) ∧ bMask 172 18 = [] := ⟨rfl, rfl⟩
theorem E172_19 : aCode 172 19 = (Instr.iconst 0, 20, [], 0) ∧ bMask 172 19 = [] := ⟨rfl, rfl⟩
theorem E172_20 : aCode 172 20 = (Instr.istore 4, 22, [], 0) ∧ bMask 172 20 = [] := ⟨rfl, rfl⟩
theorem E172_22 : aCode 172 22 = (Instr.iload 4, 24, [], 0) ∧ bMask 172 22 = [] := ⟨rfl, rfl⟩
theorem E172_24 : aCode 172 24 = (Instr.aload_n 0, 25, [], 0) ∧ bMask 172 24 = [] := ⟨rfl, rfl⟩
theorem E172_25 : aCode 172 25 = (Instr.getfield 227, 28, [93, 7, 25, 0], 0) ∧ bMask 172 25 = [] := ⟨rfl, rfl⟩
theorem E172_28 : aCode 172 28 = (Instr.if_icmp .ge 58, 31, [86], 0) ∧ bMask 172 28 = [] := ⟨rfl, rfl⟩
theorem E172_31 : aCode 172 31 = (Instr.iload_n 2, 32, [], 0) ∧ bMask 172 31 = [] := ⟨rfl, rfl⟩
theorem E172_32 : aCode 172 32 = (Instr.aload_n 0, 33, [], 0) ∧ bMask 172 32 = [] := ⟨rfl, rfl⟩
theorem E172_33 : aCode 172 33 = (Instr.getfield 63, 36, [107, 7, 30, 2], 0) ∧ bMask 172 33 = [] := ⟨rfl, rfl⟩
theorem E172_36 : aCode 172 36 = (Instr.iload 4, 38, [], 0) ∧ bMask 172 36 = [] := ⟨rfl, rfl⟩
theorem E172_38 : aCode 172 38 = (Instr.iaload, 39, [0], 0) ∧ bMask 172 38 = [] := ⟨rfl, rfl⟩
theorem E172_39 : aCode 172 39 = (Instr.iadd, 40, [], 0) ∧ bMask 172 39 = [] := ⟨rfl, rfl⟩
theorem E172_40 : aCode 172 40 = (Instr.istore_n 2, 41, [], 0) ∧ bMask 172 40 = [] := ⟨rfl, rfl⟩
theorem E172_41 : aCode 172 41 = (Instr.aload_n 0, 42, [], 0) ∧ bMask 172 41 = [] := ⟨rfl, rfl⟩
theorem E172_42 : aCode 172 42 = (Instr.getfield 63, 45, [107, 7, 30, 2], 0) ∧ bMask 172 42 = [] := ⟨rfl, rfl⟩
theorem E172_45 : aCode 172 45 = (Instr.iload 4, 47, [], 0) ∧ bMask 172 45 = [] := ⟨rfl, rfl⟩
theorem E172_47 : aCode 172 47 = (Instr.iaload, 48, [0], 0) ∧ bMask 172 47 = [] := ⟨rfl, rfl⟩
theorem E172_48 : aCode 172 48 = (Instr.aload_n 0, 49, [], 0) ∧ bMask 172 48 = [] := ⟨rfl, rfl⟩
theorem E172_49 : aCode 172 49 = (Instr.getfield 57, 52, [97, 7, 28, 2], 0) ∧ bMask 172 49 = [] := ⟨rfl, rfl⟩
theorem E172_52 : aCode 172 52 = (Instr.iload 4, 54, [], 0) ∧ bMask 172 52 = [] := ⟨rfl, rfl⟩
theorem E172_54 : aCode 172 54 = (Instr.iaload, 55, [0], 0) ∧ bMask 172 54 = [] := ⟨rfl, rfl⟩
theorem E172_55 : aCode 172 55 = (Instr.iadd, 56, [], 0) ∧ bMask 172 55 = [] := ⟨rfl, rfl⟩
theorem E172_56 : aCode 172 56 = (Instr.iload_n 3, 57, [], 0) ∧ bMask 172 56 = [] := ⟨rfl, rfl⟩
theorem E172_57 : aCode 172 57 = (Instr.if_icmp .le 21, 60, [78], 0) ∧ bMask 172 57 = [] := ⟨rfl, rfl⟩
theorem E172_60 : aCode 172 60 = (Instr.aload_n 0, 61, [], 0) ∧ bMask 172 60 = [] := ⟨rfl, rfl⟩
theorem E172_61 : aCode 172 61 = (Instr.getfield 63, 64, [107, 7, 30, 2], 0) ∧ bMask 172 61 = [] := ⟨rfl, rfl⟩
theorem E172_64 : aCode 172 64 = (Instr.iload 4, 66, [], 0) ∧ bMask 172 64 = [] := ⟨rfl, rfl⟩
theorem E172_66 : aCode 172 66 = (Instr.iaload, 67, [0], 0) ∧ bMask 172 66 = [] := ⟨rfl, rfl⟩
theorem E172_67 : aCode 172 67 = (Instr.aload_n 0, 68, [], 0) ∧ bMask 172 67 = [] := ⟨rfl, rfl⟩
theorem E172_68 : aCode 172 68 = (Instr.getfield 57, 71, [97, 7, 28, 2], 0) ∧ bMask 172 68 = [] := ⟨rfl, rfl⟩
theorem E172_71 : aCode 172 71 = (Instr.iload 4, 73, [], 0) ∧ bMask 172 71 = [] := ⟨rfl, rfl⟩
theorem E172_73 : aCode 172 73 = (Instr.iaload, 74, [0], 0) ∧ bMask 172 73 = [] := ⟨rfl, rfl⟩
theorem E172_74 : aCode 172 74 = (Instr.iadd, 75, [], 0) ∧ bMask 172 74 = [] := ⟨rfl, rfl⟩
theorem E172_75 : aCode 172 75 = (Instr.goto 4, 79, [], 0) ∧ bMask 172 75 = [] := ⟨rfl, rfl⟩
theorem E172_78 : aCode 172 78 = (Instr.iload_n 3, 79, [], 0) ∧ bMask 172 78 = [] := ⟨rfl, rfl⟩
theorem E172_79 : aCode 172 79 = (Instr.istore_n 3, 80, [], 0) ∧ bMask 172 79 = [] := ⟨rfl, rfl⟩
theorem E172_80 : aCode 172 80 = (Instr.iinc 4 1, 83, [], 1) ∧ bMask 172 80 = [] := ⟨rfl, rfl⟩
theorem E172_83 : aCode 172 83 = (Instr.goto (-61), 22, [], 0) ∧ bMask 172 83 = [] := ⟨rfl, rfl⟩
theorem E172_86 : aCode 172 86 = (Instr.aload_n 0, 87, [], 0) ∧ bMask 172 86 = [] := ⟨rfl, rfl⟩
theorem E172_87 : aCode 172 87 = (Instr.invokevirtual 259, 90, [146, 1, 1, 7, 0, 120], 0) ∧ bMask 172 87 = [] := ⟨rfl, rfl⟩
theorem E172_90 : aCode 172 90 = (Instr.istore 4, 92, [], 0) ∧ bMask 172 90 = [] := ⟨rfl, rfl⟩
theorem E172_92 : aCode 172 92 = (Instr.iload_n 1, 93, [], 0) ∧ bMask 172 92 = [] := ⟨rfl, rfl⟩
theorem E172_93 : aCode 172 93 = (Instr.tableswitch 65 0 4 #[35, 40, 45, 47, 63], 128, [158, 128, 133, 138, 140, 156], 0) ∧ bMask 172 93 = [] := ⟨rfl, rfl⟩
theorem E172_128 : aCode 172 128 = (Instr.aload_n 0, 129, [], 0) ∧ bMask 172 128 = [] := ⟨rfl, rfl⟩
theorem E172_129 : aCode 172 129 = (Instr.getfield 227, 132, [93, 7, 25, 0], 0) ∧ bMask 172 129 = [] := ⟨rfl, rfl⟩
theorem E172_132 : aCode 172 132 = (Instr.ireturn, 133, [0], 0) ∧ bMask 172 132 = [] := ⟨rfl, rfl⟩
theorem E172_133 : aCode 172 133 = (Instr.aload_n 0, 134, [], 0) ∧ bMask 172 133 = [] := ⟨rfl, rfl⟩
theorem E172_134 : aCode 172 134 = (Instr.getfield 51, 137, [94, 7, 24, 0], 0) ∧ bMask 172 134 = [] := ⟨rfl, rfl⟩
theorem E172_137 : aCode 172 137 = (Instr.ireturn, 138, [0], 0) ∧ bMask 172 137 = [] := ⟨rfl, rfl⟩
theorem E172_138 : aCode 172 138 = (Instr.iload_n 2, 139, [], 0) ∧ bMask 172 138 = [] := ⟨rfl, rfl⟩
theorem E172_139 : aCode 172 139 = (Instr.ireturn, 140, [0], 0) ∧ bMask 172 139 = [] := ⟨rfl, rfl⟩
theorem E172_140 : aCode 172 140 = (Instr.aload_n 0, 141, [], 0) ∧ bMask 172 140 = [] := ⟨rfl, rfl⟩
theorem E172_141 : aCode 172 141 = (Instr.getfield 63, 144, [107, 7, 30, 2], 0) ∧ bMask 172 141 = [] := ⟨rfl, rfl⟩
theorem E172_144 : aCode 172 144 = (Instr.iload 4, 146, [], 0) ∧ bMask 172 144 = [] := ⟨rfl, rfl⟩
theorem E172_146 : aCode 172 146 = (Instr.iaload, 147, [0], 0) ∧ bMask 172 146 = [] := ⟨rfl, rfl⟩
theorem E172_147 : aCode 172 147 = (Instr.aload_n 0, 148, [], 0) ∧ bMask 172 147 = [] := ⟨rfl, rfl⟩
theorem E172_148 : aCode 172 148 = (Instr.getfield 57, 151, [97, 7, 28, 2], 0) ∧ bMask 172 148 = [] := ⟨rfl, rfl⟩
theorem E172_151 : aCode 172 151 = (Instr.iload 4, 153, [], 0) ∧ bMask 172 151 = [] := ⟨rfl, rfl⟩
theorem E172_153 : aCode 172 153 = (Instr.iaload, 154, [0], 0) ∧ bMask 172 153 = [] := ⟨rfl, rfl⟩
theorem E172_154 : aCode 172 154 = (Instr.iadd, 155, [], 0) ∧ bMask 172 154 = [] := ⟨rfl, rfl⟩
theorem E172_155 : aCode 172 155 = (Instr.ireturn, 156, [0], 0) ∧ bMask 172 155 = [] := ⟨rfl, rfl⟩
theorem E172_156 : aCode 172 156 = (Instr.iload_n 3, 157, [], 0) ∧ bMask 172 156 = [] := ⟨rfl, rfl⟩
theorem E172_157 : aCode 172 157 = (Instr.ireturn, 158, [0], 0) ∧ bMask 172 157 = [] := ⟨rfl, rfl⟩
theorem E172_158 : aCode 172 158 = (Instr.iload 4, 160, [], 0) ∧ bMask 172 158 = [] := ⟨rfl, rfl⟩
theorem E172_160 : aCode 172 160 = (Instr.ireturn, 161, [0], 0) ∧ bMask 172 160 = [] := ⟨rfl, rfl⟩
theorem g_X7_told_0 {Q : bQ} {M : bM} {x1 : Int32} (h : bCall 104 [cI x1, cI (0 : Int32), cI (5 : Int32)] M (fun v1 M2 => bV1 v1 fun r3 => (((¬ r3 = 0) → (bCall 124 [cR 26 0] M2 (fun v4 M5 => bV0 v4 (bGo 172 Q 22 [some (cR 26 0), some (cI x1), some (cI (0 : Int32)), some (cI (0 : Int32)), some (cI (0 : Int32))] [] M5)))) ∧ (¬ (¬ r3 = 0) → (Q (some (cI (-1 : Int32))) M2))))) : bCall 172 [cR 26 0, cI x1] M Q := s_iload_n E172_0.1 (k_ E172_0) rfl (s_iconst E172_1.1 (k_ E172_1) (s_iconst E172_2.1 (k_ E172_2) (s_scall1 E172_3.1 (k_ E172_3) rfl rfl rfl h (fun M2 r3 z0 => s_if_ne E172_6.1 (k_ E172_6) ⟨fun c1 => s_aload_n E172_11.1 (k_ E172_11) rfl (s_vcall0 E172_12.1 (k_ E172_12) rfl rfl rfl (z0.1 c1) (fun M5 z2 => s_iconst E172_15.1 (k_ E172_15) (s_istore_n E172_16.1 (k_ E172_16) (s_iconst E172_17.1 (k_ E172_17) (s_istore_n E172_18.1 (k_ E172_18) (s_iconst E172_19.1 (k_ E172_19) (s_istore E172_20.1 (k_ E172_20) (z2)))))))), fun c1 => s_iconst E172_9.1 (k_ E172_9) (s_iret E172_10.1 (k_ E172_10) (z0.2 c1))⟩))))
theorem g_X7_told_22 {Q : bQ} {M : bM} {x1 : Int32} {x2 : Int32} {x3 : Int32} {x4 : Int32} (h : (((M 26 0 25) ≤ x4) → (bCall 146 [cR 26 0] M (fun v1 M2 => bV1 v1 fun r3 => (((x1 = Int32.ofInt 0) → (Q (some (cI (M2 26 0 25))) M2)) ∧ (¬ (x1 = Int32.ofInt 0) → (((x1 = Int32.ofInt 1) → (Q (some (cI (M2 26 0 24))) M2)) ∧ (¬ (x1 = Int32.ofInt 1) → (((x1 = Int32.ofInt 2) → (Q (some (cI x2)) M2)) ∧ (¬ (x1 = Int32.ofInt 2) → (((x1 = Int32.ofInt 3) → ((vp_in r3 4) ∧ ((vp_in r3 4) ∧ (Q (some (cI ((M2 39 0 r3.toNatClampNeg) + (M2 37 0 r3.toNatClampNeg)))) M2)))) ∧ (¬ (x1 = Int32.ofInt 3) → (((x1 = Int32.ofInt 4) → (Q (some (cI x3)) M2)) ∧ (¬ (x1 = Int32.ofInt 4) → (Q (some (cI r3)) M2)))))))))))))) ∧ (¬ ((M 26 0 25) ≤ x4) → ((vp_in x4 4) ∧ ((vp_in x4 4) ∧ ((vp_in x4 4) ∧ (((((M 39 0 x4.toNatClampNeg) + (M 37 0 x4.toNatClampNeg)) ≤ x3) → bGo 172 Q 22 [some (cR 26 0), some (cI x1), some (cI (x2 + (M 39 0 x4.toNatClampNeg))), some (cI x3), some (cI (x4 + (1 : Int32)))] [] M) ∧ (¬ (((M 39 0 x4.toNatClampNeg) + (M 37 0 x4.toNatClampNeg)) ≤ x3) → ((vp_in x4 4) ∧ ((vp_in x4 4) ∧ bGo 172 Q 22 [some (cR 26 0), some (cI x1), some (cI (x2 + (M 39 0 x4.toNatClampNeg))), some (cI ((M 39 0 x4.toNatClampNeg) + (M 37 0 x4.toNatClampNeg))), some (cI (x4 + (1 : Int32)))] [] M))))))))) : bGo 172 Q 22 [some (cR 26 0), some (cI x1), some (cI x2), some (cI x3), some (cI x4)] [] M := s_iload E172_22.1 (k_ E172_22) rfl (s_aload_n E172_24.1 (k_ E172_24) rfl (s_getI0 E172_25.1 (k_ E172_25) rfl (s_icmp_ge E172_28.1 (k_ E172_28) ⟨fun c3 => s_aload_n E172_86.1 (k_ E172_86) rfl (s_vcall1 E172_87.1 (k_ E172_87) rfl rfl rfl (h.1 c3) (fun M2 r3 z4 => s_istore E172_90.1 (k_ E172_90) (s_iload_n E172_92.1 (k_ E172_92) rfl (s_tsw E172_93.1 (k_ E172_93) (And.intro (fun c5 => s_aload_n E172_128.1 (k_ E172_128) rfl (s_getI0 E172_129.1 (k_ E172_129) rfl (s_iret E172_132.1 (k_ E172_132) (z4.1 c5)))) (fun c5 => And.intro (fun c6 => s_aload_n E172_133.1 (k_ E172_133) rfl (s_getI0 E172_134.1 (k_ E172_134) rfl (s_iret E172_137.1 (k_ E172_137) ((z4.2 c5).1 c6)))) (fun c6 => And.intro (fun c7 => s_iload_n E172_138.1 (k_ E172_138) rfl (s_iret E172_139.1 (k_ E172_139) (((z4.2 c5).2 c6).1 c7))) (fun c7 => And.intro (fun c8 => s_aload_n E172_140.1 (k_ E172_140) rfl (s_getR E172_141.1 (k_ E172_141) rfl rfl (s_iload E172_144.1 (k_ E172_144) rfl (s_iaload E172_146.1 (k_ E172_146) rfl ⟨((((z4.2 c5).2 c6).2 c7).1 c8).1, s_aload_n E172_147.1 (k_ E172_147) rfl (s_getR E172_148.1 (k_ E172_148) rfl rfl (s_iload E172_151.1 (k_ E172_151) rfl (s_iaload E172_153.1 (k_ E172_153) rfl ⟨(((((z4.2 c5).2 c6).2 c7).1 c8).2).1, s_iadd E172_154.1 (k_ E172_154) (s_iret E172_155.1 (k_ E172_155) ((((((z4.2 c5).2 c6).2 c7).1 c8).2).2))⟩)))⟩)))) (fun c8 => And.intro (fun c9 => s_iload_n E172_156.1 (k_ E172_156) rfl (s_iret E172_157.1 (k_ E172_157) (((((z4.2 c5).2 c6).2 c7).2 c8).1 c9))) (fun c9 => s_iload E172_158.1 (k_ E172_158) rfl (s_iret E172_160.1 (k_ E172_160) (((((z4.2 c5).2 c6).2 c7).2 c8).2 c9)))))))))))), fun c3 => s_iload_n E172_31.1 (k_ E172_31) rfl (s_aload_n E172_32.1 (k_ E172_32) rfl (s_getR E172_33.1 (k_ E172_33) rfl rfl (s_iload E172_36.1 (k_ E172_36) rfl (s_iaload E172_38.1 (k_ E172_38) rfl ⟨(h.2 c3).1, s_iadd E172_39.1 (k_ E172_39) (s_istore_n E172_40.1 (k_ E172_40) (s_aload_n E172_41.1 (k_ E172_41) rfl (s_getR E172_42.1 (k_ E172_42) rfl rfl (s_iload E172_45.1 (k_ E172_45) rfl (s_iaload E172_47.1 (k_ E172_47) rfl ⟨((h.2 c3).2).1, s_aload_n E172_48.1 (k_ E172_48) rfl (s_getR E172_49.1 (k_ E172_49) rfl rfl (s_iload E172_52.1 (k_ E172_52) rfl (s_iaload E172_54.1 (k_ E172_54) rfl ⟨(((h.2 c3).2).2).1, s_iadd E172_55.1 (k_ E172_55) (s_iload_n E172_56.1 (k_ E172_56) rfl (s_icmp_le E172_57.1 (k_ E172_57) ⟨fun c10 => s_iload_n E172_78.1 (k_ E172_78) rfl (s_istore_n E172_79.1 (k_ E172_79) (s_iinc E172_80.1 (k_ E172_80) rfl (s_goto E172_83.1 (k_ E172_83) (((((h.2 c3).2).2).2).1 c10)))), fun c10 => s_aload_n E172_60.1 (k_ E172_60) rfl (s_getR E172_61.1 (k_ E172_61) rfl rfl (s_iload E172_64.1 (k_ E172_64) rfl (s_iaload E172_66.1 (k_ E172_66) rfl ⟨(((((h.2 c3).2).2).2).2 c10).1, s_aload_n E172_67.1 (k_ E172_67) rfl (s_getR E172_68.1 (k_ E172_68) rfl rfl (s_iload E172_71.1 (k_ E172_71) rfl (s_iaload E172_73.1 (k_ E172_73) rfl ⟨((((((h.2 c3).2).2).2).2 c10).2).1, s_iadd E172_74.1 (k_ E172_74) (s_goto E172_75.1 (k_ E172_75) (s_istore_n E172_79.1 (k_ E172_79) (s_iinc E172_80.1 (k_ E172_80) rfl (s_goto E172_83.1 (k_ E172_83) (((((((h.2 c3).2).2).2).2 c10).2).2)))))⟩)))⟩)))⟩))⟩)))⟩)))))⟩))))⟩)))
-- 173: X7_toldOn
theorem E173_0 : aCode 173 0 = (Instr.iload_n 2, 1, [], 0) ∧ bMask 173 0 = [] := ⟨rfl, rfl⟩
theorem E173_1 : aCode 173 1 = (Instr.invokestatic 134, 4, [105, 1, 1, 0, 0, 90], 0) ∧ bMask 173 1 = [] := ⟨rfl, rfl⟩
theorem E173_4 : aCode 173 4 = (Instr.ifCond .ne 5, 7, [9], 0) ∧ bMask 173 4 = [] := ⟨rfl, rfl⟩
theorem E173_7 : aCode 173 7 = (Instr.iconst (-1), 8, [], (-1)) ∧ bMask 173 7 = [] := ⟨rfl, rfl⟩
theorem E173_8 : aCode 173 8 = (Instr.ireturn, 9, [0], 0) ∧ bMask 173 8 = [] := ⟨rfl, rfl⟩
theorem E173_9 : aCode 173 9 = (Instr.aload_n 0, 10, [], 0) ∧ bMask 173 9 = [] := ⟨rfl, rfl⟩
theorem E173_10 : aCode 173 10 = (Instr.iload_n 1, 11, [], 0) ∧ bMask 173 10 = [] := ⟨rfl, rfl⟩
theorem E173_11 : aCode 173 11 = (Instr.invokevirtual 282, 14, [113, 2, 1, 7, 0, 96], 0) ∧ bMask 173 11 = [] := ⟨rfl, rfl⟩
theorem E173_14 : aCode 173 14 = (Instr.istore_n 3, 15, [], 0) ∧ bMask 173 14 = [] := ⟨rfl, rfl⟩
theorem E173_15 : aCode 173 15 = (Instr.iload_n 3, 16, [], 0) ∧ bMask 173 15 = [] := ⟨rfl, rfl⟩
theorem E173_16 : aCode 173 16 = (Instr.ifCond .ge 6, 19, [22], 0) ∧ bMask 173 16 = [] := ⟨rfl, rfl⟩
theorem E173_19 : aCode 173 19 = (Instr.bipush (-3), 21, [], (-3)) ∧ bMask 173 19 = [] := ⟨rfl, rfl⟩
theorem E173_21 : aCode 173 21 = (Instr.ireturn, 22, [0], 0) ∧ bMask 173 21 = [] := ⟨rfl, rfl⟩
theorem E173_22 : aCode 173 22 = (Instr.aload_n 0, 23, [], 0) ∧ bMask 173 22 = [] := ⟨rfl, rfl⟩
theorem E173_23 : aCode 173 23 = (Instr.getfield 87, 26, [86, 7, 41, 2], 0) ∧ bMask 173 23 = [] := ⟨rfl, rfl⟩
theorem E173_26 : aCode 173 26 = (Instr.iload_n 3, 27, [], 0) ∧ bMask 173 26 = [] := ⟨rfl, rfl⟩
theorem E173_27 : aCode 173 27 = (Instr.iaload, 28, [0], 0) ∧ bMask 173 27 = [] := ⟨rfl, rfl⟩
theorem E173_28 : aCode 173 28 = (Instr.ifCond .ne 32, 31, [60], 0) ∧ bMask 173 28 = [] := ⟨rfl, rfl⟩
theorem E173_31 : aCode 173 31 = (Instr.aload_n 0, 32, [], 0) ∧ bMask 173 31 = [] := ⟨rfl, rfl⟩
theorem E173_32 : aCode 173 32 = (Instr.getfield 102, 35, [91, 7, 46, 2], 0) ∧ bMask 173 32 = [] := ⟨rfl, rfl⟩
theorem E173_35 : aCode 173 35 = (Instr.iload_n 3, 36, [], 0) ∧ bMask 173 35 = [] := ⟨rfl, rfl⟩
theorem E173_36 : aCode 173 36 = (Instr.iaload, 37, [0], 0) ∧ bMask 173 36 = [] := ⟨rfl, rfl⟩
theorem E173_37 : aCode 173 37 = (Instr.aload_n 0, 38, [], 0) ∧ bMask 173 37 = [] := ⟨rfl, rfl⟩
theorem E173_38 : aCode 173 38 = (Instr.getfield 7, 41, [82, 7, 0, 0], 0) ∧ bMask 173 38 = [] := ⟨rfl, rfl⟩
theorem E173_41 : aCode 173 41 = (Instr.if_icmp .ne 19, 44, [60], 0) ∧ bMask 173 41 = [] := ⟨rfl, rfl⟩
theorem E173_44 : aCode 173 44 = (Instr.aload_n 0, 45, [], 0) ∧ bMask 173 44 = [] := ⟨rfl, rfl⟩
theorem E173_45 : aCode 173 45 = (Instr.getfield 105, 48, [118, 7, 47, 2], 0) ∧ bMask 173 45 = [] := ⟨rfl, rfl⟩
theorem E173_48 : aCode 173 48 = (Instr.sipush 132, 51, [], 132) ∧ bMask 173 48 = [] := ⟨rfl, rfl⟩
theorem E173_51 : aCode 173 51 = (Instr.iload_n 3, 52, [], 0) ∧ bMask 173 51 = [] := ⟨rfl, rfl⟩
theorem E173_52 : aCode 173 52 = (Instr.imul, 53, [], 0) ∧ bMask 173 52 = [] := ⟨rfl, rfl⟩
theorem E173_53 : aCode 173 53 = (Instr.bipush 33, 55, [], 33) ∧ bMask 173 53 = [] := ⟨rfl, rfl⟩
theorem E173_55 : aCode 173 55 = (Instr.iadd, 56, [], 0) ∧ bMask 173 55 = [] := ⟨rfl, rfl⟩
theorem E173_56 : aCode 173 56 = (Instr.iaload, 57, [0], 0) ∧ bMask 173 56 = [] := ⟨rfl, rfl⟩
theorem E173_57 : aCode 173 57 = (Instr.ifCond .ne 6, 60, [63], 0) ∧ bMask 173 57 = [] := ⟨rfl, rfl⟩
theorem E173_60 : aCode 173 60 = (Instr.bipush (-2), 62, [], (-2)) ∧ bMask 173 60 = [] := ⟨rfl, rfl⟩
theorem E173_62 : aCode 173 62 = (Instr.ireturn, 63, [0], 0) ∧ bMask 173 62 = [] := ⟨rfl, rfl⟩
theorem E173_63 : aCode 173 63 = (Instr.iconst 0, 64, [], 0) ∧ bMask 173 63 = [] := ⟨rfl, rfl⟩
theorem E173_64 : aCode 173 64 = (Instr.istore 4, 66, [], 0) ∧ bMask 173 64 = [] := ⟨rfl, rfl⟩
theorem E173_66 : aCode 173 66 = (Instr.iload 4, 68, [], 0) ∧ bMask 173 66 = [] := ⟨rfl, rfl⟩
theorem E173_68 : aCode 173 68 = (Instr.bipush 32, 70, [], 32) ∧ bMask 173 68 = [] := ⟨rfl, rfl⟩
theorem E173_70 : aCode 173 70 = (Instr.if_icmp .ge 58, 73, [128], 0) ∧ bMask 173 70 = [] := ⟨rfl, rfl⟩
theorem E173_73 : aCode 173 73 = (Instr.aload_n 0, 74, [], 0) ∧ bMask 173 73 = [] := ⟨rfl, rfl⟩
theorem E173_74 : aCode 173 74 = (Instr.getfield 20, 77, [110, 7, 4, 2], 0) ∧ bMask 173 74 = [] := ⟨rfl, rfl⟩
theorem E173_77 : aCode 173 77 = (Instr.iload 4, 79, [], 0) ∧ bMask 173 77 = [] := ⟨rfl, rfl⟩
theorem E173_79 : aCode 173 79 = (Instr.aload_n 0, 80, [], 0) ∧ bMask 173 79 = [] := ⟨rfl, rfl⟩
theorem E173_80 : aCode 173 80 = (Instr.aload_n 0, 81, [], 0) ∧ bMask 173 80 = [] := ⟨rfl, rfl⟩
theorem E173_81 : aCode 173 81 = (Instr.getfield 105, 84, [118, 7, 47, 2], 0) ∧ bMask 173 81 = [] := ⟨rfl, rfl⟩
theorem E173_84 : aCode 173 84 = (Instr.sipush 132, 87, [], 132) ∧ bMask 173 84 = [] := ⟨rfl, rfl⟩
theorem E173_87 : aCode 173 87 = (Instr.iload_n 3, 88, [], 0) ∧ bMask 173 87 = [] := ⟨rfl, rfl⟩
theorem E173_88 : aCode 173 88 = (Instr.imul, 89, [], 0) ∧ bMask 173 88 = [] := ⟨rfl, rfl⟩
theorem E173_89 : aCode 173 89 = (Instr.iload 4, 91, [], 0) ∧ bMask 173 89 = [] := ⟨rfl, rfl⟩
theorem E173_91 : aCode 173 91 = (Instr.iadd, 92, [], 0) ∧ bMask 173 91 = [] := ⟨rfl, rfl⟩
theorem E173_92 : aCode 173 92 = (Instr.iaload, 93, [0], 0) ∧ bMask 173 92 = [] := ⟨rfl, rfl⟩
theorem E173_93 : aCode 173 93 = (Instr.ineg, 94, [], 0) ∧ bMask 173 93 = [] := ⟨rfl, rfl⟩
theorem E173_94 : aCode 173 94 = (Instr.i2l, 95, [], 0) ∧ bMask 173 94 = [] := ⟨rfl, rfl⟩
theorem E173_95 : aCode 173 95 = (Instr.invokevirtual 137, 98, [118, 2, 1, 7, 0, 98], 0) ∧ bMask 173 95 = [] := ⟨rfl, rfl⟩
theorem E173_98 : aCode 173 98 = (Instr.iastore, 99, [0], 0) ∧ bMask 173 98 = [] := ⟨rfl, rfl⟩
theorem E173_99 : aCode 173 99 = (Instr.aload_n 0, 100, [], 0) ∧ bMask 173 99 = [] := ⟨rfl, rfl⟩
theorem E173_100 : aCode 173 100 = (Instr.getfield 23, 103, [117, 7, 5, 2], 0) ∧ bMask 173 100 = [] := ⟨rfl, rfl⟩
theorem E173_103 : aCode 173 103 = (Instr.iload 4, 105, [], 0) ∧ bMask 173 103 = [] := ⟨rfl, rfl⟩
theorem E173_105 : aCode 173 105 = (Instr.aload_n 0, 106, [], 0) ∧ bMask 173 105 = [] := ⟨rfl, rfl⟩
theorem E173_106 : aCode 173 106 = (Instr.getfield 105, 109, [118, 7, 47, 2], 0) ∧ bMask 173 106 = [] := ⟨rfl, rfl⟩
theorem E173_109 : aCode 173 109 = (Instr.sipush 132, 112, [], 132) ∧ bMask 173 109 = [] := ⟨rfl, rfl⟩
theorem E173_112 : aCode 173 112 = (Instr.iload_n 3, 113, [], 0) ∧ bMask 173 112 = [] := ⟨rfl, rfl⟩
theorem E173_113 : aCode 173 113 = (Instr.imul, 114, [], 0) ∧ bMask 173 113 = [] := ⟨rfl, rfl⟩
theorem E173_114 : aCode 173 114 = (Instr.bipush 33, 116, [], 33) ∧ bMask 173 114 = [] := ⟨rfl, rfl⟩
theorem E173_116 : aCode 173 116 = (Instr.iadd, 117, [], 0) ∧ bMask 173 116 = [] := ⟨rfl, rfl⟩
theorem E173_117 : aCode 173 117 = (Instr.iload 4, 119, [], 0) ∧ bMask 173 117 = [] := ⟨rfl, rfl⟩
theorem E173_119 : aCode 173 119 = (Instr.iadd, 120, [], 0) ∧ bMask 173 119 = [] := ⟨rfl, rfl⟩
theorem E173_120 : aCode 173 120 = (Instr.iaload, 121, [0], 0) ∧ bMask 173 120 = [] := ⟨rfl, rfl⟩
theorem E173_121 : aCode 173 121 = (Instr.iastore, 122, [0], 0) ∧ bMask 173 121 = [] := ⟨rfl, rfl⟩
theorem E173_122 : aCode 173 122 = (Instr.iinc 4 1, 125, [], 1) ∧ bMask 173 122 = [] := ⟨rfl, rfl⟩
theorem E173_125 : aCode 173 125 = (Instr.goto (-59), 66, [], 0) ∧ bMask 173 125 = [] := ⟨rfl, rfl⟩
theorem E173_128 : aCode 173 128 = (Instr.aload_n 0, 129, [], 0) ∧ bMask 173 128 = [] := ⟨rfl, rfl⟩
theorem E173_129 : aCode 173 129 = (Instr.aload_n 0, 130, [], 0) ∧ bMask 173 129 = [] := ⟨rfl, rfl⟩
theorem E173_130 : aCode 173 130 = (Instr.getfield 20, 133, [110, 7, 4, 2], 0) ∧ bMask 173 130 = [] := ⟨rfl, rfl⟩
theorem E173_133 : aCode 173 133 = (Instr.aload_n 0, 134, [], 0) ∧ bMask 173 133 = [] := ⟨rfl, rfl⟩
theorem E173_134 : aCode 173 134 = (Instr.getfield 23, 137, [117, 7, 5, 2], 0) ∧ bMask 173 134 = [] := ⟨rfl, rfl⟩
theorem E173_137 : aCode 173 137 = (Instr.invokevirtual 161, 140, [131, 3, 0, 7, 0, 110], 0) ∧ bMask 173 137 = [] := ⟨rfl, rfl⟩
theorem E173_140 : aCode 173 140 = (Instr.aload_n 0, 141, [], 0) ∧ bMask 173 140 = [] := ⟨rfl, rfl⟩
theorem E173_141 : aCode 173 141 = (Instr.aload_n 0, 142, [], 0) ∧ bMask 173 141 = [] := ⟨rfl, rfl⟩
theorem E173_142 : aCode 173 142 = (Instr.getfield 17, 145, [108, 7, 3, 2], 0) ∧ bMask 173 142 = [] := ⟨rfl, rfl⟩
theorem E173_145 : aCode 173 145 = (Instr.iload_n 2, 146, [], 0) ∧ bMask 173 145 = [] := ⟨rfl, rfl⟩
theorem E173_146 : aCode 173 146 = (Instr.invokevirtual 145, 149, [127, 3, 1, 7, 0, 108], 0) ∧ bMask 173 146 = [] := ⟨rfl, rfl⟩
theorem E173_149 : aCode 173 149 = (Instr.ireturn, 150, [0], 0) ∧ bMask 173 149 = [] := ⟨rfl, rfl⟩
theorem g_X7_toldOn_0 {Q : bQ} {M : bM} {x1 : Int32} {x2 : Int32} (h : bCall 105 [cI x2] M (fun v1 M2 => bV1 v1 fun r3 => (((¬ r3 = 0) → (bCall 113 [cR 26 0, cI x1] M2 (fun v4 M5 => bV1 v4 fun r6 => (((0 ≤ r6) → ((vp_in r6 8) ∧ (((¬ (M5 47 0 r6.toNatClampNeg) = 0) → (Q (some (cI (-2 : Int32))) M5)) ∧ (¬ (¬ (M5 47 0 r6.toNatClampNeg) = 0) → ((vp_in r6 8) ∧ (((¬ (M5 52 0 r6.toNatClampNeg) = (M5 26 0 0)) → (Q (some (cI (-2 : Int32))) M5)) ∧ (¬ (¬ (M5 52 0 r6.toNatClampNeg) = (M5 26 0 0)) → ((vp_in (((132 : Int32) * r6) + (33 : Int32)) 1056) ∧ (((¬ (M5 53 0 (((132 : Int32) * r6) + (33 : Int32)).toNatClampNeg) = 0) → bGo 173 Q 66 [some (cR 26 0), some (cI x1), some (cI x2), some (cI r6), some (cI (0 : Int32))] [] M5) ∧ (¬ (¬ (M5 53 0 (((132 : Int32) * r6) + (33 : Int32)).toNatClampNeg) = 0) → (Q (some (cI (-2 : Int32))) M5))))))))))) ∧ (¬ (0 ≤ r6) → (Q (some (cI (-3 : Int32))) M5)))))) ∧ (¬ (¬ r3 = 0) → (Q (some (cI (-1 : Int32))) M2))))) : bCall 173 [cR 26 0, cI x1, cI x2] M Q := s_iload_n E173_0.1 (k_ E173_0) rfl (s_scall1 E173_1.1 (k_ E173_1) rfl rfl rfl h (fun M2 r3 z0 => s_if_ne E173_4.1 (k_ E173_4) ⟨fun c1 => s_aload_n E173_9.1 (k_ E173_9) rfl (s_iload_n E173_10.1 (k_ E173_10) rfl (s_vcall1 E173_11.1 (k_ E173_11) rfl rfl rfl (z0.1 c1) (fun M5 r6 z2 => s_istore_n E173_14.1 (k_ E173_14) (s_iload_n E173_15.1 (k_ E173_15) rfl (s_if_ge E173_16.1 (k_ E173_16) ⟨fun c3 => s_aload_n E173_22.1 (k_ E173_22) rfl (s_getR E173_23.1 (k_ E173_23) rfl rfl (s_iload_n E173_26.1 (k_ E173_26) rfl (s_iaload E173_27.1 (k_ E173_27) rfl ⟨(z2.1 c3).1, s_if_ne E173_28.1 (k_ E173_28) ⟨fun c4 => s_bipush E173_60.1 (k_ E173_60) (s_iret E173_62.1 (k_ E173_62) (((z2.1 c3).2).1 c4)), fun c4 => s_aload_n E173_31.1 (k_ E173_31) rfl (s_getR E173_32.1 (k_ E173_32) rfl rfl (s_iload_n E173_35.1 (k_ E173_35) rfl (s_iaload E173_36.1 (k_ E173_36) rfl ⟨(((z2.1 c3).2).2 c4).1, s_aload_n E173_37.1 (k_ E173_37) rfl (s_getI0 E173_38.1 (k_ E173_38) rfl (s_icmp_ne E173_41.1 (k_ E173_41) ⟨fun c5 => s_bipush E173_60.1 (k_ E173_60) (s_iret E173_62.1 (k_ E173_62) (((((z2.1 c3).2).2 c4).2).1 c5)), fun c5 => s_aload_n E173_44.1 (k_ E173_44) rfl (s_getR E173_45.1 (k_ E173_45) rfl rfl (s_sipush E173_48.1 (k_ E173_48) (s_iload_n E173_51.1 (k_ E173_51) rfl (s_imul E173_52.1 (k_ E173_52) (s_bipush E173_53.1 (k_ E173_53) (s_iadd E173_55.1 (k_ E173_55) (s_iaload E173_56.1 (k_ E173_56) rfl ⟨(((((z2.1 c3).2).2 c4).2).2 c5).1, s_if_ne E173_57.1 (k_ E173_57) ⟨fun c6 => s_iconst E173_63.1 (k_ E173_63) (s_istore E173_64.1 (k_ E173_64) (((((((z2.1 c3).2).2 c4).2).2 c5).2).1 c6)), fun c6 => s_bipush E173_60.1 (k_ E173_60) (s_iret E173_62.1 (k_ E173_62) (((((((z2.1 c3).2).2 c4).2).2 c5).2).2 c6))⟩⟩)))))))⟩))⟩)))⟩⟩))), fun c3 => s_bipush E173_19.1 (k_ E173_19) (s_iret E173_21.1 (k_ E173_21) (z2.2 c3))⟩))))), fun c1 => s_iconst E173_7.1 (k_ E173_7) (s_iret E173_8.1 (k_ E173_8) (z0.2 c1))⟩))
theorem g_X7_toldOn_66 {Q : bQ} {M : bM} {x1 : Int32} {x2 : Int32} {x3 : Int32} {x4 : Int32} (h : (((32 : Int32) ≤ x4) → (bCall 131 [cR 26 0, cR 27 1, cR 27 2] M (fun v1 M2 => bV0 v1 (bCall 127 [cR 26 0, cR 27 0, cI x2] M2 (fun v3 M4 => bV1 v3 fun r5 => (Q (some (cI r5)) M4)))))) ∧ (¬ ((32 : Int32) ≤ x4) → ((vp_in (((132 : Int32) * x3) + x4) 1056) ∧ (bCall 118 [cR 26 0, cL ((-(M 53 0 (((132 : Int32) * x3) + x4).toNatClampNeg)).toInt64)] M (fun v6 M7 => bV1 v6 fun r8 => ((vp_in x4 32) ∧ ((vp_in ((((132 : Int32) * x3) + (33 : Int32)) + x4) 1056) ∧ ((vp_in x4 32) ∧ bGo 173 Q 66 [some (cR 26 0), some (cI x1), some (cI x2), some (cI x3), some (cI (x4 + (1 : Int32)))] [] (bU (bU M7 27 1 x4.toNatClampNeg r8) 27 2 x4.toNatClampNeg ((bU M7 27 1 x4.toNatClampNeg r8) 53 0 ((((132 : Int32) * x3) + (33 : Int32)) + x4).toNatClampNeg)))))))))) : bGo 173 Q 66 [some (cR 26 0), some (cI x1), some (cI x2), some (cI x3), some (cI x4)] [] M := s_iload E173_66.1 (k_ E173_66) rfl (s_bipush E173_68.1 (k_ E173_68) (s_icmp_ge E173_70.1 (k_ E173_70) ⟨fun c7 => s_aload_n E173_128.1 (k_ E173_128) rfl (s_aload_n E173_129.1 (k_ E173_129) rfl (s_getR E173_130.1 (k_ E173_130) rfl rfl (s_aload_n E173_133.1 (k_ E173_133) rfl (s_getR E173_134.1 (k_ E173_134) rfl rfl (s_vcall0 E173_137.1 (k_ E173_137) rfl rfl rfl (h.1 c7) (fun M2 z8 => s_aload_n E173_140.1 (k_ E173_140) rfl (s_aload_n E173_141.1 (k_ E173_141) rfl (s_getR E173_142.1 (k_ E173_142) rfl rfl (s_iload_n E173_145.1 (k_ E173_145) rfl (s_vcall1 E173_146.1 (k_ E173_146) rfl rfl rfl z8 (fun M4 r5 z9 => s_iret E173_149.1 (k_ E173_149) z9))))))))))), fun c7 => s_aload_n E173_73.1 (k_ E173_73) rfl (s_getR E173_74.1 (k_ E173_74) rfl rfl (s_iload E173_77.1 (k_ E173_77) rfl (s_aload_n E173_79.1 (k_ E173_79) rfl (s_aload_n E173_80.1 (k_ E173_80) rfl (s_getR E173_81.1 (k_ E173_81) rfl rfl (s_sipush E173_84.1 (k_ E173_84) (s_iload_n E173_87.1 (k_ E173_87) rfl (s_imul E173_88.1 (k_ E173_88) (s_iload E173_89.1 (k_ E173_89) rfl (s_iadd E173_91.1 (k_ E173_91) (s_iaload E173_92.1 (k_ E173_92) rfl ⟨(h.2 c7).1, s_ineg E173_93.1 (k_ E173_93) (s_i2l E173_94.1 (k_ E173_94) (s_vcall1 E173_95.1 (k_ E173_95) rfl rfl rfl ((h.2 c7).2) (fun M7 r8 z10 => s_iastore E173_98.1 (k_ E173_98) rfl ⟨z10.1, s_aload_n E173_99.1 (k_ E173_99) rfl (s_getR E173_100.1 (k_ E173_100) rfl rfl (s_iload E173_103.1 (k_ E173_103) rfl (s_aload_n E173_105.1 (k_ E173_105) rfl (s_getR E173_106.1 (k_ E173_106) rfl rfl (s_sipush E173_109.1 (k_ E173_109) (s_iload_n E173_112.1 (k_ E173_112) rfl (s_imul E173_113.1 (k_ E173_113) (s_bipush E173_114.1 (k_ E173_114) (s_iadd E173_116.1 (k_ E173_116) (s_iload E173_117.1 (k_ E173_117) rfl (s_iadd E173_119.1 (k_ E173_119) (s_iaload E173_120.1 (k_ E173_120) rfl ⟨z10.2.1, s_iastore E173_121.1 (k_ E173_121) rfl ⟨z10.2.2.1, s_iinc E173_122.1 (k_ E173_122) rfl (s_goto E173_125.1 (k_ E173_125) (z10.2.2.2))⟩⟩))))))))))))⟩)))⟩)))))))))))⟩))
-- 174: X7_weigh
theorem E174_0 : aCode 174 0 = (Instr.iload_n 1, 1, [], 0) ∧ bMask 174 0 = [] := ⟨rfl, rfl⟩
theorem E174_1 : aCode 174 1 = (Instr.invokestatic 134, 4, [105, 1, 1, 0, 0, 90], 0) ∧ bMask 174 1 = [] := ⟨rfl, rfl⟩
theorem E174_4 : aCode 174 4 = (Instr.ifCond .eq 10, 7, [14], 0) ∧ bMask 174 4 = [] := ⟨rfl, rfl⟩
theorem E174_7 : aCode 174 7 = (Instr.iload_n 2, 8, [], 0) ∧ bMask 174 7 = [] := ⟨rfl, rfl⟩
theorem E174_8 : aCode 174 8 = (Instr.invokestatic 134, 11, [105, 1, 1, 0, 0, 90], 0) ∧ bMask 174 8 = [] := ⟨rfl, rfl⟩
theorem E174_11 : aCode 174 11 = (Instr.ifCond .ne 5, 14, [16], 0) ∧ bMask 174 11 = [] := ⟨rfl, rfl⟩
theorem E174_14 : aCode 174 14 = (Instr.iconst (-1), 15, [], (-1)) ∧ bMask 174 14 = [] := ⟨rfl, rfl⟩
theorem E174_15 : aCode 174 15 = (Instr.ireturn, 16, [0], 0) ∧ bMask 174 15 = [] := ⟨rfl, rfl⟩
theorem E174_16 : aCode 174 16 = (Instr.iconst 0, 17, [], 0) ∧ bMask 174 16 = [] := ⟨rfl, rfl⟩
theorem E174_17 : aCode 174 17 = (Instr.istore_n 3, 18, [], 0) ∧ bMask 174 17 = [] := ⟨rfl, rfl⟩
theorem E174_18 : aCode 174 18 = (Instr.iload_n 3, 19, [], 0) ∧ bMask 174 18 = [] := ⟨rfl, rfl⟩
theorem E174_19 : aCode 174 19 = (Instr.bipush 32, 21, [], 32) ∧ bMask 174 19 = [] := ⟨rfl, rfl⟩
theorem E174_21 : aCode 174 21 = (Instr.if_icmp .ge 38, 24, [59], 0) ∧ bMask 174 21 = [] := ⟨rfl, rfl⟩
theorem E174_24 : aCode 174 24 = (Instr.aload_n 0, 25, [], 0) ∧ bMask 174 24 = [] := ⟨rfl, rfl⟩
theorem E174_25 : aCode 174 25 = (Instr.getfield 13, 28, [69, 7, 1, 2], 0) ∧ bMask 174 25 = [] := ⟨rfl, rfl⟩
theorem E174_28 : aCode 174 28 = (Instr.bipush 32, 30, [], 32) ∧ bMask 174 28 = [] := ⟨rfl, rfl⟩
theorem E174_30 : aCode 174 30 = (Instr.iload_n 2, 31, [], 0) ∧ bMask 174 30 = [] := ⟨rfl, rfl⟩
theorem E174_31 : aCode 174 31 = (Instr.imul, 32, [], 0) ∧ bMask 174 31 = [] := ⟨rfl, rfl⟩
theorem E174_32 : aCode 174 32 = (Instr.iload_n 3, 33, [], 0) ∧ bMask 174 32 = [] := ⟨rfl, rfl⟩
theorem E174_33 : aCode 174 33 = (Instr.iadd, 34, [], 0) ∧ bMask 174 33 = [] := ⟨rfl, rfl⟩
theorem E174_34 : aCode 174 34 = (Instr.aload_n 0, 35, [], 0) ∧ bMask 174 34 = [] := ⟨rfl, rfl⟩
theorem E174_35 : aCode 174 35 = (Instr.getfield 13, 38, [69, 7, 1, 2], 0) ∧ bMask 174 35 = [] := ⟨rfl, rfl⟩
theorem E174_38 : aCode 174 38 = (Instr.bipush 32, 40, [], 32) ∧ bMask 174 38 = [] := ⟨rfl, rfl⟩
theorem E174_40 : aCode 174 40 = (Instr.iload_n 1, 41, [], 0) ∧ bMask 174 40 = [] := ⟨rfl, rfl⟩
theorem E174_41 : aCode 174 41 = (Instr.imul, 42, [], 0) ∧ bMask 174 41 = [] := ⟨rfl, rfl⟩
theorem E174_42 : aCode 174 42 = (Instr.iload_n 3, 43, [], 0) ∧ bMask 174 42 = [] := ⟨rfl, rfl⟩
theorem E174_43 : aCode 174 43 = (Instr.iadd, 44, [], 0) ∧ bMask 174 43 = [] := ⟨rfl, rfl⟩
theorem E174_44 : aCode 174 44 = (Instr.iaload, 45, [0], 0) ∧ bMask 174 44 = [] := ⟨rfl, rfl⟩
theorem E174_45 : aCode 174 45 = (Instr.iload_n 3, 46, [], 0) ∧ bMask 174 45 = [] := ⟨rfl, rfl⟩
theorem E174_46 : aCode 174 46 = (Instr.imul, 47, [], 0) ∧ bMask 174 46 = [] := ⟨rfl, rfl⟩
theorem E174_47 : aCode 174 47 = (Instr.aload_n 0, 48, [], 0) ∧ bMask 174 47 = [] := ⟨rfl, rfl⟩
theorem E174_48 : aCode 174 48 = (Instr.getfield 7, 51, [82, 7, 0, 0], 0) ∧ bMask 174 48 = [] := ⟨rfl, rfl⟩
theorem E174_51 : aCode 174 51 = (Instr.irem, 52, [], 0) ∧ bMask 174 51 = [] := ⟨rfl, rfl⟩
theorem E174_52 : aCode 174 52 = (Instr.iastore, 53, [0], 0) ∧ bMask 174 52 = [] := ⟨rfl, rfl⟩
theorem E174_53 : aCode 174 53 = (Instr.iinc 3 1, 56, [], 1) ∧ bMask 174 53 = [] := ⟨rfl, rfl⟩
theorem E174_56 : aCode 174 56 = (Instr.goto (-38), 18, [], 0) ∧ bMask 174 56 = [] := ⟨rfl, rfl⟩
theorem E174_59 : aCode 174 59 = (Instr.iconst 1, 60, [], 1) ∧ bMask 174 59 = [] := ⟨rfl, rfl⟩
theorem E174_60 : aCode 174 60 = (Instr.ireturn, 61, [0], 0) ∧ bMask 174 60 = [] := ⟨rfl, rfl⟩
theorem g_X7_weigh_0 {Q : bQ} {M : bM} {x1 : Int32} {x2 : Int32} (h : bCall 105 [cI x1] M (fun v1 M2 => bV1 v1 fun r3 => (((r3 = 0) → (Q (some (cI (-1 : Int32))) M2)) ∧ (¬ (r3 = 0) → (bCall 105 [cI x2] M2 (fun v4 M5 => bV1 v4 fun r6 => (((¬ r6 = 0) → bGo 174 Q 18 [some (cR 26 0), some (cI x1), some (cI x2), some (cI (0 : Int32))] [] M5) ∧ (¬ (¬ r6 = 0) → (Q (some (cI (-1 : Int32))) M5))))))))) : bCall 174 [cR 26 0, cI x1, cI x2] M Q := s_iload_n E174_0.1 (k_ E174_0) rfl (s_scall1 E174_1.1 (k_ E174_1) rfl rfl rfl h (fun M2 r3 z0 => s_if_eq E174_4.1 (k_ E174_4) ⟨fun c1 => s_iconst E174_14.1 (k_ E174_14) (s_iret E174_15.1 (k_ E174_15) (z0.1 c1)), fun c1 => s_iload_n E174_7.1 (k_ E174_7) rfl (s_scall1 E174_8.1 (k_ E174_8) rfl rfl rfl (z0.2 c1) (fun M5 r6 z2 => s_if_ne E174_11.1 (k_ E174_11) ⟨fun c3 => s_iconst E174_16.1 (k_ E174_16) (s_istore_n E174_17.1 (k_ E174_17) (z2.1 c3)), fun c3 => s_iconst E174_14.1 (k_ E174_14) (s_iret E174_15.1 (k_ E174_15) (z2.2 c3))⟩))⟩))
theorem g_X7_weigh_18 {Q : bQ} {M : bM} {x1 : Int32} {x2 : Int32} {x3 : Int32} (h : (((32 : Int32) ≤ x3) → (Q (some (cI (1 : Int32))) M)) ∧ (¬ ((32 : Int32) ≤ x3) → ((vp_in (((32 : Int32) * x1) + x3) 192) ∧ ((¬ (M 26 0 0) = 0) ∧ ((vp_in (((32 : Int32) * x2) + x3) 192) ∧ bGo 174 Q 18 [some (cR 26 0), some (cI x1), some (cI x2), some (cI (x3 + (1 : Int32)))] [] (bU M 28 0 (((32 : Int32) * x2) + x3).toNatClampNeg (aRem ((M 28 0 (((32 : Int32) * x1) + x3).toNatClampNeg) * x3) (M 26 0 0)))))))) : bGo 174 Q 18 [some (cR 26 0), some (cI x1), some (cI x2), some (cI x3)] [] M := s_iload_n E174_18.1 (k_ E174_18) rfl (s_bipush E174_19.1 (k_ E174_19) (s_icmp_ge E174_21.1 (k_ E174_21) ⟨fun c4 => s_iconst E174_59.1 (k_ E174_59) (s_iret E174_60.1 (k_ E174_60) (h.1 c4)), fun c4 => s_aload_n E174_24.1 (k_ E174_24) rfl (s_getR E174_25.1 (k_ E174_25) rfl rfl (s_bipush E174_28.1 (k_ E174_28) (s_iload_n E174_30.1 (k_ E174_30) rfl (s_imul E174_31.1 (k_ E174_31) (s_iload_n E174_32.1 (k_ E174_32) rfl (s_iadd E174_33.1 (k_ E174_33) (s_aload_n E174_34.1 (k_ E174_34) rfl (s_getR E174_35.1 (k_ E174_35) rfl rfl (s_bipush E174_38.1 (k_ E174_38) (s_iload_n E174_40.1 (k_ E174_40) rfl (s_imul E174_41.1 (k_ E174_41) (s_iload_n E174_42.1 (k_ E174_42) rfl (s_iadd E174_43.1 (k_ E174_43) (s_iaload E174_44.1 (k_ E174_44) rfl ⟨(h.2 c4).1, s_iload_n E174_45.1 (k_ E174_45) rfl (s_imul E174_46.1 (k_ E174_46) (s_aload_n E174_47.1 (k_ E174_47) rfl (s_getI0 E174_48.1 (k_ E174_48) rfl (s_irem E174_51.1 (k_ E174_51) ⟨((h.2 c4).2).1, s_iastore E174_52.1 (k_ E174_52) rfl ⟨(((h.2 c4).2).2).1, s_iinc E174_53.1 (k_ E174_53) rfl (s_goto E174_56.1 (k_ E174_56) ((((h.2 c4).2).2).2))⟩⟩))))⟩))))))))))))))⟩))
-- 175: X7_zeros
theorem E175_0 : aCode 175 0 = (Instr.iload_n 1, 1, [], 0) ∧ bMask 175 0 = [] := ⟨rfl, rfl⟩
theorem E175_1 : aCode 175 1 = (Instr.invokestatic 134, 4, [105, 1, 1, 0, 0, 90], 0) ∧ bMask 175 1 = [] := ⟨rfl, rfl⟩
theorem E175_4 : aCode 175 4 = (Instr.ifCond .eq 17, 7, [21], 0) ∧ bMask 175 4 = [] := ⟨rfl, rfl⟩
theorem E175_7 : aCode 175 7 = (Instr.aload_n 0, 8, [], 0) ∧ bMask 175 7 = [] := ⟨rfl, rfl⟩
theorem E175_8 : aCode 175 8 = (Instr.getfield 13, 11, [69, 7, 1, 2], 0) ∧ bMask 175 8 = [] := ⟨rfl, rfl⟩
theorem E175_11 : aCode 175 11 = (Instr.bipush 32, 13, [], 32) ∧ bMask 175 11 = [] := ⟨rfl, rfl⟩
theorem E175_13 : aCode 175 13 = (Instr.iload_n 1, 14, [], 0) ∧ bMask 175 13 = [] := ⟨rfl, rfl⟩
theorem E175_14 : aCode 175 14 = (Instr.imul, 15, [], 0) ∧ bMask 175 14 = [] := ⟨rfl, rfl⟩
theorem E175_15 : aCode 175 15 = (Instr.invokestatic 164, 18, [133, 2, 1, 0, 0, 111], 0) ∧ bMask 175 15 = [] := ⟨rfl, rfl⟩
theorem E175_18 : aCode 175 18 = (Instr.goto 4, 22, [], 0) ∧ bMask 175 18 = [] := ⟨rfl, rfl⟩
theorem E175_21 : aCode 175 21 = (Instr.iconst (-1), 22, [], (-1)) ∧ bMask 175 21 = [] := ⟨rfl, rfl⟩
theorem E175_22 : aCode 175 22 = (Instr.ireturn, 23, [0], 0) ∧ bMask 175 22 = [] := ⟨rfl, rfl⟩
theorem g_X7_zeros_0 {Q : bQ} {M : bM} {x1 : Int32} (h : bCall 105 [cI x1] M (fun v1 M2 => bV1 v1 fun r3 => (((r3 = 0) → (Q (some (cI (-1 : Int32))) M2)) ∧ (¬ (r3 = 0) → (bCall 133 [cR 28 0, cI ((32 : Int32) * x1)] M2 (fun v4 M5 => bV1 v4 fun r6 => (Q (some (cI r6)) M5))))))) : bCall 175 [cR 26 0, cI x1] M Q := s_iload_n E175_0.1 (k_ E175_0) rfl (s_scall1 E175_1.1 (k_ E175_1) rfl rfl rfl h (fun M2 r3 z0 => s_if_eq E175_4.1 (k_ E175_4) ⟨fun c1 => s_iconst E175_21.1 (k_ E175_21) (s_iret E175_22.1 (k_ E175_22) (z0.1 c1)), fun c1 => s_aload_n E175_7.1 (k_ E175_7) rfl (s_getR E175_8.1 (k_ E175_8) rfl rfl (s_bipush E175_11.1 (k_ E175_11) (s_iload_n E175_13.1 (k_ E175_13) rfl (s_imul E175_14.1 (k_ E175_14) (s_scall1 E175_15.1 (k_ E175_15) rfl rfl rfl (z0.2 c1) (fun M5 r6 z2 => s_goto E175_18.1 (k_ E175_18) (s_iret E175_22.1 (k_ E175_22) z2)))))))⟩))
