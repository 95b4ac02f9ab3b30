-- needs: 01 02 06 08 09 10 11
-- 7: X0_allDegrees
theorem E7_0 : aCode 7 0 = (Instr.iconst 0, 1, [], 0) ∧ bMask 7 0 = [] := ⟨rfl, rfl⟩
theorem E7_1 : aCode 7 1 = (Instr.istore_n 1, 2, [], 0) ∧ bMask 7 1 = [] := ⟨rfl, rfl⟩
theorem E7_2 : aCode 7 2 = (Instr.iconst 0, 3, [], 0) ∧ bMask 7 2 = [] := ⟨rfl, rfl⟩
theorem E7_3 : aCode 7 3 = (Instr.istore_n 2, 4, [], 0) ∧ bMask 7 3 = [] := ⟨rfl, rfl⟩
theorem E7_4 : aCode 7 4 = (Instr.iload_n 2, 5, [], 0) ∧ bMask 7 4 = [] := ⟨rfl, rfl⟩
theorem E7_5 : aCode 7 5 = (Instr.aload_n 0, 6, [], 0) ∧ bMask 7 5 = [] := ⟨rfl, rfl⟩
theorem E7_6 : aCode 7 6 = (Instr.getfield 36, 9, [0, 0, 5, 0], 0) ∧ bMask 7 6 = [] := ⟨rfl, rfl⟩
theorem E7_9 : aCode 7 9 = (Instr.if_icmp .ge 18, 12, [27], 0) ∧ bMask 7 9 = [] := ⟨rfl, rfl⟩
theorem E7_12 : aCode 7 12 = (Instr.iload_n 1, 13, [], 0) ∧ bMask 7 12 = [] := ⟨rfl, rfl⟩
theorem E7_13 : aCode 7 13 = (Instr.aload_n 0, 14, [], 0) ∧ bMask 7 13 = [] := ⟨rfl, rfl⟩
theorem E7_14 : aCode 7 14 = (Instr.getfield 19, 17, [1, 0, 3, 2], 0) ∧ bMask 7 14 = [] := ⟨rfl, rfl⟩
theorem E7_17 : aCode 7 17 = (Instr.iload_n 2, 18, [], 0) ∧ bMask 7 17 = [] := ⟨rfl, rfl⟩
theorem E7_18 : aCode 7 18 = (Instr.iaload, 19, [0], 0) ∧ bMask 7 18 = [] := ⟨rfl, rfl⟩
theorem E7_19 : aCode 7 19 = (Instr.iadd, 20, [], 0) ∧ bMask 7 19 = [] := ⟨rfl, rfl⟩
theorem E7_20 : aCode 7 20 = (Instr.istore_n 1, 21, [], 0) ∧ bMask 7 20 = [] := ⟨rfl, rfl⟩
theorem E7_21 : aCode 7 21 = (Instr.iinc 2 1, 24, [], 1) ∧ bMask 7 21 = [] := ⟨rfl, rfl⟩
theorem E7_24 : aCode 7 24 = (Instr.goto (-20), 4, [], 0) ∧ bMask 7 24 = [] := ⟨rfl, rfl⟩
theorem E7_27 : aCode 7 27 = (Instr.iload_n 1, 28, [], 0) ∧ bMask 7 27 = [] := ⟨rfl, rfl⟩
theorem E7_28 : aCode 7 28 = (Instr.ireturn, 29, [0], 0) ∧ bMask 7 28 = [] := ⟨rfl, rfl⟩
theorem g_X0_allDegrees_0 {Q : bQ} {M : bM}  (h : bGo 7 Q 4 [some (cR 3 0), some (cI (0 : Int32)), some (cI (0 : Int32))] [] M) : bCall 7 [cR 3 0] M Q := s_iconst E7_0.1 (k_ E7_0) (s_istore_n E7_1.1 (k_ E7_1) (s_iconst E7_2.1 (k_ E7_2) (s_istore_n E7_3.1 (k_ E7_3) (h))))
theorem g_X0_allDegrees_4 {Q : bQ} {M : bM} {x1 : Int32} {x2 : Int32} (h : (((M 3 0 5) ≤ x2) → (Q (some (cI x1)) M)) ∧ (¬ ((M 3 0 5) ≤ x2) → ((vp_in x2 4) ∧ bGo 7 Q 4 [some (cR 3 0), some (cI (x1 + (M 9 1 x2.toNatClampNeg))), some (cI (x2 + (1 : Int32)))] [] M))) : bGo 7 Q 4 [some (cR 3 0), some (cI x1), some (cI x2)] [] M := s_iload_n E7_4.1 (k_ E7_4) rfl (s_aload_n E7_5.1 (k_ E7_5) rfl (s_getI0 E7_6.1 (k_ E7_6) rfl (s_icmp_ge E7_9.1 (k_ E7_9) ⟨fun c0 => s_iload_n E7_27.1 (k_ E7_27) rfl (s_iret E7_28.1 (k_ E7_28) (h.1 c0)), fun c0 => s_iload_n E7_12.1 (k_ E7_12) rfl (s_aload_n E7_13.1 (k_ E7_13) rfl (s_getR E7_14.1 (k_ E7_14) rfl rfl (s_iload_n E7_17.1 (k_ E7_17) rfl (s_iaload E7_18.1 (k_ E7_18) rfl ⟨(h.2 c0).1, s_iadd E7_19.1 (k_ E7_19) (s_istore_n E7_20.1 (k_ E7_20) (s_iinc E7_21.1 (k_ E7_21) rfl (s_goto E7_24.1 (k_ E7_24) ((h.2 c0).2))))⟩))))⟩)))
-- 8: X0_height
theorem E8_0 : aCode 8 0 = (Instr.aload_n 0, 1, [], 0) ∧ bMask 8 0 = [] := ⟨rfl, rfl⟩
theorem E8_1 : aCode 8 1 = (Instr.getfield 19, 4, [1, 0, 3, 2], 0) ∧ bMask 8 1 = [] := ⟨rfl, rfl⟩
theorem E8_4 : aCode 8 4 = (Instr.iload_n 1, 5, [], 0) ∧ bMask 8 4 = [] := ⟨rfl, rfl⟩
theorem E8_5 : aCode 8 5 = (Instr.iaload, 6, [0], 0) ∧ bMask 8 5 = [] := ⟨rfl, rfl⟩
theorem E8_6 : aCode 8 6 = (Instr.aload_n 0, 7, [], 0) ∧ bMask 8 6 = [] := ⟨rfl, rfl⟩
theorem E8_7 : aCode 8 7 = (Instr.getfield 23, 10, [2, 0, 4, 2], 0) ∧ bMask 8 7 = [] := ⟨rfl, rfl⟩
theorem E8_10 : aCode 8 10 = (Instr.iload_n 1, 11, [], 0) ∧ bMask 8 10 = [] := ⟨rfl, rfl⟩
theorem E8_11 : aCode 8 11 = (Instr.iaload, 12, [0], 0) ∧ bMask 8 11 = [] := ⟨rfl, rfl⟩
theorem E8_12 : aCode 8 12 = (Instr.iadd, 13, [], 0) ∧ bMask 8 12 = [] := ⟨rfl, rfl⟩
theorem E8_13 : aCode 8 13 = (Instr.ireturn, 14, [0], 0) ∧ bMask 8 13 = [] := ⟨rfl, rfl⟩
theorem g_X0_height_0 {Q : bQ} {M : bM} {x1 : Int32} (h : (vp_in x1 4) ∧ ((vp_in x1 4) ∧ (Q (some (cI ((M 9 1 x1.toNatClampNeg) + (M 9 2 x1.toNatClampNeg)))) M))) : bCall 8 [cR 3 0, cI x1] M Q := s_aload_n E8_0.1 (k_ E8_0) rfl (s_getR E8_1.1 (k_ E8_1) rfl rfl (s_iload_n E8_4.1 (k_ E8_4) rfl (s_iaload E8_5.1 (k_ E8_5) rfl ⟨h.1, s_aload_n E8_6.1 (k_ E8_6) rfl (s_getR E8_7.1 (k_ E8_7) rfl rfl (s_iload_n E8_10.1 (k_ E8_10) rfl (s_iaload E8_11.1 (k_ E8_11) rfl ⟨h.2.1, s_iadd E8_12.1 (k_ E8_12) (s_iret E8_13.1 (k_ E8_13) h.2.2)⟩)))⟩)))
-- 11: X0_subtract
theorem E11_0 : aCode 11 0 = (Instr.iconst 0, 1, [], 0) ∧ bMask 11 0 = [] := ⟨rfl, rfl⟩
theorem E11_1 : aCode 11 1 = (Instr.istore 5, 3, [], 0) ∧ bMask 11 1 = [] := ⟨rfl, rfl⟩
theorem E11_3 : aCode 11 3 = (Instr.iload 5, 5, [], 0) := rfl
theorem E11_5 : aCode 11 5 = (Instr.aload_n 0, 6, [], 0) ∧ bMask 11 5 = [] := ⟨rfl, rfl⟩
theorem E11_6 : aCode 11 6 = (Instr.getfield 36, 9, [0, 0, 5, 0], 0) ∧ bMask 11 6 = [] := ⟨rfl, rfl⟩
theorem E11_9 : aCode 11 9 = (Instr.if_icmp .ge 88, 12, [97], 0) ∧ bMask 11 9 = [] := ⟨rfl, rfl⟩
theorem E11_12 : aCode 11 12 = (Instr.iload 4, 14, [], 0) ∧ bMask 11 12 = [] := ⟨rfl, rfl⟩
theorem E11_14 : aCode 11 14 = (Instr.istore 6, 16, [], 0) ∧ bMask 11 14 = [] := ⟨rfl, rfl⟩
theorem E11_16 : aCode 11 16 = (Instr.iload 6, 18, [], 0) := rfl
theorem E11_18 : aCode 11 18 = (Instr.bipush 42, 20, [], 42) ∧ bMask 11 18 = [] := ⟨rfl, rfl⟩
theorem E11_20 : aCode 11 20 = (Instr.if_icmp .ge 71, 23, [91], 0) ∧ bMask 11 20 = [] := ⟨rfl, rfl⟩
theorem E11_23 : aCode 11 23 = (Instr.aload_n 0, 24, [], 0) ∧ bMask 11 23 = [] := ⟨rfl, rfl⟩
theorem E11_24 : aCode 11 24 = (Instr.getfield 13, 27, [4, 0, 1, 2], 0) ∧ bMask 11 24 = [] := ⟨rfl, rfl⟩
theorem E11_27 : aCode 11 27 = (Instr.iload_n 1, 28, [], 0) ∧ bMask 11 27 = [] := ⟨rfl, rfl⟩
theorem E11_28 : aCode 11 28 = (Instr.aaload, 29, [2], 0) ∧ bMask 11 28 = [] := ⟨rfl, rfl⟩
theorem E11_29 : aCode 11 29 = (Instr.iload 5, 31, [], 0) ∧ bMask 11 29 = [] := ⟨rfl, rfl⟩
theorem E11_31 : aCode 11 31 = (Instr.bipush 42, 33, [], 42) ∧ bMask 11 31 = [] := ⟨rfl, rfl⟩
theorem E11_33 : aCode 11 33 = (Instr.imul, 34, [], 0) ∧ bMask 11 33 = [] := ⟨rfl, rfl⟩
theorem E11_34 : aCode 11 34 = (Instr.iload 6, 36, [], 0) ∧ bMask 11 34 = [] := ⟨rfl, rfl⟩
theorem E11_36 : aCode 11 36 = (Instr.iadd, 37, [], 0) ∧ bMask 11 36 = [] := ⟨rfl, rfl⟩
theorem E11_37 : aCode 11 37 = (Instr.iaload, 38, [0], 0) ∧ bMask 11 37 = [] := ⟨rfl, rfl⟩
theorem E11_38 : aCode 11 38 = (Instr.iload_n 2, 39, [], 0) ∧ bMask 11 38 = [] := ⟨rfl, rfl⟩
theorem E11_39 : aCode 11 39 = (Instr.aload_n 0, 40, [], 0) ∧ bMask 11 39 = [] := ⟨rfl, rfl⟩
theorem E11_40 : aCode 11 40 = (Instr.getfield 13, 43, [4, 0, 1, 2], 0) ∧ bMask 11 40 = [] := ⟨rfl, rfl⟩
theorem E11_43 : aCode 11 43 = (Instr.iload_n 3, 44, [], 0) ∧ bMask 11 43 = [] := ⟨rfl, rfl⟩
theorem E11_44 : aCode 11 44 = (Instr.aaload, 45, [2], 0) ∧ bMask 11 44 = [] := ⟨rfl, rfl⟩
theorem E11_45 : aCode 11 45 = (Instr.iload 5, 47, [], 0) ∧ bMask 11 45 = [] := ⟨rfl, rfl⟩
theorem E11_47 : aCode 11 47 = (Instr.bipush 42, 49, [], 42) ∧ bMask 11 47 = [] := ⟨rfl, rfl⟩
theorem E11_49 : aCode 11 49 = (Instr.imul, 50, [], 0) ∧ bMask 11 49 = [] := ⟨rfl, rfl⟩
theorem E11_50 : aCode 11 50 = (Instr.iload 6, 52, [], 0) ∧ bMask 11 50 = [] := ⟨rfl, rfl⟩
theorem E11_52 : aCode 11 52 = (Instr.iadd, 53, [], 0) ∧ bMask 11 52 = [] := ⟨rfl, rfl⟩
theorem E11_53 : aCode 11 53 = (Instr.iload 4, 55, [], 0) ∧ bMask 11 53 = [] := ⟨rfl, rfl⟩
theorem E11_55 : aCode 11 55 = (Instr.isub, 56, [], 0) ∧ bMask 11 55 = [] := ⟨rfl, rfl⟩
theorem E11_56 : aCode 11 56 = (Instr.iaload, 57, [0], 0) ∧ bMask 11 56 = [] := ⟨rfl, rfl⟩
theorem E11_57 : aCode 11 57 = (Instr.imul, 58, [], 0) ∧ bMask 11 57 = [] := ⟨rfl, rfl⟩
theorem E11_58 : aCode 11 58 = (Instr.isub, 59, [], 0) ∧ bMask 11 58 = [] := ⟨rfl, rfl⟩
theorem E11_59 : aCode 11 59 = (Instr.istore 7, 61, [], 0) ∧ bMask 11 59 = [] := ⟨rfl, rfl⟩
theorem E11_61 : aCode 11 61 = (Instr.aload_n 0, 62, [], 0) ∧ bMask 11 61 = [] := ⟨rfl, rfl⟩
theorem E11_62 : aCode 11 62 = (Instr.getfield 13, 65, [4, 0, 1, 2], 0) ∧ bMask 11 62 = [] := ⟨rfl, rfl⟩
theorem E11_65 : aCode 11 65 = (Instr.iload_n 1, 66, [], 0) ∧ bMask 11 65 = [] := ⟨rfl, rfl⟩
theorem E11_66 : aCode 11 66 = (Instr.aaload, 67, [2], 0) ∧ bMask 11 66 = [] := ⟨rfl, rfl⟩
theorem E11_67 : aCode 11 67 = (Instr.iload 5, 69, [], 0) ∧ bMask 11 67 = [] := ⟨rfl, rfl⟩
theorem E11_69 : aCode 11 69 = (Instr.bipush 42, 71, [], 42) ∧ bMask 11 69 = [] := ⟨rfl, rfl⟩
theorem E11_71 : aCode 11 71 = (Instr.imul, 72, [], 0) ∧ bMask 11 71 = [] := ⟨rfl, rfl⟩
theorem E11_72 : aCode 11 72 = (Instr.iload 6, 74, [], 0) ∧ bMask 11 72 = [] := ⟨rfl, rfl⟩
theorem E11_74 : aCode 11 74 = (Instr.iadd, 75, [], 0) ∧ bMask 11 74 = [] := ⟨rfl, rfl⟩
theorem E11_75 : aCode 11 75 = (Instr.aload_n 0, 76, [], 0) ∧ bMask 11 75 = [] := ⟨rfl, rfl⟩
theorem E11_76 : aCode 11 76 = (Instr.getfield 26, 79, [5, 0, 0, 2], 0) ∧ bMask 11 76 = [] := ⟨rfl, rfl⟩
theorem E11_79 : aCode 11 79 = (Instr.iload 7, 81, [], 0) ∧ bMask 11 79 = [] := ⟨rfl, rfl⟩
theorem E11_81 : aCode 11 81 = (Instr.invokevirtual 71, 84, [10, 2, 1, 2, 0, 2], 0) ∧ bMask 11 81 = [] := ⟨rfl, rfl⟩
theorem E11_84 : aCode 11 84 = (Instr.iastore, 85, [0], 0) ∧ bMask 11 84 = [] := ⟨rfl, rfl⟩
theorem E11_85 : aCode 11 85 = (Instr.iinc 6 1, 88, [], 1) ∧ bMask 11 85 = [] := ⟨rfl, rfl⟩
theorem E11_88 : aCode 11 88 = (Instr.goto (-72), 16, [], 0) ∧ bMask 11 88 = [] := ⟨rfl, rfl⟩
theorem E11_91 : aCode 11 91 = (Instr.iinc 5 1, 94, [], 1) ∧ bMask 11 91 = [] := ⟨rfl, rfl⟩
theorem E11_94 : aCode 11 94 = (Instr.goto (-91), 3, [], 0) ∧ bMask 11 94 = [] := ⟨rfl, rfl⟩
theorem E11_97 : aCode 11 97 = (Instr.iload 4, 99, [], 0) ∧ bMask 11 97 = [] := ⟨rfl, rfl⟩
theorem E11_99 : aCode 11 99 = (Instr.istore 5, 101, [], 0) ∧ bMask 11 99 = [] := ⟨rfl, rfl⟩
theorem E11_101 : aCode 11 101 = (Instr.iload 5, 103, [], 0) := rfl
theorem E11_103 : aCode 11 103 = (Instr.bipush 32, 105, [], 32) ∧ bMask 11 103 = [] := ⟨rfl, rfl⟩
theorem E11_105 : aCode 11 105 = (Instr.if_icmp .ge 49, 108, [154], 0) ∧ bMask 11 105 = [] := ⟨rfl, rfl⟩
theorem E11_108 : aCode 11 108 = (Instr.aload_n 0, 109, [], 0) ∧ bMask 11 108 = [] := ⟨rfl, rfl⟩
theorem E11_109 : aCode 11 109 = (Instr.getfield 16, 112, [6, 0, 2, 2], 0) ∧ bMask 11 109 = [] := ⟨rfl, rfl⟩
theorem E11_112 : aCode 11 112 = (Instr.iload_n 1, 113, [], 0) ∧ bMask 11 112 = [] := ⟨rfl, rfl⟩
theorem E11_113 : aCode 11 113 = (Instr.aaload, 114, [2], 0) ∧ bMask 11 113 = [] := ⟨rfl, rfl⟩
theorem E11_114 : aCode 11 114 = (Instr.iload 5, 116, [], 0) ∧ bMask 11 114 = [] := ⟨rfl, rfl⟩
theorem E11_116 : aCode 11 116 = (Instr.aload_n 0, 117, [], 0) ∧ bMask 11 116 = [] := ⟨rfl, rfl⟩
theorem E11_117 : aCode 11 117 = (Instr.getfield 26, 120, [5, 0, 0, 2], 0) ∧ bMask 11 117 = [] := ⟨rfl, rfl⟩
theorem E11_120 : aCode 11 120 = (Instr.aload_n 0, 121, [], 0) ∧ bMask 11 120 = [] := ⟨rfl, rfl⟩
theorem E11_121 : aCode 11 121 = (Instr.getfield 16, 124, [6, 0, 2, 2], 0) ∧ bMask 11 121 = [] := ⟨rfl, rfl⟩
theorem E11_124 : aCode 11 124 = (Instr.iload_n 1, 125, [], 0) ∧ bMask 11 124 = [] := ⟨rfl, rfl⟩
theorem E11_125 : aCode 11 125 = (Instr.aaload, 126, [2], 0) ∧ bMask 11 125 = [] := ⟨rfl, rfl⟩
theorem E11_126 : aCode 11 126 = (Instr.iload 5, 128, [], 0) ∧ bMask 11 126 = [] := ⟨rfl, rfl⟩
theorem E11_128 : aCode 11 128 = (Instr.iaload, 129, [0], 0) ∧ bMask 11 128 = [] := ⟨rfl, rfl⟩
theorem E11_129 : aCode 11 129 = (Instr.iload_n 2, 130, [], 0) ∧ bMask 11 129 = [] := ⟨rfl, rfl⟩
theorem E11_130 : aCode 11 130 = (Instr.aload_n 0, 131, [], 0) ∧ bMask 11 130 = [] := ⟨rfl, rfl⟩
theorem E11_131 : aCode 11 131 = (Instr.getfield 16, 134, [6, 0, 2, 2], 0) ∧ bMask 11 131 = [] := ⟨rfl, rfl⟩
theorem E11_134 : aCode 11 134 = (Instr.iload_n 3, 135, [], 0) ∧ bMask 11 134 = [] := ⟨rfl, rfl⟩
theorem E11_135 : aCode 11 135 = (Instr.aaload, 136, [2], 0) ∧ bMask 11 135 = [] := ⟨rfl, rfl⟩
theorem E11_136 : aCode 11 136 = (Instr.iload 5, 138, [], 0) ∧ bMask 11 136 = [] := ⟨rfl, rfl⟩
theorem E11_138 : aCode 11 138 = (Instr.iload 4, 140, [], 0) ∧ bMask 11 138 = [] := ⟨rfl, rfl⟩
theorem E11_140 : aCode 11 140 = (Instr.isub, 141, [], 0) ∧ bMask 11 140 = [] := ⟨rfl, rfl⟩
theorem E11_141 : aCode 11 141 = (Instr.iaload, 142, [0], 0) ∧ bMask 11 141 = [] := ⟨rfl, rfl⟩
theorem E11_142 : aCode 11 142 = (Instr.imul, 143, [], 0) ∧ bMask 11 142 = [] := ⟨rfl, rfl⟩
theorem E11_143 : aCode 11 143 = (Instr.isub, 144, [], 0) ∧ bMask 11 143 = [] := ⟨rfl, rfl⟩
theorem E11_144 : aCode 11 144 = (Instr.invokevirtual 71, 147, [10, 2, 1, 2, 0, 2], 0) ∧ bMask 11 144 = [] := ⟨rfl, rfl⟩
theorem E11_147 : aCode 11 147 = (Instr.iastore, 148, [0], 0) ∧ bMask 11 147 = [] := ⟨rfl, rfl⟩
theorem E11_148 : aCode 11 148 = (Instr.iinc 5 1, 151, [], 1) ∧ bMask 11 148 = [] := ⟨rfl, rfl⟩
theorem E11_151 : aCode 11 151 = (Instr.goto (-50), 101, [], 0) ∧ bMask 11 151 = [] := ⟨rfl, rfl⟩
theorem E11_154 : aCode 11 154 = (Instr.return_, 155, [], 0) ∧ bMask 11 154 = [] := ⟨rfl, rfl⟩
theorem g_X0_subtract_0 {Q : bQ} {M : bM} {x1 : Int32} {x2 : Int32} {x3 : Int32} {x4 : Int32} (h : bGo 11 Q 3 [some (cR 3 0), some (cI x1), some (cI x2), some (cI x3), some (cI x4), some (cI (0 : Int32)), none, none] [] M) : bCall 11 [cR 3 0, cI x1, cI x2, cI x3, cI x4] M Q := s_iconst E11_0.1 (k_ E11_0) (s_istore E11_1.1 (k_ E11_1) (h))
theorem g_X0_subtract_3 {Q : bQ} {M : bM} {x1 : Int32} {x2 : Int32} {x3 : Int32} {x4 : Int32} {x5 : Int32} {o6 : Option bV} {o7 : Option bV} (h : (((M 3 0 5) ≤ x5) → bGo 11 Q 101 [some (cR 3 0), some (cI x1), some (cI x2), some (cI x3), some (cI x4), some (cI x4), none, none] [] M) ∧ (¬ ((M 3 0 5) ≤ x5) → bGo 11 Q 16 [some (cR 3 0), some (cI x1), some (cI x2), some (cI x3), some (cI x4), some (cI x5), some (cI x4), none] [] M)) : bGo 11 Q 3 [some (cR 3 0), some (cI x1), some (cI x2), some (cI x3), some (cI x4), some (cI x5), o6, o7] [] M := s_iload E11_3 rfl rfl (s_aload_n E11_5.1 (k_ E11_5) rfl (s_getI0 E11_6.1 (k_ E11_6) rfl (s_icmp_ge E11_9.1 (k_ E11_9) ⟨fun c0 => s_iload E11_97.1 (k_ E11_97) rfl (s_istore E11_99.1 (k_ E11_99) (h.1 c0)), fun c0 => s_iload E11_12.1 (k_ E11_12) rfl (s_istore E11_14.1 (k_ E11_14) (h.2 c0))⟩)))
theorem g_X0_subtract_16 {Q : bQ} {M : bM} {x1 : Int32} {x2 : Int32} {x3 : Int32} {x4 : Int32} {x5 : Int32} {x6 : Int32} {o7 : Option bV} (h : (((42 : Int32) ≤ x6) → bGo 11 Q 3 [some (cR 3 0), some (cI x1), some (cI x2), some (cI x3), some (cI x4), some (cI (x5 + (1 : Int32))), some (cI x6), none] [] M) ∧ (¬ ((42 : Int32) ≤ x6) → ((vp_in x1 4) ∧ ((vp_in ((x5 * (42 : Int32)) + x6) 168) ∧ ((vp_in x3 4) ∧ ((vp_in (((x5 * (42 : Int32)) + x6) - x4) 168) ∧ ((vp_in x1 4) ∧ (bCall 10 [cR 1 0, cI ((M 8 x1.toNatClampNeg ((x5 * (42 : Int32)) + x6).toNatClampNeg) - (x2 * (M 8 x3.toNatClampNeg (((x5 * (42 : Int32)) + x6) - x4).toNatClampNeg)))] M (fun v1 M2 => bV1 v1 fun r3 => ((vp_in ((x5 * (42 : Int32)) + x6) 168) ∧ bGo 11 Q 16 [some (cR 3 0), some (cI x1), some (cI x2), some (cI x3), some (cI x4), some (cI x5), some (cI (x6 + (1 : Int32))), some (cI ((M 8 x1.toNatClampNeg ((x5 * (42 : Int32)) + x6).toNatClampNeg) - (x2 * (M 8 x3.toNatClampNeg (((x5 * (42 : Int32)) + x6) - x4).toNatClampNeg))))] [] (bU M2 8 x1.toNatClampNeg ((x5 * (42 : Int32)) + x6).toNatClampNeg r3))))))))))) : bGo 11 Q 16 [some (cR 3 0), some (cI x1), some (cI x2), some (cI x3), some (cI x4), some (cI x5), some (cI x6), o7] [] M := s_iload E11_16 rfl rfl (s_bipush E11_18.1 (k_ E11_18) (s_icmp_ge E11_20.1 (k_ E11_20) ⟨fun c1 => s_iinc E11_91.1 (k_ E11_91) rfl (s_goto E11_94.1 (k_ E11_94) (h.1 c1)), fun c1 => s_aload_n E11_23.1 (k_ E11_23) rfl (s_getR E11_24.1 (k_ E11_24) rfl rfl (s_iload_n E11_27.1 (k_ E11_27) rfl (s_aaload E11_28.1 (k_ E11_28) rfl ⟨(h.2 c1).1, s_iload E11_29.1 (k_ E11_29) rfl (s_bipush E11_31.1 (k_ E11_31) (s_imul E11_33.1 (k_ E11_33) (s_iload E11_34.1 (k_ E11_34) rfl (s_iadd E11_36.1 (k_ E11_36) (s_iaload E11_37.1 (k_ E11_37) rfl ⟨((h.2 c1).2).1, s_iload_n E11_38.1 (k_ E11_38) rfl (s_aload_n E11_39.1 (k_ E11_39) rfl (s_getR E11_40.1 (k_ E11_40) rfl rfl (s_iload_n E11_43.1 (k_ E11_43) rfl (s_aaload E11_44.1 (k_ E11_44) rfl ⟨(((h.2 c1).2).2).1, s_iload E11_45.1 (k_ E11_45) rfl (s_bipush E11_47.1 (k_ E11_47) (s_imul E11_49.1 (k_ E11_49) (s_iload E11_50.1 (k_ E11_50) rfl (s_iadd E11_52.1 (k_ E11_52) (s_iload E11_53.1 (k_ E11_53) rfl (s_isub E11_55.1 (k_ E11_55) (s_iaload E11_56.1 (k_ E11_56) rfl ⟨((((h.2 c1).2).2).2).1, s_imul E11_57.1 (k_ E11_57) (s_isub E11_58.1 (k_ E11_58) (s_istore E11_59.1 (k_ E11_59) (s_aload_n E11_61.1 (k_ E11_61) rfl (s_getR E11_62.1 (k_ E11_62) rfl rfl (s_iload_n E11_65.1 (k_ E11_65) rfl (s_aaload E11_66.1 (k_ E11_66) rfl ⟨(((((h.2 c1).2).2).2).2).1, s_iload E11_67.1 (k_ E11_67) rfl (s_bipush E11_69.1 (k_ E11_69) (s_imul E11_71.1 (k_ E11_71) (s_iload E11_72.1 (k_ E11_72) rfl (s_iadd E11_74.1 (k_ E11_74) (s_aload_n E11_75.1 (k_ E11_75) rfl (s_getR E11_76.1 (k_ E11_76) rfl rfl (s_iload E11_79.1 (k_ E11_79) rfl (s_vcall1 E11_81.1 (k_ E11_81) rfl rfl rfl ((((((h.2 c1).2).2).2).2).2) (fun M2 r3 z2 => s_iastore E11_84.1 (k_ E11_84) rfl ⟨z2.1, s_iinc E11_85.1 (k_ E11_85) rfl (s_goto E11_88.1 (k_ E11_88) (z2.2))⟩)))))))))⟩))))))⟩)))))))⟩))))⟩)))))⟩)))⟩))
theorem g_X0_subtract_101 {Q : bQ} {M : bM} {x1 : Int32} {x2 : Int32} {x3 : Int32} {x4 : Int32} {x5 : Int32} {o6 : Option bV} {o7 : Option bV} (h : (((32 : Int32) ≤ x5) → (Q none M)) ∧ (¬ ((32 : Int32) ≤ x5) → ((vp_in x1 4) ∧ ((vp_in x1 4) ∧ ((vp_in x5 32) ∧ ((vp_in x3 4) ∧ ((vp_in (x5 - x4) 32) ∧ (bCall 10 [cR 1 0, cI ((M 7 (29 + x1.toNatClampNeg) x5.toNatClampNeg) - (x2 * (M 7 (29 + x3.toNatClampNeg) (x5 - x4).toNatClampNeg)))] M (fun v1 M2 => bV1 v1 fun r3 => ((vp_in x5 32) ∧ bGo 11 Q 101 [some (cR 3 0), some (cI x1), some (cI x2), some (cI x3), some (cI x4), some (cI (x5 + (1 : Int32))), none, none] [] (bU M2 7 (29 + x1.toNatClampNeg) x5.toNatClampNeg r3))))))))))) : bGo 11 Q 101 [some (cR 3 0), some (cI x1), some (cI x2), some (cI x3), some (cI x4), some (cI x5), o6, o7] [] M := s_iload E11_101 rfl rfl (s_bipush E11_103.1 (k_ E11_103) (s_icmp_ge E11_105.1 (k_ E11_105) ⟨fun c3 => s_ret E11_154.1 (k_ E11_154) (h.1 c3), fun c3 => s_aload_n E11_108.1 (k_ E11_108) rfl (s_getR E11_109.1 (k_ E11_109) rfl rfl (s_iload_n E11_112.1 (k_ E11_112) rfl (s_aaload E11_113.1 (k_ E11_113) rfl ⟨(h.2 c3).1, s_iload E11_114.1 (k_ E11_114) rfl (s_aload_n E11_116.1 (k_ E11_116) rfl (s_getR E11_117.1 (k_ E11_117) rfl rfl (s_aload_n E11_120.1 (k_ E11_120) rfl (s_getR E11_121.1 (k_ E11_121) rfl rfl (s_iload_n E11_124.1 (k_ E11_124) rfl (s_aaload E11_125.1 (k_ E11_125) rfl ⟨((h.2 c3).2).1, s_iload E11_126.1 (k_ E11_126) rfl (s_iaload E11_128.1 (k_ E11_128) rfl ⟨(((h.2 c3).2).2).1, s_iload_n E11_129.1 (k_ E11_129) rfl (s_aload_n E11_130.1 (k_ E11_130) rfl (s_getR E11_131.1 (k_ E11_131) rfl rfl (s_iload_n E11_134.1 (k_ E11_134) rfl (s_aaload E11_135.1 (k_ E11_135) rfl ⟨((((h.2 c3).2).2).2).1, s_iload E11_136.1 (k_ E11_136) rfl (s_iload E11_138.1 (k_ E11_138) rfl (s_isub E11_140.1 (k_ E11_140) (s_iaload E11_141.1 (k_ E11_141) rfl ⟨(((((h.2 c3).2).2).2).2).1, s_imul E11_142.1 (k_ E11_142) (s_isub E11_143.1 (k_ E11_143) (s_vcall1 E11_144.1 (k_ E11_144) rfl rfl rfl ((((((h.2 c3).2).2).2).2).2) (fun M2 r3 z4 => s_iastore E11_147.1 (k_ E11_147) rfl ⟨z4.1, s_iinc E11_148.1 (k_ E11_148) rfl (s_goto E11_151.1 (k_ E11_151) (z4.2))⟩)))⟩)))⟩))))⟩)⟩))))))⟩)))⟩))
-- 12: X0_raise
theorem E12_0 : aCode 12 0 = (Instr.iconst 0, 1, [], 0) ∧ bMask 12 0 = [] := ⟨rfl, rfl⟩
theorem E12_1 : aCode 12 1 = (Instr.istore_n 2, 2, [], 0) ∧ bMask 12 1 = [] := ⟨rfl, rfl⟩
theorem E12_2 : aCode 12 2 = (Instr.iload_n 2, 3, [], 0) ∧ bMask 12 2 = [] := ⟨rfl, rfl⟩
theorem E12_3 : aCode 12 3 = (Instr.aload_n 0, 4, [], 0) ∧ bMask 12 3 = [] := ⟨rfl, rfl⟩
theorem E12_4 : aCode 12 4 = (Instr.getfield 36, 7, [0, 0, 5, 0], 0) ∧ bMask 12 4 = [] := ⟨rfl, rfl⟩
theorem E12_7 : aCode 12 7 = (Instr.if_icmp .ge 48, 10, [55], 0) ∧ bMask 12 7 = [] := ⟨rfl, rfl⟩
theorem E12_10 : aCode 12 10 = (Instr.aload_n 0, 11, [], 0) ∧ bMask 12 10 = [] := ⟨rfl, rfl⟩
theorem E12_11 : aCode 12 11 = (Instr.getfield 13, 14, [4, 0, 1, 2], 0) ∧ bMask 12 11 = [] := ⟨rfl, rfl⟩
theorem E12_14 : aCode 12 14 = (Instr.iload_n 1, 15, [], 0) ∧ bMask 12 14 = [] := ⟨rfl, rfl⟩
theorem E12_15 : aCode 12 15 = (Instr.aaload, 16, [2], 0) ∧ bMask 12 15 = [] := ⟨rfl, rfl⟩
theorem E12_16 : aCode 12 16 = (Instr.iload_n 2, 17, [], 0) ∧ bMask 12 16 = [] := ⟨rfl, rfl⟩
theorem E12_17 : aCode 12 17 = (Instr.bipush 42, 19, [], 42) ∧ bMask 12 17 = [] := ⟨rfl, rfl⟩
theorem E12_19 : aCode 12 19 = (Instr.imul, 20, [], 0) ∧ bMask 12 19 = [] := ⟨rfl, rfl⟩
theorem E12_20 : aCode 12 20 = (Instr.aload_n 0, 21, [], 0) ∧ bMask 12 20 = [] := ⟨rfl, rfl⟩
theorem E12_21 : aCode 12 21 = (Instr.getfield 13, 24, [4, 0, 1, 2], 0) ∧ bMask 12 21 = [] := ⟨rfl, rfl⟩
theorem E12_24 : aCode 12 24 = (Instr.iload_n 1, 25, [], 0) ∧ bMask 12 24 = [] := ⟨rfl, rfl⟩
theorem E12_25 : aCode 12 25 = (Instr.aaload, 26, [2], 0) ∧ bMask 12 25 = [] := ⟨rfl, rfl⟩
theorem E12_26 : aCode 12 26 = (Instr.iload_n 2, 27, [], 0) ∧ bMask 12 26 = [] := ⟨rfl, rfl⟩
theorem E12_27 : aCode 12 27 = (Instr.bipush 42, 29, [], 42) ∧ bMask 12 27 = [] := ⟨rfl, rfl⟩
theorem E12_29 : aCode 12 29 = (Instr.imul, 30, [], 0) ∧ bMask 12 29 = [] := ⟨rfl, rfl⟩
theorem E12_30 : aCode 12 30 = (Instr.iconst 1, 31, [], 1) ∧ bMask 12 30 = [] := ⟨rfl, rfl⟩
theorem E12_31 : aCode 12 31 = (Instr.iadd, 32, [], 0) ∧ bMask 12 31 = [] := ⟨rfl, rfl⟩
theorem E12_32 : aCode 12 32 = (Instr.bipush 41, 34, [], 41) ∧ bMask 12 32 = [] := ⟨rfl, rfl⟩
theorem E12_34 : aCode 12 34 = (Instr.invokestatic 46, 37, [1000, 46], 0) ∧ bMask 12 34 = [] := ⟨rfl, rfl⟩
theorem E12_37 : aCode 12 37 = (Instr.aload_n 0, 38, [], 0) ∧ bMask 12 37 = [] := ⟨rfl, rfl⟩
theorem E12_38 : aCode 12 38 = (Instr.getfield 13, 41, [4, 0, 1, 2], 0) ∧ bMask 12 38 = [] := ⟨rfl, rfl⟩
theorem E12_41 : aCode 12 41 = (Instr.iload_n 1, 42, [], 0) ∧ bMask 12 41 = [] := ⟨rfl, rfl⟩
theorem E12_42 : aCode 12 42 = (Instr.aaload, 43, [2], 0) ∧ bMask 12 42 = [] := ⟨rfl, rfl⟩
theorem E12_43 : aCode 12 43 = (Instr.iload_n 2, 44, [], 0) ∧ bMask 12 43 = [] := ⟨rfl, rfl⟩
theorem E12_44 : aCode 12 44 = (Instr.bipush 42, 46, [], 42) ∧ bMask 12 44 = [] := ⟨rfl, rfl⟩
theorem E12_46 : aCode 12 46 = (Instr.imul, 47, [], 0) ∧ bMask 12 46 = [] := ⟨rfl, rfl⟩
theorem E12_47 : aCode 12 47 = (Instr.iconst 0, 48, [], 0) ∧ bMask 12 47 = [] := ⟨rfl, rfl⟩
theorem E12_48 : aCode 12 48 = (Instr.iastore, 49, [0], 0) ∧ bMask 12 48 = [] := ⟨rfl, rfl⟩
theorem E12_49 : aCode 12 49 = (Instr.iinc 2 1, 52, [], 1) ∧ bMask 12 49 = [] := ⟨rfl, rfl⟩
theorem E12_52 : aCode 12 52 = (Instr.goto (-50), 2, [], 0) ∧ bMask 12 52 = [] := ⟨rfl, rfl⟩
theorem E12_55 : aCode 12 55 = (Instr.aload_n 0, 56, [], 0) ∧ bMask 12 55 = [] := ⟨rfl, rfl⟩
theorem E12_56 : aCode 12 56 = (Instr.getfield 16, 59, [6, 0, 2, 2], 0) ∧ bMask 12 56 = [] := ⟨rfl, rfl⟩
theorem E12_59 : aCode 12 59 = (Instr.iload_n 1, 60, [], 0) ∧ bMask 12 59 = [] := ⟨rfl, rfl⟩
theorem E12_60 : aCode 12 60 = (Instr.aaload, 61, [2], 0) ∧ bMask 12 60 = [] := ⟨rfl, rfl⟩
theorem E12_61 : aCode 12 61 = (Instr.iconst 0, 62, [], 0) ∧ bMask 12 61 = [] := ⟨rfl, rfl⟩
theorem E12_62 : aCode 12 62 = (Instr.aload_n 0, 63, [], 0) ∧ bMask 12 62 = [] := ⟨rfl, rfl⟩
theorem E12_63 : aCode 12 63 = (Instr.getfield 16, 66, [6, 0, 2, 2], 0) ∧ bMask 12 63 = [] := ⟨rfl, rfl⟩
theorem E12_66 : aCode 12 66 = (Instr.iload_n 1, 67, [], 0) ∧ bMask 12 66 = [] := ⟨rfl, rfl⟩
theorem E12_67 : aCode 12 67 = (Instr.aaload, 68, [2], 0) ∧ bMask 12 67 = [] := ⟨rfl, rfl⟩
theorem E12_68 : aCode 12 68 = (Instr.iconst 1, 69, [], 1) ∧ bMask 12 68 = [] := ⟨rfl, rfl⟩
theorem E12_69 : aCode 12 69 = (Instr.bipush 31, 71, [], 31) ∧ bMask 12 69 = [] := ⟨rfl, rfl⟩
theorem E12_71 : aCode 12 71 = (Instr.invokestatic 46, 74, [1000, 46], 0) ∧ bMask 12 71 = [] := ⟨rfl, rfl⟩
theorem E12_74 : aCode 12 74 = (Instr.aload_n 0, 75, [], 0) ∧ bMask 12 74 = [] := ⟨rfl, rfl⟩
theorem E12_75 : aCode 12 75 = (Instr.getfield 16, 78, [6, 0, 2, 2], 0) ∧ bMask 12 75 = [] := ⟨rfl, rfl⟩
theorem E12_78 : aCode 12 78 = (Instr.iload_n 1, 79, [], 0) ∧ bMask 12 78 = [] := ⟨rfl, rfl⟩
theorem E12_79 : aCode 12 79 = (Instr.aaload, 80, [2], 0) ∧ bMask 12 79 = [] := ⟨rfl, rfl⟩
theorem E12_80 : aCode 12 80 = (Instr.iconst 0, 81, [], 0) ∧ bMask 12 80 = [] := ⟨rfl, rfl⟩
theorem E12_81 : aCode 12 81 = (Instr.iconst 0, 82, [], 0) ∧ bMask 12 81 = [] := ⟨rfl, rfl⟩
theorem E12_82 : aCode 12 82 = (Instr.iastore, 83, [0], 0) ∧ bMask 12 82 = [] := ⟨rfl, rfl⟩
theorem E12_83 : aCode 12 83 = (Instr.aload_n 0, 84, [], 0) ∧ bMask 12 83 = [] := ⟨rfl, rfl⟩
theorem E12_84 : aCode 12 84 = (Instr.getfield 19, 87, [1, 0, 3, 2], 0) ∧ bMask 12 84 = [] := ⟨rfl, rfl⟩
theorem E12_87 : aCode 12 87 = (Instr.iload_n 1, 88, [], 0) ∧ bMask 12 87 = [] := ⟨rfl, rfl⟩
theorem E12_88 : aCode 12 88 = (Instr.dup2, 89, [], 0) ∧ bMask 12 88 = [] := ⟨rfl, rfl⟩
theorem E12_89 : aCode 12 89 = (Instr.iaload, 90, [0], 0) ∧ bMask 12 89 = [] := ⟨rfl, rfl⟩
theorem E12_90 : aCode 12 90 = (Instr.iconst 1, 91, [], 1) ∧ bMask 12 90 = [] := ⟨rfl, rfl⟩
theorem E12_91 : aCode 12 91 = (Instr.iadd, 92, [], 0) ∧ bMask 12 91 = [] := ⟨rfl, rfl⟩
theorem E12_92 : aCode 12 92 = (Instr.iastore, 93, [0], 0) ∧ bMask 12 92 = [] := ⟨rfl, rfl⟩
theorem E12_93 : aCode 12 93 = (Instr.return_, 94, [], 0) ∧ bMask 12 93 = [] := ⟨rfl, rfl⟩
theorem g_X0_raise_0 {Q : bQ} {M : bM} {x1 : Int32} (h : bGo 12 Q 2 [some (cR 3 0), some (cI x1), some (cI (0 : Int32))] [] M) : bCall 12 [cR 3 0, cI x1] M Q := s_iconst E12_0.1 (k_ E12_0) (s_istore_n E12_1.1 (k_ E12_1) (h))
theorem g_X0_raise_2 {Q : bQ} {M : bM} {x1 : Int32} {x2 : Int32} (h : (((M 3 0 5) ≤ x2) → ((vp_in x1 4) ∧ ((vp_in x1 4) ∧ ((¬ (0 : Int32) < 0 ∧ ¬ (1 : Int32) < 0 ∧ ¬ (31 : Int32) < 0 ∧ (0 : Int32).toNatClampNeg + (31 : Int32).toNatClampNeg ≤ 32 ∧ (1 : Int32).toNatClampNeg + (31 : Int32).toNatClampNeg ≤ 32) ∧ ((vp_in x1 4) ∧ ((vp_in (0 : Int32) 32) ∧ ((vp_in x1 4) ∧ ((vp_in x1 4) ∧ (Q none (bU (bU (bCp M 7 (29 + x1.toNatClampNeg) 7 (29 + x1.toNatClampNeg) (0 : Int32) (1 : Int32) (31 : Int32)) 7 (29 + x1.toNatClampNeg) (0 : Int32).toNatClampNeg (0 : Int32)) 9 1 x1.toNatClampNeg (((bU (bCp M 7 (29 + x1.toNatClampNeg) 7 (29 + x1.toNatClampNeg) (0 : Int32) (1 : Int32) (31 : Int32)) 7 (29 + x1.toNatClampNeg) (0 : Int32).toNatClampNeg (0 : Int32)) 9 1 x1.toNatClampNeg) + (1 : Int32)))))))))))) ∧ (¬ ((M 3 0 5) ≤ x2) → ((vp_in x1 4) ∧ ((vp_in x1 4) ∧ ((¬ (x2 * (42 : Int32)) < 0 ∧ ¬ ((x2 * (42 : Int32)) + (1 : Int32)) < 0 ∧ ¬ (41 : Int32) < 0 ∧ (x2 * (42 : Int32)).toNatClampNeg + (41 : Int32).toNatClampNeg ≤ 168 ∧ ((x2 * (42 : Int32)) + (1 : Int32)).toNatClampNeg + (41 : Int32).toNatClampNeg ≤ 168) ∧ ((vp_in x1 4) ∧ ((vp_in (x2 * (42 : Int32)) 168) ∧ bGo 12 Q 2 [some (cR 3 0), some (cI x1), some (cI (x2 + (1 : Int32)))] [] (bU (bCp M 8 x1.toNatClampNeg 8 x1.toNatClampNeg (x2 * (42 : Int32)) ((x2 * (42 : Int32)) + (1 : Int32)) (41 : Int32)) 8 x1.toNatClampNeg (x2 * (42 : Int32)).toNatClampNeg (0 : Int32))))))))) : bGo 12 Q 2 [some (cR 3 0), some (cI x1), some (cI x2)] [] M := s_iload_n E12_2.1 (k_ E12_2) rfl (s_aload_n E12_3.1 (k_ E12_3) rfl (s_getI0 E12_4.1 (k_ E12_4) rfl (s_icmp_ge E12_7.1 (k_ E12_7) ⟨fun c0 => s_aload_n E12_55.1 (k_ E12_55) rfl (s_getR E12_56.1 (k_ E12_56) rfl rfl (s_iload_n E12_59.1 (k_ E12_59) rfl (s_aaload E12_60.1 (k_ E12_60) rfl ⟨(h.1 c0).1, s_iconst E12_61.1 (k_ E12_61) (s_aload_n E12_62.1 (k_ E12_62) rfl (s_getR E12_63.1 (k_ E12_63) rfl rfl (s_iload_n E12_66.1 (k_ E12_66) rfl (s_aaload E12_67.1 (k_ E12_67) rfl ⟨((h.1 c0).2).1, s_iconst E12_68.1 (k_ E12_68) (s_bipush E12_69.1 (k_ E12_69) (s_acopy E12_71.1 (k_ E12_71) rfl ⟨(((h.1 c0).2).2).1, s_aload_n E12_74.1 (k_ E12_74) rfl (s_getR E12_75.1 (k_ E12_75) rfl rfl (s_iload_n E12_78.1 (k_ E12_78) rfl (s_aaload E12_79.1 (k_ E12_79) rfl ⟨((((h.1 c0).2).2).2).1, s_iconst E12_80.1 (k_ E12_80) (s_iconst E12_81.1 (k_ E12_81) (s_iastore E12_82.1 (k_ E12_82) rfl ⟨(((((h.1 c0).2).2).2).2).1, s_aload_n E12_83.1 (k_ E12_83) rfl (s_getR E12_84.1 (k_ E12_84) rfl rfl (s_iload_n E12_87.1 (k_ E12_87) rfl (s_dup2 E12_88.1 (k_ E12_88) (s_iaload E12_89.1 (k_ E12_89) rfl ⟨((((((h.1 c0).2).2).2).2).2).1, s_iconst E12_90.1 (k_ E12_90) (s_iadd E12_91.1 (k_ E12_91) (s_iastore E12_92.1 (k_ E12_92) rfl ⟨(((((((h.1 c0).2).2).2).2).2).2).1, s_ret E12_93.1 (k_ E12_93) ((((((((h.1 c0).2).2).2).2).2).2).2)⟩))⟩))))⟩))⟩)))⟩))⟩))))⟩))), fun c0 => s_aload_n E12_10.1 (k_ E12_10) rfl (s_getR E12_11.1 (k_ E12_11) rfl rfl (s_iload_n E12_14.1 (k_ E12_14) rfl (s_aaload E12_15.1 (k_ E12_15) rfl ⟨(h.2 c0).1, s_iload_n E12_16.1 (k_ E12_16) rfl (s_bipush E12_17.1 (k_ E12_17) (s_imul E12_19.1 (k_ E12_19) (s_aload_n E12_20.1 (k_ E12_20) rfl (s_getR E12_21.1 (k_ E12_21) rfl rfl (s_iload_n E12_24.1 (k_ E12_24) rfl (s_aaload E12_25.1 (k_ E12_25) rfl ⟨((h.2 c0).2).1, s_iload_n E12_26.1 (k_ E12_26) rfl (s_bipush E12_27.1 (k_ E12_27) (s_imul E12_29.1 (k_ E12_29) (s_iconst E12_30.1 (k_ E12_30) (s_iadd E12_31.1 (k_ E12_31) (s_bipush E12_32.1 (k_ E12_32) (s_acopy E12_34.1 (k_ E12_34) rfl ⟨(((h.2 c0).2).2).1, s_aload_n E12_37.1 (k_ E12_37) rfl (s_getR E12_38.1 (k_ E12_38) rfl rfl (s_iload_n E12_41.1 (k_ E12_41) rfl (s_aaload E12_42.1 (k_ E12_42) rfl ⟨((((h.2 c0).2).2).2).1, s_iload_n E12_43.1 (k_ E12_43) rfl (s_bipush E12_44.1 (k_ E12_44) (s_imul E12_46.1 (k_ E12_46) (s_iconst E12_47.1 (k_ E12_47) (s_iastore E12_48.1 (k_ E12_48) rfl ⟨(((((h.2 c0).2).2).2).2).1, s_iinc E12_49.1 (k_ E12_49) rfl (s_goto E12_52.1 (k_ E12_52) ((((((h.2 c0).2).2).2).2).2))⟩))))⟩)))⟩))))))⟩))))))⟩)))⟩)))
-- 13: X0_clearTerm
theorem E13_0 : aCode 13 0 = (Instr.iconst (-1), 1, [], (-1)) ∧ bMask 13 0 = [] := ⟨rfl, rfl⟩
theorem E13_1 : aCode 13 1 = (Instr.istore_n 2, 2, [], 0) ∧ bMask 13 1 = [] := ⟨rfl, rfl⟩
theorem E13_2 : aCode 13 2 = (Instr.iconst 0, 3, [], 0) ∧ bMask 13 2 = [] := ⟨rfl, rfl⟩
theorem E13_3 : aCode 13 3 = (Instr.istore_n 3, 4, [], 0) ∧ bMask 13 3 = [] := ⟨rfl, rfl⟩
theorem E13_4 : aCode 13 4 = (Instr.iload_n 3, 5, [], 0) := rfl
theorem E13_5 : aCode 13 5 = (Instr.aload_n 0, 6, [], 0) ∧ bMask 13 5 = [] := ⟨rfl, rfl⟩
theorem E13_6 : aCode 13 6 = (Instr.getfield 36, 9, [0, 0, 5, 0], 0) ∧ bMask 13 6 = [] := ⟨rfl, rfl⟩
theorem E13_9 : aCode 13 9 = (Instr.if_icmp .ge 39, 12, [48], 0) ∧ bMask 13 9 = [] := ⟨rfl, rfl⟩
theorem E13_12 : aCode 13 12 = (Instr.aload_n 0, 13, [], 0) ∧ bMask 13 12 = [] := ⟨rfl, rfl⟩
theorem E13_13 : aCode 13 13 = (Instr.getfield 16, 16, [6, 0, 2, 2], 0) ∧ bMask 13 13 = [] := ⟨rfl, rfl⟩
theorem E13_16 : aCode 13 16 = (Instr.iload_n 3, 17, [], 0) ∧ bMask 13 16 = [] := ⟨rfl, rfl⟩
theorem E13_17 : aCode 13 17 = (Instr.aaload, 18, [2], 0) ∧ bMask 13 17 = [] := ⟨rfl, rfl⟩
theorem E13_18 : aCode 13 18 = (Instr.iload_n 1, 19, [], 0) ∧ bMask 13 18 = [] := ⟨rfl, rfl⟩
theorem E13_19 : aCode 13 19 = (Instr.iaload, 20, [0], 0) ∧ bMask 13 19 = [] := ⟨rfl, rfl⟩
theorem E13_20 : aCode 13 20 = (Instr.ifCond .eq 22, 23, [42], 0) ∧ bMask 13 20 = [] := ⟨rfl, rfl⟩
theorem E13_23 : aCode 13 23 = (Instr.iload_n 2, 24, [], 0) ∧ bMask 13 23 = [] := ⟨rfl, rfl⟩
theorem E13_24 : aCode 13 24 = (Instr.ifCond .lt 16, 27, [40], 0) ∧ bMask 13 24 = [] := ⟨rfl, rfl⟩
theorem E13_27 : aCode 13 27 = (Instr.aload_n 0, 28, [], 0) ∧ bMask 13 27 = [] := ⟨rfl, rfl⟩
theorem E13_28 : aCode 13 28 = (Instr.iload_n 3, 29, [], 0) ∧ bMask 13 28 = [] := ⟨rfl, rfl⟩
theorem E13_29 : aCode 13 29 = (Instr.invokevirtual 59, 32, [8, 2, 1, 0, 0, 3], 0) ∧ bMask 13 29 = [] := ⟨rfl, rfl⟩
theorem E13_32 : aCode 13 32 = (Instr.aload_n 0, 33, [], 0) ∧ bMask 13 32 = [] := ⟨rfl, rfl⟩
theorem E13_33 : aCode 13 33 = (Instr.iload_n 2, 34, [], 0) ∧ bMask 13 33 = [] := ⟨rfl, rfl⟩
theorem E13_34 : aCode 13 34 = (Instr.invokevirtual 59, 37, [8, 2, 1, 0, 0, 3], 0) ∧ bMask 13 34 = [] := ⟨rfl, rfl⟩
theorem E13_37 : aCode 13 37 = (Instr.if_icmp .ge 5, 40, [42], 0) ∧ bMask 13 37 = [] := ⟨rfl, rfl⟩
theorem E13_40 : aCode 13 40 = (Instr.iload_n 3, 41, [], 0) ∧ bMask 13 40 = [] := ⟨rfl, rfl⟩
theorem E13_41 : aCode 13 41 = (Instr.istore_n 2, 42, [], 0) ∧ bMask 13 41 = [] := ⟨rfl, rfl⟩
theorem E13_42 : aCode 13 42 = (Instr.iinc 3 1, 45, [], 1) ∧ bMask 13 42 = [] := ⟨rfl, rfl⟩
theorem E13_45 : aCode 13 45 = (Instr.goto (-41), 4, [], 0) ∧ bMask 13 45 = [] := ⟨rfl, rfl⟩
theorem E13_48 : aCode 13 48 = (Instr.iload_n 2, 49, [], 0) ∧ bMask 13 48 = [] := ⟨rfl, rfl⟩
theorem E13_49 : aCode 13 49 = (Instr.ifCond .ge 4, 52, [53], 0) ∧ bMask 13 49 = [] := ⟨rfl, rfl⟩
theorem E13_52 : aCode 13 52 = (Instr.return_, 53, [], 0) ∧ bMask 13 52 = [] := ⟨rfl, rfl⟩
theorem E13_53 : aCode 13 53 = (Instr.aload_n 0, 54, [], 0) ∧ bMask 13 53 = [] := ⟨rfl, rfl⟩
theorem E13_54 : aCode 13 54 = (Instr.getfield 26, 57, [5, 0, 0, 2], 0) ∧ bMask 13 54 = [] := ⟨rfl, rfl⟩
theorem E13_57 : aCode 13 57 = (Instr.aload_n 0, 58, [], 0) ∧ bMask 13 57 = [] := ⟨rfl, rfl⟩
theorem E13_58 : aCode 13 58 = (Instr.getfield 16, 61, [6, 0, 2, 2], 0) ∧ bMask 13 58 = [] := ⟨rfl, rfl⟩
theorem E13_61 : aCode 13 61 = (Instr.iload_n 2, 62, [], 0) ∧ bMask 13 61 = [] := ⟨rfl, rfl⟩
theorem E13_62 : aCode 13 62 = (Instr.aaload, 63, [2], 0) ∧ bMask 13 62 = [] := ⟨rfl, rfl⟩
theorem E13_63 : aCode 13 63 = (Instr.iload_n 1, 64, [], 0) ∧ bMask 13 63 = [] := ⟨rfl, rfl⟩
theorem E13_64 : aCode 13 64 = (Instr.iaload, 65, [0], 0) ∧ bMask 13 64 = [] := ⟨rfl, rfl⟩
theorem E13_65 : aCode 13 65 = (Instr.invokevirtual 66, 68, [9, 2, 1, 2, 0, 4], 0) ∧ bMask 13 65 = [] := ⟨rfl, rfl⟩
theorem E13_68 : aCode 13 68 = (Instr.istore_n 3, 69, [], 0) ∧ bMask 13 68 = [] := ⟨rfl, rfl⟩
theorem E13_69 : aCode 13 69 = (Instr.iconst 0, 70, [], 0) ∧ bMask 13 69 = [] := ⟨rfl, rfl⟩
theorem E13_70 : aCode 13 70 = (Instr.istore 4, 72, [], 0) ∧ bMask 13 70 = [] := ⟨rfl, rfl⟩
theorem E13_72 : aCode 13 72 = (Instr.iload 4, 74, [], 0) ∧ bMask 13 72 = [] := ⟨rfl, rfl⟩
theorem E13_74 : aCode 13 74 = (Instr.aload_n 0, 75, [], 0) ∧ bMask 13 74 = [] := ⟨rfl, rfl⟩
theorem E13_75 : aCode 13 75 = (Instr.getfield 36, 78, [0, 0, 5, 0], 0) ∧ bMask 13 75 = [] := ⟨rfl, rfl⟩
theorem E13_78 : aCode 13 78 = (Instr.if_icmp .ge 53, 81, [131], 0) ∧ bMask 13 78 = [] := ⟨rfl, rfl⟩
theorem E13_81 : aCode 13 81 = (Instr.iload 4, 83, [], 0) ∧ bMask 13 81 = [] := ⟨rfl, rfl⟩
theorem E13_83 : aCode 13 83 = (Instr.iload_n 2, 84, [], 0) ∧ bMask 13 83 = [] := ⟨rfl, rfl⟩
theorem E13_84 : aCode 13 84 = (Instr.if_icmp .eq 41, 87, [125], 0) ∧ bMask 13 84 = [] := ⟨rfl, rfl⟩
theorem E13_87 : aCode 13 87 = (Instr.aload_n 0, 88, [], 0) ∧ bMask 13 87 = [] := ⟨rfl, rfl⟩
theorem E13_88 : aCode 13 88 = (Instr.getfield 16, 91, [6, 0, 2, 2], 0) ∧ bMask 13 88 = [] := ⟨rfl, rfl⟩
theorem E13_91 : aCode 13 91 = (Instr.iload 4, 93, [], 0) ∧ bMask 13 91 = [] := ⟨rfl, rfl⟩
theorem E13_93 : aCode 13 93 = (Instr.aaload, 94, [2], 0) ∧ bMask 13 93 = [] := ⟨rfl, rfl⟩
theorem E13_94 : aCode 13 94 = (Instr.iload_n 1, 95, [], 0) ∧ bMask 13 94 = [] := ⟨rfl, rfl⟩
theorem E13_95 : aCode 13 95 = (Instr.iaload, 96, [0], 0) ∧ bMask 13 95 = [] := ⟨rfl, rfl⟩
theorem E13_96 : aCode 13 96 = (Instr.ifCond .eq 29, 99, [125], 0) ∧ bMask 13 96 = [] := ⟨rfl, rfl⟩
theorem E13_99 : aCode 13 99 = (Instr.aload_n 0, 100, [], 0) ∧ bMask 13 99 = [] := ⟨rfl, rfl⟩
theorem E13_100 : aCode 13 100 = (Instr.iload 4, 102, [], 0) ∧ bMask 13 100 = [] := ⟨rfl, rfl⟩
theorem E13_102 : aCode 13 102 = (Instr.aload_n 0, 103, [], 0) ∧ bMask 13 102 = [] := ⟨rfl, rfl⟩
theorem E13_103 : aCode 13 103 = (Instr.getfield 26, 106, [5, 0, 0, 2], 0) ∧ bMask 13 103 = [] := ⟨rfl, rfl⟩
theorem E13_106 : aCode 13 106 = (Instr.aload_n 0, 107, [], 0) ∧ bMask 13 106 = [] := ⟨rfl, rfl⟩
theorem E13_107 : aCode 13 107 = (Instr.getfield 16, 110, [6, 0, 2, 2], 0) ∧ bMask 13 107 = [] := ⟨rfl, rfl⟩
theorem E13_110 : aCode 13 110 = (Instr.iload 4, 112, [], 0) ∧ bMask 13 110 = [] := ⟨rfl, rfl⟩
theorem E13_112 : aCode 13 112 = (Instr.aaload, 113, [2], 0) ∧ bMask 13 112 = [] := ⟨rfl, rfl⟩
theorem E13_113 : aCode 13 113 = (Instr.iload_n 1, 114, [], 0) ∧ bMask 13 113 = [] := ⟨rfl, rfl⟩
theorem E13_114 : aCode 13 114 = (Instr.iaload, 115, [0], 0) ∧ bMask 13 114 = [] := ⟨rfl, rfl⟩
theorem E13_115 : aCode 13 115 = (Instr.iload_n 3, 116, [], 0) ∧ bMask 13 115 = [] := ⟨rfl, rfl⟩
theorem E13_116 : aCode 13 116 = (Instr.imul, 117, [], 0) ∧ bMask 13 116 = [] := ⟨rfl, rfl⟩
theorem E13_117 : aCode 13 117 = (Instr.invokevirtual 71, 120, [10, 2, 1, 2, 0, 2], 0) ∧ bMask 13 117 = [] := ⟨rfl, rfl⟩
theorem E13_120 : aCode 13 120 = (Instr.iload_n 2, 121, [], 0) ∧ bMask 13 120 = [] := ⟨rfl, rfl⟩
theorem E13_121 : aCode 13 121 = (Instr.iconst 0, 122, [], 0) ∧ bMask 13 121 = [] := ⟨rfl, rfl⟩
theorem E13_122 : aCode 13 122 = (Instr.invokevirtual 74, 125, [11, 5, 0, 0, 0, 5], 0) ∧ bMask 13 122 = [] := ⟨rfl, rfl⟩
theorem E13_125 : aCode 13 125 = (Instr.iinc 4 1, 128, [], 1) ∧ bMask 13 125 = [] := ⟨rfl, rfl⟩
theorem E13_128 : aCode 13 128 = (Instr.goto (-56), 72, [], 0) ∧ bMask 13 128 = [] := ⟨rfl, rfl⟩
theorem E13_131 : aCode 13 131 = (Instr.aload_n 0, 132, [], 0) ∧ bMask 13 131 = [] := ⟨rfl, rfl⟩
theorem E13_132 : aCode 13 132 = (Instr.iload_n 2, 133, [], 0) ∧ bMask 13 132 = [] := ⟨rfl, rfl⟩
theorem E13_133 : aCode 13 133 = (Instr.invokevirtual 78, 136, [12, 2, 0, 0, 0, 6], 0) ∧ bMask 13 133 = [] := ⟨rfl, rfl⟩
theorem E13_136 : aCode 13 136 = (Instr.return_, 137, [], 0) ∧ bMask 13 136 = [] := ⟨rfl, rfl⟩
theorem g_X0_clearTerm_0 {Q : bQ} {M : bM} {x1 : Int32} (h : bGo 13 Q 4 [some (cR 3 0), some (cI x1), some (cI (-1 : Int32)), some (cI (0 : Int32)), none] [] M) : bCall 13 [cR 3 0, cI x1] M Q := s_iconst E13_0.1 (k_ E13_0) (s_istore_n E13_1.1 (k_ E13_1) (s_iconst E13_2.1 (k_ E13_2) (s_istore_n E13_3.1 (k_ E13_3) (h))))
theorem g_X0_clearTerm_4 {Q : bQ} {M : bM} {x1 : Int32} {x2 : Int32} {x3 : Int32} {o4 : Option bV} (h : (((M 3 0 5) ≤ x3) → (((0 ≤ x2) → ((vp_in x2 4) ∧ ((vp_in x1 32) ∧ (bCall 9 [cR 1 0, cI (M 7 (29 + x2.toNatClampNeg) x1.toNatClampNeg)] M (fun v1 M2 => bV1 v1 fun r3 => (bGo 13 Q 72 [some (cR 3 0), some (cI x1), some (cI x2), some (cI r3), some (cI (0 : Int32))] [] M2)))))) ∧ (¬ (0 ≤ x2) → (Q none M)))) ∧ (¬ ((M 3 0 5) ≤ x3) → ((vp_in x3 4) ∧ ((vp_in x1 32) ∧ ((((M 7 (29 + x3.toNatClampNeg) x1.toNatClampNeg) = 0) → bGo 13 Q 4 [some (cR 3 0), some (cI x1), some (cI x2), some (cI (x3 + (1 : Int32))), none] [] M) ∧ (¬ ((M 7 (29 + x3.toNatClampNeg) x1.toNatClampNeg) = 0) → (((x2 < 0) → bGo 13 Q 4 [some (cR 3 0), some (cI x1), some (cI x3), some (cI (x3 + (1 : Int32))), none] [] M) ∧ (¬ (x2 < 0) → (bCall 8 [cR 3 0, cI x3] M (fun v4 M5 => bV1 v4 fun r6 => (bCall 8 [cR 3 0, cI x2] M5 (fun v7 M8 => bV1 v7 fun r9 => (((r9 ≤ r6) → bGo 13 Q 4 [some (cR 3 0), some (cI x1), some (cI x2), some (cI (x3 + (1 : Int32))), none] [] M8) ∧ (¬ (r9 ≤ r6) → bGo 13 Q 4 [some (cR 3 0), some (cI x1), some (cI x3), some (cI (x3 + (1 : Int32))), none] [] M8)))))))))))))) : bGo 13 Q 4 [some (cR 3 0), some (cI x1), some (cI x2), some (cI x3), o4] [] M := s_iload_n E13_4 rfl rfl (s_aload_n E13_5.1 (k_ E13_5) rfl (s_getI0 E13_6.1 (k_ E13_6) rfl (s_icmp_ge E13_9.1 (k_ E13_9) ⟨fun c0 => s_iload_n E13_48.1 (k_ E13_48) rfl (s_if_ge E13_49.1 (k_ E13_49) ⟨fun c1 => s_aload_n E13_53.1 (k_ E13_53) rfl (s_getR E13_54.1 (k_ E13_54) rfl rfl (s_aload_n E13_57.1 (k_ E13_57) rfl (s_getR E13_58.1 (k_ E13_58) rfl rfl (s_iload_n E13_61.1 (k_ E13_61) rfl (s_aaload E13_62.1 (k_ E13_62) rfl ⟨((h.1 c0).1 c1).1, s_iload_n E13_63.1 (k_ E13_63) rfl (s_iaload E13_64.1 (k_ E13_64) rfl ⟨(((h.1 c0).1 c1).2).1, s_vcall1 E13_65.1 (k_ E13_65) rfl rfl rfl ((((h.1 c0).1 c1).2).2) (fun M2 r3 z2 => s_istore_n E13_68.1 (k_ E13_68) (s_iconst E13_69.1 (k_ E13_69) (s_istore E13_70.1 (k_ E13_70) (z2))))⟩)⟩))))), fun c1 => s_ret E13_52.1 (k_ E13_52) ((h.1 c0).2 c1)⟩), fun c0 => s_aload_n E13_12.1 (k_ E13_12) rfl (s_getR E13_13.1 (k_ E13_13) rfl rfl (s_iload_n E13_16.1 (k_ E13_16) rfl (s_aaload E13_17.1 (k_ E13_17) rfl ⟨(h.2 c0).1, s_iload_n E13_18.1 (k_ E13_18) rfl (s_iaload E13_19.1 (k_ E13_19) rfl ⟨((h.2 c0).2).1, s_if_eq E13_20.1 (k_ E13_20) ⟨fun c3 => s_iinc E13_42.1 (k_ E13_42) rfl (s_goto E13_45.1 (k_ E13_45) ((((h.2 c0).2).2).1 c3)), fun c3 => s_iload_n E13_23.1 (k_ E13_23) rfl (s_if_lt E13_24.1 (k_ E13_24) ⟨fun c4 => s_iload_n E13_40.1 (k_ E13_40) rfl (s_istore_n E13_41.1 (k_ E13_41) (s_iinc E13_42.1 (k_ E13_42) rfl (s_goto E13_45.1 (k_ E13_45) (((((h.2 c0).2).2).2 c3).1 c4)))), fun c4 => s_aload_n E13_27.1 (k_ E13_27) rfl (s_iload_n E13_28.1 (k_ E13_28) rfl (s_vcall1 E13_29.1 (k_ E13_29) rfl rfl rfl (((((h.2 c0).2).2).2 c3).2 c4) (fun M5 r6 z5 => s_aload_n E13_32.1 (k_ E13_32) rfl (s_iload_n E13_33.1 (k_ E13_33) rfl (s_vcall1 E13_34.1 (k_ E13_34) rfl rfl rfl z5 (fun M8 r9 z6 => s_icmp_ge E13_37.1 (k_ E13_37) ⟨fun c7 => s_iinc E13_42.1 (k_ E13_42) rfl (s_goto E13_45.1 (k_ E13_45) (z6.1 c7)), fun c7 => s_iload_n E13_40.1 (k_ E13_40) rfl (s_istore_n E13_41.1 (k_ E13_41) (s_iinc E13_42.1 (k_ E13_42) rfl (s_goto E13_45.1 (k_ E13_45) (z6.2 c7))))⟩))))))⟩)⟩⟩)⟩)))⟩)))
theorem g_X0_clearTerm_72 {Q : bQ} {M : bM} {x1 : Int32} {x2 : Int32} {x3 : Int32} {x4 : Int32} (h : (((M 3 0 5) ≤ x4) → (bCall 12 [cR 3 0, cI x2] M (fun v1 M2 => bV0 v1 (Q none M2)))) ∧ (¬ ((M 3 0 5) ≤ x4) → (((x4 = x2) → bGo 13 Q 72 [some (cR 3 0), some (cI x1), some (cI x2), some (cI x3), some (cI (x4 + (1 : Int32)))] [] M) ∧ (¬ (x4 = x2) → ((vp_in x4 4) ∧ ((vp_in x1 32) ∧ ((((M 7 (29 + x4.toNatClampNeg) x1.toNatClampNeg) = 0) → bGo 13 Q 72 [some (cR 3 0), some (cI x1), some (cI x2), some (cI x3), some (cI (x4 + (1 : Int32)))] [] M) ∧ (¬ ((M 7 (29 + x4.toNatClampNeg) x1.toNatClampNeg) = 0) → ((vp_in x4 4) ∧ ((vp_in x1 32) ∧ (bCall 10 [cR 1 0, cI ((M 7 (29 + x4.toNatClampNeg) x1.toNatClampNeg) * x3)] M (fun v3 M4 => bV1 v3 fun r5 => (bCall 11 [cR 3 0, cI x4, cI r5, cI x2, cI (0 : Int32)] M4 (fun v6 M7 => bV0 v6 (bGo 13 Q 72 [some (cR 3 0), some (cI x1), some (cI x2), some (cI x3), some (cI (x4 + (1 : Int32)))] [] M7))))))))))))))) : bGo 13 Q 72 [some (cR 3 0), some (cI x1), some (cI x2), some (cI x3), some (cI x4)] [] M := s_iload E13_72.1 (k_ E13_72) rfl (s_aload_n E13_74.1 (k_ E13_74) rfl (s_getI0 E13_75.1 (k_ E13_75) rfl (s_icmp_ge E13_78.1 (k_ E13_78) ⟨fun c8 => s_aload_n E13_131.1 (k_ E13_131) rfl (s_iload_n E13_132.1 (k_ E13_132) rfl (s_vcall0 E13_133.1 (k_ E13_133) rfl rfl rfl (h.1 c8) (fun M2 z9 => s_ret E13_136.1 (k_ E13_136) z9))), fun c8 => s_iload E13_81.1 (k_ E13_81) rfl (s_iload_n E13_83.1 (k_ E13_83) rfl (s_icmp_eq E13_84.1 (k_ E13_84) ⟨fun c10 => s_iinc E13_125.1 (k_ E13_125) rfl (s_goto E13_128.1 (k_ E13_128) ((h.2 c8).1 c10)), fun c10 => s_aload_n E13_87.1 (k_ E13_87) rfl (s_getR E13_88.1 (k_ E13_88) rfl rfl (s_iload E13_91.1 (k_ E13_91) rfl (s_aaload E13_93.1 (k_ E13_93) rfl ⟨((h.2 c8).2 c10).1, s_iload_n E13_94.1 (k_ E13_94) rfl (s_iaload E13_95.1 (k_ E13_95) rfl ⟨(((h.2 c8).2 c10).2).1, s_if_eq E13_96.1 (k_ E13_96) ⟨fun c11 => s_iinc E13_125.1 (k_ E13_125) rfl (s_goto E13_128.1 (k_ E13_128) (((((h.2 c8).2 c10).2).2).1 c11)), fun c11 => s_aload_n E13_99.1 (k_ E13_99) rfl (s_iload E13_100.1 (k_ E13_100) rfl (s_aload_n E13_102.1 (k_ E13_102) rfl (s_getR E13_103.1 (k_ E13_103) rfl rfl (s_aload_n E13_106.1 (k_ E13_106) rfl (s_getR E13_107.1 (k_ E13_107) rfl rfl (s_iload E13_110.1 (k_ E13_110) rfl (s_aaload E13_112.1 (k_ E13_112) rfl ⟨(((((h.2 c8).2 c10).2).2).2 c11).1, s_iload_n E13_113.1 (k_ E13_113) rfl (s_iaload E13_114.1 (k_ E13_114) rfl ⟨((((((h.2 c8).2 c10).2).2).2 c11).2).1, s_iload_n E13_115.1 (k_ E13_115) rfl (s_imul E13_116.1 (k_ E13_116) (s_vcall1 E13_117.1 (k_ E13_117) rfl rfl rfl (((((((h.2 c8).2 c10).2).2).2 c11).2).2) (fun M4 r5 z12 => s_iload_n E13_120.1 (k_ E13_120) rfl (s_iconst E13_121.1 (k_ E13_121) (s_vcall0 E13_122.1 (k_ E13_122) rfl rfl rfl z12 (fun M7 z13 => s_iinc E13_125.1 (k_ E13_125) rfl (s_goto E13_128.1 (k_ E13_128) (z13))))))))⟩)⟩)))))))⟩⟩)⟩)))⟩))⟩)))
-- 14: X0_coefficient
theorem E14_0 : aCode 14 0 = (Instr.aload_n 0, 1, [], 0) ∧ bMask 14 0 = [] := ⟨rfl, rfl⟩
theorem E14_1 : aCode 14 1 = (Instr.getfield 13, 4, [4, 0, 1, 2], 0) ∧ bMask 14 1 = [] := ⟨rfl, rfl⟩
theorem E14_4 : aCode 14 4 = (Instr.iload_n 1, 5, [], 0) ∧ bMask 14 4 = [] := ⟨rfl, rfl⟩
theorem E14_5 : aCode 14 5 = (Instr.aaload, 6, [2], 0) ∧ bMask 14 5 = [] := ⟨rfl, rfl⟩
theorem E14_6 : aCode 14 6 = (Instr.iload_n 2, 7, [], 0) ∧ bMask 14 6 = [] := ⟨rfl, rfl⟩
theorem E14_7 : aCode 14 7 = (Instr.bipush 42, 9, [], 42) ∧ bMask 14 7 = [] := ⟨rfl, rfl⟩
theorem E14_9 : aCode 14 9 = (Instr.imul, 10, [], 0) ∧ bMask 14 9 = [] := ⟨rfl, rfl⟩
theorem E14_10 : aCode 14 10 = (Instr.iload_n 3, 11, [], 0) ∧ bMask 14 10 = [] := ⟨rfl, rfl⟩
theorem E14_11 : aCode 14 11 = (Instr.iadd, 12, [], 0) ∧ bMask 14 11 = [] := ⟨rfl, rfl⟩
theorem E14_12 : aCode 14 12 = (Instr.iaload, 13, [0], 0) ∧ bMask 14 12 = [] := ⟨rfl, rfl⟩
theorem E14_13 : aCode 14 13 = (Instr.ireturn, 14, [0], 0) ∧ bMask 14 13 = [] := ⟨rfl, rfl⟩
theorem g_X0_coefficient_0 {Q : bQ} {M : bM} {x1 : Int32} {x2 : Int32} {x3 : Int32} (h : (vp_in x1 4) ∧ ((vp_in ((x2 * (42 : Int32)) + x3) 168) ∧ (Q (some (cI (M 8 x1.toNatClampNeg ((x2 * (42 : Int32)) + x3).toNatClampNeg))) M))) : bCall 14 [cR 3 0, cI x1, cI x2, cI x3] M Q := s_aload_n E14_0.1 (k_ E14_0) rfl (s_getR E14_1.1 (k_ E14_1) rfl rfl (s_iload_n E14_4.1 (k_ E14_4) rfl (s_aaload E14_5.1 (k_ E14_5) rfl ⟨h.1, s_iload_n E14_6.1 (k_ E14_6) rfl (s_bipush E14_7.1 (k_ E14_7) (s_imul E14_9.1 (k_ E14_9) (s_iload_n E14_10.1 (k_ E14_10) rfl (s_iadd E14_11.1 (k_ E14_11) (s_iaload E14_12.1 (k_ E14_12) rfl ⟨h.2.1, s_iret E14_13.1 (k_ E14_13) h.2.2⟩)))))⟩)))
-- 15: X0_reduce
theorem E15_0 : aCode 15 0 = (Instr.aload_n 0, 1, [], 0) ∧ bMask 15 0 = [] := ⟨rfl, rfl⟩
theorem E15_1 : aCode 15 1 = (Instr.iload_n 1, 2, [], 0) ∧ bMask 15 1 = [] := ⟨rfl, rfl⟩
theorem E15_2 : aCode 15 2 = (Instr.invokevirtual 59, 5, [8, 2, 1, 0, 0, 3], 0) ∧ bMask 15 2 = [] := ⟨rfl, rfl⟩
theorem E15_5 : aCode 15 5 = (Instr.istore_n 2, 6, [], 0) ∧ bMask 15 5 = [] := ⟨rfl, rfl⟩
theorem E15_6 : aCode 15 6 = (Instr.iload_n 2, 7, [], 0) := rfl
theorem E15_7 : aCode 15 7 = (Instr.ifCond .lt 93, 10, [100], 0) ∧ bMask 15 7 = [] := ⟨rfl, rfl⟩
theorem E15_10 : aCode 15 10 = (Instr.aload_n 0, 11, [], 0) ∧ bMask 15 10 = [] := ⟨rfl, rfl⟩
theorem E15_11 : aCode 15 11 = (Instr.getfield 36, 14, [0, 0, 5, 0], 0) ∧ bMask 15 11 = [] := ⟨rfl, rfl⟩
theorem E15_14 : aCode 15 14 = (Instr.iconst 1, 15, [], 1) ∧ bMask 15 14 = [] := ⟨rfl, rfl⟩
theorem E15_15 : aCode 15 15 = (Instr.isub, 16, [], 0) ∧ bMask 15 15 = [] := ⟨rfl, rfl⟩
theorem E15_16 : aCode 15 16 = (Instr.istore_n 3, 17, [], 0) ∧ bMask 15 16 = [] := ⟨rfl, rfl⟩
theorem E15_17 : aCode 15 17 = (Instr.iload_n 3, 18, [], 0) := rfl
theorem E15_18 : aCode 15 18 = (Instr.ifCond .lt 76, 21, [94], 0) ∧ bMask 15 18 = [] := ⟨rfl, rfl⟩
theorem E15_21 : aCode 15 21 = (Instr.iload_n 2, 22, [], 0) ∧ bMask 15 21 = [] := ⟨rfl, rfl⟩
theorem E15_22 : aCode 15 22 = (Instr.aload_n 0, 23, [], 0) ∧ bMask 15 22 = [] := ⟨rfl, rfl⟩
theorem E15_23 : aCode 15 23 = (Instr.getfield 23, 26, [2, 0, 4, 2], 0) ∧ bMask 15 23 = [] := ⟨rfl, rfl⟩
theorem E15_26 : aCode 15 26 = (Instr.iload_n 3, 27, [], 0) ∧ bMask 15 26 = [] := ⟨rfl, rfl⟩
theorem E15_27 : aCode 15 27 = (Instr.iaload, 28, [0], 0) ∧ bMask 15 27 = [] := ⟨rfl, rfl⟩
theorem E15_28 : aCode 15 28 = (Instr.isub, 29, [], 0) ∧ bMask 15 28 = [] := ⟨rfl, rfl⟩
theorem E15_29 : aCode 15 29 = (Instr.istore 4, 31, [], 0) ∧ bMask 15 29 = [] := ⟨rfl, rfl⟩
theorem E15_31 : aCode 15 31 = (Instr.iload_n 3, 32, [], 0) ∧ bMask 15 31 = [] := ⟨rfl, rfl⟩
theorem E15_32 : aCode 15 32 = (Instr.iload_n 1, 33, [], 0) ∧ bMask 15 32 = [] := ⟨rfl, rfl⟩
theorem E15_33 : aCode 15 33 = (Instr.if_icmp .eq 55, 36, [88], 0) ∧ bMask 15 33 = [] := ⟨rfl, rfl⟩
theorem E15_36 : aCode 15 36 = (Instr.iload 4, 38, [], 0) ∧ bMask 15 36 = [] := ⟨rfl, rfl⟩
theorem E15_38 : aCode 15 38 = (Instr.aload_n 0, 39, [], 0) ∧ bMask 15 38 = [] := ⟨rfl, rfl⟩
theorem E15_39 : aCode 15 39 = (Instr.getfield 19, 42, [1, 0, 3, 2], 0) ∧ bMask 15 39 = [] := ⟨rfl, rfl⟩
theorem E15_42 : aCode 15 42 = (Instr.iload_n 3, 43, [], 0) ∧ bMask 15 42 = [] := ⟨rfl, rfl⟩
theorem E15_43 : aCode 15 43 = (Instr.iaload, 44, [0], 0) ∧ bMask 15 43 = [] := ⟨rfl, rfl⟩
theorem E15_44 : aCode 15 44 = (Instr.if_icmp .lt 44, 47, [88], 0) ∧ bMask 15 44 = [] := ⟨rfl, rfl⟩
theorem E15_47 : aCode 15 47 = (Instr.iload 4, 49, [], 0) ∧ bMask 15 47 = [] := ⟨rfl, rfl⟩
theorem E15_49 : aCode 15 49 = (Instr.bipush 42, 51, [], 42) ∧ bMask 15 49 = [] := ⟨rfl, rfl⟩
theorem E15_51 : aCode 15 51 = (Instr.if_icmp .ge 37, 54, [88], 0) ∧ bMask 15 51 = [] := ⟨rfl, rfl⟩
theorem E15_54 : aCode 15 54 = (Instr.aload_n 0, 55, [], 0) ∧ bMask 15 54 = [] := ⟨rfl, rfl⟩
theorem E15_55 : aCode 15 55 = (Instr.iload_n 1, 56, [], 0) ∧ bMask 15 55 = [] := ⟨rfl, rfl⟩
theorem E15_56 : aCode 15 56 = (Instr.iload_n 3, 57, [], 0) ∧ bMask 15 56 = [] := ⟨rfl, rfl⟩
theorem E15_57 : aCode 15 57 = (Instr.iload 4, 59, [], 0) ∧ bMask 15 57 = [] := ⟨rfl, rfl⟩
theorem E15_59 : aCode 15 59 = (Instr.invokevirtual 81, 62, [14, 4, 1, 0, 0, 7], 0) ∧ bMask 15 59 = [] := ⟨rfl, rfl⟩
theorem E15_62 : aCode 15 62 = (Instr.ifCond .eq 26, 65, [88], 0) ∧ bMask 15 62 = [] := ⟨rfl, rfl⟩
theorem E15_65 : aCode 15 65 = (Instr.aload_n 0, 66, [], 0) ∧ bMask 15 65 = [] := ⟨rfl, rfl⟩
theorem E15_66 : aCode 15 66 = (Instr.iload_n 1, 67, [], 0) ∧ bMask 15 66 = [] := ⟨rfl, rfl⟩
theorem E15_67 : aCode 15 67 = (Instr.aload_n 0, 68, [], 0) ∧ bMask 15 67 = [] := ⟨rfl, rfl⟩
theorem E15_68 : aCode 15 68 = (Instr.iload_n 1, 69, [], 0) ∧ bMask 15 68 = [] := ⟨rfl, rfl⟩
theorem E15_69 : aCode 15 69 = (Instr.iload_n 3, 70, [], 0) ∧ bMask 15 69 = [] := ⟨rfl, rfl⟩
theorem E15_70 : aCode 15 70 = (Instr.iload 4, 72, [], 0) ∧ bMask 15 70 = [] := ⟨rfl, rfl⟩
theorem E15_72 : aCode 15 72 = (Instr.invokevirtual 81, 75, [14, 4, 1, 0, 0, 7], 0) ∧ bMask 15 72 = [] := ⟨rfl, rfl⟩
theorem E15_75 : aCode 15 75 = (Instr.iload_n 3, 76, [], 0) ∧ bMask 15 75 = [] := ⟨rfl, rfl⟩
theorem E15_76 : aCode 15 76 = (Instr.iload 4, 78, [], 0) ∧ bMask 15 76 = [] := ⟨rfl, rfl⟩
theorem E15_78 : aCode 15 78 = (Instr.aload_n 0, 79, [], 0) ∧ bMask 15 78 = [] := ⟨rfl, rfl⟩
theorem E15_79 : aCode 15 79 = (Instr.getfield 19, 82, [1, 0, 3, 2], 0) ∧ bMask 15 79 = [] := ⟨rfl, rfl⟩
theorem E15_82 : aCode 15 82 = (Instr.iload_n 3, 83, [], 0) ∧ bMask 15 82 = [] := ⟨rfl, rfl⟩
theorem E15_83 : aCode 15 83 = (Instr.iaload, 84, [0], 0) ∧ bMask 15 83 = [] := ⟨rfl, rfl⟩
theorem E15_84 : aCode 15 84 = (Instr.isub, 85, [], 0) ∧ bMask 15 84 = [] := ⟨rfl, rfl⟩
theorem E15_85 : aCode 15 85 = (Instr.invokevirtual 74, 88, [11, 5, 0, 0, 0, 5], 0) ∧ bMask 15 85 = [] := ⟨rfl, rfl⟩
theorem E15_88 : aCode 15 88 = (Instr.iinc 3 (-1), 91, [], (-1)) ∧ bMask 15 88 = [] := ⟨rfl, rfl⟩
theorem E15_91 : aCode 15 91 = (Instr.goto (-74), 17, [], 0) ∧ bMask 15 91 = [] := ⟨rfl, rfl⟩
theorem E15_94 : aCode 15 94 = (Instr.iinc 2 (-1), 97, [], (-1)) ∧ bMask 15 94 = [] := ⟨rfl, rfl⟩
theorem E15_97 : aCode 15 97 = (Instr.goto (-91), 6, [], 0) ∧ bMask 15 97 = [] := ⟨rfl, rfl⟩
theorem E15_100 : aCode 15 100 = (Instr.return_, 101, [], 0) ∧ bMask 15 100 = [] := ⟨rfl, rfl⟩
theorem g_X0_reduce_0 {Q : bQ} {M : bM} {x1 : Int32} (h : bCall 8 [cR 3 0, cI x1] M (fun v1 M2 => bV1 v1 fun r3 => (bGo 15 Q 6 [some (cR 3 0), some (cI x1), some (cI r3), none, none] [] M2))) : bCall 15 [cR 3 0, cI x1] M Q := s_aload_n E15_0.1 (k_ E15_0) rfl (s_iload_n E15_1.1 (k_ E15_1) rfl (s_vcall1 E15_2.1 (k_ E15_2) rfl rfl rfl h (fun M2 r3 z0 => s_istore_n E15_5.1 (k_ E15_5) (z0))))
theorem g_X0_reduce_6 {Q : bQ} {M : bM} {x1 : Int32} {x2 : Int32} {o3 : Option bV} {o4 : Option bV} (h : ((x2 < 0) → (Q none M)) ∧ (¬ (x2 < 0) → bGo 15 Q 17 [some (cR 3 0), some (cI x1), some (cI x2), some (cI ((M 3 0 5) - (1 : Int32))), none] [] M)) : bGo 15 Q 6 [some (cR 3 0), some (cI x1), some (cI x2), o3, o4] [] M := s_iload_n E15_6 rfl rfl (s_if_lt E15_7.1 (k_ E15_7) ⟨fun c1 => s_ret E15_100.1 (k_ E15_100) (h.1 c1), fun c1 => s_aload_n E15_10.1 (k_ E15_10) rfl (s_getI0 E15_11.1 (k_ E15_11) rfl (s_iconst E15_14.1 (k_ E15_14) (s_isub E15_15.1 (k_ E15_15) (s_istore_n E15_16.1 (k_ E15_16) (h.2 c1)))))⟩)
theorem g_X0_reduce_17 {Q : bQ} {M : bM} {x1 : Int32} {x2 : Int32} {x3 : Int32} {o4 : Option bV} (h : ((x3 < 0) → bGo 15 Q 6 [some (cR 3 0), some (cI x1), some (cI (x2 + (-1 : Int32))), some (cI x3), none] [] M) ∧ (¬ (x3 < 0) → ((vp_in x3 4) ∧ (((x3 = x1) → bGo 15 Q 17 [some (cR 3 0), some (cI x1), some (cI x2), some (cI (x3 + (-1 : Int32))), some (cI (x2 - (M 9 2 x3.toNatClampNeg)))] [] M) ∧ (¬ (x3 = x1) → ((vp_in x3 4) ∧ ((((x2 - (M 9 2 x3.toNatClampNeg)) < (M 9 1 x3.toNatClampNeg)) → bGo 15 Q 17 [some (cR 3 0), some (cI x1), some (cI x2), some (cI (x3 + (-1 : Int32))), some (cI (x2 - (M 9 2 x3.toNatClampNeg)))] [] M) ∧ (¬ ((x2 - (M 9 2 x3.toNatClampNeg)) < (M 9 1 x3.toNatClampNeg)) → ((((42 : Int32) ≤ (x2 - (M 9 2 x3.toNatClampNeg))) → bGo 15 Q 17 [some (cR 3 0), some (cI x1), some (cI x2), some (cI (x3 + (-1 : Int32))), some (cI (x2 - (M 9 2 x3.toNatClampNeg)))] [] M) ∧ (¬ ((42 : Int32) ≤ (x2 - (M 9 2 x3.toNatClampNeg))) → (bCall 14 [cR 3 0, cI x1, cI x3, cI (x2 - (M 9 2 x3.toNatClampNeg))] M (fun v1 M2 => bV1 v1 fun r3 => (((r3 = 0) → bGo 15 Q 17 [some (cR 3 0), some (cI x1), some (cI x2), some (cI (x3 + (-1 : Int32))), some (cI (x2 - (M 9 2 x3.toNatClampNeg)))] [] M2) ∧ (¬ (r3 = 0) → (bCall 14 [cR 3 0, cI x1, cI x3, cI (x2 - (M 9 2 x3.toNatClampNeg))] M2 (fun v4 M5 => bV1 v4 fun r6 => ((vp_in x3 4) ∧ (bCall 11 [cR 3 0, cI x1, cI r6, cI x3, cI ((x2 - (M 9 2 x3.toNatClampNeg)) - (M5 9 1 x3.toNatClampNeg))] M5 (fun v7 M8 => bV0 v7 (bGo 15 Q 17 [some (cR 3 0), some (cI x1), some (cI x2), some (cI (x3 + (-1 : Int32))), some (cI (x2 - (M 9 2 x3.toNatClampNeg)))] [] M8)))))))))))))))))))) : bGo 15 Q 17 [some (cR 3 0), some (cI x1), some (cI x2), some (cI x3), o4] [] M := s_iload_n E15_17 rfl rfl (s_if_lt E15_18.1 (k_ E15_18) ⟨fun c2 => s_iinc E15_94.1 (k_ E15_94) rfl (s_goto E15_97.1 (k_ E15_97) (h.1 c2)), fun c2 => s_iload_n E15_21.1 (k_ E15_21) rfl (s_aload_n E15_22.1 (k_ E15_22) rfl (s_getR E15_23.1 (k_ E15_23) rfl rfl (s_iload_n E15_26.1 (k_ E15_26) rfl (s_iaload E15_27.1 (k_ E15_27) rfl ⟨(h.2 c2).1, s_isub E15_28.1 (k_ E15_28) (s_istore E15_29.1 (k_ E15_29) (s_iload_n E15_31.1 (k_ E15_31) rfl (s_iload_n E15_32.1 (k_ E15_32) rfl (s_icmp_eq E15_33.1 (k_ E15_33) ⟨fun c3 => s_iinc E15_88.1 (k_ E15_88) rfl (s_goto E15_91.1 (k_ E15_91) (((h.2 c2).2).1 c3)), fun c3 => s_iload E15_36.1 (k_ E15_36) rfl (s_aload_n E15_38.1 (k_ E15_38) rfl (s_getR E15_39.1 (k_ E15_39) rfl rfl (s_iload_n E15_42.1 (k_ E15_42) rfl (s_iaload E15_43.1 (k_ E15_43) rfl ⟨(((h.2 c2).2).2 c3).1, s_icmp_lt E15_44.1 (k_ E15_44) ⟨fun c4 => s_iinc E15_88.1 (k_ E15_88) rfl (s_goto E15_91.1 (k_ E15_91) (((((h.2 c2).2).2 c3).2).1 c4)), fun c4 => s_iload E15_47.1 (k_ E15_47) rfl (s_bipush E15_49.1 (k_ E15_49) (s_icmp_ge E15_51.1 (k_ E15_51) ⟨fun c5 => s_iinc E15_88.1 (k_ E15_88) rfl (s_goto E15_91.1 (k_ E15_91) ((((((h.2 c2).2).2 c3).2).2 c4).1 c5)), fun c5 => s_aload_n E15_54.1 (k_ E15_54) rfl (s_iload_n E15_55.1 (k_ E15_55) rfl (s_iload_n E15_56.1 (k_ E15_56) rfl (s_iload E15_57.1 (k_ E15_57) rfl (s_vcall1 E15_59.1 (k_ E15_59) rfl rfl rfl ((((((h.2 c2).2).2 c3).2).2 c4).2 c5) (fun M2 r3 z6 => s_if_eq E15_62.1 (k_ E15_62) ⟨fun c7 => s_iinc E15_88.1 (k_ E15_88) rfl (s_goto E15_91.1 (k_ E15_91) (z6.1 c7)), fun c7 => s_aload_n E15_65.1 (k_ E15_65) rfl (s_iload_n E15_66.1 (k_ E15_66) rfl (s_aload_n E15_67.1 (k_ E15_67) rfl (s_iload_n E15_68.1 (k_ E15_68) rfl (s_iload_n E15_69.1 (k_ E15_69) rfl (s_iload E15_70.1 (k_ E15_70) rfl (s_vcall1 E15_72.1 (k_ E15_72) rfl rfl rfl (z6.2 c7) (fun M5 r6 z8 => s_iload_n E15_75.1 (k_ E15_75) rfl (s_iload E15_76.1 (k_ E15_76) rfl (s_aload_n E15_78.1 (k_ E15_78) rfl (s_getR E15_79.1 (k_ E15_79) rfl rfl (s_iload_n E15_82.1 (k_ E15_82) rfl (s_iaload E15_83.1 (k_ E15_83) rfl ⟨z8.1, s_isub E15_84.1 (k_ E15_84) (s_vcall0 E15_85.1 (k_ E15_85) rfl rfl rfl z8.2 (fun M8 z9 => s_iinc E15_88.1 (k_ E15_88) rfl (s_goto E15_91.1 (k_ E15_91) (z9))))⟩))))))))))))⟩)))))⟩))⟩⟩))))⟩))))⟩))))⟩)
-- 16: X0_build
theorem E16_0 : aCode 16 0 = (Instr.aload_n 0, 1, [], 0) ∧ bMask 16 0 = [] := ⟨rfl, rfl⟩
theorem E16_1 : aCode 16 1 = (Instr.iload_n 3, 2, [], 0) ∧ bMask 16 1 = [] := ⟨rfl, rfl⟩
theorem E16_2 : aCode 16 2 = (Instr.iconst 4, 3, [], 4) ∧ bMask 16 2 = [] := ⟨rfl, rfl⟩
theorem E16_3 : aCode 16 3 = (Instr.invokestatic 30, 6, [6, 2, 1, 0, 0, 8], 0) ∧ bMask 16 3 = [] := ⟨rfl, rfl⟩
theorem E16_6 : aCode 16 6 = (Instr.putfield 36, 9, [0, 0, 5, 0], 0) ∧ bMask 16 6 = [] := ⟨rfl, rfl⟩
theorem E16_9 : aCode 16 9 = (Instr.iconst 0, 10, [], 0) ∧ bMask 16 9 = [] := ⟨rfl, rfl⟩
theorem E16_10 : aCode 16 10 = (Instr.istore 5, 12, [], 0) ∧ bMask 16 10 = [] := ⟨rfl, rfl⟩
theorem E16_12 : aCode 16 12 = (Instr.iload 5, 14, [], 0) ∧ bMask 16 12 = [] := ⟨rfl, rfl⟩
theorem E16_14 : aCode 16 14 = (Instr.aload_n 0, 15, [], 0) ∧ bMask 16 14 = [] := ⟨rfl, rfl⟩
theorem E16_15 : aCode 16 15 = (Instr.getfield 36, 18, [0, 0, 5, 0], 0) ∧ bMask 16 15 = [] := ⟨rfl, rfl⟩
theorem E16_18 : aCode 16 18 = (Instr.if_icmp .ge 71, 21, [89], 0) ∧ bMask 16 18 = [] := ⟨rfl, rfl⟩
theorem E16_21 : aCode 16 21 = (Instr.aload_n 0, 22, [], 0) ∧ bMask 16 21 = [] := ⟨rfl, rfl⟩
theorem E16_22 : aCode 16 22 = (Instr.getfield 13, 25, [4, 0, 1, 2], 0) ∧ bMask 16 22 = [] := ⟨rfl, rfl⟩
theorem E16_25 : aCode 16 25 = (Instr.iload 5, 27, [], 0) ∧ bMask 16 25 = [] := ⟨rfl, rfl⟩
theorem E16_27 : aCode 16 27 = (Instr.aaload, 28, [2], 0) ∧ bMask 16 27 = [] := ⟨rfl, rfl⟩
theorem E16_28 : aCode 16 28 = (Instr.iconst 0, 29, [], 0) ∧ bMask 16 28 = [] := ⟨rfl, rfl⟩
theorem E16_29 : aCode 16 29 = (Instr.invokestatic 40, 32, [1, 2, 0, 0, 0, 9], 0) ∧ bMask 16 29 = [] := ⟨rfl, rfl⟩
theorem E16_32 : aCode 16 32 = (Instr.aload_n 0, 33, [], 0) ∧ bMask 16 32 = [] := ⟨rfl, rfl⟩
theorem E16_33 : aCode 16 33 = (Instr.getfield 13, 36, [4, 0, 1, 2], 0) ∧ bMask 16 33 = [] := ⟨rfl, rfl⟩
theorem E16_36 : aCode 16 36 = (Instr.iload 5, 38, [], 0) ∧ bMask 16 36 = [] := ⟨rfl, rfl⟩
theorem E16_38 : aCode 16 38 = (Instr.aaload, 39, [2], 0) ∧ bMask 16 38 = [] := ⟨rfl, rfl⟩
theorem E16_39 : aCode 16 39 = (Instr.iload 5, 41, [], 0) ∧ bMask 16 39 = [] := ⟨rfl, rfl⟩
theorem E16_41 : aCode 16 41 = (Instr.bipush 42, 43, [], 42) ∧ bMask 16 41 = [] := ⟨rfl, rfl⟩
theorem E16_43 : aCode 16 43 = (Instr.imul, 44, [], 0) ∧ bMask 16 43 = [] := ⟨rfl, rfl⟩
theorem E16_44 : aCode 16 44 = (Instr.iconst 1, 45, [], 1) ∧ bMask 16 44 = [] := ⟨rfl, rfl⟩
theorem E16_45 : aCode 16 45 = (Instr.iastore, 46, [0], 0) ∧ bMask 16 45 = [] := ⟨rfl, rfl⟩
theorem E16_46 : aCode 16 46 = (Instr.aload_n 1, 47, [], 0) ∧ bMask 16 46 = [] := ⟨rfl, rfl⟩
theorem E16_47 : aCode 16 47 = (Instr.iload 5, 49, [], 0) ∧ bMask 16 47 = [] := ⟨rfl, rfl⟩
theorem E16_49 : aCode 16 49 = (Instr.aaload, 50, [2], 0) ∧ bMask 16 49 = [] := ⟨rfl, rfl⟩
theorem E16_50 : aCode 16 50 = (Instr.iconst 0, 51, [], 0) ∧ bMask 16 50 = [] := ⟨rfl, rfl⟩
theorem E16_51 : aCode 16 51 = (Instr.aload_n 0, 52, [], 0) ∧ bMask 16 51 = [] := ⟨rfl, rfl⟩
theorem E16_52 : aCode 16 52 = (Instr.getfield 16, 55, [6, 0, 2, 2], 0) ∧ bMask 16 52 = [] := ⟨rfl, rfl⟩
theorem E16_55 : aCode 16 55 = (Instr.iload 5, 57, [], 0) ∧ bMask 16 55 = [] := ⟨rfl, rfl⟩
theorem E16_57 : aCode 16 57 = (Instr.aaload, 58, [2], 0) ∧ bMask 16 57 = [] := ⟨rfl, rfl⟩
theorem E16_58 : aCode 16 58 = (Instr.iconst 0, 59, [], 0) ∧ bMask 16 58 = [] := ⟨rfl, rfl⟩
theorem E16_59 : aCode 16 59 = (Instr.bipush 32, 61, [], 32) ∧ bMask 16 59 = [] := ⟨rfl, rfl⟩
theorem E16_61 : aCode 16 61 = (Instr.invokestatic 46, 64, [1000, 46], 0) ∧ bMask 16 61 = [] := ⟨rfl, rfl⟩
theorem E16_64 : aCode 16 64 = (Instr.aload_n 0, 65, [], 0) ∧ bMask 16 64 = [] := ⟨rfl, rfl⟩
theorem E16_65 : aCode 16 65 = (Instr.getfield 19, 68, [1, 0, 3, 2], 0) ∧ bMask 16 65 = [] := ⟨rfl, rfl⟩
theorem E16_68 : aCode 16 68 = (Instr.iload 5, 70, [], 0) ∧ bMask 16 68 = [] := ⟨rfl, rfl⟩
theorem E16_70 : aCode 16 70 = (Instr.iconst 0, 71, [], 0) ∧ bMask 16 70 = [] := ⟨rfl, rfl⟩
theorem E16_71 : aCode 16 71 = (Instr.iastore, 72, [0], 0) ∧ bMask 16 71 = [] := ⟨rfl, rfl⟩
theorem E16_72 : aCode 16 72 = (Instr.aload_n 0, 73, [], 0) ∧ bMask 16 72 = [] := ⟨rfl, rfl⟩
theorem E16_73 : aCode 16 73 = (Instr.getfield 23, 76, [2, 0, 4, 2], 0) ∧ bMask 16 73 = [] := ⟨rfl, rfl⟩
theorem E16_76 : aCode 16 76 = (Instr.iload 5, 78, [], 0) ∧ bMask 16 76 = [] := ⟨rfl, rfl⟩
theorem E16_78 : aCode 16 78 = (Instr.aload_n 2, 79, [], 0) ∧ bMask 16 78 = [] := ⟨rfl, rfl⟩
theorem E16_79 : aCode 16 79 = (Instr.iload 5, 81, [], 0) ∧ bMask 16 79 = [] := ⟨rfl, rfl⟩
theorem E16_81 : aCode 16 81 = (Instr.iaload, 82, [0], 0) ∧ bMask 16 81 = [] := ⟨rfl, rfl⟩
theorem E16_82 : aCode 16 82 = (Instr.iastore, 83, [0], 0) ∧ bMask 16 82 = [] := ⟨rfl, rfl⟩
theorem E16_83 : aCode 16 83 = (Instr.iinc 5 1, 86, [], 1) ∧ bMask 16 83 = [] := ⟨rfl, rfl⟩
theorem E16_86 : aCode 16 86 = (Instr.goto (-74), 12, [], 0) ∧ bMask 16 86 = [] := ⟨rfl, rfl⟩
theorem E16_89 : aCode 16 89 = (Instr.iconst 0, 90, [], 0) ∧ bMask 16 89 = [] := ⟨rfl, rfl⟩
theorem E16_90 : aCode 16 90 = (Instr.istore 5, 92, [], 0) ∧ bMask 16 90 = [] := ⟨rfl, rfl⟩
theorem E16_92 : aCode 16 92 = (Instr.iload 5, 94, [], 0) ∧ bMask 16 92 = [] := ⟨rfl, rfl⟩
theorem E16_94 : aCode 16 94 = (Instr.iload 4, 96, [], 0) ∧ bMask 16 94 = [] := ⟨rfl, rfl⟩
theorem E16_96 : aCode 16 96 = (Instr.if_icmp .ge 22, 99, [118], 0) ∧ bMask 16 96 = [] := ⟨rfl, rfl⟩
theorem E16_99 : aCode 16 99 = (Instr.iload 5, 101, [], 0) ∧ bMask 16 99 = [] := ⟨rfl, rfl⟩
theorem E16_101 : aCode 16 101 = (Instr.bipush 32, 103, [], 32) ∧ bMask 16 101 = [] := ⟨rfl, rfl⟩
theorem E16_103 : aCode 16 103 = (Instr.if_icmp .ge 15, 106, [118], 0) ∧ bMask 16 103 = [] := ⟨rfl, rfl⟩
theorem E16_106 : aCode 16 106 = (Instr.aload_n 0, 107, [], 0) ∧ bMask 16 106 = [] := ⟨rfl, rfl⟩
theorem E16_107 : aCode 16 107 = (Instr.iload 5, 109, [], 0) ∧ bMask 16 107 = [] := ⟨rfl, rfl⟩
theorem E16_109 : aCode 16 109 = (Instr.invokevirtual 52, 112, [13, 2, 0, 0, 0, 10], 0) ∧ bMask 16 109 = [] := ⟨rfl, rfl⟩
theorem E16_112 : aCode 16 112 = (Instr.iinc 5 1, 115, [], 1) ∧ bMask 16 112 = [] := ⟨rfl, rfl⟩
theorem E16_115 : aCode 16 115 = (Instr.goto (-23), 92, [], 0) ∧ bMask 16 115 = [] := ⟨rfl, rfl⟩
theorem E16_118 : aCode 16 118 = (Instr.iconst 0, 119, [], 0) ∧ bMask 16 118 = [] := ⟨rfl, rfl⟩
theorem E16_119 : aCode 16 119 = (Instr.istore 5, 121, [], 0) ∧ bMask 16 119 = [] := ⟨rfl, rfl⟩
theorem E16_121 : aCode 16 121 = (Instr.iload 5, 123, [], 0) ∧ bMask 16 121 = [] := ⟨rfl, rfl⟩
theorem E16_123 : aCode 16 123 = (Instr.aload_n 0, 124, [], 0) ∧ bMask 16 123 = [] := ⟨rfl, rfl⟩
theorem E16_124 : aCode 16 124 = (Instr.getfield 36, 127, [0, 0, 5, 0], 0) ∧ bMask 16 124 = [] := ⟨rfl, rfl⟩
theorem E16_127 : aCode 16 127 = (Instr.if_icmp .ge 15, 130, [142], 0) ∧ bMask 16 127 = [] := ⟨rfl, rfl⟩
theorem E16_130 : aCode 16 130 = (Instr.aload_n 0, 131, [], 0) ∧ bMask 16 130 = [] := ⟨rfl, rfl⟩
theorem E16_131 : aCode 16 131 = (Instr.iload 5, 133, [], 0) ∧ bMask 16 131 = [] := ⟨rfl, rfl⟩
theorem E16_133 : aCode 16 133 = (Instr.invokevirtual 56, 136, [15, 2, 0, 0, 0, 11], 0) ∧ bMask 16 133 = [] := ⟨rfl, rfl⟩
theorem E16_136 : aCode 16 136 = (Instr.iinc 5 1, 139, [], 1) ∧ bMask 16 136 = [] := ⟨rfl, rfl⟩
theorem E16_139 : aCode 16 139 = (Instr.goto (-18), 121, [], 0) ∧ bMask 16 139 = [] := ⟨rfl, rfl⟩
theorem E16_142 : aCode 16 142 = (Instr.return_, 143, [], 0) ∧ bMask 16 142 = [] := ⟨rfl, rfl⟩
theorem g_X0_build_0 {Q : bQ} {M : bM} {x3 : Int32} {x4 : Int32} (h : bCall 6 [cI x3, cI (4 : Int32)] M (fun v1 M2 => bV1 v1 fun r3 => (bGo 16 Q 12 [some (cR 3 0), some (cR 17 0), some (cR 9 0), some (cI x3), some (cI x4), some (cI (0 : Int32))] [] (bU M2 3 0 5 r3)))) : bCall 16 [cR 3 0, cR 17 0, cR 9 0, cI x3, cI x4] M Q := s_aload_n E16_0.1 (k_ E16_0) rfl (s_iload_n E16_1.1 (k_ E16_1) rfl (s_iconst E16_2.1 (k_ E16_2) (s_scall1 E16_3.1 (k_ E16_3) rfl rfl rfl h (fun M2 r3 z0 => s_putI E16_6.1 (k_ E16_6) rfl (s_iconst E16_9.1 (k_ E16_9) (s_istore E16_10.1 (k_ E16_10) (z0)))))))
theorem g_X0_build_12 {Q : bQ} {M : bM} {x3 : Int32} {x4 : Int32} {x5 : Int32} (h : (((M 3 0 5) ≤ x5) → bGo 16 Q 92 [some (cR 3 0), some (cR 17 0), some (cR 9 0), some (cI x3), some (cI x4), some (cI (0 : Int32))] [] M) ∧ (¬ ((M 3 0 5) ≤ x5) → ((vp_in x5 4) ∧ (bCall 1 [cR 8 x5.toNatClampNeg, cI (0 : Int32)] M (fun v1 M2 => bV0 v1 ((vp_in x5 4) ∧ ((vp_in (x5 * (42 : Int32)) 168) ∧ ((vp_in x5 4) ∧ ((vp_in x5 4) ∧ ((¬ (0 : Int32) < 0 ∧ ¬ (0 : Int32) < 0 ∧ ¬ (32 : Int32) < 0 ∧ (0 : Int32).toNatClampNeg + (32 : Int32).toNatClampNeg ≤ 32 ∧ (0 : Int32).toNatClampNeg + (32 : Int32).toNatClampNeg ≤ 32) ∧ ((vp_in x5 4) ∧ ((vp_in x5 4) ∧ ((vp_in x5 4) ∧ bGo 16 Q 12 [some (cR 3 0), some (cR 17 0), some (cR 9 0), some (cI x3), some (cI x4), some (cI (x5 + (1 : Int32)))] [] (bU (bU (bCp (bU M2 8 x5.toNatClampNeg (x5 * (42 : Int32)).toNatClampNeg (1 : Int32)) 7 (8 + x5.toNatClampNeg) 7 (29 + x5.toNatClampNeg) (0 : Int32) (0 : Int32) (32 : Int32)) 9 1 x5.toNatClampNeg (0 : Int32)) 9 2 x5.toNatClampNeg ((bU (bCp (bU M2 8 x5.toNatClampNeg (x5 * (42 : Int32)).toNatClampNeg (1 : Int32)) 7 (8 + x5.toNatClampNeg) 7 (29 + x5.toNatClampNeg) (0 : Int32) (0 : Int32) (32 : Int32)) 9 1 x5.toNatClampNeg (0 : Int32)) 9 0 x5.toNatClampNeg))))))))))))))) : bGo 16 Q 12 [some (cR 3 0), some (cR 17 0), some (cR 9 0), some (cI x3), some (cI x4), some (cI x5)] [] M := s_iload E16_12.1 (k_ E16_12) rfl (s_aload_n E16_14.1 (k_ E16_14) rfl (s_getI0 E16_15.1 (k_ E16_15) rfl (s_icmp_ge E16_18.1 (k_ E16_18) ⟨fun c1 => s_iconst E16_89.1 (k_ E16_89) (s_istore E16_90.1 (k_ E16_90) (h.1 c1)), fun c1 => s_aload_n E16_21.1 (k_ E16_21) rfl (s_getR E16_22.1 (k_ E16_22) rfl rfl (s_iload E16_25.1 (k_ E16_25) rfl (s_aaload E16_27.1 (k_ E16_27) rfl ⟨(h.2 c1).1, s_iconst E16_28.1 (k_ E16_28) (s_scall0 E16_29.1 (k_ E16_29) rfl rfl rfl ((h.2 c1).2) (fun M2 z2 => s_aload_n E16_32.1 (k_ E16_32) rfl (s_getR E16_33.1 (k_ E16_33) rfl rfl (s_iload E16_36.1 (k_ E16_36) rfl (s_aaload E16_38.1 (k_ E16_38) rfl ⟨z2.1, s_iload E16_39.1 (k_ E16_39) rfl (s_bipush E16_41.1 (k_ E16_41) (s_imul E16_43.1 (k_ E16_43) (s_iconst E16_44.1 (k_ E16_44) (s_iastore E16_45.1 (k_ E16_45) rfl ⟨z2.2.1, s_aload_n E16_46.1 (k_ E16_46) rfl (s_iload E16_47.1 (k_ E16_47) rfl (s_aaload E16_49.1 (k_ E16_49) rfl ⟨z2.2.2.1, s_iconst E16_50.1 (k_ E16_50) (s_aload_n E16_51.1 (k_ E16_51) rfl (s_getR E16_52.1 (k_ E16_52) rfl rfl (s_iload E16_55.1 (k_ E16_55) rfl (s_aaload E16_57.1 (k_ E16_57) rfl ⟨z2.2.2.2.1, s_iconst E16_58.1 (k_ E16_58) (s_bipush E16_59.1 (k_ E16_59) (s_acopy E16_61.1 (k_ E16_61) rfl ⟨z2.2.2.2.2.1, s_aload_n E16_64.1 (k_ E16_64) rfl (s_getR E16_65.1 (k_ E16_65) rfl rfl (s_iload E16_68.1 (k_ E16_68) rfl (s_iconst E16_70.1 (k_ E16_70) (s_iastore E16_71.1 (k_ E16_71) rfl ⟨z2.2.2.2.2.2.1, s_aload_n E16_72.1 (k_ E16_72) rfl (s_getR E16_73.1 (k_ E16_73) rfl rfl (s_iload E16_76.1 (k_ E16_76) rfl (s_aload_n E16_78.1 (k_ E16_78) rfl (s_iload E16_79.1 (k_ E16_79) rfl (s_iaload E16_81.1 (k_ E16_81) rfl ⟨z2.2.2.2.2.2.2.1, s_iastore E16_82.1 (k_ E16_82) rfl ⟨z2.2.2.2.2.2.2.2.1, s_iinc E16_83.1 (k_ E16_83) rfl (s_goto E16_86.1 (k_ E16_86) (z2.2.2.2.2.2.2.2.2))⟩⟩)))))⟩))))⟩))⟩))))⟩))⟩))))⟩)))))⟩)))⟩)))
theorem g_X0_build_92 {Q : bQ} {M : bM} {x3 : Int32} {x4 : Int32} {x5 : Int32} (h : ((x4 ≤ x5) → bGo 16 Q 121 [some (cR 3 0), some (cR 17 0), some (cR 9 0), some (cI x3), some (cI x4), some (cI (0 : Int32))] [] M) ∧ (¬ (x4 ≤ x5) → ((((32 : Int32) ≤ x5) → bGo 16 Q 121 [some (cR 3 0), some (cR 17 0), some (cR 9 0), some (cI x3), some (cI x4), some (cI (0 : Int32))] [] M) ∧ (¬ ((32 : Int32) ≤ x5) → (bCall 13 [cR 3 0, cI x5] M (fun v1 M2 => bV0 v1 (bGo 16 Q 92 [some (cR 3 0), some (cR 17 0), some (cR 9 0), some (cI x3), some (cI x4), some (cI (x5 + (1 : Int32)))] [] M2))))))) : bGo 16 Q 92 [some (cR 3 0), some (cR 17 0), some (cR 9 0), some (cI x3), some (cI x4), some (cI x5)] [] M := s_iload E16_92.1 (k_ E16_92) rfl (s_iload E16_94.1 (k_ E16_94) rfl (s_icmp_ge E16_96.1 (k_ E16_96) ⟨fun c3 => s_iconst E16_118.1 (k_ E16_118) (s_istore E16_119.1 (k_ E16_119) (h.1 c3)), fun c3 => s_iload E16_99.1 (k_ E16_99) rfl (s_bipush E16_101.1 (k_ E16_101) (s_icmp_ge E16_103.1 (k_ E16_103) ⟨fun c4 => s_iconst E16_118.1 (k_ E16_118) (s_istore E16_119.1 (k_ E16_119) ((h.2 c3).1 c4)), fun c4 => s_aload_n E16_106.1 (k_ E16_106) rfl (s_iload E16_107.1 (k_ E16_107) rfl (s_vcall0 E16_109.1 (k_ E16_109) rfl rfl rfl ((h.2 c3).2 c4) (fun M2 z5 => s_iinc E16_112.1 (k_ E16_112) rfl (s_goto E16_115.1 (k_ E16_115) (z5)))))⟩))⟩))
theorem g_X0_build_121 {Q : bQ} {M : bM} {x3 : Int32} {x4 : Int32} {x5 : Int32} (h : (((M 3 0 5) ≤ x5) → (Q none M)) ∧ (¬ ((M 3 0 5) ≤ x5) → (bCall 15 [cR 3 0, cI x5] M (fun v1 M2 => bV0 v1 (bGo 16 Q 121 [some (cR 3 0), some (cR 17 0), some (cR 9 0), some (cI x3), some (cI x4), some (cI (x5 + (1 : Int32)))] [] M2))))) : bGo 16 Q 121 [some (cR 3 0), some (cR 17 0), some (cR 9 0), some (cI x3), some (cI x4), some (cI x5)] [] M := s_iload E16_121.1 (k_ E16_121) rfl (s_aload_n E16_123.1 (k_ E16_123) rfl (s_getI0 E16_124.1 (k_ E16_124) rfl (s_icmp_ge E16_127.1 (k_ E16_127) ⟨fun c6 => s_ret E16_142.1 (k_ E16_142) (h.1 c6), fun c6 => s_aload_n E16_130.1 (k_ E16_130) rfl (s_iload E16_131.1 (k_ E16_131) rfl (s_vcall0 E16_133.1 (k_ E16_133) rfl rfl rfl (h.2 c6) (fun M2 z7 => s_iinc E16_136.1 (k_ E16_136) rfl (s_goto E16_139.1 (k_ E16_139) (z7)))))⟩)))
-- 17: X0_greatestHeight
theorem E17_0 : aCode 17 0 = (Instr.iconst 0, 1, [], 0) ∧ bMask 17 0 = [] := ⟨rfl, rfl⟩
theorem E17_1 : aCode 17 1 = (Instr.istore_n 1, 2, [], 0) ∧ bMask 17 1 = [] := ⟨rfl, rfl⟩
theorem E17_2 : aCode 17 2 = (Instr.iconst 0, 3, [], 0) ∧ bMask 17 2 = [] := ⟨rfl, rfl⟩
theorem E17_3 : aCode 17 3 = (Instr.istore_n 2, 4, [], 0) ∧ bMask 17 3 = [] := ⟨rfl, rfl⟩
theorem E17_4 : aCode 17 4 = (Instr.iload_n 2, 5, [], 0) ∧ bMask 17 4 = [] := ⟨rfl, rfl⟩
theorem E17_5 : aCode 17 5 = (Instr.aload_n 0, 6, [], 0) ∧ bMask 17 5 = [] := ⟨rfl, rfl⟩
theorem E17_6 : aCode 17 6 = (Instr.getfield 36, 9, [0, 0, 5, 0], 0) ∧ bMask 17 6 = [] := ⟨rfl, rfl⟩
theorem E17_9 : aCode 17 9 = (Instr.if_icmp .ge 19, 12, [28], 0) ∧ bMask 17 9 = [] := ⟨rfl, rfl⟩
theorem E17_12 : aCode 17 12 = (Instr.iload_n 1, 13, [], 0) ∧ bMask 17 12 = [] := ⟨rfl, rfl⟩
theorem E17_13 : aCode 17 13 = (Instr.aload_n 0, 14, [], 0) ∧ bMask 17 13 = [] := ⟨rfl, rfl⟩
theorem E17_14 : aCode 17 14 = (Instr.iload_n 2, 15, [], 0) ∧ bMask 17 14 = [] := ⟨rfl, rfl⟩
theorem E17_15 : aCode 17 15 = (Instr.invokevirtual 59, 18, [8, 2, 1, 0, 0, 3], 0) ∧ bMask 17 15 = [] := ⟨rfl, rfl⟩
theorem E17_18 : aCode 17 18 = (Instr.invokestatic 63, 21, [5, 2, 1, 0, 0, 12], 0) ∧ bMask 17 18 = [] := ⟨rfl, rfl⟩
theorem E17_21 : aCode 17 21 = (Instr.istore_n 1, 22, [], 0) ∧ bMask 17 21 = [] := ⟨rfl, rfl⟩
theorem E17_22 : aCode 17 22 = (Instr.iinc 2 1, 25, [], 1) ∧ bMask 17 22 = [] := ⟨rfl, rfl⟩
theorem E17_25 : aCode 17 25 = (Instr.goto (-21), 4, [], 0) ∧ bMask 17 25 = [] := ⟨rfl, rfl⟩
theorem E17_28 : aCode 17 28 = (Instr.iload_n 1, 29, [], 0) ∧ bMask 17 28 = [] := ⟨rfl, rfl⟩
theorem E17_29 : aCode 17 29 = (Instr.ireturn, 30, [0], 0) ∧ bMask 17 29 = [] := ⟨rfl, rfl⟩
theorem g_X0_greatestHeight_0 {Q : bQ} {M : bM}  (h : bGo 17 Q 4 [some (cR 3 0), some (cI (0 : Int32)), some (cI (0 : Int32))] [] M) : bCall 17 [cR 3 0] M Q := s_iconst E17_0.1 (k_ E17_0) (s_istore_n E17_1.1 (k_ E17_1) (s_iconst E17_2.1 (k_ E17_2) (s_istore_n E17_3.1 (k_ E17_3) (h))))
theorem g_X0_greatestHeight_4 {Q : bQ} {M : bM} {x1 : Int32} {x2 : Int32} (h : (((M 3 0 5) ≤ x2) → (Q (some (cI x1)) M)) ∧ (¬ ((M 3 0 5) ≤ x2) → (bCall 8 [cR 3 0, cI x2] M (fun v1 M2 => bV1 v1 fun r3 => (bCall 5 [cI x1, cI r3] M2 (fun v4 M5 => bV1 v4 fun r6 => (bGo 17 Q 4 [some (cR 3 0), some (cI r6), some (cI (x2 + (1 : Int32)))] [] M5))))))) : bGo 17 Q 4 [some (cR 3 0), some (cI x1), some (cI x2)] [] M := s_iload_n E17_4.1 (k_ E17_4) rfl (s_aload_n E17_5.1 (k_ E17_5) rfl (s_getI0 E17_6.1 (k_ E17_6) rfl (s_icmp_ge E17_9.1 (k_ E17_9) ⟨fun c0 => s_iload_n E17_28.1 (k_ E17_28) rfl (s_iret E17_29.1 (k_ E17_29) (h.1 c0)), fun c0 => s_iload_n E17_12.1 (k_ E17_12) rfl (s_aload_n E17_13.1 (k_ E17_13) rfl (s_iload_n E17_14.1 (k_ E17_14) rfl (s_vcall1 E17_15.1 (k_ E17_15) rfl rfl rfl (h.2 c0) (fun M2 r3 z1 => s_scall1 E17_18.1 (k_ E17_18) rfl rfl rfl z1 (fun M5 r6 z2 => s_istore_n E17_21.1 (k_ E17_21) (s_iinc E17_22.1 (k_ E17_22) rfl (s_goto E17_25.1 (k_ E17_25) (z2))))))))⟩)))
-- 19: X0_leastRow
theorem E19_0 : aCode 19 0 = (Instr.iconst 0, 1, [], 0) ∧ bMask 19 0 = [] := ⟨rfl, rfl⟩
theorem E19_1 : aCode 19 1 = (Instr.istore_n 1, 2, [], 0) ∧ bMask 19 1 = [] := ⟨rfl, rfl⟩
theorem E19_2 : aCode 19 2 = (Instr.iconst 1, 3, [], 1) ∧ bMask 19 2 = [] := ⟨rfl, rfl⟩
theorem E19_3 : aCode 19 3 = (Instr.istore_n 2, 4, [], 0) ∧ bMask 19 3 = [] := ⟨rfl, rfl⟩
theorem E19_4 : aCode 19 4 = (Instr.iload_n 2, 5, [], 0) ∧ bMask 19 4 = [] := ⟨rfl, rfl⟩
theorem E19_5 : aCode 19 5 = (Instr.aload_n 0, 6, [], 0) ∧ bMask 19 5 = [] := ⟨rfl, rfl⟩
theorem E19_6 : aCode 19 6 = (Instr.getfield 36, 9, [0, 0, 5, 0], 0) ∧ bMask 19 6 = [] := ⟨rfl, rfl⟩
theorem E19_9 : aCode 19 9 = (Instr.if_icmp .ge 24, 12, [33], 0) ∧ bMask 19 9 = [] := ⟨rfl, rfl⟩
theorem E19_12 : aCode 19 12 = (Instr.aload_n 0, 13, [], 0) ∧ bMask 19 12 = [] := ⟨rfl, rfl⟩
theorem E19_13 : aCode 19 13 = (Instr.iload_n 2, 14, [], 0) ∧ bMask 19 13 = [] := ⟨rfl, rfl⟩
theorem E19_14 : aCode 19 14 = (Instr.invokevirtual 59, 17, [8, 2, 1, 0, 0, 3], 0) ∧ bMask 19 14 = [] := ⟨rfl, rfl⟩
theorem E19_17 : aCode 19 17 = (Instr.aload_n 0, 18, [], 0) ∧ bMask 19 17 = [] := ⟨rfl, rfl⟩
theorem E19_18 : aCode 19 18 = (Instr.iload_n 1, 19, [], 0) ∧ bMask 19 18 = [] := ⟨rfl, rfl⟩
theorem E19_19 : aCode 19 19 = (Instr.invokevirtual 59, 22, [8, 2, 1, 0, 0, 3], 0) ∧ bMask 19 19 = [] := ⟨rfl, rfl⟩
theorem E19_22 : aCode 19 22 = (Instr.if_icmp .ge 5, 25, [27], 0) ∧ bMask 19 22 = [] := ⟨rfl, rfl⟩
theorem E19_25 : aCode 19 25 = (Instr.iload_n 2, 26, [], 0) ∧ bMask 19 25 = [] := ⟨rfl, rfl⟩
theorem E19_26 : aCode 19 26 = (Instr.istore_n 1, 27, [], 0) ∧ bMask 19 26 = [] := ⟨rfl, rfl⟩
theorem E19_27 : aCode 19 27 = (Instr.iinc 2 1, 30, [], 1) ∧ bMask 19 27 = [] := ⟨rfl, rfl⟩
theorem E19_30 : aCode 19 30 = (Instr.goto (-26), 4, [], 0) ∧ bMask 19 30 = [] := ⟨rfl, rfl⟩
theorem E19_33 : aCode 19 33 = (Instr.iload_n 1, 34, [], 0) ∧ bMask 19 33 = [] := ⟨rfl, rfl⟩
theorem E19_34 : aCode 19 34 = (Instr.ireturn, 35, [0], 0) ∧ bMask 19 34 = [] := ⟨rfl, rfl⟩
theorem g_X0_leastRow_0 {Q : bQ} {M : bM}  (h : bGo 19 Q 4 [some (cR 3 0), some (cI (0 : Int32)), some (cI (1 : Int32))] [] M) : bCall 19 [cR 3 0] M Q := s_iconst E19_0.1 (k_ E19_0) (s_istore_n E19_1.1 (k_ E19_1) (s_iconst E19_2.1 (k_ E19_2) (s_istore_n E19_3.1 (k_ E19_3) (h))))
theorem g_X0_leastRow_4 {Q : bQ} {M : bM} {x1 : Int32} {x2 : Int32} (h : (((M 3 0 5) ≤ x2) → (Q (some (cI x1)) M)) ∧ (¬ ((M 3 0 5) ≤ x2) → (bCall 8 [cR 3 0, cI x2] M (fun v1 M2 => bV1 v1 fun r3 => (bCall 8 [cR 3 0, cI x1] M2 (fun v4 M5 => bV1 v4 fun r6 => (((r6 ≤ r3) → bGo 19 Q 4 [some (cR 3 0), some (cI x1), some (cI (x2 + (1 : Int32)))] [] M5) ∧ (¬ (r6 ≤ r3) → bGo 19 Q 4 [some (cR 3 0), some (cI x2), some (cI (x2 + (1 : Int32)))] [] M5)))))))) : bGo 19 Q 4 [some (cR 3 0), some (cI x1), some (cI x2)] [] M := s_iload_n E19_4.1 (k_ E19_4) rfl (s_aload_n E19_5.1 (k_ E19_5) rfl (s_getI0 E19_6.1 (k_ E19_6) rfl (s_icmp_ge E19_9.1 (k_ E19_9) ⟨fun c0 => s_iload_n E19_33.1 (k_ E19_33) rfl (s_iret E19_34.1 (k_ E19_34) (h.1 c0)), fun c0 => s_aload_n E19_12.1 (k_ E19_12) rfl (s_iload_n E19_13.1 (k_ E19_13) rfl (s_vcall1 E19_14.1 (k_ E19_14) rfl rfl rfl (h.2 c0) (fun M2 r3 z1 => s_aload_n E19_17.1 (k_ E19_17) rfl (s_iload_n E19_18.1 (k_ E19_18) rfl (s_vcall1 E19_19.1 (k_ E19_19) rfl rfl rfl z1 (fun M5 r6 z2 => s_icmp_ge E19_22.1 (k_ E19_22) ⟨fun c3 => s_iinc E19_27.1 (k_ E19_27) rfl (s_goto E19_30.1 (k_ E19_30) (z2.1 c3)), fun c3 => s_iload_n E19_25.1 (k_ E19_25) rfl (s_istore_n E19_26.1 (k_ E19_26) (s_iinc E19_27.1 (k_ E19_27) rfl (s_goto E19_30.1 (k_ E19_30) (z2.2 c3))))⟩))))))⟩)))
