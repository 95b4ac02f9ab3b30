-- needs: 01 02 06 08 09 10 11
-- 128: X7_comes
theorem E128_0 : aCode 128 0 = (Instr.aload_n 0, 1, [], 0) ∧ bMask 128 0 = [] := ⟨rfl, rfl⟩
theorem E128_1 : aCode 128 1 = (Instr.iload_n 1, 2, [], 0) ∧ bMask 128 1 = [] := ⟨rfl, rfl⟩
theorem E128_2 : aCode 128 2 = (Instr.invokevirtual 263, 5, [125, 2, 1, 7, 0, 106], 0) ∧ bMask 128 2 = [] := ⟨rfl, rfl⟩
theorem E128_5 : aCode 128 5 = (Instr.ifCond .eq 10, 8, [15], 0) ∧ bMask 128 5 = [] := ⟨rfl, rfl⟩
theorem E128_8 : aCode 128 8 = (Instr.iload_n 2, 9, [], 0) ∧ bMask 128 8 = [] := ⟨rfl, rfl⟩
theorem E128_9 : aCode 128 9 = (Instr.invokestatic 134, 12, [105, 1, 1, 0, 0, 90], 0) ∧ bMask 128 9 = [] := ⟨rfl, rfl⟩
theorem E128_12 : aCode 128 12 = (Instr.ifCond .ne 5, 15, [17], 0) ∧ bMask 128 12 = [] := ⟨rfl, rfl⟩
theorem E128_15 : aCode 128 15 = (Instr.iconst (-1), 16, [], (-1)) ∧ bMask 128 15 = [] := ⟨rfl, rfl⟩
theorem E128_16 : aCode 128 16 = (Instr.ireturn, 17, [0], 0) ∧ bMask 128 16 = [] := ⟨rfl, rfl⟩
theorem E128_17 : aCode 128 17 = (Instr.aload_n 0, 18, [], 0) ∧ bMask 128 17 = [] := ⟨rfl, rfl⟩
theorem E128_18 : aCode 128 18 = (Instr.iload_n 1, 19, [], 0) ∧ bMask 128 18 = [] := ⟨rfl, rfl⟩
theorem E128_19 : aCode 128 19 = (Instr.invokevirtual 266, 22, [126, 2, 0, 7, 0, 107], 0) ∧ bMask 128 19 = [] := ⟨rfl, rfl⟩
theorem E128_22 : aCode 128 22 = (Instr.aload_n 0, 23, [], 0) ∧ bMask 128 22 = [] := ⟨rfl, rfl⟩
theorem E128_23 : aCode 128 23 = (Instr.aload_n 0, 24, [], 0) ∧ bMask 128 23 = [] := ⟨rfl, rfl⟩
theorem E128_24 : aCode 128 24 = (Instr.getfield 17, 27, [108, 7, 3, 2], 0) ∧ bMask 128 24 = [] := ⟨rfl, rfl⟩
theorem E128_27 : aCode 128 27 = (Instr.iload_n 2, 28, [], 0) ∧ bMask 128 27 = [] := ⟨rfl, rfl⟩
theorem E128_28 : aCode 128 28 = (Instr.invokevirtual 145, 31, [127, 3, 1, 7, 0, 108], 0) ∧ bMask 128 28 = [] := ⟨rfl, rfl⟩
theorem E128_31 : aCode 128 31 = (Instr.ireturn, 32, [0], 0) ∧ bMask 128 31 = [] := ⟨rfl, rfl⟩
theorem g_X7_comes_0 {Q : bQ} {M : bM} {x1 : Int32} {x2 : Int32} (h : bCall 125 [cR 26 0, cI x1] M (fun v1 M2 => bV1 v1 fun r3 => (((r3 = 0) → (Q (some (cI (-1 : Int32))) M2)) ∧ (¬ (r3 = 0) → (bCall 105 [cI x2] M2 (fun v4 M5 => bV1 v4 fun r6 => (((¬ r6 = 0) → (bCall 126 [cR 26 0, cI x1] M5 (fun v7 M8 => bV0 v7 (bCall 127 [cR 26 0, cR 27 0, cI x2] M8 (fun v9 M10 => bV1 v9 fun r11 => (Q (some (cI r11)) M10)))))) ∧ (¬ (¬ r6 = 0) → (Q (some (cI (-1 : Int32))) M5))))))))) : bCall 128 [cR 26 0, cI x1, cI x2] M Q := s_aload_n E128_0.1 (k_ E128_0) rfl (s_iload_n E128_1.1 (k_ E128_1) rfl (s_vcall1 E128_2.1 (k_ E128_2) rfl rfl rfl h (fun M2 r3 z0 => s_if_eq E128_5.1 (k_ E128_5) ⟨fun c1 => s_iconst E128_15.1 (k_ E128_15) (s_iret E128_16.1 (k_ E128_16) (z0.1 c1)), fun c1 => s_iload_n E128_8.1 (k_ E128_8) rfl (s_scall1 E128_9.1 (k_ E128_9) rfl rfl rfl (z0.2 c1) (fun M5 r6 z2 => s_if_ne E128_12.1 (k_ E128_12) ⟨fun c3 => s_aload_n E128_17.1 (k_ E128_17) rfl (s_iload_n E128_18.1 (k_ E128_18) rfl (s_vcall0 E128_19.1 (k_ E128_19) rfl rfl rfl (z2.1 c3) (fun M8 z4 => s_aload_n E128_22.1 (k_ E128_22) rfl (s_aload_n E128_23.1 (k_ E128_23) rfl (s_getR E128_24.1 (k_ E128_24) rfl rfl (s_iload_n E128_27.1 (k_ E128_27) rfl (s_vcall1 E128_28.1 (k_ E128_28) rfl rfl rfl z4 (fun M10 r11 z5 => s_iret E128_31.1 (k_ E128_31) z5)))))))), fun c3 => s_iconst E128_15.1 (k_ E128_15) (s_iret E128_16.1 (k_ E128_16) (z2.2 c3))⟩))⟩)))
-- 129: X7_comesToSum
theorem E129_0 : aCode 129 0 = (Instr.iconst 0, 1, [], 0) ∧ bMask 129 0 = [] := ⟨rfl, rfl⟩
theorem E129_1 : aCode 129 1 = (Instr.istore_n 1, 2, [], 0) ∧ bMask 129 1 = [] := ⟨rfl, rfl⟩
theorem E129_2 : aCode 129 2 = (Instr.iload_n 1, 3, [], 0) := rfl
theorem E129_3 : aCode 129 3 = (Instr.bipush 32, 5, [], 32) ∧ bMask 129 3 = [] := ⟨rfl, rfl⟩
theorem E129_5 : aCode 129 5 = (Instr.if_icmp .ge 76, 8, [81], 0) ∧ bMask 129 5 = [] := ⟨rfl, rfl⟩
theorem E129_8 : aCode 129 8 = (Instr.aload_n 0, 9, [], 0) ∧ bMask 129 8 = [] := ⟨rfl, rfl⟩
theorem E129_9 : aCode 129 9 = (Instr.getfield 32, 12, [109, 7, 13, 2], 0) ∧ bMask 129 9 = [] := ⟨rfl, rfl⟩
theorem E129_12 : aCode 129 12 = (Instr.bipush 32, 14, [], 32) ∧ bMask 129 12 = [] := ⟨rfl, rfl⟩
theorem E129_14 : aCode 129 14 = (Instr.aload_n 0, 15, [], 0) ∧ bMask 129 14 = [] := ⟨rfl, rfl⟩
theorem E129_15 : aCode 129 15 = (Instr.getfield 188, 18, [71, 7, 17, 0], 0) ∧ bMask 129 15 = [] := ⟨rfl, rfl⟩
theorem E129_18 : aCode 129 18 = (Instr.imul, 19, [], 0) ∧ bMask 129 18 = [] := ⟨rfl, rfl⟩
theorem E129_19 : aCode 129 19 = (Instr.iload_n 1, 20, [], 0) ∧ bMask 129 19 = [] := ⟨rfl, rfl⟩
theorem E129_20 : aCode 129 20 = (Instr.iadd, 21, [], 0) ∧ bMask 129 20 = [] := ⟨rfl, rfl⟩
theorem E129_21 : aCode 129 21 = (Instr.iaload, 22, [0], 0) ∧ bMask 129 21 = [] := ⟨rfl, rfl⟩
theorem E129_22 : aCode 129 22 = (Instr.istore_n 2, 23, [], 0) ∧ bMask 129 22 = [] := ⟨rfl, rfl⟩
theorem E129_23 : aCode 129 23 = (Instr.aload_n 0, 24, [], 0) ∧ bMask 129 23 = [] := ⟨rfl, rfl⟩
theorem E129_24 : aCode 129 24 = (Instr.getfield 29, 27, [70, 7, 12, 2], 0) ∧ bMask 129 24 = [] := ⟨rfl, rfl⟩
theorem E129_27 : aCode 129 27 = (Instr.bipush 32, 29, [], 32) ∧ bMask 129 27 = [] := ⟨rfl, rfl⟩
theorem E129_29 : aCode 129 29 = (Instr.aload_n 0, 30, [], 0) ∧ bMask 129 29 = [] := ⟨rfl, rfl⟩
theorem E129_30 : aCode 129 30 = (Instr.getfield 188, 33, [71, 7, 17, 0], 0) ∧ bMask 129 30 = [] := ⟨rfl, rfl⟩
theorem E129_33 : aCode 129 33 = (Instr.imul, 34, [], 0) ∧ bMask 129 33 = [] := ⟨rfl, rfl⟩
theorem E129_34 : aCode 129 34 = (Instr.iload_n 1, 35, [], 0) ∧ bMask 129 34 = [] := ⟨rfl, rfl⟩
theorem E129_35 : aCode 129 35 = (Instr.iadd, 36, [], 0) ∧ bMask 129 35 = [] := ⟨rfl, rfl⟩
theorem E129_36 : aCode 129 36 = (Instr.aload_n 0, 37, [], 0) ∧ bMask 129 36 = [] := ⟨rfl, rfl⟩
theorem E129_37 : aCode 129 37 = (Instr.aload_n 0, 38, [], 0) ∧ bMask 129 37 = [] := ⟨rfl, rfl⟩
theorem E129_38 : aCode 129 38 = (Instr.getfield 29, 41, [70, 7, 12, 2], 0) ∧ bMask 129 38 = [] := ⟨rfl, rfl⟩
theorem E129_41 : aCode 129 41 = (Instr.bipush 32, 43, [], 32) ∧ bMask 129 41 = [] := ⟨rfl, rfl⟩
theorem E129_43 : aCode 129 43 = (Instr.aload_n 0, 44, [], 0) ∧ bMask 129 43 = [] := ⟨rfl, rfl⟩
theorem E129_44 : aCode 129 44 = (Instr.getfield 188, 47, [71, 7, 17, 0], 0) ∧ bMask 129 44 = [] := ⟨rfl, rfl⟩
theorem E129_47 : aCode 129 47 = (Instr.imul, 48, [], 0) ∧ bMask 129 47 = [] := ⟨rfl, rfl⟩
theorem E129_48 : aCode 129 48 = (Instr.iload_n 1, 49, [], 0) ∧ bMask 129 48 = [] := ⟨rfl, rfl⟩
theorem E129_49 : aCode 129 49 = (Instr.iadd, 50, [], 0) ∧ bMask 129 49 = [] := ⟨rfl, rfl⟩
theorem E129_50 : aCode 129 50 = (Instr.iaload, 51, [0], 0) ∧ bMask 129 50 = [] := ⟨rfl, rfl⟩
theorem E129_51 : aCode 129 51 = (Instr.aload_n 0, 52, [], 0) ∧ bMask 129 51 = [] := ⟨rfl, rfl⟩
theorem E129_52 : aCode 129 52 = (Instr.getfield 35, 55, [72, 7, 14, 2], 0) ∧ bMask 129 52 = [] := ⟨rfl, rfl⟩
theorem E129_55 : aCode 129 55 = (Instr.aload_n 0, 56, [], 0) ∧ bMask 129 55 = [] := ⟨rfl, rfl⟩
theorem E129_56 : aCode 129 56 = (Instr.getfield 188, 59, [71, 7, 17, 0], 0) ∧ bMask 129 56 = [] := ⟨rfl, rfl⟩
theorem E129_59 : aCode 129 59 = (Instr.baload, 60, [1], 0) ∧ bMask 129 59 = [] := ⟨rfl, rfl⟩
theorem E129_60 : aCode 129 60 = (Instr.ifCond .eq 8, 63, [68], 0) ∧ bMask 129 60 = [] := ⟨rfl, rfl⟩
theorem E129_63 : aCode 129 63 = (Instr.iload_n 2, 64, [], 0) ∧ bMask 129 63 = [] := ⟨rfl, rfl⟩
theorem E129_64 : aCode 129 64 = (Instr.ineg, 65, [], 0) ∧ bMask 129 64 = [] := ⟨rfl, rfl⟩
theorem E129_65 : aCode 129 65 = (Instr.goto 4, 69, [], 0) ∧ bMask 129 65 = [] := ⟨rfl, rfl⟩
theorem E129_68 : aCode 129 68 = (Instr.iload_n 2, 69, [], 0) ∧ bMask 129 68 = [] := ⟨rfl, rfl⟩
theorem E129_69 : aCode 129 69 = (Instr.iadd, 70, [], 0) ∧ bMask 129 69 = [] := ⟨rfl, rfl⟩
theorem E129_70 : aCode 129 70 = (Instr.i2l, 71, [], 0) ∧ bMask 129 70 = [] := ⟨rfl, rfl⟩
theorem E129_71 : aCode 129 71 = (Instr.invokevirtual 137, 74, [118, 2, 1, 7, 0, 98], 0) ∧ bMask 129 71 = [] := ⟨rfl, rfl⟩
theorem E129_74 : aCode 129 74 = (Instr.iastore, 75, [0], 0) ∧ bMask 129 74 = [] := ⟨rfl, rfl⟩
theorem E129_75 : aCode 129 75 = (Instr.iinc 1 1, 78, [], 1) ∧ bMask 129 75 = [] := ⟨rfl, rfl⟩
theorem E129_78 : aCode 129 78 = (Instr.goto (-76), 2, [], 0) ∧ bMask 129 78 = [] := ⟨rfl, rfl⟩
theorem E129_81 : aCode 129 81 = (Instr.return_, 82, [], 0) ∧ bMask 129 81 = [] := ⟨rfl, rfl⟩
theorem g_X7_comesToSum_0 {Q : bQ} {M : bM}  (h : bGo 129 Q 2 [some (cR 26 0), some (cI (0 : Int32)), none] [] M) : bCall 129 [cR 26 0] M Q := s_iconst E129_0.1 (k_ E129_0) (s_istore_n E129_1.1 (k_ E129_1) (h))
theorem g_X7_comesToSum_2 {Q : bQ} {M : bM} {x1 : Int32} {o2 : Option bV} (h : (((32 : Int32) ≤ x1) → (Q none M)) ∧ (¬ ((32 : Int32) ≤ x1) → ((vp_in (((32 : Int32) * (M 26 0 17)) + x1) 160) ∧ ((vp_in (((32 : Int32) * (M 26 0 17)) + x1) 160) ∧ ((vp_in (M 26 0 17) 5) ∧ ((((M 32 0 (M 26 0 17).toNatClampNeg) = 0) → (bCall 118 [cR 26 0, cL (((M 30 0 (((32 : Int32) * (M 26 0 17)) + x1).toNatClampNeg) + (M 31 0 (((32 : Int32) * (M 26 0 17)) + x1).toNatClampNeg)).toInt64)] M (fun v1 M2 => bV1 v1 fun r3 => ((vp_in (((32 : Int32) * (M 26 0 17)) + x1) 160) ∧ bGo 129 Q 2 [some (cR 26 0), some (cI (x1 + (1 : Int32))), some (cI (M 31 0 (((32 : Int32) * (M 26 0 17)) + x1).toNatClampNeg))] [] (bU M2 30 0 (((32 : Int32) * (M 26 0 17)) + x1).toNatClampNeg r3))))) ∧ (¬ ((M 32 0 (M 26 0 17).toNatClampNeg) = 0) → (bCall 118 [cR 26 0, cL (((M 30 0 (((32 : Int32) * (M 26 0 17)) + x1).toNatClampNeg) + (-(M 31 0 (((32 : Int32) * (M 26 0 17)) + x1).toNatClampNeg))).toInt64)] M (fun v4 M5 => bV1 v4 fun r6 => ((vp_in (((32 : Int32) * (M 26 0 17)) + x1) 160) ∧ bGo 129 Q 2 [some (cR 26 0), some (cI (x1 + (1 : Int32))), some (cI (M 31 0 (((32 : Int32) * (M 26 0 17)) + x1).toNatClampNeg))] [] (bU M5 30 0 (((32 : Int32) * (M 26 0 17)) + x1).toNatClampNeg r6))))))))))) : bGo 129 Q 2 [some (cR 26 0), some (cI x1), o2] [] M := s_iload_n E129_2 rfl rfl (s_bipush E129_3.1 (k_ E129_3) (s_icmp_ge E129_5.1 (k_ E129_5) ⟨fun c0 => s_ret E129_81.1 (k_ E129_81) (h.1 c0), fun c0 => s_aload_n E129_8.1 (k_ E129_8) rfl (s_getR E129_9.1 (k_ E129_9) rfl rfl (s_bipush E129_12.1 (k_ E129_12) (s_aload_n E129_14.1 (k_ E129_14) rfl (s_getI0 E129_15.1 (k_ E129_15) rfl (s_imul E129_18.1 (k_ E129_18) (s_iload_n E129_19.1 (k_ E129_19) rfl (s_iadd E129_20.1 (k_ E129_20) (s_iaload E129_21.1 (k_ E129_21) rfl ⟨(h.2 c0).1, s_istore_n E129_22.1 (k_ E129_22) (s_aload_n E129_23.1 (k_ E129_23) rfl (s_getR E129_24.1 (k_ E129_24) rfl rfl (s_bipush E129_27.1 (k_ E129_27) (s_aload_n E129_29.1 (k_ E129_29) rfl (s_getI0 E129_30.1 (k_ E129_30) rfl (s_imul E129_33.1 (k_ E129_33) (s_iload_n E129_34.1 (k_ E129_34) rfl (s_iadd E129_35.1 (k_ E129_35) (s_aload_n E129_36.1 (k_ E129_36) rfl (s_aload_n E129_37.1 (k_ E129_37) rfl (s_getR E129_38.1 (k_ E129_38) rfl rfl (s_bipush E129_41.1 (k_ E129_41) (s_aload_n E129_43.1 (k_ E129_43) rfl (s_getI0 E129_44.1 (k_ E129_44) rfl (s_imul E129_47.1 (k_ E129_47) (s_iload_n E129_48.1 (k_ E129_48) rfl (s_iadd E129_49.1 (k_ E129_49) (s_iaload E129_50.1 (k_ E129_50) rfl ⟨((h.2 c0).2).1, s_aload_n E129_51.1 (k_ E129_51) rfl (s_getR E129_52.1 (k_ E129_52) rfl rfl (s_aload_n E129_55.1 (k_ E129_55) rfl (s_getI0 E129_56.1 (k_ E129_56) rfl (s_baload E129_59.1 (k_ E129_59) rfl ⟨(((h.2 c0).2).2).1, s_if_eq E129_60.1 (k_ E129_60) ⟨fun c1 => s_iload_n E129_68.1 (k_ E129_68) rfl (s_iadd E129_69.1 (k_ E129_69) (s_i2l E129_70.1 (k_ E129_70) (s_vcall1 E129_71.1 (k_ E129_71) rfl rfl rfl (((((h.2 c0).2).2).2).1 c1) (fun M2 r3 z2 => s_iastore E129_74.1 (k_ E129_74) rfl ⟨z2.1, s_iinc E129_75.1 (k_ E129_75) rfl (s_goto E129_78.1 (k_ E129_78) (z2.2))⟩)))), fun c1 => s_iload_n E129_63.1 (k_ E129_63) rfl (s_ineg E129_64.1 (k_ E129_64) (s_goto E129_65.1 (k_ E129_65) (s_iadd E129_69.1 (k_ E129_69) (s_i2l E129_70.1 (k_ E129_70) (s_vcall1 E129_71.1 (k_ E129_71) rfl rfl rfl (((((h.2 c0).2).2).2).2 c1) (fun M5 r6 z3 => s_iastore E129_74.1 (k_ E129_74) rfl ⟨z3.1, s_iinc E129_75.1 (k_ E129_75) rfl (s_goto E129_78.1 (k_ E129_78) (z3.2))⟩))))))⟩⟩))))⟩))))))))))))))))))⟩))))))))⟩))
-- 130: X7_multiplies
theorem E130_0 : aCode 130 0 = (Instr.iconst 0, 1, [], 0) ∧ bMask 130 0 = [] := ⟨rfl, rfl⟩
theorem E130_1 : aCode 130 1 = (Instr.istore_n 3, 2, [], 0) ∧ bMask 130 1 = [] := ⟨rfl, rfl⟩
theorem E130_2 : aCode 130 2 = (Instr.iload_n 3, 3, [], 0) := rfl
theorem E130_3 : aCode 130 3 = (Instr.bipush 32, 5, [], 32) ∧ bMask 130 3 = [] := ⟨rfl, rfl⟩
theorem E130_5 : aCode 130 5 = (Instr.if_icmp .ge 56, 8, [61], 0) ∧ bMask 130 5 = [] := ⟨rfl, rfl⟩
theorem E130_8 : aCode 130 8 = (Instr.iconst 0, 9, [], 0) ∧ bMask 130 8 = [] := ⟨rfl, rfl⟩
theorem E130_9 : aCode 130 9 = (Instr.istore 4, 11, [], 0) ∧ bMask 130 9 = [] := ⟨rfl, rfl⟩
theorem E130_11 : aCode 130 11 = (Instr.iconst 0, 12, [], 0) ∧ bMask 130 11 = [] := ⟨rfl, rfl⟩
theorem E130_12 : aCode 130 12 = (Instr.istore 5, 14, [], 0) ∧ bMask 130 12 = [] := ⟨rfl, rfl⟩
theorem E130_14 : aCode 130 14 = (Instr.iload 5, 16, [], 0) ∧ bMask 130 14 = [] := ⟨rfl, rfl⟩
theorem E130_16 : aCode 130 16 = (Instr.iload_n 3, 17, [], 0) ∧ bMask 130 16 = [] := ⟨rfl, rfl⟩
theorem E130_17 : aCode 130 17 = (Instr.if_icmp .gt 30, 20, [47], 0) ∧ bMask 130 17 = [] := ⟨rfl, rfl⟩
theorem E130_20 : aCode 130 20 = (Instr.iload 4, 22, [], 0) ∧ bMask 130 20 = [] := ⟨rfl, rfl⟩
theorem E130_22 : aCode 130 22 = (Instr.aload_n 1, 23, [], 0) ∧ bMask 130 22 = [] := ⟨rfl, rfl⟩
theorem E130_23 : aCode 130 23 = (Instr.iload 5, 25, [], 0) ∧ bMask 130 23 = [] := ⟨rfl, rfl⟩
theorem E130_25 : aCode 130 25 = (Instr.iaload, 26, [0], 0) ∧ bMask 130 25 = [] := ⟨rfl, rfl⟩
theorem E130_26 : aCode 130 26 = (Instr.aload_n 2, 27, [], 0) ∧ bMask 130 26 = [] := ⟨rfl, rfl⟩
theorem E130_27 : aCode 130 27 = (Instr.iload_n 3, 28, [], 0) ∧ bMask 130 27 = [] := ⟨rfl, rfl⟩
theorem E130_28 : aCode 130 28 = (Instr.iload 5, 30, [], 0) ∧ bMask 130 28 = [] := ⟨rfl, rfl⟩
theorem E130_30 : aCode 130 30 = (Instr.isub, 31, [], 0) ∧ bMask 130 30 = [] := ⟨rfl, rfl⟩
theorem E130_31 : aCode 130 31 = (Instr.iaload, 32, [0], 0) ∧ bMask 130 31 = [] := ⟨rfl, rfl⟩
theorem E130_32 : aCode 130 32 = (Instr.imul, 33, [], 0) ∧ bMask 130 32 = [] := ⟨rfl, rfl⟩
theorem E130_33 : aCode 130 33 = (Instr.iadd, 34, [], 0) ∧ bMask 130 33 = [] := ⟨rfl, rfl⟩
theorem E130_34 : aCode 130 34 = (Instr.aload_n 0, 35, [], 0) ∧ bMask 130 34 = [] := ⟨rfl, rfl⟩
theorem E130_35 : aCode 130 35 = (Instr.getfield 7, 38, [82, 7, 0, 0], 0) ∧ bMask 130 35 = [] := ⟨rfl, rfl⟩
theorem E130_38 : aCode 130 38 = (Instr.irem, 39, [], 0) ∧ bMask 130 38 = [] := ⟨rfl, rfl⟩
theorem E130_39 : aCode 130 39 = (Instr.istore 4, 41, [], 0) ∧ bMask 130 39 = [] := ⟨rfl, rfl⟩
theorem E130_41 : aCode 130 41 = (Instr.iinc 5 1, 44, [], 1) ∧ bMask 130 41 = [] := ⟨rfl, rfl⟩
theorem E130_44 : aCode 130 44 = (Instr.goto (-30), 14, [], 0) ∧ bMask 130 44 = [] := ⟨rfl, rfl⟩
theorem E130_47 : aCode 130 47 = (Instr.aload_n 0, 48, [], 0) ∧ bMask 130 47 = [] := ⟨rfl, rfl⟩
theorem E130_48 : aCode 130 48 = (Instr.getfield 17, 51, [108, 7, 3, 2], 0) ∧ bMask 130 48 = [] := ⟨rfl, rfl⟩
theorem E130_51 : aCode 130 51 = (Instr.iload_n 3, 52, [], 0) ∧ bMask 130 51 = [] := ⟨rfl, rfl⟩
theorem E130_52 : aCode 130 52 = (Instr.iload 4, 54, [], 0) ∧ bMask 130 52 = [] := ⟨rfl, rfl⟩
theorem E130_54 : aCode 130 54 = (Instr.iastore, 55, [0], 0) ∧ bMask 130 54 = [] := ⟨rfl, rfl⟩
theorem E130_55 : aCode 130 55 = (Instr.iinc 3 1, 58, [], 1) ∧ bMask 130 55 = [] := ⟨rfl, rfl⟩
theorem E130_58 : aCode 130 58 = (Instr.goto (-56), 2, [], 0) ∧ bMask 130 58 = [] := ⟨rfl, rfl⟩
theorem E130_61 : aCode 130 61 = (Instr.return_, 62, [], 0) ∧ bMask 130 61 = [] := ⟨rfl, rfl⟩
theorem g_X7_multiplies_0 {Q : bQ} {M : bM} {j1 : Nat} {j2 : Nat} (h : bGo 130 Q 2 [some (cR 26 0), some (cR 27 j1), some (cR 27 j2), some (cI (0 : Int32)), none, none] [] M) : bCall 130 [cR 26 0, cR 27 j1, cR 27 j2] M Q := s_iconst E130_0.1 (k_ E130_0) (s_istore_n E130_1.1 (k_ E130_1) (h))
theorem g_X7_multiplies_2 {Q : bQ} {M : bM} {j1 : Nat} {j2 : Nat} {x3 : Int32} {o4 : Option bV} {o5 : Option bV} (h : (((32 : Int32) ≤ x3) → (Q none M)) ∧ (¬ ((32 : Int32) ≤ x3) → bGo 130 Q 14 [some (cR 26 0), some (cR 27 j1), some (cR 27 j2), some (cI x3), some (cI (0 : Int32)), some (cI (0 : Int32))] [] M)) : bGo 130 Q 2 [some (cR 26 0), some (cR 27 j1), some (cR 27 j2), some (cI x3), o4, o5] [] M := s_iload_n E130_2 rfl rfl (s_bipush E130_3.1 (k_ E130_3) (s_icmp_ge E130_5.1 (k_ E130_5) ⟨fun c0 => s_ret E130_61.1 (k_ E130_61) (h.1 c0), fun c0 => s_iconst E130_8.1 (k_ E130_8) (s_istore E130_9.1 (k_ E130_9) (s_iconst E130_11.1 (k_ E130_11) (s_istore E130_12.1 (k_ E130_12) (h.2 c0))))⟩))
theorem g_X7_multiplies_14 {Q : bQ} {M : bM} {j1 : Nat} {j2 : Nat} {x3 : Int32} {x4 : Int32} {x5 : Int32} (h : ((x3 < x5) → ((vp_in x3 32) ∧ bGo 130 Q 2 [some (cR 26 0), some (cR 27 j1), some (cR 27 j2), some (cI (x3 + (1 : Int32))), some (cI x4), some (cI x5)] [] (bU M 27 0 x3.toNatClampNeg x4))) ∧ (¬ (x3 < x5) → ((vp_in x5 32) ∧ ((vp_in (x3 - x5) 32) ∧ ((¬ (M 26 0 0) = 0) ∧ bGo 130 Q 14 [some (cR 26 0), some (cR 27 j1), some (cR 27 j2), some (cI x3), some (cI (aRem (x4 + ((M 27 j1 x5.toNatClampNeg) * (M 27 j2 (x3 - x5).toNatClampNeg))) (M 26 0 0))), some (cI (x5 + (1 : Int32)))] [] M))))) : bGo 130 Q 14 [some (cR 26 0), some (cR 27 j1), some (cR 27 j2), some (cI x3), some (cI x4), some (cI x5)] [] M := s_iload E130_14.1 (k_ E130_14) rfl (s_iload_n E130_16.1 (k_ E130_16) rfl (s_icmp_gt E130_17.1 (k_ E130_17) ⟨fun c1 => s_aload_n E130_47.1 (k_ E130_47) rfl (s_getR E130_48.1 (k_ E130_48) rfl rfl (s_iload_n E130_51.1 (k_ E130_51) rfl (s_iload E130_52.1 (k_ E130_52) rfl (s_iastore E130_54.1 (k_ E130_54) rfl ⟨(h.1 c1).1, s_iinc E130_55.1 (k_ E130_55) rfl (s_goto E130_58.1 (k_ E130_58) ((h.1 c1).2))⟩)))), fun c1 => s_iload E130_20.1 (k_ E130_20) rfl (s_aload_n E130_22.1 (k_ E130_22) rfl (s_iload E130_23.1 (k_ E130_23) rfl (s_iaload E130_25.1 (k_ E130_25) rfl ⟨(h.2 c1).1, s_aload_n E130_26.1 (k_ E130_26) rfl (s_iload_n E130_27.1 (k_ E130_27) rfl (s_iload E130_28.1 (k_ E130_28) rfl (s_isub E130_30.1 (k_ E130_30) (s_iaload E130_31.1 (k_ E130_31) rfl ⟨((h.2 c1).2).1, s_imul E130_32.1 (k_ E130_32) (s_iadd E130_33.1 (k_ E130_33) (s_aload_n E130_34.1 (k_ E130_34) rfl (s_getI0 E130_35.1 (k_ E130_35) rfl (s_irem E130_38.1 (k_ E130_38) ⟨(((h.2 c1).2).2).1, s_istore E130_39.1 (k_ E130_39) (s_iinc E130_41.1 (k_ E130_41) rfl (s_goto E130_44.1 (k_ E130_44) ((((h.2 c1).2).2).2)))⟩))))⟩))))⟩)))⟩))
-- 131: X7_divides
theorem E131_0 : aCode 131 0 = (Instr.aload_n 0, 1, [], 0) ∧ bMask 131 0 = [] := ⟨rfl, rfl⟩
theorem E131_1 : aCode 131 1 = (Instr.aload_n 2, 2, [], 0) ∧ bMask 131 1 = [] := ⟨rfl, rfl⟩
theorem E131_2 : aCode 131 2 = (Instr.iconst 0, 3, [], 0) ∧ bMask 131 2 = [] := ⟨rfl, rfl⟩
theorem E131_3 : aCode 131 3 = (Instr.iaload, 4, [0], 0) ∧ bMask 131 3 = [] := ⟨rfl, rfl⟩
theorem E131_4 : aCode 131 4 = (Instr.invokevirtual 141, 7, [121, 2, 1, 7, 0, 99], 0) ∧ bMask 131 4 = [] := ⟨rfl, rfl⟩
theorem E131_7 : aCode 131 7 = (Instr.istore_n 3, 8, [], 0) ∧ bMask 131 7 = [] := ⟨rfl, rfl⟩
theorem E131_8 : aCode 131 8 = (Instr.iconst 0, 9, [], 0) ∧ bMask 131 8 = [] := ⟨rfl, rfl⟩
theorem E131_9 : aCode 131 9 = (Instr.istore 4, 11, [], 0) ∧ bMask 131 9 = [] := ⟨rfl, rfl⟩
theorem E131_11 : aCode 131 11 = (Instr.iload 4, 13, [], 0) := rfl
theorem E131_13 : aCode 131 13 = (Instr.bipush 32, 15, [], 32) ∧ bMask 131 13 = [] := ⟨rfl, rfl⟩
theorem E131_15 : aCode 131 15 = (Instr.if_icmp .ge 72, 18, [87], 0) ∧ bMask 131 15 = [] := ⟨rfl, rfl⟩
theorem E131_18 : aCode 131 18 = (Instr.aload_n 1, 19, [], 0) ∧ bMask 131 18 = [] := ⟨rfl, rfl⟩
theorem E131_19 : aCode 131 19 = (Instr.iload 4, 21, [], 0) ∧ bMask 131 19 = [] := ⟨rfl, rfl⟩
theorem E131_21 : aCode 131 21 = (Instr.iaload, 22, [0], 0) ∧ bMask 131 21 = [] := ⟨rfl, rfl⟩
theorem E131_22 : aCode 131 22 = (Instr.istore 5, 24, [], 0) ∧ bMask 131 22 = [] := ⟨rfl, rfl⟩
theorem E131_24 : aCode 131 24 = (Instr.iconst 0, 25, [], 0) ∧ bMask 131 24 = [] := ⟨rfl, rfl⟩
theorem E131_25 : aCode 131 25 = (Instr.istore 6, 27, [], 0) ∧ bMask 131 25 = [] := ⟨rfl, rfl⟩
theorem E131_27 : aCode 131 27 = (Instr.iload 6, 29, [], 0) ∧ bMask 131 27 = [] := ⟨rfl, rfl⟩
theorem E131_29 : aCode 131 29 = (Instr.iload 4, 31, [], 0) ∧ bMask 131 29 = [] := ⟨rfl, rfl⟩
theorem E131_31 : aCode 131 31 = (Instr.if_icmp .ge 34, 34, [65], 0) ∧ bMask 131 31 = [] := ⟨rfl, rfl⟩
theorem E131_34 : aCode 131 34 = (Instr.aload_n 0, 35, [], 0) ∧ bMask 131 34 = [] := ⟨rfl, rfl⟩
theorem E131_35 : aCode 131 35 = (Instr.iload 5, 37, [], 0) ∧ bMask 131 35 = [] := ⟨rfl, rfl⟩
theorem E131_37 : aCode 131 37 = (Instr.aload_n 0, 38, [], 0) ∧ bMask 131 37 = [] := ⟨rfl, rfl⟩
theorem E131_38 : aCode 131 38 = (Instr.getfield 17, 41, [108, 7, 3, 2], 0) ∧ bMask 131 38 = [] := ⟨rfl, rfl⟩
theorem E131_41 : aCode 131 41 = (Instr.iload 6, 43, [], 0) ∧ bMask 131 41 = [] := ⟨rfl, rfl⟩
theorem E131_43 : aCode 131 43 = (Instr.iaload, 44, [0], 0) ∧ bMask 131 43 = [] := ⟨rfl, rfl⟩
theorem E131_44 : aCode 131 44 = (Instr.aload_n 2, 45, [], 0) ∧ bMask 131 44 = [] := ⟨rfl, rfl⟩
theorem E131_45 : aCode 131 45 = (Instr.iload 4, 47, [], 0) ∧ bMask 131 45 = [] := ⟨rfl, rfl⟩
theorem E131_47 : aCode 131 47 = (Instr.iload 6, 49, [], 0) ∧ bMask 131 47 = [] := ⟨rfl, rfl⟩
theorem E131_49 : aCode 131 49 = (Instr.isub, 50, [], 0) ∧ bMask 131 49 = [] := ⟨rfl, rfl⟩
theorem E131_50 : aCode 131 50 = (Instr.iaload, 51, [0], 0) ∧ bMask 131 50 = [] := ⟨rfl, rfl⟩
theorem E131_51 : aCode 131 51 = (Instr.imul, 52, [], 0) ∧ bMask 131 51 = [] := ⟨rfl, rfl⟩
theorem E131_52 : aCode 131 52 = (Instr.isub, 53, [], 0) ∧ bMask 131 52 = [] := ⟨rfl, rfl⟩
theorem E131_53 : aCode 131 53 = (Instr.i2l, 54, [], 0) ∧ bMask 131 53 = [] := ⟨rfl, rfl⟩
theorem E131_54 : aCode 131 54 = (Instr.invokevirtual 137, 57, [118, 2, 1, 7, 0, 98], 0) ∧ bMask 131 54 = [] := ⟨rfl, rfl⟩
theorem E131_57 : aCode 131 57 = (Instr.istore 5, 59, [], 0) ∧ bMask 131 57 = [] := ⟨rfl, rfl⟩
theorem E131_59 : aCode 131 59 = (Instr.iinc 6 1, 62, [], 1) ∧ bMask 131 59 = [] := ⟨rfl, rfl⟩
theorem E131_62 : aCode 131 62 = (Instr.goto (-35), 27, [], 0) ∧ bMask 131 62 = [] := ⟨rfl, rfl⟩
theorem E131_65 : aCode 131 65 = (Instr.aload_n 0, 66, [], 0) ∧ bMask 131 65 = [] := ⟨rfl, rfl⟩
theorem E131_66 : aCode 131 66 = (Instr.getfield 17, 69, [108, 7, 3, 2], 0) ∧ bMask 131 66 = [] := ⟨rfl, rfl⟩
theorem E131_69 : aCode 131 69 = (Instr.iload 4, 71, [], 0) ∧ bMask 131 69 = [] := ⟨rfl, rfl⟩
theorem E131_71 : aCode 131 71 = (Instr.iload 5, 73, [], 0) ∧ bMask 131 71 = [] := ⟨rfl, rfl⟩
theorem E131_73 : aCode 131 73 = (Instr.iload_n 3, 74, [], 0) ∧ bMask 131 73 = [] := ⟨rfl, rfl⟩
theorem E131_74 : aCode 131 74 = (Instr.imul, 75, [], 0) ∧ bMask 131 74 = [] := ⟨rfl, rfl⟩
theorem E131_75 : aCode 131 75 = (Instr.aload_n 0, 76, [], 0) ∧ bMask 131 75 = [] := ⟨rfl, rfl⟩
theorem E131_76 : aCode 131 76 = (Instr.getfield 7, 79, [82, 7, 0, 0], 0) ∧ bMask 131 76 = [] := ⟨rfl, rfl⟩
theorem E131_79 : aCode 131 79 = (Instr.irem, 80, [], 0) ∧ bMask 131 79 = [] := ⟨rfl, rfl⟩
theorem E131_80 : aCode 131 80 = (Instr.iastore, 81, [0], 0) ∧ bMask 131 80 = [] := ⟨rfl, rfl⟩
theorem E131_81 : aCode 131 81 = (Instr.iinc 4 1, 84, [], 1) ∧ bMask 131 81 = [] := ⟨rfl, rfl⟩
theorem E131_84 : aCode 131 84 = (Instr.goto (-73), 11, [], 0) ∧ bMask 131 84 = [] := ⟨rfl, rfl⟩
theorem E131_87 : aCode 131 87 = (Instr.return_, 88, [], 0) ∧ bMask 131 87 = [] := ⟨rfl, rfl⟩
theorem g_X7_divides_0 {Q : bQ} {M : bM} {j1 : Nat} {j2 : Nat} (h : (vp_in (0 : Int32) 32) ∧ (bCall 121 [cR 26 0, cI (M 27 j2 (0 : Int32).toNatClampNeg)] M (fun v1 M2 => bV1 v1 fun r3 => (bGo 131 Q 11 [some (cR 26 0), some (cR 27 j1), some (cR 27 j2), some (cI r3), some (cI (0 : Int32)), none, none] [] M2)))) : bCall 131 [cR 26 0, cR 27 j1, cR 27 j2] M Q := s_aload_n E131_0.1 (k_ E131_0) rfl (s_aload_n E131_1.1 (k_ E131_1) rfl (s_iconst E131_2.1 (k_ E131_2) (s_iaload E131_3.1 (k_ E131_3) rfl ⟨h.1, s_vcall1 E131_4.1 (k_ E131_4) rfl rfl rfl h.2 (fun M2 r3 z0 => s_istore_n E131_7.1 (k_ E131_7) (s_iconst E131_8.1 (k_ E131_8) (s_istore E131_9.1 (k_ E131_9) (z0))))⟩)))
theorem g_X7_divides_11 {Q : bQ} {M : bM} {j1 : Nat} {j2 : Nat} {x3 : Int32} {x4 : Int32} {o5 : Option bV} {o6 : Option bV} (h : (((32 : Int32) ≤ x4) → (Q none M)) ∧ (¬ ((32 : Int32) ≤ x4) → ((vp_in x4 32) ∧ bGo 131 Q 27 [some (cR 26 0), some (cR 27 j1), some (cR 27 j2), some (cI x3), some (cI x4), some (cI (M 27 j1 x4.toNatClampNeg)), some (cI (0 : Int32))] [] M))) : bGo 131 Q 11 [some (cR 26 0), some (cR 27 j1), some (cR 27 j2), some (cI x3), some (cI x4), o5, o6] [] M := s_iload E131_11 rfl rfl (s_bipush E131_13.1 (k_ E131_13) (s_icmp_ge E131_15.1 (k_ E131_15) ⟨fun c1 => s_ret E131_87.1 (k_ E131_87) (h.1 c1), fun c1 => s_aload_n E131_18.1 (k_ E131_18) rfl (s_iload E131_19.1 (k_ E131_19) rfl (s_iaload E131_21.1 (k_ E131_21) rfl ⟨(h.2 c1).1, s_istore E131_22.1 (k_ E131_22) (s_iconst E131_24.1 (k_ E131_24) (s_istore E131_25.1 (k_ E131_25) ((h.2 c1).2)))⟩))⟩))
theorem g_X7_divides_27 {Q : bQ} {M : bM} {j1 : Nat} {j2 : Nat} {x3 : Int32} {x4 : Int32} {x5 : Int32} {x6 : Int32} (h : ((x4 ≤ x6) → ((¬ (M 26 0 0) = 0) ∧ ((vp_in x4 32) ∧ bGo 131 Q 11 [some (cR 26 0), some (cR 27 j1), some (cR 27 j2), some (cI x3), some (cI (x4 + (1 : Int32))), some (cI x5), some (cI x6)] [] (bU M 27 0 x4.toNatClampNeg (aRem (x5 * x3) (M 26 0 0)))))) ∧ (¬ (x4 ≤ x6) → ((vp_in x6 32) ∧ ((vp_in (x4 - x6) 32) ∧ (bCall 118 [cR 26 0, cL ((x5 - ((M 27 0 x6.toNatClampNeg) * (M 27 j2 (x4 - x6).toNatClampNeg))).toInt64)] M (fun v1 M2 => bV1 v1 fun r3 => (bGo 131 Q 27 [some (cR 26 0), some (cR 27 j1), some (cR 27 j2), some (cI x3), some (cI x4), some (cI r3), some (cI (x6 + (1 : Int32)))] [] M2))))))) : bGo 131 Q 27 [some (cR 26 0), some (cR 27 j1), some (cR 27 j2), some (cI x3), some (cI x4), some (cI x5), some (cI x6)] [] M := s_iload E131_27.1 (k_ E131_27) rfl (s_iload E131_29.1 (k_ E131_29) rfl (s_icmp_ge E131_31.1 (k_ E131_31) ⟨fun c2 => s_aload_n E131_65.1 (k_ E131_65) rfl (s_getR E131_66.1 (k_ E131_66) rfl rfl (s_iload E131_69.1 (k_ E131_69) rfl (s_iload E131_71.1 (k_ E131_71) rfl (s_iload_n E131_73.1 (k_ E131_73) rfl (s_imul E131_74.1 (k_ E131_74) (s_aload_n E131_75.1 (k_ E131_75) rfl (s_getI0 E131_76.1 (k_ E131_76) rfl (s_irem E131_79.1 (k_ E131_79) ⟨(h.1 c2).1, s_iastore E131_80.1 (k_ E131_80) rfl ⟨((h.1 c2).2).1, s_iinc E131_81.1 (k_ E131_81) rfl (s_goto E131_84.1 (k_ E131_84) (((h.1 c2).2).2))⟩⟩)))))))), fun c2 => s_aload_n E131_34.1 (k_ E131_34) rfl (s_iload E131_35.1 (k_ E131_35) rfl (s_aload_n E131_37.1 (k_ E131_37) rfl (s_getR E131_38.1 (k_ E131_38) rfl rfl (s_iload E131_41.1 (k_ E131_41) rfl (s_iaload E131_43.1 (k_ E131_43) rfl ⟨(h.2 c2).1, s_aload_n E131_44.1 (k_ E131_44) rfl (s_iload E131_45.1 (k_ E131_45) rfl (s_iload E131_47.1 (k_ E131_47) rfl (s_isub E131_49.1 (k_ E131_49) (s_iaload E131_50.1 (k_ E131_50) rfl ⟨((h.2 c2).2).1, s_imul E131_51.1 (k_ E131_51) (s_isub E131_52.1 (k_ E131_52) (s_i2l E131_53.1 (k_ E131_53) (s_vcall1 E131_54.1 (k_ E131_54) rfl rfl rfl (((h.2 c2).2).2) (fun M2 r3 z3 => s_istore E131_57.1 (k_ E131_57) (s_iinc E131_59.1 (k_ E131_59) rfl (s_goto E131_62.1 (k_ E131_62) (z3)))))))⟩))))⟩)))))⟩))
-- 132: X7_comesToTerm
theorem E132_0 : aCode 132 0 = (Instr.aload_n 0, 1, [], 0) ∧ bMask 132 0 = [] := ⟨rfl, rfl⟩
theorem E132_1 : aCode 132 1 = (Instr.getfield 39, 4, [73, 7, 15, 2], 0) ∧ bMask 132 1 = [] := ⟨rfl, rfl⟩
theorem E132_4 : aCode 132 4 = (Instr.aload_n 0, 5, [], 0) ∧ bMask 132 4 = [] := ⟨rfl, rfl⟩
theorem E132_5 : aCode 132 5 = (Instr.getfield 188, 8, [71, 7, 17, 0], 0) ∧ bMask 132 5 = [] := ⟨rfl, rfl⟩
theorem E132_8 : aCode 132 8 = (Instr.iaload, 9, [0], 0) ∧ bMask 132 8 = [] := ⟨rfl, rfl⟩
theorem E132_9 : aCode 132 9 = (Instr.ifCond .eq 143, 12, [152], 0) ∧ bMask 132 9 = [] := ⟨rfl, rfl⟩
theorem E132_12 : aCode 132 12 = (Instr.iconst 0, 13, [], 0) ∧ bMask 132 12 = [] := ⟨rfl, rfl⟩
theorem E132_13 : aCode 132 13 = (Instr.istore_n 1, 14, [], 0) ∧ bMask 132 13 = [] := ⟨rfl, rfl⟩
theorem E132_14 : aCode 132 14 = (Instr.iload_n 1, 15, [], 0) ∧ bMask 132 14 = [] := ⟨rfl, rfl⟩
theorem E132_15 : aCode 132 15 = (Instr.bipush 32, 17, [], 32) ∧ bMask 132 15 = [] := ⟨rfl, rfl⟩
theorem E132_17 : aCode 132 17 = (Instr.if_icmp .ge 29, 20, [46], 0) ∧ bMask 132 17 = [] := ⟨rfl, rfl⟩
theorem E132_20 : aCode 132 20 = (Instr.aload_n 0, 21, [], 0) ∧ bMask 132 20 = [] := ⟨rfl, rfl⟩
theorem E132_21 : aCode 132 21 = (Instr.getfield 20, 24, [110, 7, 4, 2], 0) ∧ bMask 132 21 = [] := ⟨rfl, rfl⟩
theorem E132_24 : aCode 132 24 = (Instr.iload_n 1, 25, [], 0) ∧ bMask 132 24 = [] := ⟨rfl, rfl⟩
theorem E132_25 : aCode 132 25 = (Instr.aload_n 0, 26, [], 0) ∧ bMask 132 25 = [] := ⟨rfl, rfl⟩
theorem E132_26 : aCode 132 26 = (Instr.getfield 32, 29, [109, 7, 13, 2], 0) ∧ bMask 132 26 = [] := ⟨rfl, rfl⟩
theorem E132_29 : aCode 132 29 = (Instr.bipush 32, 31, [], 32) ∧ bMask 132 29 = [] := ⟨rfl, rfl⟩
theorem E132_31 : aCode 132 31 = (Instr.aload_n 0, 32, [], 0) ∧ bMask 132 31 = [] := ⟨rfl, rfl⟩
theorem E132_32 : aCode 132 32 = (Instr.getfield 188, 35, [71, 7, 17, 0], 0) ∧ bMask 132 32 = [] := ⟨rfl, rfl⟩
theorem E132_35 : aCode 132 35 = (Instr.imul, 36, [], 0) ∧ bMask 132 35 = [] := ⟨rfl, rfl⟩
theorem E132_36 : aCode 132 36 = (Instr.iload_n 1, 37, [], 0) ∧ bMask 132 36 = [] := ⟨rfl, rfl⟩
theorem E132_37 : aCode 132 37 = (Instr.iadd, 38, [], 0) ∧ bMask 132 37 = [] := ⟨rfl, rfl⟩
theorem E132_38 : aCode 132 38 = (Instr.iaload, 39, [0], 0) ∧ bMask 132 38 = [] := ⟨rfl, rfl⟩
theorem E132_39 : aCode 132 39 = (Instr.iastore, 40, [0], 0) ∧ bMask 132 39 = [] := ⟨rfl, rfl⟩
theorem E132_40 : aCode 132 40 = (Instr.iinc 1 1, 43, [], 1) ∧ bMask 132 40 = [] := ⟨rfl, rfl⟩
theorem E132_43 : aCode 132 43 = (Instr.goto (-29), 14, [], 0) ∧ bMask 132 43 = [] := ⟨rfl, rfl⟩
theorem E132_46 : aCode 132 46 = (Instr.aload_n 0, 47, [], 0) ∧ bMask 132 46 = [] := ⟨rfl, rfl⟩
theorem E132_47 : aCode 132 47 = (Instr.getfield 39, 50, [73, 7, 15, 2], 0) ∧ bMask 132 47 = [] := ⟨rfl, rfl⟩
theorem E132_50 : aCode 132 50 = (Instr.aload_n 0, 51, [], 0) ∧ bMask 132 50 = [] := ⟨rfl, rfl⟩
theorem E132_51 : aCode 132 51 = (Instr.getfield 188, 54, [71, 7, 17, 0], 0) ∧ bMask 132 51 = [] := ⟨rfl, rfl⟩
theorem E132_54 : aCode 132 54 = (Instr.iaload, 55, [0], 0) ∧ bMask 132 54 = [] := ⟨rfl, rfl⟩
theorem E132_55 : aCode 132 55 = (Instr.bipush 42, 57, [], 42) ∧ bMask 132 55 = [] := ⟨rfl, rfl⟩
theorem E132_57 : aCode 132 57 = (Instr.if_icmp .ne 18, 60, [75], 0) ∧ bMask 132 57 = [] := ⟨rfl, rfl⟩
theorem E132_60 : aCode 132 60 = (Instr.aload_n 0, 61, [], 0) ∧ bMask 132 60 = [] := ⟨rfl, rfl⟩
theorem E132_61 : aCode 132 61 = (Instr.aload_n 0, 62, [], 0) ∧ bMask 132 61 = [] := ⟨rfl, rfl⟩
theorem E132_62 : aCode 132 62 = (Instr.getfield 20, 65, [110, 7, 4, 2], 0) ∧ bMask 132 62 = [] := ⟨rfl, rfl⟩
theorem E132_65 : aCode 132 65 = (Instr.aload_n 0, 66, [], 0) ∧ bMask 132 65 = [] := ⟨rfl, rfl⟩
theorem E132_66 : aCode 132 66 = (Instr.getfield 45, 69, [81, 7, 19, 2], 0) ∧ bMask 132 66 = [] := ⟨rfl, rfl⟩
theorem E132_69 : aCode 132 69 = (Instr.invokevirtual 153, 72, [130, 3, 0, 7, 0, 109], 0) ∧ bMask 132 69 = [] := ⟨rfl, rfl⟩
theorem E132_72 : aCode 132 72 = (Instr.goto 54, 126, [], 0) ∧ bMask 132 72 = [] := ⟨rfl, rfl⟩
theorem E132_75 : aCode 132 75 = (Instr.aload_n 0, 76, [], 0) ∧ bMask 132 75 = [] := ⟨rfl, rfl⟩
theorem E132_76 : aCode 132 76 = (Instr.getfield 45, 79, [81, 7, 19, 2], 0) ∧ bMask 132 76 = [] := ⟨rfl, rfl⟩
theorem E132_79 : aCode 132 79 = (Instr.iconst 0, 80, [], 0) ∧ bMask 132 79 = [] := ⟨rfl, rfl⟩
theorem E132_80 : aCode 132 80 = (Instr.iaload, 81, [0], 0) ∧ bMask 132 80 = [] := ⟨rfl, rfl⟩
theorem E132_81 : aCode 132 81 = (Instr.ifCond .ne 33, 84, [114], 0) ∧ bMask 132 81 = [] := ⟨rfl, rfl⟩
theorem E132_84 : aCode 132 84 = (Instr.aload_n 0, 85, [], 0) ∧ bMask 132 84 = [] := ⟨rfl, rfl⟩
theorem E132_85 : aCode 132 85 = (Instr.aload_n 0, 86, [], 0) ∧ bMask 132 85 = [] := ⟨rfl, rfl⟩
theorem E132_86 : aCode 132 86 = (Instr.getfield 191, 89, [111, 7, 18, 0], 0) ∧ bMask 132 86 = [] := ⟨rfl, rfl⟩
theorem E132_89 : aCode 132 89 = (Instr.ifCond .ge 15, 92, [104], 0) ∧ bMask 132 89 = [] := ⟨rfl, rfl⟩
theorem E132_92 : aCode 132 92 = (Instr.aload_n 0, 93, [], 0) ∧ bMask 132 92 = [] := ⟨rfl, rfl⟩
theorem E132_93 : aCode 132 93 = (Instr.getfield 42, 96, [112, 7, 16, 2], 0) ∧ bMask 132 93 = [] := ⟨rfl, rfl⟩
theorem E132_96 : aCode 132 96 = (Instr.aload_n 0, 97, [], 0) ∧ bMask 132 96 = [] := ⟨rfl, rfl⟩
theorem E132_97 : aCode 132 97 = (Instr.getfield 188, 100, [71, 7, 17, 0], 0) ∧ bMask 132 97 = [] := ⟨rfl, rfl⟩
theorem E132_100 : aCode 132 100 = (Instr.iaload, 101, [0], 0) ∧ bMask 132 100 = [] := ⟨rfl, rfl⟩
theorem E132_101 : aCode 132 101 = (Instr.goto 7, 108, [], 0) ∧ bMask 132 101 = [] := ⟨rfl, rfl⟩
theorem E132_104 : aCode 132 104 = (Instr.aload_n 0, 105, [], 0) ∧ bMask 132 104 = [] := ⟨rfl, rfl⟩
theorem E132_105 : aCode 132 105 = (Instr.getfield 191, 108, [111, 7, 18, 0], 0) ∧ bMask 132 105 = [] := ⟨rfl, rfl⟩
theorem E132_108 : aCode 132 108 = (Instr.putfield 191, 111, [111, 7, 18, 0], 0) ∧ bMask 132 108 = [] := ⟨rfl, rfl⟩
theorem E132_111 : aCode 132 111 = (Instr.goto 15, 126, [], 0) ∧ bMask 132 111 = [] := ⟨rfl, rfl⟩
theorem E132_114 : aCode 132 114 = (Instr.aload_n 0, 115, [], 0) ∧ bMask 132 114 = [] := ⟨rfl, rfl⟩
theorem E132_115 : aCode 132 115 = (Instr.aload_n 0, 116, [], 0) ∧ bMask 132 115 = [] := ⟨rfl, rfl⟩
theorem E132_116 : aCode 132 116 = (Instr.getfield 20, 119, [110, 7, 4, 2], 0) ∧ bMask 132 116 = [] := ⟨rfl, rfl⟩
theorem E132_119 : aCode 132 119 = (Instr.aload_n 0, 120, [], 0) ∧ bMask 132 119 = [] := ⟨rfl, rfl⟩
theorem E132_120 : aCode 132 120 = (Instr.getfield 45, 123, [81, 7, 19, 2], 0) ∧ bMask 132 120 = [] := ⟨rfl, rfl⟩
theorem E132_123 : aCode 132 123 = (Instr.invokevirtual 161, 126, [131, 3, 0, 7, 0, 110], 0) ∧ bMask 132 123 = [] := ⟨rfl, rfl⟩
theorem E132_126 : aCode 132 126 = (Instr.iconst 0, 127, [], 0) ∧ bMask 132 126 = [] := ⟨rfl, rfl⟩
theorem E132_127 : aCode 132 127 = (Instr.istore_n 1, 128, [], 0) ∧ bMask 132 127 = [] := ⟨rfl, rfl⟩
theorem E132_128 : aCode 132 128 = (Instr.iload_n 1, 129, [], 0) ∧ bMask 132 128 = [] := ⟨rfl, rfl⟩
theorem E132_129 : aCode 132 129 = (Instr.bipush 32, 131, [], 32) ∧ bMask 132 129 = [] := ⟨rfl, rfl⟩
theorem E132_131 : aCode 132 131 = (Instr.if_icmp .ge 21, 134, [152], 0) ∧ bMask 132 131 = [] := ⟨rfl, rfl⟩
theorem E132_134 : aCode 132 134 = (Instr.aload_n 0, 135, [], 0) ∧ bMask 132 134 = [] := ⟨rfl, rfl⟩
theorem E132_135 : aCode 132 135 = (Instr.getfield 45, 138, [81, 7, 19, 2], 0) ∧ bMask 132 135 = [] := ⟨rfl, rfl⟩
theorem E132_138 : aCode 132 138 = (Instr.iload_n 1, 139, [], 0) ∧ bMask 132 138 = [] := ⟨rfl, rfl⟩
theorem E132_139 : aCode 132 139 = (Instr.aload_n 0, 140, [], 0) ∧ bMask 132 139 = [] := ⟨rfl, rfl⟩
theorem E132_140 : aCode 132 140 = (Instr.getfield 17, 143, [108, 7, 3, 2], 0) ∧ bMask 132 140 = [] := ⟨rfl, rfl⟩
theorem E132_143 : aCode 132 143 = (Instr.iload_n 1, 144, [], 0) ∧ bMask 132 143 = [] := ⟨rfl, rfl⟩
theorem E132_144 : aCode 132 144 = (Instr.iaload, 145, [0], 0) ∧ bMask 132 144 = [] := ⟨rfl, rfl⟩
theorem E132_145 : aCode 132 145 = (Instr.iastore, 146, [0], 0) ∧ bMask 132 145 = [] := ⟨rfl, rfl⟩
theorem E132_146 : aCode 132 146 = (Instr.iinc 1 1, 149, [], 1) ∧ bMask 132 146 = [] := ⟨rfl, rfl⟩
theorem E132_149 : aCode 132 149 = (Instr.goto (-21), 128, [], 0) ∧ bMask 132 149 = [] := ⟨rfl, rfl⟩
theorem E132_152 : aCode 132 152 = (Instr.iconst 0, 153, [], 0) ∧ bMask 132 152 = [] := ⟨rfl, rfl⟩
theorem E132_153 : aCode 132 153 = (Instr.istore_n 1, 154, [], 0) ∧ bMask 132 153 = [] := ⟨rfl, rfl⟩
theorem E132_154 : aCode 132 154 = (Instr.iload_n 1, 155, [], 0) ∧ bMask 132 154 = [] := ⟨rfl, rfl⟩
theorem E132_155 : aCode 132 155 = (Instr.bipush 32, 157, [], 32) ∧ bMask 132 155 = [] := ⟨rfl, rfl⟩
theorem E132_157 : aCode 132 157 = (Instr.if_icmp .ge 29, 160, [186], 0) ∧ bMask 132 157 = [] := ⟨rfl, rfl⟩
theorem E132_160 : aCode 132 160 = (Instr.aload_n 0, 161, [], 0) ∧ bMask 132 160 = [] := ⟨rfl, rfl⟩
theorem E132_161 : aCode 132 161 = (Instr.getfield 32, 164, [109, 7, 13, 2], 0) ∧ bMask 132 161 = [] := ⟨rfl, rfl⟩
theorem E132_164 : aCode 132 164 = (Instr.bipush 32, 166, [], 32) ∧ bMask 132 164 = [] := ⟨rfl, rfl⟩
theorem E132_166 : aCode 132 166 = (Instr.aload_n 0, 167, [], 0) ∧ bMask 132 166 = [] := ⟨rfl, rfl⟩
theorem E132_167 : aCode 132 167 = (Instr.getfield 188, 170, [71, 7, 17, 0], 0) ∧ bMask 132 167 = [] := ⟨rfl, rfl⟩
theorem E132_170 : aCode 132 170 = (Instr.imul, 171, [], 0) ∧ bMask 132 170 = [] := ⟨rfl, rfl⟩
theorem E132_171 : aCode 132 171 = (Instr.iload_n 1, 172, [], 0) ∧ bMask 132 171 = [] := ⟨rfl, rfl⟩
theorem E132_172 : aCode 132 172 = (Instr.iadd, 173, [], 0) ∧ bMask 132 172 = [] := ⟨rfl, rfl⟩
theorem E132_173 : aCode 132 173 = (Instr.aload_n 0, 174, [], 0) ∧ bMask 132 173 = [] := ⟨rfl, rfl⟩
theorem E132_174 : aCode 132 174 = (Instr.getfield 45, 177, [81, 7, 19, 2], 0) ∧ bMask 132 174 = [] := ⟨rfl, rfl⟩
theorem E132_177 : aCode 132 177 = (Instr.iload_n 1, 178, [], 0) ∧ bMask 132 177 = [] := ⟨rfl, rfl⟩
theorem E132_178 : aCode 132 178 = (Instr.iaload, 179, [0], 0) ∧ bMask 132 178 = [] := ⟨rfl, rfl⟩
theorem E132_179 : aCode 132 179 = (Instr.iastore, 180, [0], 0) ∧ bMask 132 179 = [] := ⟨rfl, rfl⟩
theorem E132_180 : aCode 132 180 = (Instr.iinc 1 1, 183, [], 1) ∧ bMask 132 180 = [] := ⟨rfl, rfl⟩
theorem E132_183 : aCode 132 183 = (Instr.goto (-29), 154, [], 0) ∧ bMask 132 183 = [] := ⟨rfl, rfl⟩
theorem E132_186 : aCode 132 186 = (Instr.aload_n 0, 187, [], 0) ∧ bMask 132 186 = [] := ⟨rfl, rfl⟩
theorem E132_187 : aCode 132 187 = (Instr.getfield 39, 190, [73, 7, 15, 2], 0) ∧ bMask 132 187 = [] := ⟨rfl, rfl⟩
theorem E132_190 : aCode 132 190 = (Instr.aload_n 0, 191, [], 0) ∧ bMask 132 190 = [] := ⟨rfl, rfl⟩
theorem E132_191 : aCode 132 191 = (Instr.getfield 188, 194, [71, 7, 17, 0], 0) ∧ bMask 132 191 = [] := ⟨rfl, rfl⟩
theorem E132_194 : aCode 132 194 = (Instr.iconst 0, 195, [], 0) ∧ bMask 132 194 = [] := ⟨rfl, rfl⟩
theorem E132_195 : aCode 132 195 = (Instr.iastore, 196, [0], 0) ∧ bMask 132 195 = [] := ⟨rfl, rfl⟩
theorem E132_196 : aCode 132 196 = (Instr.return_, 197, [], 0) ∧ bMask 132 196 = [] := ⟨rfl, rfl⟩
theorem g_X7_comesToTerm_0 {Q : bQ} {M : bM}  (h : (vp_in (M 26 0 17) 5) ∧ ((((M 33 0 (M 26 0 17).toNatClampNeg) = 0) → bGo 132 Q 154 [some (cR 26 0), some (cI (0 : Int32))] [] M) ∧ (¬ ((M 33 0 (M 26 0 17).toNatClampNeg) = 0) → bGo 132 Q 14 [some (cR 26 0), some (cI (0 : Int32))] [] M))) : bCall 132 [cR 26 0] M Q := s_aload_n E132_0.1 (k_ E132_0) rfl (s_getR E132_1.1 (k_ E132_1) rfl rfl (s_aload_n E132_4.1 (k_ E132_4) rfl (s_getI0 E132_5.1 (k_ E132_5) rfl (s_iaload E132_8.1 (k_ E132_8) rfl ⟨h.1, s_if_eq E132_9.1 (k_ E132_9) ⟨fun c0 => s_iconst E132_152.1 (k_ E132_152) (s_istore_n E132_153.1 (k_ E132_153) (h.2.1 c0)), fun c0 => s_iconst E132_12.1 (k_ E132_12) (s_istore_n E132_13.1 (k_ E132_13) (h.2.2 c0))⟩⟩))))
theorem g_X7_comesToTerm_14 {Q : bQ} {M : bM} {x1 : Int32} (h : (((32 : Int32) ≤ x1) → ((vp_in (M 26 0 17) 5) ∧ (((¬ (M 33 0 (M 26 0 17).toNatClampNeg) = (42 : Int32)) → ((vp_in (0 : Int32) 32) ∧ (((¬ (M 27 3 (0 : Int32).toNatClampNeg) = 0) → (bCall 131 [cR 26 0, cR 27 1, cR 27 3] M (fun v1 M2 => bV0 v1 (bGo 132 Q 128 [some (cR 26 0), some (cI (0 : Int32))] [] M2)))) ∧ (¬ (¬ (M 27 3 (0 : Int32).toNatClampNeg) = 0) → (((0 ≤ (M 26 0 18)) → bGo 132 Q 128 [some (cR 26 0), some (cI (0 : Int32))] [] (bU M 26 0 18 (M 26 0 18))) ∧ (¬ (0 ≤ (M 26 0 18)) → ((vp_in (M 26 0 17) 5) ∧ bGo 132 Q 128 [some (cR 26 0), some (cI (0 : Int32))] [] (bU M 26 0 18 (M 34 0 (M 26 0 17).toNatClampNeg))))))))) ∧ (¬ (¬ (M 33 0 (M 26 0 17).toNatClampNeg) = (42 : Int32)) → (bCall 130 [cR 26 0, cR 27 1, cR 27 3] M (fun v3 M4 => bV0 v3 (bGo 132 Q 128 [some (cR 26 0), some (cI (0 : Int32))] [] M4))))))) ∧ (¬ ((32 : Int32) ≤ x1) → ((vp_in (((32 : Int32) * (M 26 0 17)) + x1) 160) ∧ ((vp_in x1 32) ∧ bGo 132 Q 14 [some (cR 26 0), some (cI (x1 + (1 : Int32)))] [] (bU M 27 1 x1.toNatClampNeg (M 31 0 (((32 : Int32) * (M 26 0 17)) + x1).toNatClampNeg)))))) : bGo 132 Q 14 [some (cR 26 0), some (cI x1)] [] M := s_iload_n E132_14.1 (k_ E132_14) rfl (s_bipush E132_15.1 (k_ E132_15) (s_icmp_ge E132_17.1 (k_ E132_17) ⟨fun c1 => s_aload_n E132_46.1 (k_ E132_46) rfl (s_getR E132_47.1 (k_ E132_47) rfl rfl (s_aload_n E132_50.1 (k_ E132_50) rfl (s_getI0 E132_51.1 (k_ E132_51) rfl (s_iaload E132_54.1 (k_ E132_54) rfl ⟨(h.1 c1).1, s_bipush E132_55.1 (k_ E132_55) (s_icmp_ne E132_57.1 (k_ E132_57) ⟨fun c2 => s_aload_n E132_75.1 (k_ E132_75) rfl (s_getR E132_76.1 (k_ E132_76) rfl rfl (s_iconst E132_79.1 (k_ E132_79) (s_iaload E132_80.1 (k_ E132_80) rfl ⟨(((h.1 c1).2).1 c2).1, s_if_ne E132_81.1 (k_ E132_81) ⟨fun c3 => s_aload_n E132_114.1 (k_ E132_114) rfl (s_aload_n E132_115.1 (k_ E132_115) rfl (s_getR E132_116.1 (k_ E132_116) rfl rfl (s_aload_n E132_119.1 (k_ E132_119) rfl (s_getR E132_120.1 (k_ E132_120) rfl rfl (s_vcall0 E132_123.1 (k_ E132_123) rfl rfl rfl (((((h.1 c1).2).1 c2).2).1 c3) (fun M2 z4 => s_iconst E132_126.1 (k_ E132_126) (s_istore_n E132_127.1 (k_ E132_127) (z4)))))))), fun c3 => s_aload_n E132_84.1 (k_ E132_84) rfl (s_aload_n E132_85.1 (k_ E132_85) rfl (s_getI0 E132_86.1 (k_ E132_86) rfl (s_if_ge E132_89.1 (k_ E132_89) ⟨fun c5 => s_aload_n E132_104.1 (k_ E132_104) rfl (s_getI0 E132_105.1 (k_ E132_105) rfl (s_putI E132_108.1 (k_ E132_108) rfl (s_goto E132_111.1 (k_ E132_111) (s_iconst E132_126.1 (k_ E132_126) (s_istore_n E132_127.1 (k_ E132_127) ((((((h.1 c1).2).1 c2).2).2 c3).1 c5)))))), fun c5 => s_aload_n E132_92.1 (k_ E132_92) rfl (s_getR E132_93.1 (k_ E132_93) rfl rfl (s_aload_n E132_96.1 (k_ E132_96) rfl (s_getI0 E132_97.1 (k_ E132_97) rfl (s_iaload E132_100.1 (k_ E132_100) rfl ⟨((((((h.1 c1).2).1 c2).2).2 c3).2 c5).1, s_goto E132_101.1 (k_ E132_101) (s_putI E132_108.1 (k_ E132_108) rfl (s_goto E132_111.1 (k_ E132_111) (s_iconst E132_126.1 (k_ E132_126) (s_istore_n E132_127.1 (k_ E132_127) (((((((h.1 c1).2).1 c2).2).2 c3).2 c5).2)))))⟩))))⟩)))⟩⟩))), fun c2 => s_aload_n E132_60.1 (k_ E132_60) rfl (s_aload_n E132_61.1 (k_ E132_61) rfl (s_getR E132_62.1 (k_ E132_62) rfl rfl (s_aload_n E132_65.1 (k_ E132_65) rfl (s_getR E132_66.1 (k_ E132_66) rfl rfl (s_vcall0 E132_69.1 (k_ E132_69) rfl rfl rfl (((h.1 c1).2).2 c2) (fun M4 z6 => s_goto E132_72.1 (k_ E132_72) (s_iconst E132_126.1 (k_ E132_126) (s_istore_n E132_127.1 (k_ E132_127) (z6)))))))))⟩)⟩)))), fun c1 => s_aload_n E132_20.1 (k_ E132_20) rfl (s_getR E132_21.1 (k_ E132_21) rfl rfl (s_iload_n E132_24.1 (k_ E132_24) rfl (s_aload_n E132_25.1 (k_ E132_25) rfl (s_getR E132_26.1 (k_ E132_26) rfl rfl (s_bipush E132_29.1 (k_ E132_29) (s_aload_n E132_31.1 (k_ E132_31) rfl (s_getI0 E132_32.1 (k_ E132_32) rfl (s_imul E132_35.1 (k_ E132_35) (s_iload_n E132_36.1 (k_ E132_36) rfl (s_iadd E132_37.1 (k_ E132_37) (s_iaload E132_38.1 (k_ E132_38) rfl ⟨(h.2 c1).1, s_iastore E132_39.1 (k_ E132_39) rfl ⟨((h.2 c1).2).1, s_iinc E132_40.1 (k_ E132_40) rfl (s_goto E132_43.1 (k_ E132_43) (((h.2 c1).2).2))⟩⟩)))))))))))⟩))
theorem g_X7_comesToTerm_128 {Q : bQ} {M : bM} {x1 : Int32} (h : (((32 : Int32) ≤ x1) → bGo 132 Q 154 [some (cR 26 0), some (cI (0 : Int32))] [] M) ∧ (¬ ((32 : Int32) ≤ x1) → ((vp_in x1 32) ∧ ((vp_in x1 32) ∧ bGo 132 Q 128 [some (cR 26 0), some (cI (x1 + (1 : Int32)))] [] (bU M 27 3 x1.toNatClampNeg (M 27 0 x1.toNatClampNeg)))))) : bGo 132 Q 128 [some (cR 26 0), some (cI x1)] [] M := s_iload_n E132_128.1 (k_ E132_128) rfl (s_bipush E132_129.1 (k_ E132_129) (s_icmp_ge E132_131.1 (k_ E132_131) ⟨fun c7 => s_iconst E132_152.1 (k_ E132_152) (s_istore_n E132_153.1 (k_ E132_153) (h.1 c7)), fun c7 => s_aload_n E132_134.1 (k_ E132_134) rfl (s_getR E132_135.1 (k_ E132_135) rfl rfl (s_iload_n E132_138.1 (k_ E132_138) rfl (s_aload_n E132_139.1 (k_ E132_139) rfl (s_getR E132_140.1 (k_ E132_140) rfl rfl (s_iload_n E132_143.1 (k_ E132_143) rfl (s_iaload E132_144.1 (k_ E132_144) rfl ⟨(h.2 c7).1, s_iastore E132_145.1 (k_ E132_145) rfl ⟨((h.2 c7).2).1, s_iinc E132_146.1 (k_ E132_146) rfl (s_goto E132_149.1 (k_ E132_149) (((h.2 c7).2).2))⟩⟩))))))⟩))
theorem g_X7_comesToTerm_154 {Q : bQ} {M : bM} {x1 : Int32} (h : (((32 : Int32) ≤ x1) → ((vp_in (M 26 0 17) 5) ∧ (Q none (bU M 33 0 (M 26 0 17).toNatClampNeg (0 : Int32))))) ∧ (¬ ((32 : Int32) ≤ x1) → ((vp_in x1 32) ∧ ((vp_in (((32 : Int32) * (M 26 0 17)) + x1) 160) ∧ bGo 132 Q 154 [some (cR 26 0), some (cI (x1 + (1 : Int32)))] [] (bU M 31 0 (((32 : Int32) * (M 26 0 17)) + x1).toNatClampNeg (M 27 3 x1.toNatClampNeg)))))) : bGo 132 Q 154 [some (cR 26 0), some (cI x1)] [] M := s_iload_n E132_154.1 (k_ E132_154) rfl (s_bipush E132_155.1 (k_ E132_155) (s_icmp_ge E132_157.1 (k_ E132_157) ⟨fun c8 => s_aload_n E132_186.1 (k_ E132_186) rfl (s_getR E132_187.1 (k_ E132_187) rfl rfl (s_aload_n E132_190.1 (k_ E132_190) rfl (s_getI0 E132_191.1 (k_ E132_191) rfl (s_iconst E132_194.1 (k_ E132_194) (s_iastore E132_195.1 (k_ E132_195) rfl ⟨(h.1 c8).1, s_ret E132_196.1 (k_ E132_196) ((h.1 c8).2)⟩))))), fun c8 => s_aload_n E132_160.1 (k_ E132_160) rfl (s_getR E132_161.1 (k_ E132_161) rfl rfl (s_bipush E132_164.1 (k_ E132_164) (s_aload_n E132_166.1 (k_ E132_166) rfl (s_getI0 E132_167.1 (k_ E132_167) rfl (s_imul E132_170.1 (k_ E132_170) (s_iload_n E132_171.1 (k_ E132_171) rfl (s_iadd E132_172.1 (k_ E132_172) (s_aload_n E132_173.1 (k_ E132_173) rfl (s_getR E132_174.1 (k_ E132_174) rfl rfl (s_iload_n E132_177.1 (k_ E132_177) rfl (s_iaload E132_178.1 (k_ E132_178) rfl ⟨(h.2 c8).1, s_iastore E132_179.1 (k_ E132_179) rfl ⟨((h.2 c8).2).1, s_iinc E132_180.1 (k_ E132_180) rfl (s_goto E132_183.1 (k_ E132_183) (((h.2 c8).2).2))⟩⟩)))))))))))⟩))
-- 133: X7_zerosOf
theorem E133_0 : aCode 133 0 = (Instr.iconst 0, 1, [], 0) ∧ bMask 133 0 = [] := ⟨rfl, rfl⟩
theorem E133_1 : aCode 133 1 = (Instr.istore_n 2, 2, [], 0) ∧ bMask 133 1 = [] := ⟨rfl, rfl⟩
theorem E133_2 : aCode 133 2 = (Instr.iload_n 2, 3, [], 0) ∧ bMask 133 2 = [] := ⟨rfl, rfl⟩
theorem E133_3 : aCode 133 3 = (Instr.bipush 32, 5, [], 32) ∧ bMask 133 3 = [] := ⟨rfl, rfl⟩
theorem E133_5 : aCode 133 5 = (Instr.if_icmp .ge 17, 8, [22], 0) ∧ bMask 133 5 = [] := ⟨rfl, rfl⟩
theorem E133_8 : aCode 133 8 = (Instr.aload_n 0, 9, [], 0) ∧ bMask 133 8 = [] := ⟨rfl, rfl⟩
theorem E133_9 : aCode 133 9 = (Instr.iload_n 1, 10, [], 0) ∧ bMask 133 9 = [] := ⟨rfl, rfl⟩
theorem E133_10 : aCode 133 10 = (Instr.iload_n 2, 11, [], 0) ∧ bMask 133 10 = [] := ⟨rfl, rfl⟩
theorem E133_11 : aCode 133 11 = (Instr.iadd, 12, [], 0) ∧ bMask 133 11 = [] := ⟨rfl, rfl⟩
theorem E133_12 : aCode 133 12 = (Instr.iaload, 13, [0], 0) ∧ bMask 133 12 = [] := ⟨rfl, rfl⟩
theorem E133_13 : aCode 133 13 = (Instr.ifCond .ne 9, 16, [22], 0) ∧ bMask 133 13 = [] := ⟨rfl, rfl⟩
theorem E133_16 : aCode 133 16 = (Instr.iinc 2 1, 19, [], 1) ∧ bMask 133 16 = [] := ⟨rfl, rfl⟩
theorem E133_19 : aCode 133 19 = (Instr.goto (-17), 2, [], 0) ∧ bMask 133 19 = [] := ⟨rfl, rfl⟩
theorem E133_22 : aCode 133 22 = (Instr.iload_n 2, 23, [], 0) ∧ bMask 133 22 = [] := ⟨rfl, rfl⟩
theorem E133_23 : aCode 133 23 = (Instr.ireturn, 24, [0], 0) ∧ bMask 133 23 = [] := ⟨rfl, rfl⟩
theorem g_X7_zerosOf_t_0 {Q : bQ} {M : bM} {x1 : Int32} (h : bGo 133 Q 2 [some (cR 28 0), some (cI x1), some (cI (0 : Int32))] [] M) : bCall 133 [cR 28 0, cI x1] M Q := s_iconst E133_0.1 (k_ E133_0) (s_istore_n E133_1.1 (k_ E133_1) (h))
theorem g_X7_zerosOf_t_2 {Q : bQ} {M : bM} {x1 : Int32} {x2 : Int32} (h : (((32 : Int32) ≤ x2) → (Q (some (cI x2)) M)) ∧ (¬ ((32 : Int32) ≤ x2) → ((vp_in (x1 + x2) 192) ∧ (((¬ (M 28 0 (x1 + x2).toNatClampNeg) = 0) → (Q (some (cI x2)) M)) ∧ (¬ (¬ (M 28 0 (x1 + x2).toNatClampNeg) = 0) → bGo 133 Q 2 [some (cR 28 0), some (cI x1), some (cI (x2 + (1 : Int32)))] [] M))))) : bGo 133 Q 2 [some (cR 28 0), some (cI x1), some (cI x2)] [] M := s_iload_n E133_2.1 (k_ E133_2) rfl (s_bipush E133_3.1 (k_ E133_3) (s_icmp_ge E133_5.1 (k_ E133_5) ⟨fun c0 => s_iload_n E133_22.1 (k_ E133_22) rfl (s_iret E133_23.1 (k_ E133_23) (h.1 c0)), fun c0 => s_aload_n E133_8.1 (k_ E133_8) rfl (s_iload_n E133_9.1 (k_ E133_9) rfl (s_iload_n E133_10.1 (k_ E133_10) rfl (s_iadd E133_11.1 (k_ E133_11) (s_iaload E133_12.1 (k_ E133_12) rfl ⟨(h.2 c0).1, s_if_ne E133_13.1 (k_ E133_13) ⟨fun c1 => s_iload_n E133_22.1 (k_ E133_22) rfl (s_iret E133_23.1 (k_ E133_23) (((h.2 c0).2).1 c1)), fun c1 => s_iinc E133_16.1 (k_ E133_16) rfl (s_goto E133_19.1 (k_ E133_19) (((h.2 c0).2).2 c1))⟩⟩))))⟩))
theorem g_X7_zerosOf_m_0 {Q : bQ} {M : bM} {x1 : Int32} (h : bGo 133 Q 2 [some (cR 27 0), some (cI x1), some (cI (0 : Int32))] [] M) : bCall 133 [cR 27 0, cI x1] M Q := s_iconst E133_0.1 (k_ E133_0) (s_istore_n E133_1.1 (k_ E133_1) (h))
theorem g_X7_zerosOf_m_2 {Q : bQ} {M : bM} {x1 : Int32} {x2 : Int32} (h : (((32 : Int32) ≤ x2) → (Q (some (cI x2)) M)) ∧ (¬ ((32 : Int32) ≤ x2) → ((vp_in (x1 + x2) 32) ∧ (((¬ (M 27 0 (x1 + x2).toNatClampNeg) = 0) → (Q (some (cI x2)) M)) ∧ (¬ (¬ (M 27 0 (x1 + x2).toNatClampNeg) = 0) → bGo 133 Q 2 [some (cR 27 0), some (cI x1), some (cI (x2 + (1 : Int32)))] [] M))))) : bGo 133 Q 2 [some (cR 27 0), some (cI x1), some (cI x2)] [] M := s_iload_n E133_2.1 (k_ E133_2) rfl (s_bipush E133_3.1 (k_ E133_3) (s_icmp_ge E133_5.1 (k_ E133_5) ⟨fun c0 => s_iload_n E133_22.1 (k_ E133_22) rfl (s_iret E133_23.1 (k_ E133_23) (h.1 c0)), fun c0 => s_aload_n E133_8.1 (k_ E133_8) rfl (s_iload_n E133_9.1 (k_ E133_9) rfl (s_iload_n E133_10.1 (k_ E133_10) rfl (s_iadd E133_11.1 (k_ E133_11) (s_iaload E133_12.1 (k_ E133_12) rfl ⟨(h.2 c0).1, s_if_ne E133_13.1 (k_ E133_13) ⟨fun c1 => s_iload_n E133_22.1 (k_ E133_22) rfl (s_iret E133_23.1 (k_ E133_23) (((h.2 c0).2).1 c1)), fun c1 => s_iinc E133_16.1 (k_ E133_16) rfl (s_goto E133_19.1 (k_ E133_19) (((h.2 c0).2).2 c1))⟩⟩))))⟩))
-- 134: X7_count
theorem E134_0 : aCode 134 0 = (Instr.iconst 0, 1, [], 0) ∧ bMask 134 0 = [] := ⟨rfl, rfl⟩
theorem E134_1 : aCode 134 1 = (Instr.istore_n 2, 2, [], 0) ∧ bMask 134 1 = [] := ⟨rfl, rfl⟩
theorem E134_2 : aCode 134 2 = (Instr.iload_n 1, 3, [], 0) ∧ bMask 134 2 = [] := ⟨rfl, rfl⟩
theorem E134_3 : aCode 134 3 = (Instr.tableswitch 140 0 6 #[41, 46, 51, 56, 88, 93, 98], 44, [143, 44, 49, 54, 59, 91, 96, 101], 0) ∧ bMask 134 3 = [] := ⟨rfl, rfl⟩
theorem E134_44 : aCode 134 44 = (Instr.aload_n 0, 45, [], 0) ∧ bMask 134 44 = [] := ⟨rfl, rfl⟩
theorem E134_45 : aCode 134 45 = (Instr.getfield 7, 48, [82, 7, 0, 0], 0) ∧ bMask 134 45 = [] := ⟨rfl, rfl⟩
theorem E134_48 : aCode 134 48 = (Instr.ireturn, 49, [0], 0) ∧ bMask 134 48 = [] := ⟨rfl, rfl⟩
theorem E134_49 : aCode 134 49 = (Instr.aload_n 0, 50, [], 0) ∧ bMask 134 49 = [] := ⟨rfl, rfl⟩
theorem E134_50 : aCode 134 50 = (Instr.getfield 167, 53, [75, 7, 7, 0], 0) ∧ bMask 134 50 = [] := ⟨rfl, rfl⟩
theorem E134_53 : aCode 134 53 = (Instr.ireturn, 54, [0], 0) ∧ bMask 134 53 = [] := ⟨rfl, rfl⟩
theorem E134_54 : aCode 134 54 = (Instr.aload_n 0, 55, [], 0) ∧ bMask 134 54 = [] := ⟨rfl, rfl⟩
theorem E134_55 : aCode 134 55 = (Instr.getfield 272, 58, [84, 7, 38, 0], 0) ∧ bMask 134 55 = [] := ⟨rfl, rfl⟩
theorem E134_58 : aCode 134 58 = (Instr.ireturn, 59, [0], 0) ∧ bMask 134 58 = [] := ⟨rfl, rfl⟩
theorem E134_59 : aCode 134 59 = (Instr.iconst 0, 60, [], 0) ∧ bMask 134 59 = [] := ⟨rfl, rfl⟩
theorem E134_60 : aCode 134 60 = (Instr.istore_n 3, 61, [], 0) ∧ bMask 134 60 = [] := ⟨rfl, rfl⟩
theorem E134_61 : aCode 134 61 = (Instr.iload_n 3, 62, [], 0) ∧ bMask 134 61 = [] := ⟨rfl, rfl⟩
theorem E134_62 : aCode 134 62 = (Instr.iconst 3, 63, [], 3) ∧ bMask 134 62 = [] := ⟨rfl, rfl⟩
theorem E134_63 : aCode 134 63 = (Instr.if_icmp .ge 26, 66, [89], 0) ∧ bMask 134 63 = [] := ⟨rfl, rfl⟩
theorem E134_66 : aCode 134 66 = (Instr.iload_n 2, 67, [], 0) ∧ bMask 134 66 = [] := ⟨rfl, rfl⟩
theorem E134_67 : aCode 134 67 = (Instr.aload_n 0, 68, [], 0) ∧ bMask 134 67 = [] := ⟨rfl, rfl⟩
theorem E134_68 : aCode 134 68 = (Instr.getfield 108, 71, [113, 7, 48, 2], 0) ∧ bMask 134 68 = [] := ⟨rfl, rfl⟩
theorem E134_71 : aCode 134 71 = (Instr.iload_n 3, 72, [], 0) ∧ bMask 134 71 = [] := ⟨rfl, rfl⟩
theorem E134_72 : aCode 134 72 = (Instr.iaload, 73, [0], 0) ∧ bMask 134 72 = [] := ⟨rfl, rfl⟩
theorem E134_73 : aCode 134 73 = (Instr.ifCond .lt 7, 76, [80], 0) ∧ bMask 134 73 = [] := ⟨rfl, rfl⟩
theorem E134_76 : aCode 134 76 = (Instr.iconst 1, 77, [], 1) ∧ bMask 134 76 = [] := ⟨rfl, rfl⟩
theorem E134_77 : aCode 134 77 = (Instr.goto 4, 81, [], 0) ∧ bMask 134 77 = [] := ⟨rfl, rfl⟩
theorem E134_80 : aCode 134 80 = (Instr.iconst 0, 81, [], 0) ∧ bMask 134 80 = [] := ⟨rfl, rfl⟩
theorem E134_81 : aCode 134 81 = (Instr.iadd, 82, [], 0) ∧ bMask 134 81 = [] := ⟨rfl, rfl⟩
theorem E134_82 : aCode 134 82 = (Instr.istore_n 2, 83, [], 0) ∧ bMask 134 82 = [] := ⟨rfl, rfl⟩
theorem E134_83 : aCode 134 83 = (Instr.iinc 3 1, 86, [], 1) ∧ bMask 134 83 = [] := ⟨rfl, rfl⟩
theorem E134_86 : aCode 134 86 = (Instr.goto (-25), 61, [], 0) ∧ bMask 134 86 = [] := ⟨rfl, rfl⟩
theorem E134_89 : aCode 134 89 = (Instr.iload_n 2, 90, [], 0) ∧ bMask 134 89 = [] := ⟨rfl, rfl⟩
theorem E134_90 : aCode 134 90 = (Instr.ireturn, 91, [0], 0) ∧ bMask 134 90 = [] := ⟨rfl, rfl⟩
theorem E134_91 : aCode 134 91 = (Instr.aload_n 0, 92, [], 0) ∧ bMask 134 91 = [] := ⟨rfl, rfl⟩
theorem E134_92 : aCode 134 92 = (Instr.getfield 279, 95, [114, 7, 39, 0], 0) ∧ bMask 134 92 = [] := ⟨rfl, rfl⟩
theorem E134_95 : aCode 134 95 = (Instr.ireturn, 96, [0], 0) ∧ bMask 134 95 = [] := ⟨rfl, rfl⟩
theorem E134_96 : aCode 134 96 = (Instr.aload_n 0, 97, [], 0) ∧ bMask 134 96 = [] := ⟨rfl, rfl⟩
theorem E134_97 : aCode 134 97 = (Instr.getfield 120, 100, [92, 7, 22, 0], 0) ∧ bMask 134 97 = [] := ⟨rfl, rfl⟩
theorem E134_100 : aCode 134 100 = (Instr.ireturn, 101, [0], 0) ∧ bMask 134 100 = [] := ⟨rfl, rfl⟩
theorem E134_101 : aCode 134 101 = (Instr.iconst 0, 102, [], 0) ∧ bMask 134 101 = [] := ⟨rfl, rfl⟩
theorem E134_102 : aCode 134 102 = (Instr.istore_n 3, 103, [], 0) ∧ bMask 134 102 = [] := ⟨rfl, rfl⟩
theorem E134_103 : aCode 134 103 = (Instr.iload_n 3, 104, [], 0) ∧ bMask 134 103 = [] := ⟨rfl, rfl⟩
theorem E134_104 : aCode 134 104 = (Instr.bipush 6, 106, [], 6) ∧ bMask 134 104 = [] := ⟨rfl, rfl⟩
theorem E134_106 : aCode 134 106 = (Instr.if_icmp .ge 35, 109, [141], 0) ∧ bMask 134 106 = [] := ⟨rfl, rfl⟩
theorem E134_109 : aCode 134 109 = (Instr.iload_n 2, 110, [], 0) ∧ bMask 134 109 = [] := ⟨rfl, rfl⟩
theorem E134_110 : aCode 134 110 = (Instr.aload_n 0, 111, [], 0) ∧ bMask 134 110 = [] := ⟨rfl, rfl⟩
theorem E134_111 : aCode 134 111 = (Instr.getfield 13, 114, [69, 7, 1, 2], 0) ∧ bMask 134 111 = [] := ⟨rfl, rfl⟩
theorem E134_114 : aCode 134 114 = (Instr.bipush 32, 116, [], 32) ∧ bMask 134 114 = [] := ⟨rfl, rfl⟩
theorem E134_116 : aCode 134 116 = (Instr.iload_n 3, 117, [], 0) ∧ bMask 134 116 = [] := ⟨rfl, rfl⟩
theorem E134_117 : aCode 134 117 = (Instr.imul, 118, [], 0) ∧ bMask 134 117 = [] := ⟨rfl, rfl⟩
theorem E134_118 : aCode 134 118 = (Instr.invokestatic 164, 121, [133, 2, 1, 0, 0, 111], 0) ∧ bMask 134 118 = [] := ⟨rfl, rfl⟩
theorem E134_121 : aCode 134 121 = (Instr.bipush 32, 123, [], 32) ∧ bMask 134 121 = [] := ⟨rfl, rfl⟩
theorem E134_123 : aCode 134 123 = (Instr.if_icmp .ge 9, 126, [132], 0) ∧ bMask 134 123 = [] := ⟨rfl, rfl⟩
theorem E134_126 : aCode 134 126 = (Instr.iconst 1, 127, [], 1) ∧ bMask 134 126 = [] := ⟨rfl, rfl⟩
theorem E134_127 : aCode 134 127 = (Instr.iload_n 3, 128, [], 0) ∧ bMask 134 127 = [] := ⟨rfl, rfl⟩
theorem E134_128 : aCode 134 128 = (Instr.ishl, 129, [], 0) ∧ bMask 134 128 = [] := ⟨rfl, rfl⟩
theorem E134_129 : aCode 134 129 = (Instr.goto 4, 133, [], 0) ∧ bMask 134 129 = [] := ⟨rfl, rfl⟩
theorem E134_132 : aCode 134 132 = (Instr.iconst 0, 133, [], 0) ∧ bMask 134 132 = [] := ⟨rfl, rfl⟩
theorem E134_133 : aCode 134 133 = (Instr.ior, 134, [], 0) ∧ bMask 134 133 = [] := ⟨rfl, rfl⟩
theorem E134_134 : aCode 134 134 = (Instr.istore_n 2, 135, [], 0) ∧ bMask 134 134 = [] := ⟨rfl, rfl⟩
theorem E134_135 : aCode 134 135 = (Instr.iinc 3 1, 138, [], 1) ∧ bMask 134 135 = [] := ⟨rfl, rfl⟩
theorem E134_138 : aCode 134 138 = (Instr.goto (-35), 103, [], 0) ∧ bMask 134 138 = [] := ⟨rfl, rfl⟩
theorem E134_141 : aCode 134 141 = (Instr.iload_n 2, 142, [], 0) ∧ bMask 134 141 = [] := ⟨rfl, rfl⟩
theorem E134_142 : aCode 134 142 = (Instr.ireturn, 143, [0], 0) ∧ bMask 134 142 = [] := ⟨rfl, rfl⟩
theorem E134_143 : aCode 134 143 = (Instr.iconst (-1), 144, [], (-1)) ∧ bMask 134 143 = [] := ⟨rfl, rfl⟩
theorem E134_144 : aCode 134 144 = (Instr.ireturn, 145, [0], 0) ∧ bMask 134 144 = [] := ⟨rfl, rfl⟩
theorem g_X7_count_0 {Q : bQ} {M : bM} {x1 : Int32} (h : ((x1 = Int32.ofInt 0) → (Q (some (cI (M 26 0 0))) M)) ∧ (¬ (x1 = Int32.ofInt 0) → (((x1 = Int32.ofInt 1) → (Q (some (cI (M 26 0 7))) M)) ∧ (¬ (x1 = Int32.ofInt 1) → (((x1 = Int32.ofInt 2) → (Q (some (cI (M 26 0 38))) M)) ∧ (¬ (x1 = Int32.ofInt 2) → (((x1 = Int32.ofInt 3) → bGo 134 Q 61 [some (cR 26 0), some (cI x1), some (cI (0 : Int32)), some (cI (0 : Int32))] [] M) ∧ (¬ (x1 = Int32.ofInt 3) → (((x1 = Int32.ofInt 4) → (Q (some (cI (M 26 0 39))) M)) ∧ (¬ (x1 = Int32.ofInt 4) → (((x1 = Int32.ofInt 5) → (Q (some (cI (M 26 0 22))) M)) ∧ (¬ (x1 = Int32.ofInt 5) → (((x1 = Int32.ofInt 6) → bGo 134 Q 103 [some (cR 26 0), some (cI x1), some (cI (0 : Int32)), some (cI (0 : Int32))] [] M) ∧ (¬ (x1 = Int32.ofInt 6) → (Q (some (cI (-1 : Int32))) M))))))))))))))) : bCall 134 [cR 26 0, cI x1] M Q := s_iconst E134_0.1 (k_ E134_0) (s_istore_n E134_1.1 (k_ E134_1) (s_iload_n E134_2.1 (k_ E134_2) rfl (s_tsw E134_3.1 (k_ E134_3) (And.intro (fun c0 => s_aload_n E134_44.1 (k_ E134_44) rfl (s_getI0 E134_45.1 (k_ E134_45) rfl (s_iret E134_48.1 (k_ E134_48) (h.1 c0)))) (fun c0 => And.intro (fun c1 => s_aload_n E134_49.1 (k_ E134_49) rfl (s_getI0 E134_50.1 (k_ E134_50) rfl (s_iret E134_53.1 (k_ E134_53) ((h.2 c0).1 c1)))) (fun c1 => And.intro (fun c2 => s_aload_n E134_54.1 (k_ E134_54) rfl (s_getI0 E134_55.1 (k_ E134_55) rfl (s_iret E134_58.1 (k_ E134_58) (((h.2 c0).2 c1).1 c2)))) (fun c2 => And.intro (fun c3 => s_iconst E134_59.1 (k_ E134_59) (s_istore_n E134_60.1 (k_ E134_60) ((((h.2 c0).2 c1).2 c2).1 c3))) (fun c3 => And.intro (fun c4 => s_aload_n E134_91.1 (k_ E134_91) rfl (s_getI0 E134_92.1 (k_ E134_92) rfl (s_iret E134_95.1 (k_ E134_95) (((((h.2 c0).2 c1).2 c2).2 c3).1 c4)))) (fun c4 => And.intro (fun c5 => s_aload_n E134_96.1 (k_ E134_96) rfl (s_getI0 E134_97.1 (k_ E134_97) rfl (s_iret E134_100.1 (k_ E134_100) ((((((h.2 c0).2 c1).2 c2).2 c3).2 c4).1 c5)))) (fun c5 => And.intro (fun c6 => s_iconst E134_101.1 (k_ E134_101) (s_istore_n E134_102.1 (k_ E134_102) (((((((h.2 c0).2 c1).2 c2).2 c3).2 c4).2 c5).1 c6))) (fun c6 => s_iconst E134_143.1 (k_ E134_143) (s_iret E134_144.1 (k_ E134_144) (((((((h.2 c0).2 c1).2 c2).2 c3).2 c4).2 c5).2 c6)))))))))))))
theorem g_X7_count_61 {Q : bQ} {M : bM} {x1 : Int32} {x2 : Int32} {x3 : Int32} (h : (((3 : Int32) ≤ x3) → (Q (some (cI x2)) M)) ∧ (¬ ((3 : Int32) ≤ x3) → ((vp_in x3 3) ∧ ((((M 54 0 x3.toNatClampNeg) < 0) → bGo 134 Q 61 [some (cR 26 0), some (cI x1), some (cI (x2 + (0 : Int32))), some (cI (x3 + (1 : Int32)))] [] M) ∧ (¬ ((M 54 0 x3.toNatClampNeg) < 0) → bGo 134 Q 61 [some (cR 26 0), some (cI x1), some (cI (x2 + (1 : Int32))), some (cI (x3 + (1 : Int32)))] [] M))))) : bGo 134 Q 61 [some (cR 26 0), some (cI x1), some (cI x2), some (cI x3)] [] M := s_iload_n E134_61.1 (k_ E134_61) rfl (s_iconst E134_62.1 (k_ E134_62) (s_icmp_ge E134_63.1 (k_ E134_63) ⟨fun c7 => s_iload_n E134_89.1 (k_ E134_89) rfl (s_iret E134_90.1 (k_ E134_90) (h.1 c7)), fun c7 => s_iload_n E134_66.1 (k_ E134_66) rfl (s_aload_n E134_67.1 (k_ E134_67) rfl (s_getR E134_68.1 (k_ E134_68) rfl rfl (s_iload_n E134_71.1 (k_ E134_71) rfl (s_iaload E134_72.1 (k_ E134_72) rfl ⟨(h.2 c7).1, s_if_lt E134_73.1 (k_ E134_73) ⟨fun c8 => s_iconst E134_80.1 (k_ E134_80) (s_iadd E134_81.1 (k_ E134_81) (s_istore_n E134_82.1 (k_ E134_82) (s_iinc E134_83.1 (k_ E134_83) rfl (s_goto E134_86.1 (k_ E134_86) (((h.2 c7).2).1 c8))))), fun c8 => s_iconst E134_76.1 (k_ E134_76) (s_goto E134_77.1 (k_ E134_77) (s_iadd E134_81.1 (k_ E134_81) (s_istore_n E134_82.1 (k_ E134_82) (s_iinc E134_83.1 (k_ E134_83) rfl (s_goto E134_86.1 (k_ E134_86) (((h.2 c7).2).2 c8))))))⟩⟩))))⟩))
theorem g_X7_count_103 {Q : bQ} {M : bM} {x1 : Int32} {x2 : Int32} {x3 : Int32} (h : (((6 : Int32) ≤ x3) → (Q (some (cI x2)) M)) ∧ (¬ ((6 : Int32) ≤ x3) → (bCall 133 [cR 28 0, cI ((32 : Int32) * x3)] M (fun v1 M2 => bV1 v1 fun r3 => ((((32 : Int32) ≤ r3) → bGo 134 Q 103 [some (cR 26 0), some (cI x1), some (cI (x2 ||| (0 : Int32))), some (cI (x3 + (1 : Int32)))] [] M2) ∧ (¬ ((32 : Int32) ≤ r3) → bGo 134 Q 103 [some (cR 26 0), some (cI x1), some (cI (x2 ||| ((1 : Int32) <<< (x3 &&& 31)))), some (cI (x3 + (1 : Int32)))] [] M2)))))) : bGo 134 Q 103 [some (cR 26 0), some (cI x1), some (cI x2), some (cI x3)] [] M := s_iload_n E134_103.1 (k_ E134_103) rfl (s_bipush E134_104.1 (k_ E134_104) (s_icmp_ge E134_106.1 (k_ E134_106) ⟨fun c9 => s_iload_n E134_141.1 (k_ E134_141) rfl (s_iret E134_142.1 (k_ E134_142) (h.1 c9)), fun c9 => s_iload_n E134_109.1 (k_ E134_109) rfl (s_aload_n E134_110.1 (k_ E134_110) rfl (s_getR E134_111.1 (k_ E134_111) rfl rfl (s_bipush E134_114.1 (k_ E134_114) (s_iload_n E134_116.1 (k_ E134_116) rfl (s_imul E134_117.1 (k_ E134_117) (s_scall1 E134_118.1 (k_ E134_118) rfl rfl rfl (h.2 c9) (fun M2 r3 z10 => s_bipush E134_121.1 (k_ E134_121) (s_icmp_ge E134_123.1 (k_ E134_123) ⟨fun c11 => s_iconst E134_132.1 (k_ E134_132) (s_ior E134_133.1 (k_ E134_133) (s_istore_n E134_134.1 (k_ E134_134) (s_iinc E134_135.1 (k_ E134_135) rfl (s_goto E134_138.1 (k_ E134_138) (z10.1 c11))))), fun c11 => s_iconst E134_126.1 (k_ E134_126) (s_iload_n E134_127.1 (k_ E134_127) rfl (s_ishl E134_128.1 (k_ E134_128) (s_goto E134_129.1 (k_ E134_129) (s_ior E134_133.1 (k_ E134_133) (s_istore_n E134_134.1 (k_ E134_134) (s_iinc E134_135.1 (k_ E134_135) rfl (s_goto E134_138.1 (k_ E134_138) (z10.2 c11))))))))⟩))))))))⟩))
-- 135: X7_entry
theorem E135_0 : aCode 135 0 = (Instr.aload_n 0, 1, [], 0) ∧ bMask 135 0 = [] := ⟨rfl, rfl⟩
theorem E135_1 : aCode 135 1 = (Instr.iload_n 1, 2, [], 0) ∧ bMask 135 1 = [] := ⟨rfl, rfl⟩
theorem E135_2 : aCode 135 2 = (Instr.invokevirtual 263, 5, [125, 2, 1, 7, 0, 106], 0) ∧ bMask 135 2 = [] := ⟨rfl, rfl⟩
theorem E135_5 : aCode 135 5 = (Instr.ifCond .eq 47, 8, [52], 0) ∧ bMask 135 5 = [] := ⟨rfl, rfl⟩
theorem E135_8 : aCode 135 8 = (Instr.iload_n 2, 9, [], 0) ∧ bMask 135 8 = [] := ⟨rfl, rfl⟩
theorem E135_9 : aCode 135 9 = (Instr.iconst 0, 10, [], 0) ∧ bMask 135 9 = [] := ⟨rfl, rfl⟩
theorem E135_10 : aCode 135 10 = (Instr.aload_n 0, 11, [], 0) ∧ bMask 135 10 = [] := ⟨rfl, rfl⟩
theorem E135_11 : aCode 135 11 = (Instr.getfield 227, 14, [93, 7, 25, 0], 0) ∧ bMask 135 11 = [] := ⟨rfl, rfl⟩
theorem E135_14 : aCode 135 14 = (Instr.iconst 1, 15, [], 1) ∧ bMask 135 14 = [] := ⟨rfl, rfl⟩
theorem E135_15 : aCode 135 15 = (Instr.isub, 16, [], 0) ∧ bMask 135 15 = [] := ⟨rfl, rfl⟩
theorem E135_16 : aCode 135 16 = (Instr.invokestatic 126, 19, [104, 3, 1, 0, 0, 89], 0) ∧ bMask 135 16 = [] := ⟨rfl, rfl⟩
theorem E135_19 : aCode 135 19 = (Instr.ifCond .eq 33, 22, [52], 0) ∧ bMask 135 19 = [] := ⟨rfl, rfl⟩
theorem E135_22 : aCode 135 22 = (Instr.iload_n 3, 23, [], 0) ∧ bMask 135 22 = [] := ⟨rfl, rfl⟩
theorem E135_23 : aCode 135 23 = (Instr.iconst 0, 24, [], 0) ∧ bMask 135 23 = [] := ⟨rfl, rfl⟩
theorem E135_24 : aCode 135 24 = (Instr.bipush 32, 26, [], 32) ∧ bMask 135 24 = [] := ⟨rfl, rfl⟩
theorem E135_26 : aCode 135 26 = (Instr.invokestatic 126, 29, [104, 3, 1, 0, 0, 89], 0) ∧ bMask 135 26 = [] := ⟨rfl, rfl⟩
theorem E135_29 : aCode 135 29 = (Instr.ifCond .eq 23, 32, [52], 0) ∧ bMask 135 29 = [] := ⟨rfl, rfl⟩
theorem E135_32 : aCode 135 32 = (Instr.aload_n 0, 33, [], 0) ∧ bMask 135 32 = [] := ⟨rfl, rfl⟩
theorem E135_33 : aCode 135 33 = (Instr.getfield 60, 36, [105, 7, 29, 2], 0) ∧ bMask 135 33 = [] := ⟨rfl, rfl⟩
theorem E135_36 : aCode 135 36 = (Instr.sipush 132, 39, [], 132) ∧ bMask 135 36 = [] := ⟨rfl, rfl⟩
theorem E135_39 : aCode 135 39 = (Instr.iload_n 1, 40, [], 0) ∧ bMask 135 39 = [] := ⟨rfl, rfl⟩
theorem E135_40 : aCode 135 40 = (Instr.imul, 41, [], 0) ∧ bMask 135 40 = [] := ⟨rfl, rfl⟩
theorem E135_41 : aCode 135 41 = (Instr.bipush 33, 43, [], 33) ∧ bMask 135 41 = [] := ⟨rfl, rfl⟩
theorem E135_43 : aCode 135 43 = (Instr.iload_n 2, 44, [], 0) ∧ bMask 135 43 = [] := ⟨rfl, rfl⟩
theorem E135_44 : aCode 135 44 = (Instr.imul, 45, [], 0) ∧ bMask 135 44 = [] := ⟨rfl, rfl⟩
theorem E135_45 : aCode 135 45 = (Instr.iadd, 46, [], 0) ∧ bMask 135 45 = [] := ⟨rfl, rfl⟩
theorem E135_46 : aCode 135 46 = (Instr.iload_n 3, 47, [], 0) ∧ bMask 135 46 = [] := ⟨rfl, rfl⟩
theorem E135_47 : aCode 135 47 = (Instr.iadd, 48, [], 0) ∧ bMask 135 47 = [] := ⟨rfl, rfl⟩
theorem E135_48 : aCode 135 48 = (Instr.iaload, 49, [0], 0) ∧ bMask 135 48 = [] := ⟨rfl, rfl⟩
theorem E135_49 : aCode 135 49 = (Instr.goto 4, 53, [], 0) ∧ bMask 135 49 = [] := ⟨rfl, rfl⟩
theorem E135_52 : aCode 135 52 = (Instr.iconst (-1), 53, [], (-1)) ∧ bMask 135 52 = [] := ⟨rfl, rfl⟩
theorem E135_53 : aCode 135 53 = (Instr.ireturn, 54, [0], 0) ∧ bMask 135 53 = [] := ⟨rfl, rfl⟩
theorem g_X7_entry_0 {Q : bQ} {M : bM} {x1 : Int32} {x2 : Int32} {x3 : Int32} (h : bCall 125 [cR 26 0, cI x1] M (fun v1 M2 => bV1 v1 fun r3 => (((r3 = 0) → (Q (some (cI (-1 : Int32))) M2)) ∧ (¬ (r3 = 0) → (bCall 104 [cI x2, cI (0 : Int32), cI ((M2 26 0 25) - (1 : Int32))] M2 (fun v4 M5 => bV1 v4 fun r6 => (((r6 = 0) → (Q (some (cI (-1 : Int32))) M5)) ∧ (¬ (r6 = 0) → (bCall 104 [cI x3, cI (0 : Int32), cI (32 : Int32)] M5 (fun v7 M8 => bV1 v7 fun r9 => (((r9 = 0) → (Q (some (cI (-1 : Int32))) M8)) ∧ (¬ (r9 = 0) → ((vp_in ((((132 : Int32) * x1) + ((33 : Int32) * x2)) + x3) 528) ∧ (Q (some (cI (M8 38 0 ((((132 : Int32) * x1) + ((33 : Int32) * x2)) + x3).toNatClampNeg))) M8)))))))))))))) : bCall 135 [cR 26 0, cI x1, cI x2, cI x3] M Q := s_aload_n E135_0.1 (k_ E135_0) rfl (s_iload_n E135_1.1 (k_ E135_1) rfl (s_vcall1 E135_2.1 (k_ E135_2) rfl rfl rfl h (fun M2 r3 z0 => s_if_eq E135_5.1 (k_ E135_5) ⟨fun c1 => s_iconst E135_52.1 (k_ E135_52) (s_iret E135_53.1 (k_ E135_53) (z0.1 c1)), fun c1 => s_iload_n E135_8.1 (k_ E135_8) rfl (s_iconst E135_9.1 (k_ E135_9) (s_aload_n E135_10.1 (k_ E135_10) rfl (s_getI0 E135_11.1 (k_ E135_11) rfl (s_iconst E135_14.1 (k_ E135_14) (s_isub E135_15.1 (k_ E135_15) (s_scall1 E135_16.1 (k_ E135_16) rfl rfl rfl (z0.2 c1) (fun M5 r6 z2 => s_if_eq E135_19.1 (k_ E135_19) ⟨fun c3 => s_iconst E135_52.1 (k_ E135_52) (s_iret E135_53.1 (k_ E135_53) (z2.1 c3)), fun c3 => s_iload_n E135_22.1 (k_ E135_22) rfl (s_iconst E135_23.1 (k_ E135_23) (s_bipush E135_24.1 (k_ E135_24) (s_scall1 E135_26.1 (k_ E135_26) rfl rfl rfl (z2.2 c3) (fun M8 r9 z4 => s_if_eq E135_29.1 (k_ E135_29) ⟨fun c5 => s_iconst E135_52.1 (k_ E135_52) (s_iret E135_53.1 (k_ E135_53) (z4.1 c5)), fun c5 => s_aload_n E135_32.1 (k_ E135_32) rfl (s_getR E135_33.1 (k_ E135_33) rfl rfl (s_sipush E135_36.1 (k_ E135_36) (s_iload_n E135_39.1 (k_ E135_39) rfl (s_imul E135_40.1 (k_ E135_40) (s_bipush E135_41.1 (k_ E135_41) (s_iload_n E135_43.1 (k_ E135_43) rfl (s_imul E135_44.1 (k_ E135_44) (s_iadd E135_45.1 (k_ E135_45) (s_iload_n E135_46.1 (k_ E135_46) rfl (s_iadd E135_47.1 (k_ E135_47) (s_iaload E135_48.1 (k_ E135_48) rfl ⟨(z4.2 c5).1, s_goto E135_49.1 (k_ E135_49) (s_iret E135_53.1 (k_ E135_53) ((z4.2 c5).2))⟩)))))))))))⟩))))⟩)))))))⟩)))
-- 136: X7_feed
theorem E136_0 : aCode 136 0 = (Instr.iload_n 1, 1, [], 0) ∧ bMask 136 0 = [] := ⟨rfl, rfl⟩
theorem E136_1 : aCode 136 1 = (Instr.iconst 1, 2, [], 1) ∧ bMask 136 1 = [] := ⟨rfl, rfl⟩
theorem E136_2 : aCode 136 2 = (Instr.iconst 4, 3, [], 4) ∧ bMask 136 2 = [] := ⟨rfl, rfl⟩
theorem E136_3 : aCode 136 3 = (Instr.invokestatic 126, 6, [104, 3, 1, 0, 0, 89], 0) ∧ bMask 136 3 = [] := ⟨rfl, rfl⟩
theorem E136_6 : aCode 136 6 = (Instr.ifCond .ne 5, 9, [11], 0) ∧ bMask 136 6 = [] := ⟨rfl, rfl⟩
theorem E136_9 : aCode 136 9 = (Instr.iconst (-1), 10, [], (-1)) ∧ bMask 136 9 = [] := ⟨rfl, rfl⟩
theorem E136_10 : aCode 136 10 = (Instr.ireturn, 11, [0], 0) ∧ bMask 136 10 = [] := ⟨rfl, rfl⟩
theorem E136_11 : aCode 136 11 = (Instr.aload_n 0, 12, [], 0) ∧ bMask 136 11 = [] := ⟨rfl, rfl⟩
theorem E136_12 : aCode 136 12 = (Instr.getfield 167, 15, [75, 7, 7, 0], 0) ∧ bMask 136 12 = [] := ⟨rfl, rfl⟩
theorem E136_15 : aCode 136 15 = (Instr.iload_n 1, 16, [], 0) ∧ bMask 136 15 = [] := ⟨rfl, rfl⟩
theorem E136_16 : aCode 136 16 = (Instr.iadd, 17, [], 0) ∧ bMask 136 16 = [] := ⟨rfl, rfl⟩
theorem E136_17 : aCode 136 17 = (Instr.bipush 80, 19, [], 80) ∧ bMask 136 17 = [] := ⟨rfl, rfl⟩
theorem E136_19 : aCode 136 19 = (Instr.if_icmp .le 6, 22, [25], 0) ∧ bMask 136 19 = [] := ⟨rfl, rfl⟩
theorem E136_22 : aCode 136 22 = (Instr.bipush (-4), 24, [], (-4)) ∧ bMask 136 22 = [] := ⟨rfl, rfl⟩
theorem E136_24 : aCode 136 24 = (Instr.ireturn, 25, [0], 0) ∧ bMask 136 24 = [] := ⟨rfl, rfl⟩
theorem E136_25 : aCode 136 25 = (Instr.iconst 0, 26, [], 0) ∧ bMask 136 25 = [] := ⟨rfl, rfl⟩
theorem E136_26 : aCode 136 26 = (Instr.istore_n 3, 27, [], 0) ∧ bMask 136 26 = [] := ⟨rfl, rfl⟩
theorem E136_27 : aCode 136 27 = (Instr.iload_n 3, 28, [], 0) ∧ bMask 136 27 = [] := ⟨rfl, rfl⟩
theorem E136_28 : aCode 136 28 = (Instr.iload_n 1, 29, [], 0) ∧ bMask 136 28 = [] := ⟨rfl, rfl⟩
theorem E136_29 : aCode 136 29 = (Instr.if_icmp .ge 38, 32, [67], 0) ∧ bMask 136 29 = [] := ⟨rfl, rfl⟩
theorem E136_32 : aCode 136 32 = (Instr.aload_n 0, 33, [], 0) ∧ bMask 136 32 = [] := ⟨rfl, rfl⟩
theorem E136_33 : aCode 136 33 = (Instr.getfield 26, 36, [76, 7, 6, 2], 0) ∧ bMask 136 33 = [] := ⟨rfl, rfl⟩
theorem E136_36 : aCode 136 36 = (Instr.aload_n 0, 37, [], 0) ∧ bMask 136 36 = [] := ⟨rfl, rfl⟩
theorem E136_37 : aCode 136 37 = (Instr.getfield 167, 40, [75, 7, 7, 0], 0) ∧ bMask 136 37 = [] := ⟨rfl, rfl⟩
theorem E136_40 : aCode 136 40 = (Instr.iload_n 2, 41, [], 0) ∧ bMask 136 40 = [] := ⟨rfl, rfl⟩
theorem E136_41 : aCode 136 41 = (Instr.bipush 8, 43, [], 8) ∧ bMask 136 41 = [] := ⟨rfl, rfl⟩
theorem E136_43 : aCode 136 43 = (Instr.iload_n 3, 44, [], 0) ∧ bMask 136 43 = [] := ⟨rfl, rfl⟩
theorem E136_44 : aCode 136 44 = (Instr.imul, 45, [], 0) ∧ bMask 136 44 = [] := ⟨rfl, rfl⟩
theorem E136_45 : aCode 136 45 = (Instr.ishr, 46, [], 0) ∧ bMask 136 45 = [] := ⟨rfl, rfl⟩
theorem E136_46 : aCode 136 46 = (Instr.sipush 255, 49, [], 255) ∧ bMask 136 46 = [] := ⟨rfl, rfl⟩
theorem E136_49 : aCode 136 49 = (Instr.iand, 50, [], 0) ∧ bMask 136 49 = [] := ⟨rfl, rfl⟩
theorem E136_50 : aCode 136 50 = (Instr.iastore, 51, [0], 0) ∧ bMask 136 50 = [] := ⟨rfl, rfl⟩
theorem E136_51 : aCode 136 51 = (Instr.aload_n 0, 52, [], 0) ∧ bMask 136 51 = [] := ⟨rfl, rfl⟩
theorem E136_52 : aCode 136 52 = (Instr.dup, 53, [], 0) ∧ bMask 136 52 = [] := ⟨rfl, rfl⟩
theorem E136_53 : aCode 136 53 = (Instr.getfield 167, 56, [75, 7, 7, 0], 0) ∧ bMask 136 53 = [] := ⟨rfl, rfl⟩
theorem E136_56 : aCode 136 56 = (Instr.iconst 1, 57, [], 1) ∧ bMask 136 56 = [] := ⟨rfl, rfl⟩
theorem E136_57 : aCode 136 57 = (Instr.iadd, 58, [], 0) ∧ bMask 136 57 = [] := ⟨rfl, rfl⟩
theorem E136_58 : aCode 136 58 = (Instr.putfield 167, 61, [75, 7, 7, 0], 0) ∧ bMask 136 58 = [] := ⟨rfl, rfl⟩
theorem E136_61 : aCode 136 61 = (Instr.iinc 3 1, 64, [], 1) ∧ bMask 136 61 = [] := ⟨rfl, rfl⟩
theorem E136_64 : aCode 136 64 = (Instr.goto (-37), 27, [], 0) ∧ bMask 136 64 = [] := ⟨rfl, rfl⟩
theorem E136_67 : aCode 136 67 = (Instr.aload_n 0, 68, [], 0) ∧ bMask 136 67 = [] := ⟨rfl, rfl⟩
theorem E136_68 : aCode 136 68 = (Instr.getfield 167, 71, [75, 7, 7, 0], 0) ∧ bMask 136 68 = [] := ⟨rfl, rfl⟩
theorem E136_71 : aCode 136 71 = (Instr.ireturn, 72, [0], 0) ∧ bMask 136 71 = [] := ⟨rfl, rfl⟩
theorem g_X7_feed_0 {Q : bQ} {M : bM} {x1 : Int32} {x2 : Int32} (h : bCall 104 [cI x1, cI (1 : Int32), cI (4 : Int32)] M (fun v1 M2 => bV1 v1 fun r3 => (((¬ r3 = 0) → (((((M2 26 0 7) + x1) ≤ (80 : Int32)) → bGo 136 Q 27 [some (cR 26 0), some (cI x1), some (cI x2), some (cI (0 : Int32))] [] M2) ∧ (¬ (((M2 26 0 7) + x1) ≤ (80 : Int32)) → (Q (some (cI (-4 : Int32))) M2)))) ∧ (¬ (¬ r3 = 0) → (Q (some (cI (-1 : Int32))) M2))))) : bCall 136 [cR 26 0, cI x1, cI x2] M Q := s_iload_n E136_0.1 (k_ E136_0) rfl (s_iconst E136_1.1 (k_ E136_1) (s_iconst E136_2.1 (k_ E136_2) (s_scall1 E136_3.1 (k_ E136_3) rfl rfl rfl h (fun M2 r3 z0 => s_if_ne E136_6.1 (k_ E136_6) ⟨fun c1 => s_aload_n E136_11.1 (k_ E136_11) rfl (s_getI0 E136_12.1 (k_ E136_12) rfl (s_iload_n E136_15.1 (k_ E136_15) rfl (s_iadd E136_16.1 (k_ E136_16) (s_bipush E136_17.1 (k_ E136_17) (s_icmp_le E136_19.1 (k_ E136_19) ⟨fun c2 => s_iconst E136_25.1 (k_ E136_25) (s_istore_n E136_26.1 (k_ E136_26) ((z0.1 c1).1 c2)), fun c2 => s_bipush E136_22.1 (k_ E136_22) (s_iret E136_24.1 (k_ E136_24) ((z0.1 c1).2 c2))⟩))))), fun c1 => s_iconst E136_9.1 (k_ E136_9) (s_iret E136_10.1 (k_ E136_10) (z0.2 c1))⟩))))
theorem g_X7_feed_27 {Q : bQ} {M : bM} {x1 : Int32} {x2 : Int32} {x3 : Int32} (h : ((x1 ≤ x3) → (Q (some (cI (M 26 0 7))) M)) ∧ (¬ (x1 ≤ x3) → ((vp_in (M 26 0 7) 80) ∧ bGo 136 Q 27 [some (cR 26 0), some (cI x1), some (cI x2), some (cI (x3 + (1 : Int32)))] [] (bU (bU M 29 0 (M 26 0 7).toNatClampNeg ((x2 >>> (((8 : Int32) * x3) &&& 31)) &&& (255 : Int32))) 26 0 7 (((bU M 29 0 (M 26 0 7).toNatClampNeg ((x2 >>> (((8 : Int32) * x3) &&& 31)) &&& (255 : Int32))) 26 0 7) + (1 : Int32)))))) : bGo 136 Q 27 [some (cR 26 0), some (cI x1), some (cI x2), some (cI x3)] [] M := s_iload_n E136_27.1 (k_ E136_27) rfl (s_iload_n E136_28.1 (k_ E136_28) rfl (s_icmp_ge E136_29.1 (k_ E136_29) ⟨fun c3 => s_aload_n E136_67.1 (k_ E136_67) rfl (s_getI0 E136_68.1 (k_ E136_68) rfl (s_iret E136_71.1 (k_ E136_71) (h.1 c3))), fun c3 => s_aload_n E136_32.1 (k_ E136_32) rfl (s_getR E136_33.1 (k_ E136_33) rfl rfl (s_aload_n E136_36.1 (k_ E136_36) rfl (s_getI0 E136_37.1 (k_ E136_37) rfl (s_iload_n E136_40.1 (k_ E136_40) rfl (s_bipush E136_41.1 (k_ E136_41) (s_iload_n E136_43.1 (k_ E136_43) rfl (s_imul E136_44.1 (k_ E136_44) (s_ishr E136_45.1 (k_ E136_45) (s_sipush E136_46.1 (k_ E136_46) (s_iand E136_49.1 (k_ E136_49) (s_iastore E136_50.1 (k_ E136_50) rfl ⟨(h.2 c3).1, s_aload_n E136_51.1 (k_ E136_51) rfl (s_dupR E136_52.1 (k_ E136_52) (s_getI0 E136_53.1 (k_ E136_53) rfl (s_iconst E136_56.1 (k_ E136_56) (s_iadd E136_57.1 (k_ E136_57) (s_putI E136_58.1 (k_ E136_58) rfl (s_iinc E136_61.1 (k_ E136_61) rfl (s_goto E136_64.1 (k_ E136_64) ((h.2 c3).2))))))))⟩)))))))))))⟩))
-- 137: X7_isPrime
theorem E137_0 : aCode 137 0 = (Instr.iload_n 0, 1, [], 0) ∧ bMask 137 0 = [] := ⟨rfl, rfl⟩
theorem E137_1 : aCode 137 1 = (Instr.iconst 2, 2, [], 2) ∧ bMask 137 1 = [] := ⟨rfl, rfl⟩
theorem E137_2 : aCode 137 2 = (Instr.sipush 997, 5, [], 997) ∧ bMask 137 2 = [] := ⟨rfl, rfl⟩
theorem E137_5 : aCode 137 5 = (Instr.invokestatic 126, 8, [104, 3, 1, 0, 0, 89], 0) ∧ bMask 137 5 = [] := ⟨rfl, rfl⟩
theorem E137_8 : aCode 137 8 = (Instr.ifCond .ne 5, 11, [13], 0) ∧ bMask 137 8 = [] := ⟨rfl, rfl⟩
theorem E137_11 : aCode 137 11 = (Instr.iconst 0, 12, [], 0) ∧ bMask 137 11 = [] := ⟨rfl, rfl⟩
theorem E137_12 : aCode 137 12 = (Instr.ireturn, 13, [1], 0) ∧ bMask 137 12 = [] := ⟨rfl, rfl⟩
theorem E137_13 : aCode 137 13 = (Instr.iconst 2, 14, [], 2) ∧ bMask 137 13 = [] := ⟨rfl, rfl⟩
theorem E137_14 : aCode 137 14 = (Instr.istore_n 1, 15, [], 0) ∧ bMask 137 14 = [] := ⟨rfl, rfl⟩
theorem E137_15 : aCode 137 15 = (Instr.iload_n 1, 16, [], 0) ∧ bMask 137 15 = [] := ⟨rfl, rfl⟩
theorem E137_16 : aCode 137 16 = (Instr.iload_n 1, 17, [], 0) ∧ bMask 137 16 = [] := ⟨rfl, rfl⟩
theorem E137_17 : aCode 137 17 = (Instr.imul, 18, [], 0) ∧ bMask 137 17 = [] := ⟨rfl, rfl⟩
theorem E137_18 : aCode 137 18 = (Instr.iload_n 0, 19, [], 0) ∧ bMask 137 18 = [] := ⟨rfl, rfl⟩
theorem E137_19 : aCode 137 19 = (Instr.if_icmp .gt 15, 22, [34], 0) ∧ bMask 137 19 = [] := ⟨rfl, rfl⟩
theorem E137_22 : aCode 137 22 = (Instr.iload_n 0, 23, [], 0) ∧ bMask 137 22 = [] := ⟨rfl, rfl⟩
theorem E137_23 : aCode 137 23 = (Instr.iload_n 1, 24, [], 0) ∧ bMask 137 23 = [] := ⟨rfl, rfl⟩
theorem E137_24 : aCode 137 24 = (Instr.irem, 25, [], 0) ∧ bMask 137 24 = [] := ⟨rfl, rfl⟩
theorem E137_25 : aCode 137 25 = (Instr.ifCond .eq 9, 28, [34], 0) ∧ bMask 137 25 = [] := ⟨rfl, rfl⟩
theorem E137_28 : aCode 137 28 = (Instr.iinc 1 1, 31, [], 1) ∧ bMask 137 28 = [] := ⟨rfl, rfl⟩
theorem E137_31 : aCode 137 31 = (Instr.goto (-16), 15, [], 0) ∧ bMask 137 31 = [] := ⟨rfl, rfl⟩
theorem E137_34 : aCode 137 34 = (Instr.iload_n 1, 35, [], 0) ∧ bMask 137 34 = [] := ⟨rfl, rfl⟩
theorem E137_35 : aCode 137 35 = (Instr.iload_n 1, 36, [], 0) ∧ bMask 137 35 = [] := ⟨rfl, rfl⟩
theorem E137_36 : aCode 137 36 = (Instr.imul, 37, [], 0) ∧ bMask 137 36 = [] := ⟨rfl, rfl⟩
theorem E137_37 : aCode 137 37 = (Instr.iload_n 0, 38, [], 0) ∧ bMask 137 37 = [] := ⟨rfl, rfl⟩
theorem E137_38 : aCode 137 38 = (Instr.if_icmp .le 7, 41, [45], 0) ∧ bMask 137 38 = [] := ⟨rfl, rfl⟩
theorem E137_41 : aCode 137 41 = (Instr.iconst 1, 42, [], 1) ∧ bMask 137 41 = [] := ⟨rfl, rfl⟩
theorem E137_42 : aCode 137 42 = (Instr.goto 4, 46, [], 0) ∧ bMask 137 42 = [] := ⟨rfl, rfl⟩
theorem E137_45 : aCode 137 45 = (Instr.iconst 0, 46, [], 0) ∧ bMask 137 45 = [] := ⟨rfl, rfl⟩
theorem E137_46 : aCode 137 46 = (Instr.ireturn, 47, [1], 0) ∧ bMask 137 46 = [] := ⟨rfl, rfl⟩
theorem g_X7_isPrime_0 {Q : bQ} {M : bM} {x0 : Int32} (h : bCall 104 [cI x0, cI (2 : Int32), cI (997 : Int32)] M (fun v1 M2 => bV1 v1 fun r3 => (((¬ r3 = 0) → bGo 137 Q 15 [some (cI x0), some (cI (2 : Int32))] [] M2) ∧ (¬ (¬ r3 = 0) → (((0 : Int32) = 0 ∨ (0 : Int32) = 1) ∧ Q (some (cI (0 : Int32))) M2))))) : bCall 137 [cI x0] M Q := s_iload_n E137_0.1 (k_ E137_0) rfl (s_iconst E137_1.1 (k_ E137_1) (s_sipush E137_2.1 (k_ E137_2) (s_scall1 E137_5.1 (k_ E137_5) rfl rfl rfl h (fun M2 r3 z0 => s_if_ne E137_8.1 (k_ E137_8) ⟨fun c1 => s_iconst E137_13.1 (k_ E137_13) (s_istore_n E137_14.1 (k_ E137_14) (z0.1 c1)), fun c1 => s_iconst E137_11.1 (k_ E137_11) (s_zret E137_12.1 (k_ E137_12) (z0.2 c1))⟩))))
theorem g_X7_isPrime_15 {Q : bQ} {M : bM} {x0 : Int32} {x1 : Int32} (h : ((x0 < (x1 * x1)) → ((((x1 * x1) ≤ x0) → (((0 : Int32) = 0 ∨ (0 : Int32) = 1) ∧ Q (some (cI (0 : Int32))) M)) ∧ (¬ ((x1 * x1) ≤ x0) → (((1 : Int32) = 0 ∨ (1 : Int32) = 1) ∧ Q (some (cI (1 : Int32))) M)))) ∧ (¬ (x0 < (x1 * x1)) → ((¬ x1 = 0) ∧ ((((aRem x0 x1) = 0) → ((((x1 * x1) ≤ x0) → (((0 : Int32) = 0 ∨ (0 : Int32) = 1) ∧ Q (some (cI (0 : Int32))) M)) ∧ (¬ ((x1 * x1) ≤ x0) → (((1 : Int32) = 0 ∨ (1 : Int32) = 1) ∧ Q (some (cI (1 : Int32))) M)))) ∧ (¬ ((aRem x0 x1) = 0) → bGo 137 Q 15 [some (cI x0), some (cI (x1 + (1 : Int32)))] [] M))))) : bGo 137 Q 15 [some (cI x0), some (cI x1)] [] M := s_iload_n E137_15.1 (k_ E137_15) rfl (s_iload_n E137_16.1 (k_ E137_16) rfl (s_imul E137_17.1 (k_ E137_17) (s_iload_n E137_18.1 (k_ E137_18) rfl (s_icmp_gt E137_19.1 (k_ E137_19) ⟨fun c2 => s_iload_n E137_34.1 (k_ E137_34) rfl (s_iload_n E137_35.1 (k_ E137_35) rfl (s_imul E137_36.1 (k_ E137_36) (s_iload_n E137_37.1 (k_ E137_37) rfl (s_icmp_le E137_38.1 (k_ E137_38) ⟨fun c3 => s_iconst E137_45.1 (k_ E137_45) (s_zret E137_46.1 (k_ E137_46) ((h.1 c2).1 c3)), fun c3 => s_iconst E137_41.1 (k_ E137_41) (s_goto E137_42.1 (k_ E137_42) (s_zret E137_46.1 (k_ E137_46) ((h.1 c2).2 c3)))⟩)))), fun c2 => s_iload_n E137_22.1 (k_ E137_22) rfl (s_iload_n E137_23.1 (k_ E137_23) rfl (s_irem E137_24.1 (k_ E137_24) ⟨(h.2 c2).1, s_if_eq E137_25.1 (k_ E137_25) ⟨fun c4 => s_iload_n E137_34.1 (k_ E137_34) rfl (s_iload_n E137_35.1 (k_ E137_35) rfl (s_imul E137_36.1 (k_ E137_36) (s_iload_n E137_37.1 (k_ E137_37) rfl (s_icmp_le E137_38.1 (k_ E137_38) ⟨fun c5 => s_iconst E137_45.1 (k_ E137_45) (s_zret E137_46.1 (k_ E137_46) ((((h.2 c2).2).1 c4).1 c5)), fun c5 => s_iconst E137_41.1 (k_ E137_41) (s_goto E137_42.1 (k_ E137_42) (s_zret E137_46.1 (k_ E137_46) ((((h.2 c2).2).1 c4).2 c5)))⟩)))), fun c4 => s_iinc E137_28.1 (k_ E137_28) rfl (s_goto E137_31.1 (k_ E137_31) (((h.2 c2).2).2 c4))⟩⟩))⟩))))
-- 138: X7_field
theorem E138_0 : aCode 138 0 = (Instr.iload_n 1, 1, [], 0) ∧ bMask 138 0 = [] := ⟨rfl, rfl⟩
theorem E138_1 : aCode 138 1 = (Instr.invokestatic 130, 4, [137, 1, 1, 0, 0, 112], 0) ∧ bMask 138 1 = [] := ⟨rfl, rfl⟩
theorem E138_4 : aCode 138 4 = (Instr.ifCond .ne 5, 7, [9], 0) ∧ bMask 138 4 = [] := ⟨rfl, rfl⟩
theorem E138_7 : aCode 138 7 = (Instr.iconst (-1), 8, [], (-1)) ∧ bMask 138 7 = [] := ⟨rfl, rfl⟩
theorem E138_8 : aCode 138 8 = (Instr.ireturn, 9, [0], 0) ∧ bMask 138 8 = [] := ⟨rfl, rfl⟩
theorem E138_9 : aCode 138 9 = (Instr.aload_n 0, 10, [], 0) ∧ bMask 138 9 = [] := ⟨rfl, rfl⟩
theorem E138_10 : aCode 138 10 = (Instr.getfield 7, 13, [82, 7, 0, 0], 0) ∧ bMask 138 10 = [] := ⟨rfl, rfl⟩
theorem E138_13 : aCode 138 13 = (Instr.istore_n 2, 14, [], 0) ∧ bMask 138 13 = [] := ⟨rfl, rfl⟩
theorem E138_14 : aCode 138 14 = (Instr.aload_n 0, 15, [], 0) ∧ bMask 138 14 = [] := ⟨rfl, rfl⟩
theorem E138_15 : aCode 138 15 = (Instr.iload_n 1, 16, [], 0) ∧ bMask 138 15 = [] := ⟨rfl, rfl⟩
theorem E138_16 : aCode 138 16 = (Instr.putfield 7, 19, [82, 7, 0, 0], 0) ∧ bMask 138 16 = [] := ⟨rfl, rfl⟩
theorem E138_19 : aCode 138 19 = (Instr.iconst 0, 20, [], 0) ∧ bMask 138 19 = [] := ⟨rfl, rfl⟩
theorem E138_20 : aCode 138 20 = (Instr.istore_n 3, 21, [], 0) ∧ bMask 138 20 = [] := ⟨rfl, rfl⟩
theorem E138_21 : aCode 138 21 = (Instr.iload_n 3, 22, [], 0) ∧ bMask 138 21 = [] := ⟨rfl, rfl⟩
theorem E138_22 : aCode 138 22 = (Instr.sipush 192, 25, [], 192) ∧ bMask 138 22 = [] := ⟨rfl, rfl⟩
theorem E138_25 : aCode 138 25 = (Instr.if_icmp .ge 16, 28, [41], 0) ∧ bMask 138 25 = [] := ⟨rfl, rfl⟩
theorem E138_28 : aCode 138 28 = (Instr.aload_n 0, 29, [], 0) ∧ bMask 138 28 = [] := ⟨rfl, rfl⟩
theorem E138_29 : aCode 138 29 = (Instr.getfield 13, 32, [69, 7, 1, 2], 0) ∧ bMask 138 29 = [] := ⟨rfl, rfl⟩
theorem E138_32 : aCode 138 32 = (Instr.iload_n 3, 33, [], 0) ∧ bMask 138 32 = [] := ⟨rfl, rfl⟩
theorem E138_33 : aCode 138 33 = (Instr.iconst 0, 34, [], 0) ∧ bMask 138 33 = [] := ⟨rfl, rfl⟩
theorem E138_34 : aCode 138 34 = (Instr.iastore, 35, [0], 0) ∧ bMask 138 34 = [] := ⟨rfl, rfl⟩
theorem E138_35 : aCode 138 35 = (Instr.iinc 3 1, 38, [], 1) ∧ bMask 138 35 = [] := ⟨rfl, rfl⟩
theorem E138_38 : aCode 138 38 = (Instr.goto (-17), 21, [], 0) ∧ bMask 138 38 = [] := ⟨rfl, rfl⟩
theorem E138_41 : aCode 138 41 = (Instr.iload_n 2, 42, [], 0) ∧ bMask 138 41 = [] := ⟨rfl, rfl⟩
theorem E138_42 : aCode 138 42 = (Instr.ireturn, 43, [0], 0) ∧ bMask 138 42 = [] := ⟨rfl, rfl⟩
theorem g_X7_field_0 {Q : bQ} {M : bM} {x1 : Int32} (h : bCall 137 [cI x1] M (fun v1 M2 => bV1 v1 fun r3 => (((¬ r3 = 0) → bGo 138 Q 21 [some (cR 26 0), some (cI x1), some (cI (M2 26 0 0)), some (cI (0 : Int32))] [] (bU M2 26 0 0 x1)) ∧ (¬ (¬ r3 = 0) → (Q (some (cI (-1 : Int32))) M2))))) : bCall 138 [cR 26 0, cI x1] M Q := s_iload_n E138_0.1 (k_ E138_0) rfl (s_scall1 E138_1.1 (k_ E138_1) rfl rfl rfl h (fun M2 r3 z0 => s_if_ne E138_4.1 (k_ E138_4) ⟨fun c1 => s_aload_n E138_9.1 (k_ E138_9) rfl (s_getI0 E138_10.1 (k_ E138_10) rfl (s_istore_n E138_13.1 (k_ E138_13) (s_aload_n E138_14.1 (k_ E138_14) rfl (s_iload_n E138_15.1 (k_ E138_15) rfl (s_putI E138_16.1 (k_ E138_16) rfl (s_iconst E138_19.1 (k_ E138_19) (s_istore_n E138_20.1 (k_ E138_20) (z0.1 c1)))))))), fun c1 => s_iconst E138_7.1 (k_ E138_7) (s_iret E138_8.1 (k_ E138_8) (z0.2 c1))⟩))
theorem g_X7_field_21 {Q : bQ} {M : bM} {x1 : Int32} {x2 : Int32} {x3 : Int32} (h : (((192 : Int32) ≤ x3) → (Q (some (cI x2)) M)) ∧ (¬ ((192 : Int32) ≤ x3) → ((vp_in x3 192) ∧ bGo 138 Q 21 [some (cR 26 0), some (cI x1), some (cI x2), some (cI (x3 + (1 : Int32)))] [] (bU M 28 0 x3.toNatClampNeg (0 : Int32))))) : bGo 138 Q 21 [some (cR 26 0), some (cI x1), some (cI x2), some (cI x3)] [] M := s_iload_n E138_21.1 (k_ E138_21) rfl (s_sipush E138_22.1 (k_ E138_22) (s_icmp_ge E138_25.1 (k_ E138_25) ⟨fun c2 => s_iload_n E138_41.1 (k_ E138_41) rfl (s_iret E138_42.1 (k_ E138_42) (h.1 c2)), fun c2 => s_aload_n E138_28.1 (k_ E138_28) rfl (s_getR E138_29.1 (k_ E138_29) rfl rfl (s_iload_n E138_32.1 (k_ E138_32) rfl (s_iconst E138_33.1 (k_ E138_33) (s_iastore E138_34.1 (k_ E138_34) rfl ⟨(h.2 c2).1, s_iinc E138_35.1 (k_ E138_35) rfl (s_goto E138_38.1 (k_ E138_38) ((h.2 c2).2))⟩))))⟩))
-- 139: X7_isRow
theorem E139_0 : aCode 139 0 = (Instr.iload_n 0, 1, [], 0) ∧ bMask 139 0 = [] := ⟨rfl, rfl⟩
theorem E139_1 : aCode 139 1 = (Instr.iconst 0, 2, [], 0) ∧ bMask 139 1 = [] := ⟨rfl, rfl⟩
theorem E139_2 : aCode 139 2 = (Instr.iconst 2, 3, [], 2) ∧ bMask 139 2 = [] := ⟨rfl, rfl⟩
theorem E139_3 : aCode 139 3 = (Instr.invokestatic 126, 6, [104, 3, 1, 0, 0, 89], 0) ∧ bMask 139 3 = [] := ⟨rfl, rfl⟩
theorem E139_6 : aCode 139 6 = (Instr.ireturn, 7, [1], 0) ∧ bMask 139 6 = [] := ⟨rfl, rfl⟩
theorem g_X7_isRow_0 {Q : bQ} {M : bM} {x0 : Int32} (h : bCall 104 [cI x0, cI (0 : Int32), cI (2 : Int32)] M (fun v1 M2 => bV1 v1 fun r3 => ((r3 = 0 ∨ r3 = 1) ∧ Q (some (cI r3)) M2))) : bCall 139 [cI x0] M Q := s_iload_n E139_0.1 (k_ E139_0) rfl (s_iconst E139_1.1 (k_ E139_1) (s_iconst E139_2.1 (k_ E139_2) (s_scall1 E139_3.1 (k_ E139_3) rfl rfl rfl h (fun M2 r3 z0 => s_zret E139_6.1 (k_ E139_6) z0))))
-- 140: X7_get
theorem E140_0 : aCode 140 0 = (Instr.aload_n 0, 1, [], 0) ∧ bMask 140 0 = [] := ⟨rfl, rfl⟩
theorem E140_1 : aCode 140 1 = (Instr.iload_n 1, 2, [], 0) ∧ bMask 140 1 = [] := ⟨rfl, rfl⟩
theorem E140_2 : aCode 140 2 = (Instr.invokestatic 269, 5, [139, 1, 1, 0, 0, 113], 0) ∧ bMask 140 2 = [] := ⟨rfl, rfl⟩
theorem E140_5 : aCode 140 5 = (Instr.ifCond .ne 7, 8, [12], 0) ∧ bMask 140 5 = [] := ⟨rfl, rfl⟩
theorem E140_8 : aCode 140 8 = (Instr.iconst 1, 9, [], 1) ∧ bMask 140 8 = [] := ⟨rfl, rfl⟩
theorem E140_9 : aCode 140 9 = (Instr.goto 37, 46, [], 0) ∧ bMask 140 9 = [] := ⟨rfl, rfl⟩
theorem E140_12 : aCode 140 12 = (Instr.aload_n 0, 13, [], 0) ∧ bMask 140 12 = [] := ⟨rfl, rfl⟩
theorem E140_13 : aCode 140 13 = (Instr.getfield 108, 16, [113, 7, 48, 2], 0) ∧ bMask 140 13 = [] := ⟨rfl, rfl⟩
theorem E140_16 : aCode 140 16 = (Instr.iload_n 1, 17, [], 0) ∧ bMask 140 16 = [] := ⟨rfl, rfl⟩
theorem E140_17 : aCode 140 17 = (Instr.iaload, 18, [0], 0) ∧ bMask 140 17 = [] := ⟨rfl, rfl⟩
theorem E140_18 : aCode 140 18 = (Instr.ifCond .ge 7, 21, [25], 0) ∧ bMask 140 18 = [] := ⟨rfl, rfl⟩
theorem E140_21 : aCode 140 21 = (Instr.iconst 2, 22, [], 2) ∧ bMask 140 21 = [] := ⟨rfl, rfl⟩
theorem E140_22 : aCode 140 22 = (Instr.goto 24, 46, [], 0) ∧ bMask 140 22 = [] := ⟨rfl, rfl⟩
theorem E140_25 : aCode 140 25 = (Instr.iload_n 2, 26, [], 0) ∧ bMask 140 25 = [] := ⟨rfl, rfl⟩
theorem E140_26 : aCode 140 26 = (Instr.iconst 0, 27, [], 0) ∧ bMask 140 26 = [] := ⟨rfl, rfl⟩
theorem E140_27 : aCode 140 27 = (Instr.aload_n 0, 28, [], 0) ∧ bMask 140 27 = [] := ⟨rfl, rfl⟩
theorem E140_28 : aCode 140 28 = (Instr.getfield 108, 31, [113, 7, 48, 2], 0) ∧ bMask 140 28 = [] := ⟨rfl, rfl⟩
theorem E140_31 : aCode 140 31 = (Instr.iload_n 1, 32, [], 0) ∧ bMask 140 31 = [] := ⟨rfl, rfl⟩
theorem E140_32 : aCode 140 32 = (Instr.iaload, 33, [0], 0) ∧ bMask 140 32 = [] := ⟨rfl, rfl⟩
theorem E140_33 : aCode 140 33 = (Instr.iconst 1, 34, [], 1) ∧ bMask 140 33 = [] := ⟨rfl, rfl⟩
theorem E140_34 : aCode 140 34 = (Instr.isub, 35, [], 0) ∧ bMask 140 34 = [] := ⟨rfl, rfl⟩
theorem E140_35 : aCode 140 35 = (Instr.invokestatic 126, 38, [104, 3, 1, 0, 0, 89], 0) ∧ bMask 140 35 = [] := ⟨rfl, rfl⟩
theorem E140_38 : aCode 140 38 = (Instr.ifCond .ne 7, 41, [45], 0) ∧ bMask 140 38 = [] := ⟨rfl, rfl⟩
theorem E140_41 : aCode 140 41 = (Instr.iconst 3, 42, [], 3) ∧ bMask 140 41 = [] := ⟨rfl, rfl⟩
theorem E140_42 : aCode 140 42 = (Instr.goto 4, 46, [], 0) ∧ bMask 140 42 = [] := ⟨rfl, rfl⟩
theorem E140_45 : aCode 140 45 = (Instr.iconst 0, 46, [], 0) ∧ bMask 140 45 = [] := ⟨rfl, rfl⟩
theorem E140_46 : aCode 140 46 = (Instr.putfield 123, 49, [115, 7, 2, 0], 0) ∧ bMask 140 46 = [] := ⟨rfl, rfl⟩
theorem E140_49 : aCode 140 49 = (Instr.aload_n 0, 50, [], 0) ∧ bMask 140 49 = [] := ⟨rfl, rfl⟩
theorem E140_50 : aCode 140 50 = (Instr.getfield 123, 53, [115, 7, 2, 0], 0) ∧ bMask 140 50 = [] := ⟨rfl, rfl⟩
theorem E140_53 : aCode 140 53 = (Instr.ifCond .ne 17, 56, [70], 0) ∧ bMask 140 53 = [] := ⟨rfl, rfl⟩
theorem E140_56 : aCode 140 56 = (Instr.aload_n 0, 57, [], 0) ∧ bMask 140 56 = [] := ⟨rfl, rfl⟩
theorem E140_57 : aCode 140 57 = (Instr.getfield 114, 60, [116, 7, 50, 2], 0) ∧ bMask 140 57 = [] := ⟨rfl, rfl⟩
theorem E140_60 : aCode 140 60 = (Instr.bipush 40, 62, [], 40) ∧ bMask 140 60 = [] := ⟨rfl, rfl⟩
theorem E140_62 : aCode 140 62 = (Instr.iload_n 1, 63, [], 0) ∧ bMask 140 62 = [] := ⟨rfl, rfl⟩
theorem E140_63 : aCode 140 63 = (Instr.imul, 64, [], 0) ∧ bMask 140 63 = [] := ⟨rfl, rfl⟩
theorem E140_64 : aCode 140 64 = (Instr.iload_n 2, 65, [], 0) ∧ bMask 140 64 = [] := ⟨rfl, rfl⟩
theorem E140_65 : aCode 140 65 = (Instr.iadd, 66, [], 0) ∧ bMask 140 65 = [] := ⟨rfl, rfl⟩
theorem E140_66 : aCode 140 66 = (Instr.iaload, 67, [0], 0) ∧ bMask 140 66 = [] := ⟨rfl, rfl⟩
theorem E140_67 : aCode 140 67 = (Instr.goto 4, 71, [], 0) ∧ bMask 140 67 = [] := ⟨rfl, rfl⟩
theorem E140_70 : aCode 140 70 = (Instr.iconst 0, 71, [], 0) ∧ bMask 140 70 = [] := ⟨rfl, rfl⟩
theorem E140_71 : aCode 140 71 = (Instr.ireturn, 72, [0], 0) ∧ bMask 140 71 = [] := ⟨rfl, rfl⟩
theorem g_X7_get_0 {Q : bQ} {M : bM} {x1 : Int32} {x2 : Int32} (h : bCall 139 [cI x1] M (fun v1 M2 => bV1 v1 fun r3 => (((¬ r3 = 0) → ((vp_in x1 3) ∧ (((0 ≤ (M2 54 0 x1.toNatClampNeg)) → ((vp_in x1 3) ∧ (bCall 104 [cI x2, cI (0 : Int32), cI ((M2 54 0 x1.toNatClampNeg) - (1 : Int32))] M2 (fun v4 M5 => bV1 v4 fun r6 => (((¬ r6 = 0) → (((¬ ((bU M5 26 0 2 (0 : Int32)) 26 0 2) = 0) → (Q (some (cI (0 : Int32))) (bU M5 26 0 2 (0 : Int32)))) ∧ (¬ (¬ ((bU M5 26 0 2 (0 : Int32)) 26 0 2) = 0) → ((vp_in (((40 : Int32) * x1) + x2) 120) ∧ (Q (some (cI ((bU M5 26 0 2 (0 : Int32)) 56 0 (((40 : Int32) * x1) + x2).toNatClampNeg))) (bU M5 26 0 2 (0 : Int32))))))) ∧ (¬ (¬ r6 = 0) → (((¬ ((bU M5 26 0 2 (3 : Int32)) 26 0 2) = 0) → (Q (some (cI (0 : Int32))) (bU M5 26 0 2 (3 : Int32)))) ∧ (¬ (¬ ((bU M5 26 0 2 (3 : Int32)) 26 0 2) = 0) → ((vp_in (((40 : Int32) * x1) + x2) 120) ∧ (Q (some (cI ((bU M5 26 0 2 (3 : Int32)) 56 0 (((40 : Int32) * x1) + x2).toNatClampNeg))) (bU M5 26 0 2 (3 : Int32)))))))))))) ∧ (¬ (0 ≤ (M2 54 0 x1.toNatClampNeg)) → (((¬ ((bU M2 26 0 2 (2 : Int32)) 26 0 2) = 0) → (Q (some (cI (0 : Int32))) (bU M2 26 0 2 (2 : Int32)))) ∧ (¬ (¬ ((bU M2 26 0 2 (2 : Int32)) 26 0 2) = 0) → ((vp_in (((40 : Int32) * x1) + x2) 120) ∧ (Q (some (cI ((bU M2 26 0 2 (2 : Int32)) 56 0 (((40 : Int32) * x1) + x2).toNatClampNeg))) (bU M2 26 0 2 (2 : Int32)))))))))) ∧ (¬ (¬ r3 = 0) → (((¬ ((bU M2 26 0 2 (1 : Int32)) 26 0 2) = 0) → (Q (some (cI (0 : Int32))) (bU M2 26 0 2 (1 : Int32)))) ∧ (¬ (¬ ((bU M2 26 0 2 (1 : Int32)) 26 0 2) = 0) → ((vp_in (((40 : Int32) * x1) + x2) 120) ∧ (Q (some (cI ((bU M2 26 0 2 (1 : Int32)) 56 0 (((40 : Int32) * x1) + x2).toNatClampNeg))) (bU M2 26 0 2 (1 : Int32)))))))))) : bCall 140 [cR 26 0, cI x1, cI x2] M Q := s_aload_n E140_0.1 (k_ E140_0) rfl (s_iload_n E140_1.1 (k_ E140_1) rfl (s_scall1 E140_2.1 (k_ E140_2) rfl rfl rfl h (fun M2 r3 z0 => s_if_ne E140_5.1 (k_ E140_5) ⟨fun c1 => s_aload_n E140_12.1 (k_ E140_12) rfl (s_getR E140_13.1 (k_ E140_13) rfl rfl (s_iload_n E140_16.1 (k_ E140_16) rfl (s_iaload E140_17.1 (k_ E140_17) rfl ⟨(z0.1 c1).1, s_if_ge E140_18.1 (k_ E140_18) ⟨fun c2 => s_iload_n E140_25.1 (k_ E140_25) rfl (s_iconst E140_26.1 (k_ E140_26) (s_aload_n E140_27.1 (k_ E140_27) rfl (s_getR E140_28.1 (k_ E140_28) rfl rfl (s_iload_n E140_31.1 (k_ E140_31) rfl (s_iaload E140_32.1 (k_ E140_32) rfl ⟨(((z0.1 c1).2).1 c2).1, s_iconst E140_33.1 (k_ E140_33) (s_isub E140_34.1 (k_ E140_34) (s_scall1 E140_35.1 (k_ E140_35) rfl rfl rfl ((((z0.1 c1).2).1 c2).2) (fun M5 r6 z3 => s_if_ne E140_38.1 (k_ E140_38) ⟨fun c4 => s_iconst E140_45.1 (k_ E140_45) (s_putI E140_46.1 (k_ E140_46) rfl (s_aload_n E140_49.1 (k_ E140_49) rfl (s_getI0 E140_50.1 (k_ E140_50) rfl (s_if_ne E140_53.1 (k_ E140_53) ⟨fun c5 => s_iconst E140_70.1 (k_ E140_70) (s_iret E140_71.1 (k_ E140_71) ((z3.1 c4).1 c5)), fun c5 => s_aload_n E140_56.1 (k_ E140_56) rfl (s_getR E140_57.1 (k_ E140_57) rfl rfl (s_bipush E140_60.1 (k_ E140_60) (s_iload_n E140_62.1 (k_ E140_62) rfl (s_imul E140_63.1 (k_ E140_63) (s_iload_n E140_64.1 (k_ E140_64) rfl (s_iadd E140_65.1 (k_ E140_65) (s_iaload E140_66.1 (k_ E140_66) rfl ⟨((z3.1 c4).2 c5).1, s_goto E140_67.1 (k_ E140_67) (s_iret E140_71.1 (k_ E140_71) (((z3.1 c4).2 c5).2))⟩)))))))⟩)))), fun c4 => s_iconst E140_41.1 (k_ E140_41) (s_goto E140_42.1 (k_ E140_42) (s_putI E140_46.1 (k_ E140_46) rfl (s_aload_n E140_49.1 (k_ E140_49) rfl (s_getI0 E140_50.1 (k_ E140_50) rfl (s_if_ne E140_53.1 (k_ E140_53) ⟨fun c6 => s_iconst E140_70.1 (k_ E140_70) (s_iret E140_71.1 (k_ E140_71) ((z3.2 c4).1 c6)), fun c6 => s_aload_n E140_56.1 (k_ E140_56) rfl (s_getR E140_57.1 (k_ E140_57) rfl rfl (s_bipush E140_60.1 (k_ E140_60) (s_iload_n E140_62.1 (k_ E140_62) rfl (s_imul E140_63.1 (k_ E140_63) (s_iload_n E140_64.1 (k_ E140_64) rfl (s_iadd E140_65.1 (k_ E140_65) (s_iaload E140_66.1 (k_ E140_66) rfl ⟨((z3.2 c4).2 c6).1, s_goto E140_67.1 (k_ E140_67) (s_iret E140_71.1 (k_ E140_71) (((z3.2 c4).2 c6).2))⟩)))))))⟩)))))⟩)))⟩))))), fun c2 => s_iconst E140_21.1 (k_ E140_21) (s_goto E140_22.1 (k_ E140_22) (s_putI E140_46.1 (k_ E140_46) rfl (s_aload_n E140_49.1 (k_ E140_49) rfl (s_getI0 E140_50.1 (k_ E140_50) rfl (s_if_ne E140_53.1 (k_ E140_53) ⟨fun c7 => s_iconst E140_70.1 (k_ E140_70) (s_iret E140_71.1 (k_ E140_71) ((((z0.1 c1).2).2 c2).1 c7)), fun c7 => s_aload_n E140_56.1 (k_ E140_56) rfl (s_getR E140_57.1 (k_ E140_57) rfl rfl (s_bipush E140_60.1 (k_ E140_60) (s_iload_n E140_62.1 (k_ E140_62) rfl (s_imul E140_63.1 (k_ E140_63) (s_iload_n E140_64.1 (k_ E140_64) rfl (s_iadd E140_65.1 (k_ E140_65) (s_iaload E140_66.1 (k_ E140_66) rfl ⟨((((z0.1 c1).2).2 c2).2 c7).1, s_goto E140_67.1 (k_ E140_67) (s_iret E140_71.1 (k_ E140_71) (((((z0.1 c1).2).2 c2).2 c7).2))⟩)))))))⟩)))))⟩⟩))), fun c1 => s_iconst E140_8.1 (k_ E140_8) (s_goto E140_9.1 (k_ E140_9) (s_putI E140_46.1 (k_ E140_46) rfl (s_aload_n E140_49.1 (k_ E140_49) rfl (s_getI0 E140_50.1 (k_ E140_50) rfl (s_if_ne E140_53.1 (k_ E140_53) ⟨fun c8 => s_iconst E140_70.1 (k_ E140_70) (s_iret E140_71.1 (k_ E140_71) ((z0.2 c1).1 c8)), fun c8 => s_aload_n E140_56.1 (k_ E140_56) rfl (s_getR E140_57.1 (k_ E140_57) rfl rfl (s_bipush E140_60.1 (k_ E140_60) (s_iload_n E140_62.1 (k_ E140_62) rfl (s_imul E140_63.1 (k_ E140_63) (s_iload_n E140_64.1 (k_ E140_64) rfl (s_iadd E140_65.1 (k_ E140_65) (s_iaload E140_66.1 (k_ E140_66) rfl ⟨((z0.2 c1).2 c8).1, s_goto E140_67.1 (k_ E140_67) (s_iret E140_71.1 (k_ E140_71) (((z0.2 c1).2 c8).2))⟩)))))))⟩)))))⟩)))
-- 141: X7_raises
theorem E141_0 : aCode 141 0 = (Instr.iconst 0, 1, [], 0) ∧ bMask 141 0 = [] := ⟨rfl, rfl⟩
theorem E141_1 : aCode 141 1 = (Instr.istore_n 2, 2, [], 0) ∧ bMask 141 1 = [] := ⟨rfl, rfl⟩
theorem E141_2 : aCode 141 2 = (Instr.iload_n 2, 3, [], 0) := rfl
theorem E141_3 : aCode 141 3 = (Instr.bipush 32, 5, [], 32) ∧ bMask 141 3 = [] := ⟨rfl, rfl⟩
theorem E141_5 : aCode 141 5 = (Instr.if_icmp .ge 21, 8, [26], 0) ∧ bMask 141 5 = [] := ⟨rfl, rfl⟩
theorem E141_8 : aCode 141 8 = (Instr.aload_n 0, 9, [], 0) ∧ bMask 141 8 = [] := ⟨rfl, rfl⟩
theorem E141_9 : aCode 141 9 = (Instr.getfield 23, 12, [117, 7, 5, 2], 0) ∧ bMask 141 9 = [] := ⟨rfl, rfl⟩
theorem E141_12 : aCode 141 12 = (Instr.iload_n 2, 13, [], 0) ∧ bMask 141 12 = [] := ⟨rfl, rfl⟩
theorem E141_13 : aCode 141 13 = (Instr.aload_n 0, 14, [], 0) ∧ bMask 141 13 = [] := ⟨rfl, rfl⟩
theorem E141_14 : aCode 141 14 = (Instr.getfield 45, 17, [81, 7, 19, 2], 0) ∧ bMask 141 14 = [] := ⟨rfl, rfl⟩
theorem E141_17 : aCode 141 17 = (Instr.iload_n 2, 18, [], 0) ∧ bMask 141 17 = [] := ⟨rfl, rfl⟩
theorem E141_18 : aCode 141 18 = (Instr.iaload, 19, [0], 0) ∧ bMask 141 18 = [] := ⟨rfl, rfl⟩
theorem E141_19 : aCode 141 19 = (Instr.iastore, 20, [0], 0) ∧ bMask 141 19 = [] := ⟨rfl, rfl⟩
theorem E141_20 : aCode 141 20 = (Instr.iinc 2 1, 23, [], 1) ∧ bMask 141 20 = [] := ⟨rfl, rfl⟩
theorem E141_23 : aCode 141 23 = (Instr.goto (-21), 2, [], 0) ∧ bMask 141 23 = [] := ⟨rfl, rfl⟩
theorem E141_26 : aCode 141 26 = (Instr.aload_n 0, 27, [], 0) ∧ bMask 141 26 = [] := ⟨rfl, rfl⟩
theorem E141_27 : aCode 141 27 = (Instr.aload_n 0, 28, [], 0) ∧ bMask 141 27 = [] := ⟨rfl, rfl⟩
theorem E141_28 : aCode 141 28 = (Instr.getfield 20, 31, [110, 7, 4, 2], 0) ∧ bMask 141 28 = [] := ⟨rfl, rfl⟩
theorem E141_31 : aCode 141 31 = (Instr.iconst 1, 32, [], 1) ∧ bMask 141 31 = [] := ⟨rfl, rfl⟩
theorem E141_32 : aCode 141 32 = (Instr.invokevirtual 157, 35, [111, 3, 0, 7, 0, 95], 0) ∧ bMask 141 32 = [] := ⟨rfl, rfl⟩
theorem E141_35 : aCode 141 35 = (Instr.iconst 0, 36, [], 0) ∧ bMask 141 35 = [] := ⟨rfl, rfl⟩
theorem E141_36 : aCode 141 36 = (Instr.istore_n 2, 37, [], 0) ∧ bMask 141 36 = [] := ⟨rfl, rfl⟩
theorem E141_37 : aCode 141 37 = (Instr.iload_n 2, 38, [], 0) := rfl
theorem E141_38 : aCode 141 38 = (Instr.iload_n 1, 39, [], 0) ∧ bMask 141 38 = [] := ⟨rfl, rfl⟩
theorem E141_39 : aCode 141 39 = (Instr.if_icmp .ge 47, 42, [86], 0) ∧ bMask 141 39 = [] := ⟨rfl, rfl⟩
theorem E141_42 : aCode 141 42 = (Instr.aload_n 0, 43, [], 0) ∧ bMask 141 42 = [] := ⟨rfl, rfl⟩
theorem E141_43 : aCode 141 43 = (Instr.aload_n 0, 44, [], 0) ∧ bMask 141 43 = [] := ⟨rfl, rfl⟩
theorem E141_44 : aCode 141 44 = (Instr.getfield 20, 47, [110, 7, 4, 2], 0) ∧ bMask 141 44 = [] := ⟨rfl, rfl⟩
theorem E141_47 : aCode 141 47 = (Instr.aload_n 0, 48, [], 0) ∧ bMask 141 47 = [] := ⟨rfl, rfl⟩
theorem E141_48 : aCode 141 48 = (Instr.getfield 23, 51, [117, 7, 5, 2], 0) ∧ bMask 141 48 = [] := ⟨rfl, rfl⟩
theorem E141_51 : aCode 141 51 = (Instr.invokevirtual 153, 54, [130, 3, 0, 7, 0, 109], 0) ∧ bMask 141 51 = [] := ⟨rfl, rfl⟩
theorem E141_54 : aCode 141 54 = (Instr.iconst 0, 55, [], 0) ∧ bMask 141 54 = [] := ⟨rfl, rfl⟩
theorem E141_55 : aCode 141 55 = (Instr.istore_n 3, 56, [], 0) ∧ bMask 141 55 = [] := ⟨rfl, rfl⟩
theorem E141_56 : aCode 141 56 = (Instr.iload_n 3, 57, [], 0) ∧ bMask 141 56 = [] := ⟨rfl, rfl⟩
theorem E141_57 : aCode 141 57 = (Instr.bipush 32, 59, [], 32) ∧ bMask 141 57 = [] := ⟨rfl, rfl⟩
theorem E141_59 : aCode 141 59 = (Instr.if_icmp .ge 21, 62, [80], 0) ∧ bMask 141 59 = [] := ⟨rfl, rfl⟩
theorem E141_62 : aCode 141 62 = (Instr.aload_n 0, 63, [], 0) ∧ bMask 141 62 = [] := ⟨rfl, rfl⟩
theorem E141_63 : aCode 141 63 = (Instr.getfield 20, 66, [110, 7, 4, 2], 0) ∧ bMask 141 63 = [] := ⟨rfl, rfl⟩
theorem E141_66 : aCode 141 66 = (Instr.iload_n 3, 67, [], 0) ∧ bMask 141 66 = [] := ⟨rfl, rfl⟩
theorem E141_67 : aCode 141 67 = (Instr.aload_n 0, 68, [], 0) ∧ bMask 141 67 = [] := ⟨rfl, rfl⟩
theorem E141_68 : aCode 141 68 = (Instr.getfield 17, 71, [108, 7, 3, 2], 0) ∧ bMask 141 68 = [] := ⟨rfl, rfl⟩
theorem E141_71 : aCode 141 71 = (Instr.iload_n 3, 72, [], 0) ∧ bMask 141 71 = [] := ⟨rfl, rfl⟩
theorem E141_72 : aCode 141 72 = (Instr.iaload, 73, [0], 0) ∧ bMask 141 72 = [] := ⟨rfl, rfl⟩
theorem E141_73 : aCode 141 73 = (Instr.iastore, 74, [0], 0) ∧ bMask 141 73 = [] := ⟨rfl, rfl⟩
theorem E141_74 : aCode 141 74 = (Instr.iinc 3 1, 77, [], 1) ∧ bMask 141 74 = [] := ⟨rfl, rfl⟩
theorem E141_77 : aCode 141 77 = (Instr.goto (-21), 56, [], 0) ∧ bMask 141 77 = [] := ⟨rfl, rfl⟩
theorem E141_80 : aCode 141 80 = (Instr.iinc 2 1, 83, [], 1) ∧ bMask 141 80 = [] := ⟨rfl, rfl⟩
theorem E141_83 : aCode 141 83 = (Instr.goto (-46), 37, [], 0) ∧ bMask 141 83 = [] := ⟨rfl, rfl⟩
theorem E141_86 : aCode 141 86 = (Instr.iconst 0, 87, [], 0) ∧ bMask 141 86 = [] := ⟨rfl, rfl⟩
theorem E141_87 : aCode 141 87 = (Instr.istore_n 2, 88, [], 0) ∧ bMask 141 87 = [] := ⟨rfl, rfl⟩
theorem E141_88 : aCode 141 88 = (Instr.iload_n 2, 89, [], 0) := rfl
theorem E141_89 : aCode 141 89 = (Instr.bipush 32, 91, [], 32) ∧ bMask 141 89 = [] := ⟨rfl, rfl⟩
theorem E141_91 : aCode 141 91 = (Instr.if_icmp .ge 21, 94, [112], 0) ∧ bMask 141 91 = [] := ⟨rfl, rfl⟩
theorem E141_94 : aCode 141 94 = (Instr.aload_n 0, 95, [], 0) ∧ bMask 141 94 = [] := ⟨rfl, rfl⟩
theorem E141_95 : aCode 141 95 = (Instr.getfield 45, 98, [81, 7, 19, 2], 0) ∧ bMask 141 95 = [] := ⟨rfl, rfl⟩
theorem E141_98 : aCode 141 98 = (Instr.iload_n 2, 99, [], 0) ∧ bMask 141 98 = [] := ⟨rfl, rfl⟩
theorem E141_99 : aCode 141 99 = (Instr.aload_n 0, 100, [], 0) ∧ bMask 141 99 = [] := ⟨rfl, rfl⟩
theorem E141_100 : aCode 141 100 = (Instr.getfield 20, 103, [110, 7, 4, 2], 0) ∧ bMask 141 100 = [] := ⟨rfl, rfl⟩
theorem E141_103 : aCode 141 103 = (Instr.iload_n 2, 104, [], 0) ∧ bMask 141 103 = [] := ⟨rfl, rfl⟩
theorem E141_104 : aCode 141 104 = (Instr.iaload, 105, [0], 0) ∧ bMask 141 104 = [] := ⟨rfl, rfl⟩
theorem E141_105 : aCode 141 105 = (Instr.iastore, 106, [0], 0) ∧ bMask 141 105 = [] := ⟨rfl, rfl⟩
theorem E141_106 : aCode 141 106 = (Instr.iinc 2 1, 109, [], 1) ∧ bMask 141 106 = [] := ⟨rfl, rfl⟩
theorem E141_109 : aCode 141 109 = (Instr.goto (-21), 88, [], 0) ∧ bMask 141 109 = [] := ⟨rfl, rfl⟩
theorem E141_112 : aCode 141 112 = (Instr.return_, 113, [], 0) ∧ bMask 141 112 = [] := ⟨rfl, rfl⟩
theorem g_X7_raises_0 {Q : bQ} {M : bM} {x1 : Int32} (h : bGo 141 Q 2 [some (cR 26 0), some (cI x1), some (cI (0 : Int32)), none] [] M) : bCall 141 [cR 26 0, cI x1] M Q := s_iconst E141_0.1 (k_ E141_0) (s_istore_n E141_1.1 (k_ E141_1) (h))
theorem g_X7_raises_2 {Q : bQ} {M : bM} {x1 : Int32} {x2 : Int32} {o3 : Option bV} (h : (((32 : Int32) ≤ x2) → (bCall 111 [cR 26 0, cR 27 1, cI (1 : Int32)] M (fun v1 M2 => bV0 v1 (bGo 141 Q 37 [some (cR 26 0), some (cI x1), some (cI (0 : Int32)), none] [] M2)))) ∧ (¬ ((32 : Int32) ≤ x2) → ((vp_in x2 32) ∧ ((vp_in x2 32) ∧ bGo 141 Q 2 [some (cR 26 0), some (cI x1), some (cI (x2 + (1 : Int32))), none] [] (bU M 27 2 x2.toNatClampNeg (M 27 3 x2.toNatClampNeg)))))) : bGo 141 Q 2 [some (cR 26 0), some (cI x1), some (cI x2), o3] [] M := s_iload_n E141_2 rfl rfl (s_bipush E141_3.1 (k_ E141_3) (s_icmp_ge E141_5.1 (k_ E141_5) ⟨fun c0 => s_aload_n E141_26.1 (k_ E141_26) rfl (s_aload_n E141_27.1 (k_ E141_27) rfl (s_getR E141_28.1 (k_ E141_28) rfl rfl (s_iconst E141_31.1 (k_ E141_31) (s_vcall0 E141_32.1 (k_ E141_32) rfl rfl rfl (h.1 c0) (fun M2 z1 => s_iconst E141_35.1 (k_ E141_35) (s_istore_n E141_36.1 (k_ E141_36) (z1))))))), fun c0 => s_aload_n E141_8.1 (k_ E141_8) rfl (s_getR E141_9.1 (k_ E141_9) rfl rfl (s_iload_n E141_12.1 (k_ E141_12) rfl (s_aload_n E141_13.1 (k_ E141_13) rfl (s_getR E141_14.1 (k_ E141_14) rfl rfl (s_iload_n E141_17.1 (k_ E141_17) rfl (s_iaload E141_18.1 (k_ E141_18) rfl ⟨(h.2 c0).1, s_iastore E141_19.1 (k_ E141_19) rfl ⟨((h.2 c0).2).1, s_iinc E141_20.1 (k_ E141_20) rfl (s_goto E141_23.1 (k_ E141_23) (((h.2 c0).2).2))⟩⟩))))))⟩))
theorem g_X7_raises_37 {Q : bQ} {M : bM} {x1 : Int32} {x2 : Int32} {o3 : Option bV} (h : ((x1 ≤ x2) → bGo 141 Q 88 [some (cR 26 0), some (cI x1), some (cI (0 : Int32)), none] [] M) ∧ (¬ (x1 ≤ x2) → (bCall 130 [cR 26 0, cR 27 1, cR 27 2] M (fun v1 M2 => bV0 v1 (bGo 141 Q 56 [some (cR 26 0), some (cI x1), some (cI x2), some (cI (0 : Int32))] [] M2))))) : bGo 141 Q 37 [some (cR 26 0), some (cI x1), some (cI x2), o3] [] M := s_iload_n E141_37 rfl rfl (s_iload_n E141_38.1 (k_ E141_38) rfl (s_icmp_ge E141_39.1 (k_ E141_39) ⟨fun c2 => s_iconst E141_86.1 (k_ E141_86) (s_istore_n E141_87.1 (k_ E141_87) (h.1 c2)), fun c2 => s_aload_n E141_42.1 (k_ E141_42) rfl (s_aload_n E141_43.1 (k_ E141_43) rfl (s_getR E141_44.1 (k_ E141_44) rfl rfl (s_aload_n E141_47.1 (k_ E141_47) rfl (s_getR E141_48.1 (k_ E141_48) rfl rfl (s_vcall0 E141_51.1 (k_ E141_51) rfl rfl rfl (h.2 c2) (fun M2 z3 => s_iconst E141_54.1 (k_ E141_54) (s_istore_n E141_55.1 (k_ E141_55) (z3))))))))⟩))
theorem g_X7_raises_56 {Q : bQ} {M : bM} {x1 : Int32} {x2 : Int32} {x3 : Int32} (h : (((32 : Int32) ≤ x3) → bGo 141 Q 37 [some (cR 26 0), some (cI x1), some (cI (x2 + (1 : Int32))), some (cI x3)] [] M) ∧ (¬ ((32 : Int32) ≤ x3) → ((vp_in x3 32) ∧ ((vp_in x3 32) ∧ bGo 141 Q 56 [some (cR 26 0), some (cI x1), some (cI x2), some (cI (x3 + (1 : Int32)))] [] (bU M 27 1 x3.toNatClampNeg (M 27 0 x3.toNatClampNeg)))))) : bGo 141 Q 56 [some (cR 26 0), some (cI x1), some (cI x2), some (cI x3)] [] M := s_iload_n E141_56.1 (k_ E141_56) rfl (s_bipush E141_57.1 (k_ E141_57) (s_icmp_ge E141_59.1 (k_ E141_59) ⟨fun c4 => s_iinc E141_80.1 (k_ E141_80) rfl (s_goto E141_83.1 (k_ E141_83) (h.1 c4)), fun c4 => s_aload_n E141_62.1 (k_ E141_62) rfl (s_getR E141_63.1 (k_ E141_63) rfl rfl (s_iload_n E141_66.1 (k_ E141_66) rfl (s_aload_n E141_67.1 (k_ E141_67) rfl (s_getR E141_68.1 (k_ E141_68) rfl rfl (s_iload_n E141_71.1 (k_ E141_71) rfl (s_iaload E141_72.1 (k_ E141_72) rfl ⟨(h.2 c4).1, s_iastore E141_73.1 (k_ E141_73) rfl ⟨((h.2 c4).2).1, s_iinc E141_74.1 (k_ E141_74) rfl (s_goto E141_77.1 (k_ E141_77) (((h.2 c4).2).2))⟩⟩))))))⟩))
theorem g_X7_raises_88 {Q : bQ} {M : bM} {x1 : Int32} {x2 : Int32} {o3 : Option bV} (h : (((32 : Int32) ≤ x2) → (Q none M)) ∧ (¬ ((32 : Int32) ≤ x2) → ((vp_in x2 32) ∧ ((vp_in x2 32) ∧ bGo 141 Q 88 [some (cR 26 0), some (cI x1), some (cI (x2 + (1 : Int32))), none] [] (bU M 27 3 x2.toNatClampNeg (M 27 1 x2.toNatClampNeg)))))) : bGo 141 Q 88 [some (cR 26 0), some (cI x1), some (cI x2), o3] [] M := s_iload_n E141_88 rfl rfl (s_bipush E141_89.1 (k_ E141_89) (s_icmp_ge E141_91.1 (k_ E141_91) ⟨fun c5 => s_ret E141_112.1 (k_ E141_112) (h.1 c5), fun c5 => s_aload_n E141_94.1 (k_ E141_94) rfl (s_getR E141_95.1 (k_ E141_95) rfl rfl (s_iload_n E141_98.1 (k_ E141_98) rfl (s_aload_n E141_99.1 (k_ E141_99) rfl (s_getR E141_100.1 (k_ E141_100) rfl rfl (s_iload_n E141_103.1 (k_ E141_103) rfl (s_iaload E141_104.1 (k_ E141_104) rfl ⟨(h.2 c5).1, s_iastore E141_105.1 (k_ E141_105) rfl ⟨((h.2 c5).2).1, s_iinc E141_106.1 (k_ E141_106) rfl (s_goto E141_109.1 (k_ E141_109) (((h.2 c5).2).2))⟩⟩))))))⟩))
-- 142: X7_raisesNow
theorem E142_0 : aCode 142 0 = (Instr.aload_n 0, 1, [], 0) ∧ bMask 142 0 = [] := ⟨rfl, rfl⟩
theorem E142_1 : aCode 142 1 = (Instr.getfield 203, 4, [83, 7, 21, 1], 0) ∧ bMask 142 1 = [] := ⟨rfl, rfl⟩
theorem E142_4 : aCode 142 4 = (Instr.ifCond .ne 5, 7, [9], 0) ∧ bMask 142 4 = [] := ⟨rfl, rfl⟩
theorem E142_7 : aCode 142 7 = (Instr.iconst 0, 8, [], 0) ∧ bMask 142 7 = [] := ⟨rfl, rfl⟩
theorem E142_8 : aCode 142 8 = (Instr.ireturn, 9, [1], 0) ∧ bMask 142 8 = [] := ⟨rfl, rfl⟩
theorem E142_9 : aCode 142 9 = (Instr.aload_n 0, 10, [], 0) ∧ bMask 142 9 = [] := ⟨rfl, rfl⟩
theorem E142_10 : aCode 142 10 = (Instr.invokevirtual 200, 13, [110, 1, 0, 7, 0, 94], 0) ∧ bMask 142 10 = [] := ⟨rfl, rfl⟩
theorem E142_13 : aCode 142 13 = (Instr.aload_n 0, 14, [], 0) ∧ bMask 142 13 = [] := ⟨rfl, rfl⟩
theorem E142_14 : aCode 142 14 = (Instr.getfield 176, 17, [78, 7, 10, 0], 0) ∧ bMask 142 14 = [] := ⟨rfl, rfl⟩
theorem E142_17 : aCode 142 17 = (Instr.iconst 1, 18, [], 1) ∧ bMask 142 17 = [] := ⟨rfl, rfl⟩
theorem E142_18 : aCode 142 18 = (Instr.if_icmp .ne 12, 21, [30], 0) ∧ bMask 142 18 = [] := ⟨rfl, rfl⟩
theorem E142_21 : aCode 142 21 = (Instr.aload_n 0, 22, [], 0) ∧ bMask 142 21 = [] := ⟨rfl, rfl⟩
theorem E142_22 : aCode 142 22 = (Instr.getfield 179, 25, [79, 7, 11, 0], 0) ∧ bMask 142 22 = [] := ⟨rfl, rfl⟩
theorem E142_25 : aCode 142 25 = (Instr.bipush 40, 27, [], 40) ∧ bMask 142 25 = [] := ⟨rfl, rfl⟩
theorem E142_27 : aCode 142 27 = (Instr.if_icmp .le 5, 30, [32], 0) ∧ bMask 142 27 = [] := ⟨rfl, rfl⟩
theorem E142_30 : aCode 142 30 = (Instr.iconst 0, 31, [], 0) ∧ bMask 142 30 = [] := ⟨rfl, rfl⟩
theorem E142_31 : aCode 142 31 = (Instr.ireturn, 32, [1], 0) ∧ bMask 142 31 = [] := ⟨rfl, rfl⟩
theorem E142_32 : aCode 142 32 = (Instr.aload_n 0, 33, [], 0) ∧ bMask 142 32 = [] := ⟨rfl, rfl⟩
theorem E142_33 : aCode 142 33 = (Instr.aload_n 0, 34, [], 0) ∧ bMask 142 33 = [] := ⟨rfl, rfl⟩
theorem E142_34 : aCode 142 34 = (Instr.getfield 179, 37, [79, 7, 11, 0], 0) ∧ bMask 142 34 = [] := ⟨rfl, rfl⟩
theorem E142_37 : aCode 142 37 = (Instr.invokevirtual 207, 40, [141, 2, 0, 7, 0, 114], 0) ∧ bMask 142 37 = [] := ⟨rfl, rfl⟩
theorem E142_40 : aCode 142 40 = (Instr.aload_n 0, 41, [], 0) ∧ bMask 142 40 = [] := ⟨rfl, rfl⟩
theorem E142_41 : aCode 142 41 = (Instr.iconst 0, 42, [], 0) ∧ bMask 142 41 = [] := ⟨rfl, rfl⟩
theorem E142_42 : aCode 142 42 = (Instr.putfield 203, 45, [83, 7, 21, 1], 0) ∧ bMask 142 42 = [] := ⟨rfl, rfl⟩
theorem E142_45 : aCode 142 45 = (Instr.aload_n 0, 46, [], 0) ∧ bMask 142 45 = [] := ⟨rfl, rfl⟩
theorem E142_46 : aCode 142 46 = (Instr.invokevirtual 200, 49, [110, 1, 0, 7, 0, 94], 0) ∧ bMask 142 46 = [] := ⟨rfl, rfl⟩
theorem E142_49 : aCode 142 49 = (Instr.iconst 1, 50, [], 1) ∧ bMask 142 49 = [] := ⟨rfl, rfl⟩
theorem E142_50 : aCode 142 50 = (Instr.ireturn, 51, [1], 0) ∧ bMask 142 50 = [] := ⟨rfl, rfl⟩
theorem g_X7_raisesNow_0 {Q : bQ} {M : bM}  (h : ((¬ (M 26 0 21) = 0) → (bCall 110 [cR 26 0] M (fun v1 M2 => bV0 v1 (((¬ (M2 26 0 10) = (1 : Int32)) → (((0 : Int32) = 0 ∨ (0 : Int32) = 1) ∧ Q (some (cI (0 : Int32))) M2)) ∧ (¬ (¬ (M2 26 0 10) = (1 : Int32)) → ((((M2 26 0 11) ≤ (40 : Int32)) → (bCall 141 [cR 26 0, cI (M2 26 0 11)] M2 (fun v3 M4 => bV0 v3 (((0 : Int32) = 0 ∨ (0 : Int32) = 1) ∧ (bCall 110 [cR 26 0] (bU M4 26 0 21 (0 : Int32)) (fun v5 M6 => bV0 v5 (((1 : Int32) = 0 ∨ (1 : Int32) = 1) ∧ Q (some (cI (1 : Int32))) M6))))))) ∧ (¬ ((M2 26 0 11) ≤ (40 : Int32)) → (((0 : Int32) = 0 ∨ (0 : Int32) = 1) ∧ Q (some (cI (0 : Int32))) M2)))))))) ∧ (¬ (¬ (M 26 0 21) = 0) → (((0 : Int32) = 0 ∨ (0 : Int32) = 1) ∧ Q (some (cI (0 : Int32))) M))) : bCall 142 [cR 26 0] M Q := s_aload_n E142_0.1 (k_ E142_0) rfl (s_getI1 E142_1.1 (k_ E142_1) rfl (s_if_ne E142_4.1 (k_ E142_4) ⟨fun c0 => s_aload_n E142_9.1 (k_ E142_9) rfl (s_vcall0 E142_10.1 (k_ E142_10) rfl rfl rfl (h.1 c0) (fun M2 z1 => s_aload_n E142_13.1 (k_ E142_13) rfl (s_getI0 E142_14.1 (k_ E142_14) rfl (s_iconst E142_17.1 (k_ E142_17) (s_icmp_ne E142_18.1 (k_ E142_18) ⟨fun c2 => s_iconst E142_30.1 (k_ E142_30) (s_zret E142_31.1 (k_ E142_31) (z1.1 c2)), fun c2 => s_aload_n E142_21.1 (k_ E142_21) rfl (s_getI0 E142_22.1 (k_ E142_22) rfl (s_bipush E142_25.1 (k_ E142_25) (s_icmp_le E142_27.1 (k_ E142_27) ⟨fun c3 => s_aload_n E142_32.1 (k_ E142_32) rfl (s_aload_n E142_33.1 (k_ E142_33) rfl (s_getI0 E142_34.1 (k_ E142_34) rfl (s_vcall0 E142_37.1 (k_ E142_37) rfl rfl rfl ((z1.2 c2).1 c3) (fun M4 z4 => s_aload_n E142_40.1 (k_ E142_40) rfl (s_iconst E142_41.1 (k_ E142_41) (s_putZ E142_42.1 (k_ E142_42) rfl ⟨z4.1, s_aload_n E142_45.1 (k_ E142_45) rfl (s_vcall0 E142_46.1 (k_ E142_46) rfl rfl rfl z4.2 (fun M6 z5 => s_iconst E142_49.1 (k_ E142_49) (s_zret E142_50.1 (k_ E142_50) z5)))⟩)))))), fun c3 => s_iconst E142_30.1 (k_ E142_30) (s_zret E142_31.1 (k_ E142_31) ((z1.2 c2).2 c3))⟩)))⟩))))), fun c0 => s_iconst E142_7.1 (k_ E142_7) (s_zret E142_8.1 (k_ E142_8) (h.2 c0))⟩))
-- 143: X7_goesOn
theorem E143_0 : aCode 143 0 = (Instr.aload_n 0, 1, [], 0) ∧ bMask 143 0 = [] := ⟨rfl, rfl⟩
theorem E143_1 : aCode 143 1 = (Instr.getfield 176, 4, [78, 7, 10, 0], 0) ∧ bMask 143 1 = [] := ⟨rfl, rfl⟩
theorem E143_4 : aCode 143 4 = (Instr.bipush 94, 6, [], 94) ∧ bMask 143 4 = [] := ⟨rfl, rfl⟩
theorem E143_6 : aCode 143 6 = (Instr.if_icmp .ne 8, 9, [14], 0) ∧ bMask 143 6 = [] := ⟨rfl, rfl⟩
theorem E143_9 : aCode 143 9 = (Instr.aload_n 0, 10, [], 0) ∧ bMask 143 9 = [] := ⟨rfl, rfl⟩
theorem E143_10 : aCode 143 10 = (Instr.invokevirtual 211, 13, [142, 1, 1, 7, 0, 115], 0) ∧ bMask 143 10 = [] := ⟨rfl, rfl⟩
theorem E143_13 : aCode 143 13 = (Instr.ireturn, 14, [1], 0) ∧ bMask 143 13 = [] := ⟨rfl, rfl⟩
theorem E143_14 : aCode 143 14 = (Instr.aload_n 0, 15, [], 0) ∧ bMask 143 14 = [] := ⟨rfl, rfl⟩
theorem E143_15 : aCode 143 15 = (Instr.invokevirtual 215, 18, [132, 1, 0, 7, 0, 116], 0) ∧ bMask 143 15 = [] := ⟨rfl, rfl⟩
theorem E143_18 : aCode 143 18 = (Instr.aload_n 0, 19, [], 0) ∧ bMask 143 18 = [] := ⟨rfl, rfl⟩
theorem E143_19 : aCode 143 19 = (Instr.getfield 176, 22, [78, 7, 10, 0], 0) ∧ bMask 143 19 = [] := ⟨rfl, rfl⟩
theorem E143_22 : aCode 143 22 = (Instr.bipush 42, 24, [], 42) ∧ bMask 143 22 = [] := ⟨rfl, rfl⟩
theorem E143_24 : aCode 143 24 = (Instr.if_icmp .eq 12, 27, [36], 0) ∧ bMask 143 24 = [] := ⟨rfl, rfl⟩
theorem E143_27 : aCode 143 27 = (Instr.aload_n 0, 28, [], 0) ∧ bMask 143 27 = [] := ⟨rfl, rfl⟩
theorem E143_28 : aCode 143 28 = (Instr.getfield 176, 31, [78, 7, 10, 0], 0) ∧ bMask 143 28 = [] := ⟨rfl, rfl⟩
theorem E143_31 : aCode 143 31 = (Instr.bipush 47, 33, [], 47) ∧ bMask 143 31 = [] := ⟨rfl, rfl⟩
theorem E143_33 : aCode 143 33 = (Instr.if_icmp .ne 37, 36, [70], 0) ∧ bMask 143 33 = [] := ⟨rfl, rfl⟩
theorem E143_36 : aCode 143 36 = (Instr.aload_n 0, 37, [], 0) ∧ bMask 143 36 = [] := ⟨rfl, rfl⟩
theorem E143_37 : aCode 143 37 = (Instr.getfield 39, 40, [73, 7, 15, 2], 0) ∧ bMask 143 37 = [] := ⟨rfl, rfl⟩
theorem E143_40 : aCode 143 40 = (Instr.aload_n 0, 41, [], 0) ∧ bMask 143 40 = [] := ⟨rfl, rfl⟩
theorem E143_41 : aCode 143 41 = (Instr.getfield 188, 44, [71, 7, 17, 0], 0) ∧ bMask 143 41 = [] := ⟨rfl, rfl⟩
theorem E143_44 : aCode 143 44 = (Instr.aload_n 0, 45, [], 0) ∧ bMask 143 44 = [] := ⟨rfl, rfl⟩
theorem E143_45 : aCode 143 45 = (Instr.getfield 176, 48, [78, 7, 10, 0], 0) ∧ bMask 143 45 = [] := ⟨rfl, rfl⟩
theorem E143_48 : aCode 143 48 = (Instr.iastore, 49, [0], 0) ∧ bMask 143 48 = [] := ⟨rfl, rfl⟩
theorem E143_49 : aCode 143 49 = (Instr.aload_n 0, 50, [], 0) ∧ bMask 143 49 = [] := ⟨rfl, rfl⟩
theorem E143_50 : aCode 143 50 = (Instr.getfield 42, 53, [112, 7, 16, 2], 0) ∧ bMask 143 50 = [] := ⟨rfl, rfl⟩
theorem E143_53 : aCode 143 53 = (Instr.aload_n 0, 54, [], 0) ∧ bMask 143 53 = [] := ⟨rfl, rfl⟩
theorem E143_54 : aCode 143 54 = (Instr.getfield 188, 57, [71, 7, 17, 0], 0) ∧ bMask 143 54 = [] := ⟨rfl, rfl⟩
theorem E143_57 : aCode 143 57 = (Instr.aload_n 0, 58, [], 0) ∧ bMask 143 57 = [] := ⟨rfl, rfl⟩
theorem E143_58 : aCode 143 58 = (Instr.getfield 173, 61, [77, 7, 9, 0], 0) ∧ bMask 143 58 = [] := ⟨rfl, rfl⟩
theorem E143_61 : aCode 143 61 = (Instr.iastore, 62, [0], 0) ∧ bMask 143 61 = [] := ⟨rfl, rfl⟩
theorem E143_62 : aCode 143 62 = (Instr.aload_n 0, 63, [], 0) ∧ bMask 143 62 = [] := ⟨rfl, rfl⟩
theorem E143_63 : aCode 143 63 = (Instr.iconst 1, 64, [], 1) ∧ bMask 143 63 = [] := ⟨rfl, rfl⟩
theorem E143_64 : aCode 143 64 = (Instr.putfield 197, 67, [80, 7, 20, 0], 0) ∧ bMask 143 64 = [] := ⟨rfl, rfl⟩
theorem E143_67 : aCode 143 67 = (Instr.goto 130, 197, [], 0) ∧ bMask 143 67 = [] := ⟨rfl, rfl⟩
theorem E143_70 : aCode 143 70 = (Instr.aload_n 0, 71, [], 0) ∧ bMask 143 70 = [] := ⟨rfl, rfl⟩
theorem E143_71 : aCode 143 71 = (Instr.getfield 176, 74, [78, 7, 10, 0], 0) ∧ bMask 143 71 = [] := ⟨rfl, rfl⟩
theorem E143_74 : aCode 143 74 = (Instr.bipush 43, 76, [], 43) ∧ bMask 143 74 = [] := ⟨rfl, rfl⟩
theorem E143_76 : aCode 143 76 = (Instr.if_icmp .eq 12, 79, [88], 0) ∧ bMask 143 76 = [] := ⟨rfl, rfl⟩
theorem E143_79 : aCode 143 79 = (Instr.aload_n 0, 80, [], 0) ∧ bMask 143 79 = [] := ⟨rfl, rfl⟩
theorem E143_80 : aCode 143 80 = (Instr.getfield 176, 83, [78, 7, 10, 0], 0) ∧ bMask 143 80 = [] := ⟨rfl, rfl⟩
theorem E143_83 : aCode 143 83 = (Instr.bipush 45, 85, [], 45) ∧ bMask 143 83 = [] := ⟨rfl, rfl⟩
theorem E143_85 : aCode 143 85 = (Instr.if_icmp .ne 38, 88, [123], 0) ∧ bMask 143 85 = [] := ⟨rfl, rfl⟩
theorem E143_88 : aCode 143 88 = (Instr.aload_n 0, 89, [], 0) ∧ bMask 143 88 = [] := ⟨rfl, rfl⟩
theorem E143_89 : aCode 143 89 = (Instr.invokevirtual 218, 92, [129, 1, 0, 7, 0, 117], 0) ∧ bMask 143 89 = [] := ⟨rfl, rfl⟩
theorem E143_92 : aCode 143 92 = (Instr.aload_n 0, 93, [], 0) ∧ bMask 143 92 = [] := ⟨rfl, rfl⟩
theorem E143_93 : aCode 143 93 = (Instr.getfield 35, 96, [72, 7, 14, 2], 0) ∧ bMask 143 93 = [] := ⟨rfl, rfl⟩
theorem E143_96 : aCode 143 96 = (Instr.aload_n 0, 97, [], 0) ∧ bMask 143 96 = [] := ⟨rfl, rfl⟩
theorem E143_97 : aCode 143 97 = (Instr.getfield 188, 100, [71, 7, 17, 0], 0) ∧ bMask 143 97 = [] := ⟨rfl, rfl⟩
theorem E143_100 : aCode 143 100 = (Instr.aload_n 0, 101, [], 0) ∧ bMask 143 100 = [] := ⟨rfl, rfl⟩
theorem E143_101 : aCode 143 101 = (Instr.getfield 176, 104, [78, 7, 10, 0], 0) ∧ bMask 143 101 = [] := ⟨rfl, rfl⟩
theorem E143_104 : aCode 143 104 = (Instr.bipush 45, 106, [], 45) ∧ bMask 143 104 = [] := ⟨rfl, rfl⟩
theorem E143_106 : aCode 143 106 = (Instr.if_icmp .ne 7, 109, [113], 0) ∧ bMask 143 106 = [] := ⟨rfl, rfl⟩
theorem E143_109 : aCode 143 109 = (Instr.iconst 1, 110, [], 1) ∧ bMask 143 109 = [] := ⟨rfl, rfl⟩
theorem E143_110 : aCode 143 110 = (Instr.goto 4, 114, [], 0) ∧ bMask 143 110 = [] := ⟨rfl, rfl⟩
theorem E143_113 : aCode 143 113 = (Instr.iconst 0, 114, [], 0) ∧ bMask 143 113 = [] := ⟨rfl, rfl⟩
theorem E143_114 : aCode 143 114 = (Instr.bastore, 115, [1], 0) ∧ bMask 143 114 = [] := ⟨rfl, rfl⟩
theorem E143_115 : aCode 143 115 = (Instr.aload_n 0, 116, [], 0) ∧ bMask 143 115 = [] := ⟨rfl, rfl⟩
theorem E143_116 : aCode 143 116 = (Instr.iconst 1, 117, [], 1) ∧ bMask 143 116 = [] := ⟨rfl, rfl⟩
theorem E143_117 : aCode 143 117 = (Instr.putfield 197, 120, [80, 7, 20, 0], 0) ∧ bMask 143 117 = [] := ⟨rfl, rfl⟩
theorem E143_120 : aCode 143 120 = (Instr.goto 77, 197, [], 0) ∧ bMask 143 120 = [] := ⟨rfl, rfl⟩
theorem E143_123 : aCode 143 123 = (Instr.aload_n 0, 124, [], 0) ∧ bMask 143 123 = [] := ⟨rfl, rfl⟩
theorem E143_124 : aCode 143 124 = (Instr.getfield 176, 127, [78, 7, 10, 0], 0) ∧ bMask 143 124 = [] := ⟨rfl, rfl⟩
theorem E143_127 : aCode 143 127 = (Instr.bipush 41, 129, [], 41) ∧ bMask 143 127 = [] := ⟨rfl, rfl⟩
theorem E143_129 : aCode 143 129 = (Instr.if_icmp .ne 66, 132, [195], 0) ∧ bMask 143 129 = [] := ⟨rfl, rfl⟩
theorem E143_132 : aCode 143 132 = (Instr.aload_n 0, 133, [], 0) ∧ bMask 143 132 = [] := ⟨rfl, rfl⟩
theorem E143_133 : aCode 143 133 = (Instr.getfield 188, 136, [71, 7, 17, 0], 0) ∧ bMask 143 133 = [] := ⟨rfl, rfl⟩
theorem E143_136 : aCode 143 136 = (Instr.ifCond .le 59, 139, [195], 0) ∧ bMask 143 136 = [] := ⟨rfl, rfl⟩
theorem E143_139 : aCode 143 139 = (Instr.aload_n 0, 140, [], 0) ∧ bMask 143 139 = [] := ⟨rfl, rfl⟩
theorem E143_140 : aCode 143 140 = (Instr.invokevirtual 218, 143, [129, 1, 0, 7, 0, 117], 0) ∧ bMask 143 140 = [] := ⟨rfl, rfl⟩
theorem E143_143 : aCode 143 143 = (Instr.iconst 0, 144, [], 0) ∧ bMask 143 143 = [] := ⟨rfl, rfl⟩
theorem E143_144 : aCode 143 144 = (Instr.istore_n 1, 145, [], 0) ∧ bMask 143 144 = [] := ⟨rfl, rfl⟩
theorem E143_145 : aCode 143 145 = (Instr.iload_n 1, 146, [], 0) ∧ bMask 143 145 = [] := ⟨rfl, rfl⟩
theorem E143_146 : aCode 143 146 = (Instr.bipush 32, 148, [], 32) ∧ bMask 143 146 = [] := ⟨rfl, rfl⟩
theorem E143_148 : aCode 143 148 = (Instr.if_icmp .ge 29, 151, [177], 0) ∧ bMask 143 148 = [] := ⟨rfl, rfl⟩
theorem E143_151 : aCode 143 151 = (Instr.aload_n 0, 152, [], 0) ∧ bMask 143 151 = [] := ⟨rfl, rfl⟩
theorem E143_152 : aCode 143 152 = (Instr.getfield 45, 155, [81, 7, 19, 2], 0) ∧ bMask 143 152 = [] := ⟨rfl, rfl⟩
theorem E143_155 : aCode 143 155 = (Instr.iload_n 1, 156, [], 0) ∧ bMask 143 155 = [] := ⟨rfl, rfl⟩
theorem E143_156 : aCode 143 156 = (Instr.aload_n 0, 157, [], 0) ∧ bMask 143 156 = [] := ⟨rfl, rfl⟩
theorem E143_157 : aCode 143 157 = (Instr.getfield 29, 160, [70, 7, 12, 2], 0) ∧ bMask 143 157 = [] := ⟨rfl, rfl⟩
theorem E143_160 : aCode 143 160 = (Instr.bipush 32, 162, [], 32) ∧ bMask 143 160 = [] := ⟨rfl, rfl⟩
theorem E143_162 : aCode 143 162 = (Instr.aload_n 0, 163, [], 0) ∧ bMask 143 162 = [] := ⟨rfl, rfl⟩
theorem E143_163 : aCode 143 163 = (Instr.getfield 188, 166, [71, 7, 17, 0], 0) ∧ bMask 143 163 = [] := ⟨rfl, rfl⟩
theorem E143_166 : aCode 143 166 = (Instr.imul, 167, [], 0) ∧ bMask 143 166 = [] := ⟨rfl, rfl⟩
theorem E143_167 : aCode 143 167 = (Instr.iload_n 1, 168, [], 0) ∧ bMask 143 167 = [] := ⟨rfl, rfl⟩
theorem E143_168 : aCode 143 168 = (Instr.iadd, 169, [], 0) ∧ bMask 143 168 = [] := ⟨rfl, rfl⟩
theorem E143_169 : aCode 143 169 = (Instr.iaload, 170, [0], 0) ∧ bMask 143 169 = [] := ⟨rfl, rfl⟩
theorem E143_170 : aCode 143 170 = (Instr.iastore, 171, [0], 0) ∧ bMask 143 170 = [] := ⟨rfl, rfl⟩
theorem E143_171 : aCode 143 171 = (Instr.iinc 1 1, 174, [], 1) ∧ bMask 143 171 = [] := ⟨rfl, rfl⟩
theorem E143_174 : aCode 143 174 = (Instr.goto (-29), 145, [], 0) ∧ bMask 143 174 = [] := ⟨rfl, rfl⟩
theorem E143_177 : aCode 143 177 = (Instr.aload_n 0, 178, [], 0) ∧ bMask 143 177 = [] := ⟨rfl, rfl⟩
theorem E143_178 : aCode 143 178 = (Instr.dup, 179, [], 0) ∧ bMask 143 178 = [] := ⟨rfl, rfl⟩
theorem E143_179 : aCode 143 179 = (Instr.getfield 188, 182, [71, 7, 17, 0], 0) ∧ bMask 143 179 = [] := ⟨rfl, rfl⟩
theorem E143_182 : aCode 143 182 = (Instr.iconst 1, 183, [], 1) ∧ bMask 143 182 = [] := ⟨rfl, rfl⟩
theorem E143_183 : aCode 143 183 = (Instr.isub, 184, [], 0) ∧ bMask 143 183 = [] := ⟨rfl, rfl⟩
theorem E143_184 : aCode 143 184 = (Instr.putfield 188, 187, [71, 7, 17, 0], 0) ∧ bMask 143 184 = [] := ⟨rfl, rfl⟩
theorem E143_187 : aCode 143 187 = (Instr.aload_n 0, 188, [], 0) ∧ bMask 143 187 = [] := ⟨rfl, rfl⟩
theorem E143_188 : aCode 143 188 = (Instr.iconst 1, 189, [], 1) ∧ bMask 143 188 = [] := ⟨rfl, rfl⟩
theorem E143_189 : aCode 143 189 = (Instr.putfield 203, 192, [83, 7, 21, 1], 0) ∧ bMask 143 189 = [] := ⟨rfl, rfl⟩
theorem E143_192 : aCode 143 192 = (Instr.goto 5, 197, [], 0) ∧ bMask 143 192 = [] := ⟨rfl, rfl⟩
theorem E143_195 : aCode 143 195 = (Instr.iconst 0, 196, [], 0) ∧ bMask 143 195 = [] := ⟨rfl, rfl⟩
theorem E143_196 : aCode 143 196 = (Instr.ireturn, 197, [1], 0) ∧ bMask 143 196 = [] := ⟨rfl, rfl⟩
theorem E143_197 : aCode 143 197 = (Instr.aload_n 0, 198, [], 0) ∧ bMask 143 197 = [] := ⟨rfl, rfl⟩
theorem E143_198 : aCode 143 198 = (Instr.invokevirtual 200, 201, [110, 1, 0, 7, 0, 94], 0) ∧ bMask 143 198 = [] := ⟨rfl, rfl⟩
theorem E143_201 : aCode 143 201 = (Instr.iconst 1, 202, [], 1) ∧ bMask 143 201 = [] := ⟨rfl, rfl⟩
theorem E143_202 : aCode 143 202 = (Instr.ireturn, 203, [1], 0) ∧ bMask 143 202 = [] := ⟨rfl, rfl⟩
theorem g_X7_goesOn_0 {Q : bQ} {M : bM}  (h : ((¬ (M 26 0 10) = (94 : Int32)) → (bCall 132 [cR 26 0] M (fun v1 M2 => bV0 v1 ((((M2 26 0 10) = (42 : Int32)) → ((vp_in (M2 26 0 17) 5) ∧ ((vp_in ((bU M2 33 0 (M2 26 0 17).toNatClampNeg (M2 26 0 10)) 26 0 17) 5) ∧ (bCall 110 [cR 26 0] (bU (bU (bU M2 33 0 (M2 26 0 17).toNatClampNeg (M2 26 0 10)) 34 0 ((bU M2 33 0 (M2 26 0 17).toNatClampNeg (M2 26 0 10)) 26 0 17).toNatClampNeg ((bU M2 33 0 (M2 26 0 17).toNatClampNeg (M2 26 0 10)) 26 0 9)) 26 0 20 (1 : Int32)) (fun v3 M4 => bV0 v3 (((1 : Int32) = 0 ∨ (1 : Int32) = 1) ∧ Q (some (cI (1 : Int32))) M4)))))) ∧ (¬ ((M2 26 0 10) = (42 : Int32)) → (((¬ (M2 26 0 10) = (47 : Int32)) → ((((M2 26 0 10) = (43 : Int32)) → (bCall 129 [cR 26 0] M2 (fun v5 M6 => bV0 v5 (((¬ (M6 26 0 10) = (45 : Int32)) → ((vp_in (M6 26 0 17) 5 ∧ ((0 : Int32) = 0 ∨ (0 : Int32) = 1)) ∧ (bCall 110 [cR 26 0] (bU (bU M6 32 0 (M6 26 0 17).toNatClampNeg (0 : Int32)) 26 0 20 (1 : Int32)) (fun v7 M8 => bV0 v7 (((1 : Int32) = 0 ∨ (1 : Int32) = 1) ∧ Q (some (cI (1 : Int32))) M8))))) ∧ (¬ (¬ (M6 26 0 10) = (45 : Int32)) → ((vp_in (M6 26 0 17) 5 ∧ ((1 : Int32) = 0 ∨ (1 : Int32) = 1)) ∧ (bCall 110 [cR 26 0] (bU (bU M6 32 0 (M6 26 0 17).toNatClampNeg (1 : Int32)) 26 0 20 (1 : Int32)) (fun v9 M10 => bV0 v9 (((1 : Int32) = 0 ∨ (1 : Int32) = 1) ∧ Q (some (cI (1 : Int32))) M10))))))))) ∧ (¬ ((M2 26 0 10) = (43 : Int32)) → (((¬ (M2 26 0 10) = (45 : Int32)) → (((¬ (M2 26 0 10) = (41 : Int32)) → (((0 : Int32) = 0 ∨ (0 : Int32) = 1) ∧ Q (some (cI (0 : Int32))) M2)) ∧ (¬ (¬ (M2 26 0 10) = (41 : Int32)) → ((((M2 26 0 17) ≤ 0) → (((0 : Int32) = 0 ∨ (0 : Int32) = 1) ∧ Q (some (cI (0 : Int32))) M2)) ∧ (¬ ((M2 26 0 17) ≤ 0) → (bCall 129 [cR 26 0] M2 (fun v11 M12 => bV0 v11 (bGo 143 Q 145 [some (cR 26 0), some (cI (0 : Int32))] [] M12)))))))) ∧ (¬ (¬ (M2 26 0 10) = (45 : Int32)) → (bCall 129 [cR 26 0] M2 (fun v13 M14 => bV0 v13 (((¬ (M14 26 0 10) = (45 : Int32)) → ((vp_in (M14 26 0 17) 5 ∧ ((0 : Int32) = 0 ∨ (0 : Int32) = 1)) ∧ (bCall 110 [cR 26 0] (bU (bU M14 32 0 (M14 26 0 17).toNatClampNeg (0 : Int32)) 26 0 20 (1 : Int32)) (fun v15 M16 => bV0 v15 (((1 : Int32) = 0 ∨ (1 : Int32) = 1) ∧ Q (some (cI (1 : Int32))) M16))))) ∧ (¬ (¬ (M14 26 0 10) = (45 : Int32)) → ((vp_in (M14 26 0 17) 5 ∧ ((1 : Int32) = 0 ∨ (1 : Int32) = 1)) ∧ (bCall 110 [cR 26 0] (bU (bU M14 32 0 (M14 26 0 17).toNatClampNeg (1 : Int32)) 26 0 20 (1 : Int32)) (fun v17 M18 => bV0 v17 (((1 : Int32) = 0 ∨ (1 : Int32) = 1) ∧ Q (some (cI (1 : Int32))) M18))))))))))))) ∧ (¬ (¬ (M2 26 0 10) = (47 : Int32)) → ((vp_in (M2 26 0 17) 5) ∧ ((vp_in ((bU M2 33 0 (M2 26 0 17).toNatClampNeg (M2 26 0 10)) 26 0 17) 5) ∧ (bCall 110 [cR 26 0] (bU (bU (bU M2 33 0 (M2 26 0 17).toNatClampNeg (M2 26 0 10)) 34 0 ((bU M2 33 0 (M2 26 0 17).toNatClampNeg (M2 26 0 10)) 26 0 17).toNatClampNeg ((bU M2 33 0 (M2 26 0 17).toNatClampNeg (M2 26 0 10)) 26 0 9)) 26 0 20 (1 : Int32)) (fun v19 M20 => bV0 v19 (((1 : Int32) = 0 ∨ (1 : Int32) = 1) ∧ Q (some (cI (1 : Int32))) M20)))))))))))) ∧ (¬ (¬ (M 26 0 10) = (94 : Int32)) → (bCall 142 [cR 26 0] M (fun v21 M22 => bV1 v21 fun r23 => ((r23 = 0 ∨ r23 = 1) ∧ Q (some (cI r23)) M22))))) : bCall 143 [cR 26 0] M Q := s_aload_n E143_0.1 (k_ E143_0) rfl (s_getI0 E143_1.1 (k_ E143_1) rfl (s_bipush E143_4.1 (k_ E143_4) (s_icmp_ne E143_6.1 (k_ E143_6) ⟨fun c0 => s_aload_n E143_14.1 (k_ E143_14) rfl (s_vcall0 E143_15.1 (k_ E143_15) rfl rfl rfl (h.1 c0) (fun M2 z1 => s_aload_n E143_18.1 (k_ E143_18) rfl (s_getI0 E143_19.1 (k_ E143_19) rfl (s_bipush E143_22.1 (k_ E143_22) (s_icmp_eq E143_24.1 (k_ E143_24) ⟨fun c2 => s_aload_n E143_36.1 (k_ E143_36) rfl (s_getR E143_37.1 (k_ E143_37) rfl rfl (s_aload_n E143_40.1 (k_ E143_40) rfl (s_getI0 E143_41.1 (k_ E143_41) rfl (s_aload_n E143_44.1 (k_ E143_44) rfl (s_getI0 E143_45.1 (k_ E143_45) rfl (s_iastore E143_48.1 (k_ E143_48) rfl ⟨(z1.1 c2).1, s_aload_n E143_49.1 (k_ E143_49) rfl (s_getR E143_50.1 (k_ E143_50) rfl rfl (s_aload_n E143_53.1 (k_ E143_53) rfl (s_getI0 E143_54.1 (k_ E143_54) rfl (s_aload_n E143_57.1 (k_ E143_57) rfl (s_getI0 E143_58.1 (k_ E143_58) rfl (s_iastore E143_61.1 (k_ E143_61) rfl ⟨((z1.1 c2).2).1, s_aload_n E143_62.1 (k_ E143_62) rfl (s_iconst E143_63.1 (k_ E143_63) (s_putI E143_64.1 (k_ E143_64) rfl (s_goto E143_67.1 (k_ E143_67) (s_aload_n E143_197.1 (k_ E143_197) rfl (s_vcall0 E143_198.1 (k_ E143_198) rfl rfl rfl (((z1.1 c2).2).2) (fun M4 z3 => s_iconst E143_201.1 (k_ E143_201) (s_zret E143_202.1 (k_ E143_202) z3)))))))⟩))))))⟩)))))), fun c2 => s_aload_n E143_27.1 (k_ E143_27) rfl (s_getI0 E143_28.1 (k_ E143_28) rfl (s_bipush E143_31.1 (k_ E143_31) (s_icmp_ne E143_33.1 (k_ E143_33) ⟨fun c4 => s_aload_n E143_70.1 (k_ E143_70) rfl (s_getI0 E143_71.1 (k_ E143_71) rfl (s_bipush E143_74.1 (k_ E143_74) (s_icmp_eq E143_76.1 (k_ E143_76) ⟨fun c5 => s_aload_n E143_88.1 (k_ E143_88) rfl (s_vcall0 E143_89.1 (k_ E143_89) rfl rfl rfl (((z1.2 c2).1 c4).1 c5) (fun M6 z6 => s_aload_n E143_92.1 (k_ E143_92) rfl (s_getR E143_93.1 (k_ E143_93) rfl rfl (s_aload_n E143_96.1 (k_ E143_96) rfl (s_getI0 E143_97.1 (k_ E143_97) rfl (s_aload_n E143_100.1 (k_ E143_100) rfl (s_getI0 E143_101.1 (k_ E143_101) rfl (s_bipush E143_104.1 (k_ E143_104) (s_icmp_ne E143_106.1 (k_ E143_106) ⟨fun c7 => s_iconst E143_113.1 (k_ E143_113) (s_bastore E143_114.1 (k_ E143_114) rfl ⟨(z6.1 c7).1, s_aload_n E143_115.1 (k_ E143_115) rfl (s_iconst E143_116.1 (k_ E143_116) (s_putI E143_117.1 (k_ E143_117) rfl (s_goto E143_120.1 (k_ E143_120) (s_aload_n E143_197.1 (k_ E143_197) rfl (s_vcall0 E143_198.1 (k_ E143_198) rfl rfl rfl ((z6.1 c7).2) (fun M8 z8 => s_iconst E143_201.1 (k_ E143_201) (s_zret E143_202.1 (k_ E143_202) z8)))))))⟩), fun c7 => s_iconst E143_109.1 (k_ E143_109) (s_goto E143_110.1 (k_ E143_110) (s_bastore E143_114.1 (k_ E143_114) rfl ⟨(z6.2 c7).1, s_aload_n E143_115.1 (k_ E143_115) rfl (s_iconst E143_116.1 (k_ E143_116) (s_putI E143_117.1 (k_ E143_117) rfl (s_goto E143_120.1 (k_ E143_120) (s_aload_n E143_197.1 (k_ E143_197) rfl (s_vcall0 E143_198.1 (k_ E143_198) rfl rfl rfl ((z6.2 c7).2) (fun M10 z9 => s_iconst E143_201.1 (k_ E143_201) (s_zret E143_202.1 (k_ E143_202) z9)))))))⟩))⟩))))))))), fun c5 => s_aload_n E143_79.1 (k_ E143_79) rfl (s_getI0 E143_80.1 (k_ E143_80) rfl (s_bipush E143_83.1 (k_ E143_83) (s_icmp_ne E143_85.1 (k_ E143_85) ⟨fun c10 => s_aload_n E143_123.1 (k_ E143_123) rfl (s_getI0 E143_124.1 (k_ E143_124) rfl (s_bipush E143_127.1 (k_ E143_127) (s_icmp_ne E143_129.1 (k_ E143_129) ⟨fun c11 => s_iconst E143_195.1 (k_ E143_195) (s_zret E143_196.1 (k_ E143_196) (((((z1.2 c2).1 c4).2 c5).1 c10).1 c11)), fun c11 => s_aload_n E143_132.1 (k_ E143_132) rfl (s_getI0 E143_133.1 (k_ E143_133) rfl (s_if_le E143_136.1 (k_ E143_136) ⟨fun c12 => s_iconst E143_195.1 (k_ E143_195) (s_zret E143_196.1 (k_ E143_196) ((((((z1.2 c2).1 c4).2 c5).1 c10).2 c11).1 c12)), fun c12 => s_aload_n E143_139.1 (k_ E143_139) rfl (s_vcall0 E143_140.1 (k_ E143_140) rfl rfl rfl ((((((z1.2 c2).1 c4).2 c5).1 c10).2 c11).2 c12) (fun M12 z13 => s_iconst E143_143.1 (k_ E143_143) (s_istore_n E143_144.1 (k_ E143_144) (z13))))⟩))⟩))), fun c10 => s_aload_n E143_88.1 (k_ E143_88) rfl (s_vcall0 E143_89.1 (k_ E143_89) rfl rfl rfl ((((z1.2 c2).1 c4).2 c5).2 c10) (fun M14 z14 => s_aload_n E143_92.1 (k_ E143_92) rfl (s_getR E143_93.1 (k_ E143_93) rfl rfl (s_aload_n E143_96.1 (k_ E143_96) rfl (s_getI0 E143_97.1 (k_ E143_97) rfl (s_aload_n E143_100.1 (k_ E143_100) rfl (s_getI0 E143_101.1 (k_ E143_101) rfl (s_bipush E143_104.1 (k_ E143_104) (s_icmp_ne E143_106.1 (k_ E143_106) ⟨fun c15 => s_iconst E143_113.1 (k_ E143_113) (s_bastore E143_114.1 (k_ E143_114) rfl ⟨(z14.1 c15).1, s_aload_n E143_115.1 (k_ E143_115) rfl (s_iconst E143_116.1 (k_ E143_116) (s_putI E143_117.1 (k_ E143_117) rfl (s_goto E143_120.1 (k_ E143_120) (s_aload_n E143_197.1 (k_ E143_197) rfl (s_vcall0 E143_198.1 (k_ E143_198) rfl rfl rfl ((z14.1 c15).2) (fun M16 z16 => s_iconst E143_201.1 (k_ E143_201) (s_zret E143_202.1 (k_ E143_202) z16)))))))⟩), fun c15 => s_iconst E143_109.1 (k_ E143_109) (s_goto E143_110.1 (k_ E143_110) (s_bastore E143_114.1 (k_ E143_114) rfl ⟨(z14.2 c15).1, s_aload_n E143_115.1 (k_ E143_115) rfl (s_iconst E143_116.1 (k_ E143_116) (s_putI E143_117.1 (k_ E143_117) rfl (s_goto E143_120.1 (k_ E143_120) (s_aload_n E143_197.1 (k_ E143_197) rfl (s_vcall0 E143_198.1 (k_ E143_198) rfl rfl rfl ((z14.2 c15).2) (fun M18 z17 => s_iconst E143_201.1 (k_ E143_201) (s_zret E143_202.1 (k_ E143_202) z17)))))))⟩))⟩)))))))))⟩)))⟩))), fun c4 => s_aload_n E143_36.1 (k_ E143_36) rfl (s_getR E143_37.1 (k_ E143_37) rfl rfl (s_aload_n E143_40.1 (k_ E143_40) rfl (s_getI0 E143_41.1 (k_ E143_41) rfl (s_aload_n E143_44.1 (k_ E143_44) rfl (s_getI0 E143_45.1 (k_ E143_45) rfl (s_iastore E143_48.1 (k_ E143_48) rfl ⟨((z1.2 c2).2 c4).1, s_aload_n E143_49.1 (k_ E143_49) rfl (s_getR E143_50.1 (k_ E143_50) rfl rfl (s_aload_n E143_53.1 (k_ E143_53) rfl (s_getI0 E143_54.1 (k_ E143_54) rfl (s_aload_n E143_57.1 (k_ E143_57) rfl (s_getI0 E143_58.1 (k_ E143_58) rfl (s_iastore E143_61.1 (k_ E143_61) rfl ⟨(((z1.2 c2).2 c4).2).1, s_aload_n E143_62.1 (k_ E143_62) rfl (s_iconst E143_63.1 (k_ E143_63) (s_putI E143_64.1 (k_ E143_64) rfl (s_goto E143_67.1 (k_ E143_67) (s_aload_n E143_197.1 (k_ E143_197) rfl (s_vcall0 E143_198.1 (k_ E143_198) rfl rfl rfl ((((z1.2 c2).2 c4).2).2) (fun M20 z18 => s_iconst E143_201.1 (k_ E143_201) (s_zret E143_202.1 (k_ E143_202) z18)))))))⟩))))))⟩))))))⟩)))⟩))))), fun c0 => s_aload_n E143_9.1 (k_ E143_9) rfl (s_vcall1 E143_10.1 (k_ E143_10) rfl rfl rfl (h.2 c0) (fun M22 r23 z19 => s_zret E143_13.1 (k_ E143_13) z19))⟩)))
theorem g_X7_goesOn_145 {Q : bQ} {M : bM} {x1 : Int32} (h : (((32 : Int32) ≤ x1) → (((1 : Int32) = 0 ∨ (1 : Int32) = 1) ∧ (bCall 110 [cR 26 0] (bU (bU M 26 0 17 ((M 26 0 17) - (1 : Int32))) 26 0 21 (1 : Int32)) (fun v1 M2 => bV0 v1 (((1 : Int32) = 0 ∨ (1 : Int32) = 1) ∧ Q (some (cI (1 : Int32))) M2))))) ∧ (¬ ((32 : Int32) ≤ x1) → ((vp_in (((32 : Int32) * (M 26 0 17)) + x1) 160) ∧ ((vp_in x1 32) ∧ bGo 143 Q 145 [some (cR 26 0), some (cI (x1 + (1 : Int32)))] [] (bU M 27 3 x1.toNatClampNeg (M 30 0 (((32 : Int32) * (M 26 0 17)) + x1).toNatClampNeg)))))) : bGo 143 Q 145 [some (cR 26 0), some (cI x1)] [] M := s_iload_n E143_145.1 (k_ E143_145) rfl (s_bipush E143_146.1 (k_ E143_146) (s_icmp_ge E143_148.1 (k_ E143_148) ⟨fun c20 => s_aload_n E143_177.1 (k_ E143_177) rfl (s_dupR E143_178.1 (k_ E143_178) (s_getI0 E143_179.1 (k_ E143_179) rfl (s_iconst E143_182.1 (k_ E143_182) (s_isub E143_183.1 (k_ E143_183) (s_putI E143_184.1 (k_ E143_184) rfl (s_aload_n E143_187.1 (k_ E143_187) rfl (s_iconst E143_188.1 (k_ E143_188) (s_putZ E143_189.1 (k_ E143_189) rfl ⟨(h.1 c20).1, s_goto E143_192.1 (k_ E143_192) (s_aload_n E143_197.1 (k_ E143_197) rfl (s_vcall0 E143_198.1 (k_ E143_198) rfl rfl rfl ((h.1 c20).2) (fun M2 z21 => s_iconst E143_201.1 (k_ E143_201) (s_zret E143_202.1 (k_ E143_202) z21))))⟩)))))))), fun c20 => s_aload_n E143_151.1 (k_ E143_151) rfl (s_getR E143_152.1 (k_ E143_152) rfl rfl (s_iload_n E143_155.1 (k_ E143_155) rfl (s_aload_n E143_156.1 (k_ E143_156) rfl (s_getR E143_157.1 (k_ E143_157) rfl rfl (s_bipush E143_160.1 (k_ E143_160) (s_aload_n E143_162.1 (k_ E143_162) rfl (s_getI0 E143_163.1 (k_ E143_163) rfl (s_imul E143_166.1 (k_ E143_166) (s_iload_n E143_167.1 (k_ E143_167) rfl (s_iadd E143_168.1 (k_ E143_168) (s_iaload E143_169.1 (k_ E143_169) rfl ⟨(h.2 c20).1, s_iastore E143_170.1 (k_ E143_170) rfl ⟨((h.2 c20).2).1, s_iinc E143_171.1 (k_ E143_171) rfl (s_goto E143_174.1 (k_ E143_174) (((h.2 c20).2).2))⟩⟩)))))))))))⟩))
-- 144: X7_takes
theorem E144_0 : aCode 144 0 = (Instr.iconst 0, 1, [], 0) ∧ bMask 144 0 = [] := ⟨rfl, rfl⟩
theorem E144_1 : aCode 144 1 = (Instr.istore_n 3, 2, [], 0) ∧ bMask 144 1 = [] := ⟨rfl, rfl⟩
theorem E144_2 : aCode 144 2 = (Instr.iload_n 3, 3, [], 0) ∧ bMask 144 2 = [] := ⟨rfl, rfl⟩
theorem E144_3 : aCode 144 3 = (Instr.bipush 32, 5, [], 32) ∧ bMask 144 3 = [] := ⟨rfl, rfl⟩
theorem E144_5 : aCode 144 5 = (Instr.if_icmp .ge 23, 8, [28], 0) ∧ bMask 144 5 = [] := ⟨rfl, rfl⟩
theorem E144_8 : aCode 144 8 = (Instr.aload_n 2, 9, [], 0) ∧ bMask 144 8 = [] := ⟨rfl, rfl⟩
theorem E144_9 : aCode 144 9 = (Instr.iload_n 3, 10, [], 0) ∧ bMask 144 9 = [] := ⟨rfl, rfl⟩
theorem E144_10 : aCode 144 10 = (Instr.aload_n 0, 11, [], 0) ∧ bMask 144 10 = [] := ⟨rfl, rfl⟩
theorem E144_11 : aCode 144 11 = (Instr.getfield 13, 14, [69, 7, 1, 2], 0) ∧ bMask 144 11 = [] := ⟨rfl, rfl⟩
theorem E144_14 : aCode 144 14 = (Instr.bipush 32, 16, [], 32) ∧ bMask 144 14 = [] := ⟨rfl, rfl⟩
theorem E144_16 : aCode 144 16 = (Instr.iload_n 1, 17, [], 0) ∧ bMask 144 16 = [] := ⟨rfl, rfl⟩
theorem E144_17 : aCode 144 17 = (Instr.imul, 18, [], 0) ∧ bMask 144 17 = [] := ⟨rfl, rfl⟩
theorem E144_18 : aCode 144 18 = (Instr.iload_n 3, 19, [], 0) ∧ bMask 144 18 = [] := ⟨rfl, rfl⟩
theorem E144_19 : aCode 144 19 = (Instr.iadd, 20, [], 0) ∧ bMask 144 19 = [] := ⟨rfl, rfl⟩
theorem E144_20 : aCode 144 20 = (Instr.iaload, 21, [0], 0) ∧ bMask 144 20 = [] := ⟨rfl, rfl⟩
theorem E144_21 : aCode 144 21 = (Instr.iastore, 22, [0], 0) ∧ bMask 144 21 = [] := ⟨rfl, rfl⟩
theorem E144_22 : aCode 144 22 = (Instr.iinc 3 1, 25, [], 1) ∧ bMask 144 22 = [] := ⟨rfl, rfl⟩
theorem E144_25 : aCode 144 25 = (Instr.goto (-23), 2, [], 0) ∧ bMask 144 25 = [] := ⟨rfl, rfl⟩
theorem E144_28 : aCode 144 28 = (Instr.return_, 29, [], 0) ∧ bMask 144 28 = [] := ⟨rfl, rfl⟩
theorem g_X7_takes_0 {Q : bQ} {M : bM} {x1 : Int32} {j2 : Nat} (h : bGo 144 Q 2 [some (cR 26 0), some (cI x1), some (cR 27 j2), some (cI (0 : Int32))] [] M) : bCall 144 [cR 26 0, cI x1, cR 27 j2] M Q := s_iconst E144_0.1 (k_ E144_0) (s_istore_n E144_1.1 (k_ E144_1) (h))
theorem g_X7_takes_2 {Q : bQ} {M : bM} {x1 : Int32} {j2 : Nat} {x3 : Int32} (h : (((32 : Int32) ≤ x3) → (Q none M)) ∧ (¬ ((32 : Int32) ≤ x3) → ((vp_in (((32 : Int32) * x1) + x3) 192) ∧ ((vp_in x3 32) ∧ bGo 144 Q 2 [some (cR 26 0), some (cI x1), some (cR 27 j2), some (cI (x3 + (1 : Int32)))] [] (bU M 27 j2 x3.toNatClampNeg (M 28 0 (((32 : Int32) * x1) + x3).toNatClampNeg)))))) : bGo 144 Q 2 [some (cR 26 0), some (cI x1), some (cR 27 j2), some (cI x3)] [] M := s_iload_n E144_2.1 (k_ E144_2) rfl (s_bipush E144_3.1 (k_ E144_3) (s_icmp_ge E144_5.1 (k_ E144_5) ⟨fun c0 => s_ret E144_28.1 (k_ E144_28) (h.1 c0), fun c0 => s_aload_n E144_8.1 (k_ E144_8) rfl (s_iload_n E144_9.1 (k_ E144_9) rfl (s_aload_n E144_10.1 (k_ E144_10) rfl (s_getR E144_11.1 (k_ E144_11) rfl rfl (s_bipush E144_14.1 (k_ E144_14) (s_iload_n E144_16.1 (k_ E144_16) rfl (s_imul E144_17.1 (k_ E144_17) (s_iload_n E144_18.1 (k_ E144_18) rfl (s_iadd E144_19.1 (k_ E144_19) (s_iaload E144_20.1 (k_ E144_20) rfl ⟨(h.2 c0).1, s_iastore E144_21.1 (k_ E144_21) rfl ⟨((h.2 c0).2).1, s_iinc E144_22.1 (k_ E144_22) rfl (s_goto E144_25.1 (k_ E144_25) (((h.2 c0).2).2))⟩⟩)))))))))⟩))
-- 145: X7_makesSeries
theorem E145_0 : aCode 145 0 = (Instr.aload_n 0, 1, [], 0) ∧ bMask 145 0 = [] := ⟨rfl, rfl⟩
theorem E145_1 : aCode 145 1 = (Instr.iload_n 3, 2, [], 0) ∧ bMask 145 1 = [] := ⟨rfl, rfl⟩
theorem E145_2 : aCode 145 2 = (Instr.putfield 227, 5, [93, 7, 25, 0], 0) ∧ bMask 145 2 = [] := ⟨rfl, rfl⟩
theorem E145_5 : aCode 145 5 = (Instr.aload_n 0, 6, [], 0) ∧ bMask 145 5 = [] := ⟨rfl, rfl⟩
theorem E145_6 : aCode 145 6 = (Instr.iload_n 1, 7, [], 0) ∧ bMask 145 6 = [] := ⟨rfl, rfl⟩
theorem E145_7 : aCode 145 7 = (Instr.aload_n 0, 8, [], 0) ∧ bMask 145 7 = [] := ⟨rfl, rfl⟩
theorem E145_8 : aCode 145 8 = (Instr.getfield 20, 11, [110, 7, 4, 2], 0) ∧ bMask 145 8 = [] := ⟨rfl, rfl⟩
theorem E145_11 : aCode 145 11 = (Instr.invokevirtual 149, 14, [144, 3, 0, 7, 0, 118], 0) ∧ bMask 145 11 = [] := ⟨rfl, rfl⟩
theorem E145_14 : aCode 145 14 = (Instr.iload_n 2, 15, [], 0) ∧ bMask 145 14 = [] := ⟨rfl, rfl⟩
theorem E145_15 : aCode 145 15 = (Instr.iconst 2, 16, [], 2) ∧ bMask 145 15 = [] := ⟨rfl, rfl⟩
theorem E145_16 : aCode 145 16 = (Instr.if_icmp .ne 36, 19, [52], 0) ∧ bMask 145 16 = [] := ⟨rfl, rfl⟩
theorem E145_19 : aCode 145 19 = (Instr.iconst 0, 20, [], 0) ∧ bMask 145 19 = [] := ⟨rfl, rfl⟩
theorem E145_20 : aCode 145 20 = (Instr.istore 4, 22, [], 0) ∧ bMask 145 20 = [] := ⟨rfl, rfl⟩
theorem E145_22 : aCode 145 22 = (Instr.iload 4, 24, [], 0) := rfl
theorem E145_24 : aCode 145 24 = (Instr.bipush 32, 26, [], 32) ∧ bMask 145 24 = [] := ⟨rfl, rfl⟩
theorem E145_26 : aCode 145 26 = (Instr.if_icmp .ge 23, 29, [49], 0) ∧ bMask 145 26 = [] := ⟨rfl, rfl⟩
theorem E145_29 : aCode 145 29 = (Instr.aload_n 0, 30, [], 0) ∧ bMask 145 29 = [] := ⟨rfl, rfl⟩
theorem E145_30 : aCode 145 30 = (Instr.getfield 54, 33, [96, 7, 27, 2], 0) ∧ bMask 145 30 = [] := ⟨rfl, rfl⟩
theorem E145_33 : aCode 145 33 = (Instr.iload 4, 35, [], 0) ∧ bMask 145 33 = [] := ⟨rfl, rfl⟩
theorem E145_35 : aCode 145 35 = (Instr.aload_n 0, 36, [], 0) ∧ bMask 145 35 = [] := ⟨rfl, rfl⟩
theorem E145_36 : aCode 145 36 = (Instr.getfield 20, 39, [110, 7, 4, 2], 0) ∧ bMask 145 36 = [] := ⟨rfl, rfl⟩
theorem E145_39 : aCode 145 39 = (Instr.iload 4, 41, [], 0) ∧ bMask 145 39 = [] := ⟨rfl, rfl⟩
theorem E145_41 : aCode 145 41 = (Instr.iaload, 42, [0], 0) ∧ bMask 145 41 = [] := ⟨rfl, rfl⟩
theorem E145_42 : aCode 145 42 = (Instr.iastore, 43, [0], 0) ∧ bMask 145 42 = [] := ⟨rfl, rfl⟩
theorem E145_43 : aCode 145 43 = (Instr.iinc 4 1, 46, [], 1) ∧ bMask 145 43 = [] := ⟨rfl, rfl⟩
theorem E145_46 : aCode 145 46 = (Instr.goto (-24), 22, [], 0) ∧ bMask 145 46 = [] := ⟨rfl, rfl⟩
theorem E145_49 : aCode 145 49 = (Instr.goto 36, 85, [], 0) ∧ bMask 145 49 = [] := ⟨rfl, rfl⟩
theorem E145_52 : aCode 145 52 = (Instr.iconst 0, 53, [], 0) ∧ bMask 145 52 = [] := ⟨rfl, rfl⟩
theorem E145_53 : aCode 145 53 = (Instr.istore 4, 55, [], 0) ∧ bMask 145 53 = [] := ⟨rfl, rfl⟩
theorem E145_55 : aCode 145 55 = (Instr.iload 4, 57, [], 0) := rfl
theorem E145_57 : aCode 145 57 = (Instr.bipush 32, 59, [], 32) ∧ bMask 145 57 = [] := ⟨rfl, rfl⟩
theorem E145_59 : aCode 145 59 = (Instr.if_icmp .ge 26, 62, [85], 0) ∧ bMask 145 59 = [] := ⟨rfl, rfl⟩
theorem E145_62 : aCode 145 62 = (Instr.aload_n 0, 63, [], 0) ∧ bMask 145 62 = [] := ⟨rfl, rfl⟩
theorem E145_63 : aCode 145 63 = (Instr.getfield 54, 66, [96, 7, 27, 2], 0) ∧ bMask 145 63 = [] := ⟨rfl, rfl⟩
theorem E145_66 : aCode 145 66 = (Instr.iload 4, 68, [], 0) ∧ bMask 145 66 = [] := ⟨rfl, rfl⟩
theorem E145_68 : aCode 145 68 = (Instr.iload 4, 70, [], 0) ∧ bMask 145 68 = [] := ⟨rfl, rfl⟩
theorem E145_70 : aCode 145 70 = (Instr.ifCond .ne 7, 73, [77], 0) ∧ bMask 145 70 = [] := ⟨rfl, rfl⟩
theorem E145_73 : aCode 145 73 = (Instr.iconst 1, 74, [], 1) ∧ bMask 145 73 = [] := ⟨rfl, rfl⟩
theorem E145_74 : aCode 145 74 = (Instr.goto 4, 78, [], 0) ∧ bMask 145 74 = [] := ⟨rfl, rfl⟩
theorem E145_77 : aCode 145 77 = (Instr.iconst 0, 78, [], 0) ∧ bMask 145 77 = [] := ⟨rfl, rfl⟩
theorem E145_78 : aCode 145 78 = (Instr.iastore, 79, [0], 0) ∧ bMask 145 78 = [] := ⟨rfl, rfl⟩
theorem E145_79 : aCode 145 79 = (Instr.iinc 4 1, 82, [], 1) ∧ bMask 145 79 = [] := ⟨rfl, rfl⟩
theorem E145_82 : aCode 145 82 = (Instr.goto (-27), 55, [], 0) ∧ bMask 145 82 = [] := ⟨rfl, rfl⟩
theorem E145_85 : aCode 145 85 = (Instr.iconst 1, 86, [], 1) ∧ bMask 145 85 = [] := ⟨rfl, rfl⟩
theorem E145_86 : aCode 145 86 = (Instr.istore 4, 88, [], 0) ∧ bMask 145 86 = [] := ⟨rfl, rfl⟩
theorem E145_88 : aCode 145 88 = (Instr.iload 4, 90, [], 0) := rfl
theorem E145_90 : aCode 145 90 = (Instr.iload_n 3, 91, [], 0) ∧ bMask 145 90 = [] := ⟨rfl, rfl⟩
theorem E145_91 : aCode 145 91 = (Instr.if_icmp .ge 118, 94, [209], 0) ∧ bMask 145 91 = [] := ⟨rfl, rfl⟩
theorem E145_94 : aCode 145 94 = (Instr.iconst 0, 95, [], 0) ∧ bMask 145 94 = [] := ⟨rfl, rfl⟩
theorem E145_95 : aCode 145 95 = (Instr.istore 5, 97, [], 0) ∧ bMask 145 95 = [] := ⟨rfl, rfl⟩
theorem E145_97 : aCode 145 97 = (Instr.iload 5, 99, [], 0) ∧ bMask 145 97 = [] := ⟨rfl, rfl⟩
theorem E145_99 : aCode 145 99 = (Instr.bipush 32, 101, [], 32) ∧ bMask 145 99 = [] := ⟨rfl, rfl⟩
theorem E145_101 : aCode 145 101 = (Instr.if_icmp .ge 31, 104, [132], 0) ∧ bMask 145 101 = [] := ⟨rfl, rfl⟩
theorem E145_104 : aCode 145 104 = (Instr.aload_n 0, 105, [], 0) ∧ bMask 145 104 = [] := ⟨rfl, rfl⟩
theorem E145_105 : aCode 145 105 = (Instr.getfield 23, 108, [117, 7, 5, 2], 0) ∧ bMask 145 105 = [] := ⟨rfl, rfl⟩
theorem E145_108 : aCode 145 108 = (Instr.iload 5, 110, [], 0) ∧ bMask 145 108 = [] := ⟨rfl, rfl⟩
theorem E145_110 : aCode 145 110 = (Instr.aload_n 0, 111, [], 0) ∧ bMask 145 110 = [] := ⟨rfl, rfl⟩
theorem E145_111 : aCode 145 111 = (Instr.getfield 54, 114, [96, 7, 27, 2], 0) ∧ bMask 145 111 = [] := ⟨rfl, rfl⟩
theorem E145_114 : aCode 145 114 = (Instr.bipush 32, 116, [], 32) ∧ bMask 145 114 = [] := ⟨rfl, rfl⟩
theorem E145_116 : aCode 145 116 = (Instr.iload 4, 118, [], 0) ∧ bMask 145 116 = [] := ⟨rfl, rfl⟩
theorem E145_118 : aCode 145 118 = (Instr.iconst 1, 119, [], 1) ∧ bMask 145 118 = [] := ⟨rfl, rfl⟩
theorem E145_119 : aCode 145 119 = (Instr.isub, 120, [], 0) ∧ bMask 145 119 = [] := ⟨rfl, rfl⟩
theorem E145_120 : aCode 145 120 = (Instr.imul, 121, [], 0) ∧ bMask 145 120 = [] := ⟨rfl, rfl⟩
theorem E145_121 : aCode 145 121 = (Instr.iload 5, 123, [], 0) ∧ bMask 145 121 = [] := ⟨rfl, rfl⟩
theorem E145_123 : aCode 145 123 = (Instr.iadd, 124, [], 0) ∧ bMask 145 123 = [] := ⟨rfl, rfl⟩
theorem E145_124 : aCode 145 124 = (Instr.iaload, 125, [0], 0) ∧ bMask 145 124 = [] := ⟨rfl, rfl⟩
theorem E145_125 : aCode 145 125 = (Instr.iastore, 126, [0], 0) ∧ bMask 145 125 = [] := ⟨rfl, rfl⟩
theorem E145_126 : aCode 145 126 = (Instr.iinc 5 1, 129, [], 1) ∧ bMask 145 126 = [] := ⟨rfl, rfl⟩
theorem E145_129 : aCode 145 129 = (Instr.goto (-32), 97, [], 0) ∧ bMask 145 129 = [] := ⟨rfl, rfl⟩
theorem E145_132 : aCode 145 132 = (Instr.aload_n 0, 133, [], 0) ∧ bMask 145 132 = [] := ⟨rfl, rfl⟩
theorem E145_133 : aCode 145 133 = (Instr.aload_n 0, 134, [], 0) ∧ bMask 145 133 = [] := ⟨rfl, rfl⟩
theorem E145_134 : aCode 145 134 = (Instr.getfield 20, 137, [110, 7, 4, 2], 0) ∧ bMask 145 134 = [] := ⟨rfl, rfl⟩
theorem E145_137 : aCode 145 137 = (Instr.aload_n 0, 138, [], 0) ∧ bMask 145 137 = [] := ⟨rfl, rfl⟩
theorem E145_138 : aCode 145 138 = (Instr.getfield 23, 141, [117, 7, 5, 2], 0) ∧ bMask 145 138 = [] := ⟨rfl, rfl⟩
theorem E145_141 : aCode 145 141 = (Instr.invokevirtual 153, 144, [130, 3, 0, 7, 0, 109], 0) ∧ bMask 145 141 = [] := ⟨rfl, rfl⟩
theorem E145_144 : aCode 145 144 = (Instr.iconst 0, 145, [], 0) ∧ bMask 145 144 = [] := ⟨rfl, rfl⟩
theorem E145_145 : aCode 145 145 = (Instr.istore 5, 147, [], 0) ∧ bMask 145 145 = [] := ⟨rfl, rfl⟩
theorem E145_147 : aCode 145 147 = (Instr.iload 5, 149, [], 0) ∧ bMask 145 147 = [] := ⟨rfl, rfl⟩
theorem E145_149 : aCode 145 149 = (Instr.bipush 32, 151, [], 32) ∧ bMask 145 149 = [] := ⟨rfl, rfl⟩
theorem E145_151 : aCode 145 151 = (Instr.if_icmp .ge 52, 154, [203], 0) ∧ bMask 145 151 = [] := ⟨rfl, rfl⟩
theorem E145_154 : aCode 145 154 = (Instr.aload_n 0, 155, [], 0) ∧ bMask 145 154 = [] := ⟨rfl, rfl⟩
theorem E145_155 : aCode 145 155 = (Instr.getfield 54, 158, [96, 7, 27, 2], 0) ∧ bMask 145 155 = [] := ⟨rfl, rfl⟩
theorem E145_158 : aCode 145 158 = (Instr.bipush 32, 160, [], 32) ∧ bMask 145 158 = [] := ⟨rfl, rfl⟩
theorem E145_160 : aCode 145 160 = (Instr.iload 4, 162, [], 0) ∧ bMask 145 160 = [] := ⟨rfl, rfl⟩
theorem E145_162 : aCode 145 162 = (Instr.imul, 163, [], 0) ∧ bMask 145 162 = [] := ⟨rfl, rfl⟩
theorem E145_163 : aCode 145 163 = (Instr.iload 5, 165, [], 0) ∧ bMask 145 163 = [] := ⟨rfl, rfl⟩
theorem E145_165 : aCode 145 165 = (Instr.iadd, 166, [], 0) ∧ bMask 145 165 = [] := ⟨rfl, rfl⟩
theorem E145_166 : aCode 145 166 = (Instr.iload_n 2, 167, [], 0) ∧ bMask 145 166 = [] := ⟨rfl, rfl⟩
theorem E145_167 : aCode 145 167 = (Instr.iconst 2, 168, [], 2) ∧ bMask 145 167 = [] := ⟨rfl, rfl⟩
theorem E145_168 : aCode 145 168 = (Instr.if_icmp .ne 21, 171, [189], 0) ∧ bMask 145 168 = [] := ⟨rfl, rfl⟩
theorem E145_171 : aCode 145 171 = (Instr.aload_n 0, 172, [], 0) ∧ bMask 145 171 = [] := ⟨rfl, rfl⟩
theorem E145_172 : aCode 145 172 = (Instr.getfield 23, 175, [117, 7, 5, 2], 0) ∧ bMask 145 172 = [] := ⟨rfl, rfl⟩
theorem E145_175 : aCode 145 175 = (Instr.iload 5, 177, [], 0) ∧ bMask 145 175 = [] := ⟨rfl, rfl⟩
theorem E145_177 : aCode 145 177 = (Instr.iaload, 178, [0], 0) ∧ bMask 145 177 = [] := ⟨rfl, rfl⟩
theorem E145_178 : aCode 145 178 = (Instr.iload 5, 180, [], 0) ∧ bMask 145 178 = [] := ⟨rfl, rfl⟩
theorem E145_180 : aCode 145 180 = (Instr.imul, 181, [], 0) ∧ bMask 145 180 = [] := ⟨rfl, rfl⟩
theorem E145_181 : aCode 145 181 = (Instr.aload_n 0, 182, [], 0) ∧ bMask 145 181 = [] := ⟨rfl, rfl⟩
theorem E145_182 : aCode 145 182 = (Instr.getfield 7, 185, [82, 7, 0, 0], 0) ∧ bMask 145 182 = [] := ⟨rfl, rfl⟩
theorem E145_185 : aCode 145 185 = (Instr.irem, 186, [], 0) ∧ bMask 145 185 = [] := ⟨rfl, rfl⟩
theorem E145_186 : aCode 145 186 = (Instr.goto 10, 196, [], 0) ∧ bMask 145 186 = [] := ⟨rfl, rfl⟩
theorem E145_189 : aCode 145 189 = (Instr.aload_n 0, 190, [], 0) ∧ bMask 145 189 = [] := ⟨rfl, rfl⟩
theorem E145_190 : aCode 145 190 = (Instr.getfield 17, 193, [108, 7, 3, 2], 0) ∧ bMask 145 190 = [] := ⟨rfl, rfl⟩
theorem E145_193 : aCode 145 193 = (Instr.iload 5, 195, [], 0) ∧ bMask 145 193 = [] := ⟨rfl, rfl⟩
theorem E145_195 : aCode 145 195 = (Instr.iaload, 196, [0], 0) ∧ bMask 145 195 = [] := ⟨rfl, rfl⟩
theorem E145_196 : aCode 145 196 = (Instr.iastore, 197, [0], 0) ∧ bMask 145 196 = [] := ⟨rfl, rfl⟩
theorem E145_197 : aCode 145 197 = (Instr.iinc 5 1, 200, [], 1) ∧ bMask 145 197 = [] := ⟨rfl, rfl⟩
theorem E145_200 : aCode 145 200 = (Instr.goto (-53), 147, [], 0) ∧ bMask 145 200 = [] := ⟨rfl, rfl⟩
theorem E145_203 : aCode 145 203 = (Instr.iinc 4 1, 206, [], 1) ∧ bMask 145 203 = [] := ⟨rfl, rfl⟩
theorem E145_206 : aCode 145 206 = (Instr.goto (-118), 88, [], 0) ∧ bMask 145 206 = [] := ⟨rfl, rfl⟩
theorem E145_209 : aCode 145 209 = (Instr.iconst 0, 210, [], 0) ∧ bMask 145 209 = [] := ⟨rfl, rfl⟩
theorem E145_210 : aCode 145 210 = (Instr.istore 4, 212, [], 0) ∧ bMask 145 210 = [] := ⟨rfl, rfl⟩
theorem E145_212 : aCode 145 212 = (Instr.iload 4, 214, [], 0) := rfl
theorem E145_214 : aCode 145 214 = (Instr.iconst 4, 215, [], 4) ∧ bMask 145 214 = [] := ⟨rfl, rfl⟩
theorem E145_215 : aCode 145 215 = (Instr.if_icmp .ge 17, 218, [232], 0) ∧ bMask 145 215 = [] := ⟨rfl, rfl⟩
theorem E145_218 : aCode 145 218 = (Instr.aload_n 0, 219, [], 0) ∧ bMask 145 218 = [] := ⟨rfl, rfl⟩
theorem E145_219 : aCode 145 219 = (Instr.getfield 57, 222, [97, 7, 28, 2], 0) ∧ bMask 145 219 = [] := ⟨rfl, rfl⟩
theorem E145_222 : aCode 145 222 = (Instr.iload 4, 224, [], 0) ∧ bMask 145 222 = [] := ⟨rfl, rfl⟩
theorem E145_224 : aCode 145 224 = (Instr.iconst 0, 225, [], 0) ∧ bMask 145 224 = [] := ⟨rfl, rfl⟩
theorem E145_225 : aCode 145 225 = (Instr.iastore, 226, [0], 0) ∧ bMask 145 225 = [] := ⟨rfl, rfl⟩
theorem E145_226 : aCode 145 226 = (Instr.iinc 4 1, 229, [], 1) ∧ bMask 145 226 = [] := ⟨rfl, rfl⟩
theorem E145_229 : aCode 145 229 = (Instr.goto (-17), 212, [], 0) ∧ bMask 145 229 = [] := ⟨rfl, rfl⟩
theorem E145_232 : aCode 145 232 = (Instr.return_, 233, [], 0) ∧ bMask 145 232 = [] := ⟨rfl, rfl⟩
theorem g_X7_makesSeries_0 {Q : bQ} {M : bM} {x1 : Int32} {x2 : Int32} {x3 : Int32} (h : bCall 144 [cR 26 0, cI x1, cR 27 1] (bU M 26 0 25 x3) (fun v1 M2 => bV0 v1 (((¬ x2 = (2 : Int32)) → bGo 145 Q 55 [some (cR 26 0), some (cI x1), some (cI x2), some (cI x3), some (cI (0 : Int32)), none] [] M2) ∧ (¬ (¬ x2 = (2 : Int32)) → bGo 145 Q 22 [some (cR 26 0), some (cI x1), some (cI x2), some (cI x3), some (cI (0 : Int32)), none] [] M2)))) : bCall 145 [cR 26 0, cI x1, cI x2, cI x3] M Q := s_aload_n E145_0.1 (k_ E145_0) rfl (s_iload_n E145_1.1 (k_ E145_1) rfl (s_putI E145_2.1 (k_ E145_2) rfl (s_aload_n E145_5.1 (k_ E145_5) rfl (s_iload_n E145_6.1 (k_ E145_6) rfl (s_aload_n E145_7.1 (k_ E145_7) rfl (s_getR E145_8.1 (k_ E145_8) rfl rfl (s_vcall0 E145_11.1 (k_ E145_11) rfl rfl rfl h (fun M2 z0 => s_iload_n E145_14.1 (k_ E145_14) rfl (s_iconst E145_15.1 (k_ E145_15) (s_icmp_ne E145_16.1 (k_ E145_16) ⟨fun c1 => s_iconst E145_52.1 (k_ E145_52) (s_istore E145_53.1 (k_ E145_53) (z0.1 c1)), fun c1 => s_iconst E145_19.1 (k_ E145_19) (s_istore E145_20.1 (k_ E145_20) (z0.2 c1))⟩))))))))))
theorem g_X7_makesSeries_22 {Q : bQ} {M : bM} {x1 : Int32} {x2 : Int32} {x3 : Int32} {x4 : Int32} {o5 : Option bV} (h : (((32 : Int32) ≤ x4) → bGo 145 Q 88 [some (cR 26 0), some (cI x1), some (cI x2), some (cI x3), some (cI (1 : Int32)), none] [] M) ∧ (¬ ((32 : Int32) ≤ x4) → ((vp_in x4 32) ∧ ((vp_in x4 128) ∧ bGo 145 Q 22 [some (cR 26 0), some (cI x1), some (cI x2), some (cI x3), some (cI (x4 + (1 : Int32))), none] [] (bU M 36 0 x4.toNatClampNeg (M 27 1 x4.toNatClampNeg)))))) : bGo 145 Q 22 [some (cR 26 0), some (cI x1), some (cI x2), some (cI x3), some (cI x4), o5] [] M := s_iload E145_22 rfl rfl (s_bipush E145_24.1 (k_ E145_24) (s_icmp_ge E145_26.1 (k_ E145_26) ⟨fun c2 => s_goto E145_49.1 (k_ E145_49) (s_iconst E145_85.1 (k_ E145_85) (s_istore E145_86.1 (k_ E145_86) (h.1 c2))), fun c2 => s_aload_n E145_29.1 (k_ E145_29) rfl (s_getR E145_30.1 (k_ E145_30) rfl rfl (s_iload E145_33.1 (k_ E145_33) rfl (s_aload_n E145_35.1 (k_ E145_35) rfl (s_getR E145_36.1 (k_ E145_36) rfl rfl (s_iload E145_39.1 (k_ E145_39) rfl (s_iaload E145_41.1 (k_ E145_41) rfl ⟨(h.2 c2).1, s_iastore E145_42.1 (k_ E145_42) rfl ⟨((h.2 c2).2).1, s_iinc E145_43.1 (k_ E145_43) rfl (s_goto E145_46.1 (k_ E145_46) (((h.2 c2).2).2))⟩⟩))))))⟩))
theorem g_X7_makesSeries_55 {Q : bQ} {M : bM} {x1 : Int32} {x2 : Int32} {x3 : Int32} {x4 : Int32} {o5 : Option bV} (h : (((32 : Int32) ≤ x4) → bGo 145 Q 88 [some (cR 26 0), some (cI x1), some (cI x2), some (cI x3), some (cI (1 : Int32)), none] [] M) ∧ (¬ ((32 : Int32) ≤ x4) → (((¬ x4 = 0) → ((vp_in x4 128) ∧ bGo 145 Q 55 [some (cR 26 0), some (cI x1), some (cI x2), some (cI x3), some (cI (x4 + (1 : Int32))), none] [] (bU M 36 0 x4.toNatClampNeg (0 : Int32)))) ∧ (¬ (¬ x4 = 0) → ((vp_in x4 128) ∧ bGo 145 Q 55 [some (cR 26 0), some (cI x1), some (cI x2), some (cI x3), some (cI (x4 + (1 : Int32))), none] [] (bU M 36 0 x4.toNatClampNeg (1 : Int32))))))) : bGo 145 Q 55 [some (cR 26 0), some (cI x1), some (cI x2), some (cI x3), some (cI x4), o5] [] M := s_iload E145_55 rfl rfl (s_bipush E145_57.1 (k_ E145_57) (s_icmp_ge E145_59.1 (k_ E145_59) ⟨fun c3 => s_iconst E145_85.1 (k_ E145_85) (s_istore E145_86.1 (k_ E145_86) (h.1 c3)), fun c3 => s_aload_n E145_62.1 (k_ E145_62) rfl (s_getR E145_63.1 (k_ E145_63) rfl rfl (s_iload E145_66.1 (k_ E145_66) rfl (s_iload E145_68.1 (k_ E145_68) rfl (s_if_ne E145_70.1 (k_ E145_70) ⟨fun c4 => s_iconst E145_77.1 (k_ E145_77) (s_iastore E145_78.1 (k_ E145_78) rfl ⟨((h.2 c3).1 c4).1, s_iinc E145_79.1 (k_ E145_79) rfl (s_goto E145_82.1 (k_ E145_82) (((h.2 c3).1 c4).2))⟩), fun c4 => s_iconst E145_73.1 (k_ E145_73) (s_goto E145_74.1 (k_ E145_74) (s_iastore E145_78.1 (k_ E145_78) rfl ⟨((h.2 c3).2 c4).1, s_iinc E145_79.1 (k_ E145_79) rfl (s_goto E145_82.1 (k_ E145_82) (((h.2 c3).2 c4).2))⟩))⟩))))⟩))
theorem g_X7_makesSeries_88 {Q : bQ} {M : bM} {x1 : Int32} {x2 : Int32} {x3 : Int32} {x4 : Int32} {o5 : Option bV} (h : ((x3 ≤ x4) → bGo 145 Q 212 [some (cR 26 0), some (cI x1), some (cI x2), some (cI x3), some (cI (0 : Int32)), none] [] M) ∧ (¬ (x3 ≤ x4) → bGo 145 Q 97 [some (cR 26 0), some (cI x1), some (cI x2), some (cI x3), some (cI x4), some (cI (0 : Int32))] [] M)) : bGo 145 Q 88 [some (cR 26 0), some (cI x1), some (cI x2), some (cI x3), some (cI x4), o5] [] M := s_iload E145_88 rfl rfl (s_iload_n E145_90.1 (k_ E145_90) rfl (s_icmp_ge E145_91.1 (k_ E145_91) ⟨fun c5 => s_iconst E145_209.1 (k_ E145_209) (s_istore E145_210.1 (k_ E145_210) (h.1 c5)), fun c5 => s_iconst E145_94.1 (k_ E145_94) (s_istore E145_95.1 (k_ E145_95) (h.2 c5))⟩))
theorem g_X7_makesSeries_97 {Q : bQ} {M : bM} {x1 : Int32} {x2 : Int32} {x3 : Int32} {x4 : Int32} {x5 : Int32} (h : (((32 : Int32) ≤ x5) → (bCall 130 [cR 26 0, cR 27 1, cR 27 2] M (fun v1 M2 => bV0 v1 (bGo 145 Q 147 [some (cR 26 0), some (cI x1), some (cI x2), some (cI x3), some (cI x4), some (cI (0 : Int32))] [] M2)))) ∧ (¬ ((32 : Int32) ≤ x5) → ((vp_in (((32 : Int32) * (x4 - (1 : Int32))) + x5) 128) ∧ ((vp_in x5 32) ∧ bGo 145 Q 97 [some (cR 26 0), some (cI x1), some (cI x2), some (cI x3), some (cI x4), some (cI (x5 + (1 : Int32)))] [] (bU M 27 2 x5.toNatClampNeg (M 36 0 (((32 : Int32) * (x4 - (1 : Int32))) + x5).toNatClampNeg)))))) : bGo 145 Q 97 [some (cR 26 0), some (cI x1), some (cI x2), some (cI x3), some (cI x4), some (cI x5)] [] M := s_iload E145_97.1 (k_ E145_97) rfl (s_bipush E145_99.1 (k_ E145_99) (s_icmp_ge E145_101.1 (k_ E145_101) ⟨fun c6 => s_aload_n E145_132.1 (k_ E145_132) rfl (s_aload_n E145_133.1 (k_ E145_133) rfl (s_getR E145_134.1 (k_ E145_134) rfl rfl (s_aload_n E145_137.1 (k_ E145_137) rfl (s_getR E145_138.1 (k_ E145_138) rfl rfl (s_vcall0 E145_141.1 (k_ E145_141) rfl rfl rfl (h.1 c6) (fun M2 z7 => s_iconst E145_144.1 (k_ E145_144) (s_istore E145_145.1 (k_ E145_145) (z7)))))))), fun c6 => s_aload_n E145_104.1 (k_ E145_104) rfl (s_getR E145_105.1 (k_ E145_105) rfl rfl (s_iload E145_108.1 (k_ E145_108) rfl (s_aload_n E145_110.1 (k_ E145_110) rfl (s_getR E145_111.1 (k_ E145_111) rfl rfl (s_bipush E145_114.1 (k_ E145_114) (s_iload E145_116.1 (k_ E145_116) rfl (s_iconst E145_118.1 (k_ E145_118) (s_isub E145_119.1 (k_ E145_119) (s_imul E145_120.1 (k_ E145_120) (s_iload E145_121.1 (k_ E145_121) rfl (s_iadd E145_123.1 (k_ E145_123) (s_iaload E145_124.1 (k_ E145_124) rfl ⟨(h.2 c6).1, s_iastore E145_125.1 (k_ E145_125) rfl ⟨((h.2 c6).2).1, s_iinc E145_126.1 (k_ E145_126) rfl (s_goto E145_129.1 (k_ E145_129) (((h.2 c6).2).2))⟩⟩))))))))))))⟩))
theorem g_X7_makesSeries_147 {Q : bQ} {M : bM} {x1 : Int32} {x2 : Int32} {x3 : Int32} {x4 : Int32} {x5 : Int32} (h : (((32 : Int32) ≤ x5) → bGo 145 Q 88 [some (cR 26 0), some (cI x1), some (cI x2), some (cI x3), some (cI (x4 + (1 : Int32))), some (cI x5)] [] M) ∧ (¬ ((32 : Int32) ≤ x5) → (((¬ x2 = (2 : Int32)) → ((vp_in x5 32) ∧ ((vp_in (((32 : Int32) * x4) + x5) 128) ∧ bGo 145 Q 147 [some (cR 26 0), some (cI x1), some (cI x2), some (cI x3), some (cI x4), some (cI (x5 + (1 : Int32)))] [] (bU M 36 0 (((32 : Int32) * x4) + x5).toNatClampNeg (M 27 0 x5.toNatClampNeg))))) ∧ (¬ (¬ x2 = (2 : Int32)) → ((vp_in x5 32) ∧ ((¬ (M 26 0 0) = 0) ∧ ((vp_in (((32 : Int32) * x4) + x5) 128) ∧ bGo 145 Q 147 [some (cR 26 0), some (cI x1), some (cI x2), some (cI x3), some (cI x4), some (cI (x5 + (1 : Int32)))] [] (bU M 36 0 (((32 : Int32) * x4) + x5).toNatClampNeg (aRem ((M 27 2 x5.toNatClampNeg) * x5) (M 26 0 0)))))))))) : bGo 145 Q 147 [some (cR 26 0), some (cI x1), some (cI x2), some (cI x3), some (cI x4), some (cI x5)] [] M := s_iload E145_147.1 (k_ E145_147) rfl (s_bipush E145_149.1 (k_ E145_149) (s_icmp_ge E145_151.1 (k_ E145_151) ⟨fun c8 => s_iinc E145_203.1 (k_ E145_203) rfl (s_goto E145_206.1 (k_ E145_206) (h.1 c8)), fun c8 => s_aload_n E145_154.1 (k_ E145_154) rfl (s_getR E145_155.1 (k_ E145_155) rfl rfl (s_bipush E145_158.1 (k_ E145_158) (s_iload E145_160.1 (k_ E145_160) rfl (s_imul E145_162.1 (k_ E145_162) (s_iload E145_163.1 (k_ E145_163) rfl (s_iadd E145_165.1 (k_ E145_165) (s_iload_n E145_166.1 (k_ E145_166) rfl (s_iconst E145_167.1 (k_ E145_167) (s_icmp_ne E145_168.1 (k_ E145_168) ⟨fun c9 => s_aload_n E145_189.1 (k_ E145_189) rfl (s_getR E145_190.1 (k_ E145_190) rfl rfl (s_iload E145_193.1 (k_ E145_193) rfl (s_iaload E145_195.1 (k_ E145_195) rfl ⟨((h.2 c8).1 c9).1, s_iastore E145_196.1 (k_ E145_196) rfl ⟨(((h.2 c8).1 c9).2).1, s_iinc E145_197.1 (k_ E145_197) rfl (s_goto E145_200.1 (k_ E145_200) ((((h.2 c8).1 c9).2).2))⟩⟩))), fun c9 => s_aload_n E145_171.1 (k_ E145_171) rfl (s_getR E145_172.1 (k_ E145_172) rfl rfl (s_iload E145_175.1 (k_ E145_175) rfl (s_iaload E145_177.1 (k_ E145_177) rfl ⟨((h.2 c8).2 c9).1, s_iload E145_178.1 (k_ E145_178) rfl (s_imul E145_180.1 (k_ E145_180) (s_aload_n E145_181.1 (k_ E145_181) rfl (s_getI0 E145_182.1 (k_ E145_182) rfl (s_irem E145_185.1 (k_ E145_185) ⟨(((h.2 c8).2 c9).2).1, s_goto E145_186.1 (k_ E145_186) (s_iastore E145_196.1 (k_ E145_196) rfl ⟨((((h.2 c8).2 c9).2).2).1, s_iinc E145_197.1 (k_ E145_197) rfl (s_goto E145_200.1 (k_ E145_200) (((((h.2 c8).2 c9).2).2).2))⟩)⟩))))⟩)))⟩)))))))))⟩))
theorem g_X7_makesSeries_212 {Q : bQ} {M : bM} {x1 : Int32} {x2 : Int32} {x3 : Int32} {x4 : Int32} {o5 : Option bV} (h : (((4 : Int32) ≤ x4) → (Q none M)) ∧ (¬ ((4 : Int32) ≤ x4) → ((vp_in x4 4) ∧ bGo 145 Q 212 [some (cR 26 0), some (cI x1), some (cI x2), some (cI x3), some (cI (x4 + (1 : Int32))), none] [] (bU M 37 0 x4.toNatClampNeg (0 : Int32))))) : bGo 145 Q 212 [some (cR 26 0), some (cI x1), some (cI x2), some (cI x3), some (cI x4), o5] [] M := s_iload E145_212 rfl rfl (s_iconst E145_214.1 (k_ E145_214) (s_icmp_ge E145_215.1 (k_ E145_215) ⟨fun c10 => s_ret E145_232.1 (k_ E145_232) (h.1 c10), fun c10 => s_aload_n E145_218.1 (k_ E145_218) rfl (s_getR E145_219.1 (k_ E145_219) rfl rfl (s_iload E145_222.1 (k_ E145_222) rfl (s_iconst E145_224.1 (k_ E145_224) (s_iastore E145_225.1 (k_ E145_225) rfl ⟨(h.2 c10).1, s_iinc E145_226.1 (k_ E145_226) rfl (s_goto E145_229.1 (k_ E145_229) ((h.2 c10).2))⟩))))⟩))
-- 146: X7_lowestRow
theorem E146_0 : aCode 146 0 = (Instr.iconst 0, 1, [], 0) ∧ bMask 146 0 = [] := ⟨rfl, rfl⟩
theorem E146_1 : aCode 146 1 = (Instr.istore_n 1, 2, [], 0) ∧ bMask 146 1 = [] := ⟨rfl, rfl⟩
theorem E146_2 : aCode 146 2 = (Instr.iconst 1, 3, [], 1) ∧ bMask 146 2 = [] := ⟨rfl, rfl⟩
theorem E146_3 : aCode 146 3 = (Instr.istore_n 2, 4, [], 0) ∧ bMask 146 3 = [] := ⟨rfl, rfl⟩
theorem E146_4 : aCode 146 4 = (Instr.iload_n 2, 5, [], 0) ∧ bMask 146 4 = [] := ⟨rfl, rfl⟩
theorem E146_5 : aCode 146 5 = (Instr.aload_n 0, 6, [], 0) ∧ bMask 146 5 = [] := ⟨rfl, rfl⟩
theorem E146_6 : aCode 146 6 = (Instr.getfield 227, 9, [93, 7, 25, 0], 0) ∧ bMask 146 6 = [] := ⟨rfl, rfl⟩
theorem E146_9 : aCode 146 9 = (Instr.if_icmp .ge 44, 12, [53], 0) ∧ bMask 146 9 = [] := ⟨rfl, rfl⟩
theorem E146_12 : aCode 146 12 = (Instr.aload_n 0, 13, [], 0) ∧ bMask 146 12 = [] := ⟨rfl, rfl⟩
theorem E146_13 : aCode 146 13 = (Instr.getfield 63, 16, [107, 7, 30, 2], 0) ∧ bMask 146 13 = [] := ⟨rfl, rfl⟩
theorem E146_16 : aCode 146 16 = (Instr.iload_n 2, 17, [], 0) ∧ bMask 146 16 = [] := ⟨rfl, rfl⟩
theorem E146_17 : aCode 146 17 = (Instr.iaload, 18, [0], 0) ∧ bMask 146 17 = [] := ⟨rfl, rfl⟩
theorem E146_18 : aCode 146 18 = (Instr.aload_n 0, 19, [], 0) ∧ bMask 146 18 = [] := ⟨rfl, rfl⟩
theorem E146_19 : aCode 146 19 = (Instr.getfield 57, 22, [97, 7, 28, 2], 0) ∧ bMask 146 19 = [] := ⟨rfl, rfl⟩
theorem E146_22 : aCode 146 22 = (Instr.iload_n 2, 23, [], 0) ∧ bMask 146 22 = [] := ⟨rfl, rfl⟩
theorem E146_23 : aCode 146 23 = (Instr.iaload, 24, [0], 0) ∧ bMask 146 23 = [] := ⟨rfl, rfl⟩
theorem E146_24 : aCode 146 24 = (Instr.iadd, 25, [], 0) ∧ bMask 146 24 = [] := ⟨rfl, rfl⟩
theorem E146_25 : aCode 146 25 = (Instr.aload_n 0, 26, [], 0) ∧ bMask 146 25 = [] := ⟨rfl, rfl⟩
theorem E146_26 : aCode 146 26 = (Instr.getfield 63, 29, [107, 7, 30, 2], 0) ∧ bMask 146 26 = [] := ⟨rfl, rfl⟩
theorem E146_29 : aCode 146 29 = (Instr.iload_n 1, 30, [], 0) ∧ bMask 146 29 = [] := ⟨rfl, rfl⟩
theorem E146_30 : aCode 146 30 = (Instr.iaload, 31, [0], 0) ∧ bMask 146 30 = [] := ⟨rfl, rfl⟩
theorem E146_31 : aCode 146 31 = (Instr.aload_n 0, 32, [], 0) ∧ bMask 146 31 = [] := ⟨rfl, rfl⟩
theorem E146_32 : aCode 146 32 = (Instr.getfield 57, 35, [97, 7, 28, 2], 0) ∧ bMask 146 32 = [] := ⟨rfl, rfl⟩
theorem E146_35 : aCode 146 35 = (Instr.iload_n 1, 36, [], 0) ∧ bMask 146 35 = [] := ⟨rfl, rfl⟩
theorem E146_36 : aCode 146 36 = (Instr.iaload, 37, [0], 0) ∧ bMask 146 36 = [] := ⟨rfl, rfl⟩
theorem E146_37 : aCode 146 37 = (Instr.iadd, 38, [], 0) ∧ bMask 146 37 = [] := ⟨rfl, rfl⟩
theorem E146_38 : aCode 146 38 = (Instr.if_icmp .ge 7, 41, [45], 0) ∧ bMask 146 38 = [] := ⟨rfl, rfl⟩
theorem E146_41 : aCode 146 41 = (Instr.iload_n 2, 42, [], 0) ∧ bMask 146 41 = [] := ⟨rfl, rfl⟩
theorem E146_42 : aCode 146 42 = (Instr.goto 4, 46, [], 0) ∧ bMask 146 42 = [] := ⟨rfl, rfl⟩
theorem E146_45 : aCode 146 45 = (Instr.iload_n 1, 46, [], 0) ∧ bMask 146 45 = [] := ⟨rfl, rfl⟩
theorem E146_46 : aCode 146 46 = (Instr.istore_n 1, 47, [], 0) ∧ bMask 146 46 = [] := ⟨rfl, rfl⟩
theorem E146_47 : aCode 146 47 = (Instr.iinc 2 1, 50, [], 1) ∧ bMask 146 47 = [] := ⟨rfl, rfl⟩
theorem E146_50 : aCode 146 50 = (Instr.goto (-46), 4, [], 0) ∧ bMask 146 50 = [] := ⟨rfl, rfl⟩
theorem E146_53 : aCode 146 53 = (Instr.iload_n 1, 54, [], 0) ∧ bMask 146 53 = [] := ⟨rfl, rfl⟩
theorem E146_54 : aCode 146 54 = (Instr.ireturn, 55, [0], 0) ∧ bMask 146 54 = [] := ⟨rfl, rfl⟩
theorem g_X7_lowestRow_0 {Q : bQ} {M : bM}  (h : bGo 146 Q 4 [some (cR 26 0), some (cI (0 : Int32)), some (cI (1 : Int32))] [] M) : bCall 146 [cR 26 0] M Q := s_iconst E146_0.1 (k_ E146_0) (s_istore_n E146_1.1 (k_ E146_1) (s_iconst E146_2.1 (k_ E146_2) (s_istore_n E146_3.1 (k_ E146_3) (h))))
theorem g_X7_lowestRow_4 {Q : bQ} {M : bM} {x1 : Int32} {x2 : Int32} (h : (((M 26 0 25) ≤ x2) → (Q (some (cI x1)) M)) ∧ (¬ ((M 26 0 25) ≤ x2) → ((vp_in x2 4) ∧ ((vp_in x2 4) ∧ ((vp_in x1 4) ∧ ((vp_in x1 4) ∧ (((((M 39 0 x1.toNatClampNeg) + (M 37 0 x1.toNatClampNeg)) ≤ ((M 39 0 x2.toNatClampNeg) + (M 37 0 x2.toNatClampNeg))) → bGo 146 Q 4 [some (cR 26 0), some (cI x1), some (cI (x2 + (1 : Int32)))] [] M) ∧ (¬ (((M 39 0 x1.toNatClampNeg) + (M 37 0 x1.toNatClampNeg)) ≤ ((M 39 0 x2.toNatClampNeg) + (M 37 0 x2.toNatClampNeg))) → bGo 146 Q 4 [some (cR 26 0), some (cI x2), some (cI (x2 + (1 : Int32)))] [] M)))))))) : bGo 146 Q 4 [some (cR 26 0), some (cI x1), some (cI x2)] [] M := s_iload_n E146_4.1 (k_ E146_4) rfl (s_aload_n E146_5.1 (k_ E146_5) rfl (s_getI0 E146_6.1 (k_ E146_6) rfl (s_icmp_ge E146_9.1 (k_ E146_9) ⟨fun c0 => s_iload_n E146_53.1 (k_ E146_53) rfl (s_iret E146_54.1 (k_ E146_54) (h.1 c0)), fun c0 => s_aload_n E146_12.1 (k_ E146_12) rfl (s_getR E146_13.1 (k_ E146_13) rfl rfl (s_iload_n E146_16.1 (k_ E146_16) rfl (s_iaload E146_17.1 (k_ E146_17) rfl ⟨(h.2 c0).1, s_aload_n E146_18.1 (k_ E146_18) rfl (s_getR E146_19.1 (k_ E146_19) rfl rfl (s_iload_n E146_22.1 (k_ E146_22) rfl (s_iaload E146_23.1 (k_ E146_23) rfl ⟨((h.2 c0).2).1, s_iadd E146_24.1 (k_ E146_24) (s_aload_n E146_25.1 (k_ E146_25) rfl (s_getR E146_26.1 (k_ E146_26) rfl rfl (s_iload_n E146_29.1 (k_ E146_29) rfl (s_iaload E146_30.1 (k_ E146_30) rfl ⟨(((h.2 c0).2).2).1, s_aload_n E146_31.1 (k_ E146_31) rfl (s_getR E146_32.1 (k_ E146_32) rfl rfl (s_iload_n E146_35.1 (k_ E146_35) rfl (s_iaload E146_36.1 (k_ E146_36) rfl ⟨((((h.2 c0).2).2).2).1, s_iadd E146_37.1 (k_ E146_37) (s_icmp_ge E146_38.1 (k_ E146_38) ⟨fun c1 => s_iload_n E146_45.1 (k_ E146_45) rfl (s_istore_n E146_46.1 (k_ E146_46) (s_iinc E146_47.1 (k_ E146_47) rfl (s_goto E146_50.1 (k_ E146_50) ((((((h.2 c0).2).2).2).2).1 c1)))), fun c1 => s_iload_n E146_41.1 (k_ E146_41) rfl (s_goto E146_42.1 (k_ E146_42) (s_istore_n E146_46.1 (k_ E146_46) (s_iinc E146_47.1 (k_ E146_47) rfl (s_goto E146_50.1 (k_ E146_50) ((((((h.2 c0).2).2).2).2).2 c1)))))⟩)⟩)))⟩))))⟩)))⟩)))⟩)))
-- 147: X7_guess
theorem E147_0 : aCode 147 0 = (Instr.iload_n 1, 1, [], 0) ∧ bMask 147 0 = [] := ⟨rfl, rfl⟩
theorem E147_1 : aCode 147 1 = (Instr.invokestatic 134, 4, [105, 1, 1, 0, 0, 90], 0) ∧ bMask 147 1 = [] := ⟨rfl, rfl⟩
theorem E147_4 : aCode 147 4 = (Instr.ifCond .eq 47, 7, [51], 0) ∧ bMask 147 4 = [] := ⟨rfl, rfl⟩
theorem E147_7 : aCode 147 7 = (Instr.iload_n 2, 8, [], 0) ∧ bMask 147 7 = [] := ⟨rfl, rfl⟩
theorem E147_8 : aCode 147 8 = (Instr.iconst 0, 9, [], 0) ∧ bMask 147 8 = [] := ⟨rfl, rfl⟩
theorem E147_9 : aCode 147 9 = (Instr.iconst 2, 10, [], 2) ∧ bMask 147 9 = [] := ⟨rfl, rfl⟩
theorem E147_10 : aCode 147 10 = (Instr.invokestatic 126, 13, [104, 3, 1, 0, 0, 89], 0) ∧ bMask 147 10 = [] := ⟨rfl, rfl⟩
theorem E147_13 : aCode 147 13 = (Instr.ifCond .eq 38, 16, [51], 0) ∧ bMask 147 13 = [] := ⟨rfl, rfl⟩
theorem E147_16 : aCode 147 16 = (Instr.iload_n 2, 17, [], 0) ∧ bMask 147 16 = [] := ⟨rfl, rfl⟩
theorem E147_17 : aCode 147 17 = (Instr.ifCond .le 12, 20, [29], 0) ∧ bMask 147 17 = [] := ⟨rfl, rfl⟩
theorem E147_20 : aCode 147 20 = (Instr.iload_n 3, 21, [], 0) ∧ bMask 147 20 = [] := ⟨rfl, rfl⟩
theorem E147_21 : aCode 147 21 = (Instr.iconst 1, 22, [], 1) ∧ bMask 147 21 = [] := ⟨rfl, rfl⟩
theorem E147_22 : aCode 147 22 = (Instr.iconst 3, 23, [], 3) ∧ bMask 147 22 = [] := ⟨rfl, rfl⟩
theorem E147_23 : aCode 147 23 = (Instr.invokestatic 126, 26, [104, 3, 1, 0, 0, 89], 0) ∧ bMask 147 23 = [] := ⟨rfl, rfl⟩
theorem E147_26 : aCode 147 26 = (Instr.ifCond .eq 25, 29, [51], 0) ∧ bMask 147 26 = [] := ⟨rfl, rfl⟩
theorem E147_29 : aCode 147 29 = (Instr.iload 4, 31, [], 0) ∧ bMask 147 29 = [] := ⟨rfl, rfl⟩
theorem E147_31 : aCode 147 31 = (Instr.iconst 1, 32, [], 1) ∧ bMask 147 31 = [] := ⟨rfl, rfl⟩
theorem E147_32 : aCode 147 32 = (Instr.bipush 32, 34, [], 32) ∧ bMask 147 32 = [] := ⟨rfl, rfl⟩
theorem E147_34 : aCode 147 34 = (Instr.invokestatic 126, 37, [104, 3, 1, 0, 0, 89], 0) ∧ bMask 147 34 = [] := ⟨rfl, rfl⟩
theorem E147_37 : aCode 147 37 = (Instr.ifCond .eq 14, 40, [51], 0) ∧ bMask 147 37 = [] := ⟨rfl, rfl⟩
theorem E147_40 : aCode 147 40 = (Instr.iload 5, 42, [], 0) ∧ bMask 147 40 = [] := ⟨rfl, rfl⟩
theorem E147_42 : aCode 147 42 = (Instr.iconst 0, 43, [], 0) ∧ bMask 147 42 = [] := ⟨rfl, rfl⟩
theorem E147_43 : aCode 147 43 = (Instr.bipush 9, 45, [], 9) ∧ bMask 147 43 = [] := ⟨rfl, rfl⟩
theorem E147_45 : aCode 147 45 = (Instr.invokestatic 126, 48, [104, 3, 1, 0, 0, 89], 0) ∧ bMask 147 45 = [] := ⟨rfl, rfl⟩
theorem E147_48 : aCode 147 48 = (Instr.ifCond .ne 5, 51, [53], 0) ∧ bMask 147 48 = [] := ⟨rfl, rfl⟩
theorem E147_51 : aCode 147 51 = (Instr.iconst (-1), 52, [], (-1)) ∧ bMask 147 51 = [] := ⟨rfl, rfl⟩
theorem E147_52 : aCode 147 52 = (Instr.ireturn, 53, [0], 0) ∧ bMask 147 52 = [] := ⟨rfl, rfl⟩
theorem E147_53 : aCode 147 53 = (Instr.aload_n 0, 54, [], 0) ∧ bMask 147 53 = [] := ⟨rfl, rfl⟩
theorem E147_54 : aCode 147 54 = (Instr.getfield 272, 57, [84, 7, 38, 0], 0) ∧ bMask 147 54 = [] := ⟨rfl, rfl⟩
theorem E147_57 : aCode 147 57 = (Instr.bipush 8, 59, [], 8) ∧ bMask 147 57 = [] := ⟨rfl, rfl⟩
theorem E147_59 : aCode 147 59 = (Instr.if_icmp .ne 6, 62, [65], 0) ∧ bMask 147 59 = [] := ⟨rfl, rfl⟩
theorem E147_62 : aCode 147 62 = (Instr.bipush (-4), 64, [], (-4)) ∧ bMask 147 62 = [] := ⟨rfl, rfl⟩
theorem E147_64 : aCode 147 64 = (Instr.ireturn, 65, [0], 0) ∧ bMask 147 64 = [] := ⟨rfl, rfl⟩
theorem E147_65 : aCode 147 65 = (Instr.aload_n 0, 66, [], 0) ∧ bMask 147 65 = [] := ⟨rfl, rfl⟩
theorem E147_66 : aCode 147 66 = (Instr.iload_n 1, 67, [], 0) ∧ bMask 147 66 = [] := ⟨rfl, rfl⟩
theorem E147_67 : aCode 147 67 = (Instr.iload_n 2, 68, [], 0) ∧ bMask 147 67 = [] := ⟨rfl, rfl⟩
theorem E147_68 : aCode 147 68 = (Instr.iload_n 2, 69, [], 0) ∧ bMask 147 68 = [] := ⟨rfl, rfl⟩
theorem E147_69 : aCode 147 69 = (Instr.ifCond .ne 7, 72, [76], 0) ∧ bMask 147 69 = [] := ⟨rfl, rfl⟩
theorem E147_72 : aCode 147 72 = (Instr.iconst 2, 73, [], 2) ∧ bMask 147 72 = [] := ⟨rfl, rfl⟩
theorem E147_73 : aCode 147 73 = (Instr.goto 6, 79, [], 0) ∧ bMask 147 73 = [] := ⟨rfl, rfl⟩
theorem E147_76 : aCode 147 76 = (Instr.iload_n 3, 77, [], 0) ∧ bMask 147 76 = [] := ⟨rfl, rfl⟩
theorem E147_77 : aCode 147 77 = (Instr.iconst 1, 78, [], 1) ∧ bMask 147 77 = [] := ⟨rfl, rfl⟩
theorem E147_78 : aCode 147 78 = (Instr.iadd, 79, [], 0) ∧ bMask 147 78 = [] := ⟨rfl, rfl⟩
theorem E147_79 : aCode 147 79 = (Instr.invokevirtual 275, 82, [145, 4, 0, 7, 0, 119], 0) ∧ bMask 147 79 = [] := ⟨rfl, rfl⟩
theorem E147_82 : aCode 147 82 = (Instr.aload_n 0, 83, [], 0) := rfl
theorem E147_83 : aCode 147 83 = (Instr.iload 4, 85, [], 0) ∧ bMask 147 83 = [] := ⟨rfl, rfl⟩
theorem E147_85 : aCode 147 85 = (Instr.putfield 230, 88, [95, 7, 26, 0], 0) ∧ bMask 147 85 = [] := ⟨rfl, rfl⟩
theorem E147_88 : aCode 147 88 = (Instr.aload_n 0, 89, [], 0) ∧ bMask 147 88 = [] := ⟨rfl, rfl⟩
theorem E147_89 : aCode 147 89 = (Instr.invokevirtual 253, 92, [123, 1, 0, 7, 0, 104], 0) ∧ bMask 147 89 = [] := ⟨rfl, rfl⟩
theorem E147_92 : aCode 147 92 = (Instr.aload_n 0, 93, [], 0) ∧ bMask 147 92 = [] := ⟨rfl, rfl⟩
theorem E147_93 : aCode 147 93 = (Instr.invokevirtual 259, 96, [146, 1, 1, 7, 0, 120], 0) ∧ bMask 147 93 = [] := ⟨rfl, rfl⟩
theorem E147_96 : aCode 147 96 = (Instr.istore 6, 98, [], 0) ∧ bMask 147 96 = [] := ⟨rfl, rfl⟩
theorem E147_98 : aCode 147 98 = (Instr.aload_n 0, 99, [], 0) ∧ bMask 147 98 = [] := ⟨rfl, rfl⟩
theorem E147_99 : aCode 147 99 = (Instr.getfield 63, 102, [107, 7, 30, 2], 0) ∧ bMask 147 99 = [] := ⟨rfl, rfl⟩
theorem E147_102 : aCode 147 102 = (Instr.iload 6, 104, [], 0) ∧ bMask 147 102 = [] := ⟨rfl, rfl⟩
theorem E147_104 : aCode 147 104 = (Instr.iaload, 105, [0], 0) ∧ bMask 147 104 = [] := ⟨rfl, rfl⟩
theorem E147_105 : aCode 147 105 = (Instr.iload 5, 107, [], 0) ∧ bMask 147 105 = [] := ⟨rfl, rfl⟩
theorem E147_107 : aCode 147 107 = (Instr.if_icmp .le 6, 110, [113], 0) ∧ bMask 147 107 = [] := ⟨rfl, rfl⟩
theorem E147_110 : aCode 147 110 = (Instr.bipush (-3), 112, [], (-3)) ∧ bMask 147 110 = [] := ⟨rfl, rfl⟩
theorem E147_112 : aCode 147 112 = (Instr.ireturn, 113, [0], 0) ∧ bMask 147 112 = [] := ⟨rfl, rfl⟩
theorem E147_113 : aCode 147 113 = (Instr.aload_n 0, 114, [], 0) ∧ bMask 147 113 = [] := ⟨rfl, rfl⟩
theorem E147_114 : aCode 147 114 = (Instr.iload 6, 116, [], 0) ∧ bMask 147 114 = [] := ⟨rfl, rfl⟩
theorem E147_116 : aCode 147 116 = (Instr.invokevirtual 266, 119, [126, 2, 0, 7, 0, 107], 0) ∧ bMask 147 116 = [] := ⟨rfl, rfl⟩
theorem E147_119 : aCode 147 119 = (Instr.aload_n 0, 120, [], 0) := rfl
theorem E147_120 : aCode 147 120 = (Instr.getfield 84, 123, [85, 7, 40, 2], 0) ∧ bMask 147 120 = [] := ⟨rfl, rfl⟩
theorem E147_123 : aCode 147 123 = (Instr.aload_n 0, 124, [], 0) ∧ bMask 147 123 = [] := ⟨rfl, rfl⟩
theorem E147_124 : aCode 147 124 = (Instr.getfield 272, 127, [84, 7, 38, 0], 0) ∧ bMask 147 124 = [] := ⟨rfl, rfl⟩
theorem E147_127 : aCode 147 127 = (Instr.aload_n 0, 128, [], 0) ∧ bMask 147 127 = [] := ⟨rfl, rfl⟩
theorem E147_128 : aCode 147 128 = (Instr.getfield 279, 131, [114, 7, 39, 0], 0) ∧ bMask 147 128 = [] := ⟨rfl, rfl⟩
theorem E147_131 : aCode 147 131 = (Instr.iastore, 132, [0], 0) ∧ bMask 147 131 = [] := ⟨rfl, rfl⟩
theorem E147_132 : aCode 147 132 = (Instr.aload_n 0, 133, [], 0) ∧ bMask 147 132 = [] := ⟨rfl, rfl⟩
theorem E147_133 : aCode 147 133 = (Instr.getfield 87, 136, [86, 7, 41, 2], 0) ∧ bMask 147 133 = [] := ⟨rfl, rfl⟩
theorem E147_136 : aCode 147 136 = (Instr.aload_n 0, 137, [], 0) ∧ bMask 147 136 = [] := ⟨rfl, rfl⟩
theorem E147_137 : aCode 147 137 = (Instr.getfield 272, 140, [84, 7, 38, 0], 0) ∧ bMask 147 137 = [] := ⟨rfl, rfl⟩
theorem E147_140 : aCode 147 140 = (Instr.iload_n 2, 141, [], 0) ∧ bMask 147 140 = [] := ⟨rfl, rfl⟩
theorem E147_141 : aCode 147 141 = (Instr.iastore, 142, [0], 0) ∧ bMask 147 141 = [] := ⟨rfl, rfl⟩
theorem E147_142 : aCode 147 142 = (Instr.aload_n 0, 143, [], 0) ∧ bMask 147 142 = [] := ⟨rfl, rfl⟩
theorem E147_143 : aCode 147 143 = (Instr.getfield 90, 146, [87, 7, 42, 2], 0) ∧ bMask 147 143 = [] := ⟨rfl, rfl⟩
theorem E147_146 : aCode 147 146 = (Instr.aload_n 0, 147, [], 0) ∧ bMask 147 146 = [] := ⟨rfl, rfl⟩
theorem E147_147 : aCode 147 147 = (Instr.getfield 272, 150, [84, 7, 38, 0], 0) ∧ bMask 147 147 = [] := ⟨rfl, rfl⟩
theorem E147_150 : aCode 147 150 = (Instr.aload_n 0, 151, [], 0) ∧ bMask 147 150 = [] := ⟨rfl, rfl⟩
theorem E147_151 : aCode 147 151 = (Instr.getfield 227, 154, [93, 7, 25, 0], 0) ∧ bMask 147 151 = [] := ⟨rfl, rfl⟩
theorem E147_154 : aCode 147 154 = (Instr.iastore, 155, [0], 0) ∧ bMask 147 154 = [] := ⟨rfl, rfl⟩
theorem E147_155 : aCode 147 155 = (Instr.aload_n 0, 156, [], 0) ∧ bMask 147 155 = [] := ⟨rfl, rfl⟩
theorem E147_156 : aCode 147 156 = (Instr.getfield 93, 159, [88, 7, 43, 2], 0) ∧ bMask 147 156 = [] := ⟨rfl, rfl⟩
theorem E147_159 : aCode 147 159 = (Instr.aload_n 0, 160, [], 0) ∧ bMask 147 159 = [] := ⟨rfl, rfl⟩
theorem E147_160 : aCode 147 160 = (Instr.getfield 272, 163, [84, 7, 38, 0], 0) ∧ bMask 147 160 = [] := ⟨rfl, rfl⟩
theorem E147_163 : aCode 147 163 = (Instr.iload 4, 165, [], 0) ∧ bMask 147 163 = [] := ⟨rfl, rfl⟩
theorem E147_165 : aCode 147 165 = (Instr.iastore, 166, [0], 0) ∧ bMask 147 165 = [] := ⟨rfl, rfl⟩
theorem E147_166 : aCode 147 166 = (Instr.aload_n 0, 167, [], 0) ∧ bMask 147 166 = [] := ⟨rfl, rfl⟩
theorem E147_167 : aCode 147 167 = (Instr.getfield 96, 170, [89, 7, 44, 2], 0) ∧ bMask 147 167 = [] := ⟨rfl, rfl⟩
theorem E147_170 : aCode 147 170 = (Instr.aload_n 0, 171, [], 0) ∧ bMask 147 170 = [] := ⟨rfl, rfl⟩
theorem E147_171 : aCode 147 171 = (Instr.getfield 272, 174, [84, 7, 38, 0], 0) ∧ bMask 147 171 = [] := ⟨rfl, rfl⟩
theorem E147_174 : aCode 147 174 = (Instr.aload_n 0, 175, [], 0) ∧ bMask 147 174 = [] := ⟨rfl, rfl⟩
theorem E147_175 : aCode 147 175 = (Instr.getfield 63, 178, [107, 7, 30, 2], 0) ∧ bMask 147 175 = [] := ⟨rfl, rfl⟩
theorem E147_178 : aCode 147 178 = (Instr.iload 6, 180, [], 0) ∧ bMask 147 178 = [] := ⟨rfl, rfl⟩
theorem E147_180 : aCode 147 180 = (Instr.iaload, 181, [0], 0) ∧ bMask 147 180 = [] := ⟨rfl, rfl⟩
theorem E147_181 : aCode 147 181 = (Instr.iastore, 182, [0], 0) ∧ bMask 147 181 = [] := ⟨rfl, rfl⟩
theorem E147_182 : aCode 147 182 = (Instr.aload_n 0, 183, [], 0) ∧ bMask 147 182 = [] := ⟨rfl, rfl⟩
theorem E147_183 : aCode 147 183 = (Instr.getfield 99, 186, [90, 7, 45, 2], 0) ∧ bMask 147 183 = [] := ⟨rfl, rfl⟩
theorem E147_186 : aCode 147 186 = (Instr.aload_n 0, 187, [], 0) ∧ bMask 147 186 = [] := ⟨rfl, rfl⟩
theorem E147_187 : aCode 147 187 = (Instr.getfield 272, 190, [84, 7, 38, 0], 0) ∧ bMask 147 187 = [] := ⟨rfl, rfl⟩
theorem E147_190 : aCode 147 190 = (Instr.aload_n 0, 191, [], 0) ∧ bMask 147 190 = [] := ⟨rfl, rfl⟩
theorem E147_191 : aCode 147 191 = (Instr.getfield 17, 194, [108, 7, 3, 2], 0) ∧ bMask 147 191 = [] := ⟨rfl, rfl⟩
theorem E147_194 : aCode 147 194 = (Instr.iconst 0, 195, [], 0) ∧ bMask 147 194 = [] := ⟨rfl, rfl⟩
theorem E147_195 : aCode 147 195 = (Instr.invokestatic 164, 198, [133, 2, 1, 0, 0, 111], 0) ∧ bMask 147 195 = [] := ⟨rfl, rfl⟩
theorem E147_198 : aCode 147 198 = (Instr.iastore, 199, [0], 0) ∧ bMask 147 198 = [] := ⟨rfl, rfl⟩
theorem E147_199 : aCode 147 199 = (Instr.aload_n 0, 200, [], 0) ∧ bMask 147 199 = [] := ⟨rfl, rfl⟩
theorem E147_200 : aCode 147 200 = (Instr.getfield 102, 203, [91, 7, 46, 2], 0) ∧ bMask 147 200 = [] := ⟨rfl, rfl⟩
theorem E147_203 : aCode 147 203 = (Instr.aload_n 0, 204, [], 0) ∧ bMask 147 203 = [] := ⟨rfl, rfl⟩
theorem E147_204 : aCode 147 204 = (Instr.getfield 272, 207, [84, 7, 38, 0], 0) ∧ bMask 147 204 = [] := ⟨rfl, rfl⟩
theorem E147_207 : aCode 147 207 = (Instr.aload_n 0, 208, [], 0) ∧ bMask 147 207 = [] := ⟨rfl, rfl⟩
theorem E147_208 : aCode 147 208 = (Instr.getfield 7, 211, [82, 7, 0, 0], 0) ∧ bMask 147 208 = [] := ⟨rfl, rfl⟩
theorem E147_211 : aCode 147 211 = (Instr.iastore, 212, [0], 0) ∧ bMask 147 211 = [] := ⟨rfl, rfl⟩
theorem E147_212 : aCode 147 212 = (Instr.iconst 0, 213, [], 0) ∧ bMask 147 212 = [] := ⟨rfl, rfl⟩
theorem E147_213 : aCode 147 213 = (Instr.istore 7, 215, [], 0) ∧ bMask 147 213 = [] := ⟨rfl, rfl⟩
theorem E147_215 : aCode 147 215 = (Instr.iload 7, 217, [], 0) ∧ bMask 147 215 = [] := ⟨rfl, rfl⟩
theorem E147_217 : aCode 147 217 = (Instr.sipush 132, 220, [], 132) ∧ bMask 147 217 = [] := ⟨rfl, rfl⟩
theorem E147_220 : aCode 147 220 = (Instr.if_icmp .ge 39, 223, [259], 0) ∧ bMask 147 220 = [] := ⟨rfl, rfl⟩
theorem E147_223 : aCode 147 223 = (Instr.aload_n 0, 224, [], 0) ∧ bMask 147 223 = [] := ⟨rfl, rfl⟩
theorem E147_224 : aCode 147 224 = (Instr.getfield 105, 227, [118, 7, 47, 2], 0) ∧ bMask 147 224 = [] := ⟨rfl, rfl⟩
theorem E147_227 : aCode 147 227 = (Instr.sipush 132, 230, [], 132) ∧ bMask 147 227 = [] := ⟨rfl, rfl⟩
theorem E147_230 : aCode 147 230 = (Instr.aload_n 0, 231, [], 0) ∧ bMask 147 230 = [] := ⟨rfl, rfl⟩
theorem E147_231 : aCode 147 231 = (Instr.getfield 272, 234, [84, 7, 38, 0], 0) ∧ bMask 147 231 = [] := ⟨rfl, rfl⟩
theorem E147_234 : aCode 147 234 = (Instr.imul, 235, [], 0) ∧ bMask 147 234 = [] := ⟨rfl, rfl⟩
theorem E147_235 : aCode 147 235 = (Instr.iload 7, 237, [], 0) ∧ bMask 147 235 = [] := ⟨rfl, rfl⟩
theorem E147_237 : aCode 147 237 = (Instr.iadd, 238, [], 0) ∧ bMask 147 237 = [] := ⟨rfl, rfl⟩
theorem E147_238 : aCode 147 238 = (Instr.aload_n 0, 239, [], 0) ∧ bMask 147 238 = [] := ⟨rfl, rfl⟩
theorem E147_239 : aCode 147 239 = (Instr.getfield 60, 242, [105, 7, 29, 2], 0) ∧ bMask 147 239 = [] := ⟨rfl, rfl⟩
theorem E147_242 : aCode 147 242 = (Instr.sipush 132, 245, [], 132) ∧ bMask 147 242 = [] := ⟨rfl, rfl⟩
theorem E147_245 : aCode 147 245 = (Instr.iload 6, 247, [], 0) ∧ bMask 147 245 = [] := ⟨rfl, rfl⟩
theorem E147_247 : aCode 147 247 = (Instr.imul, 248, [], 0) ∧ bMask 147 247 = [] := ⟨rfl, rfl⟩
theorem E147_248 : aCode 147 248 = (Instr.iload 7, 250, [], 0) ∧ bMask 147 248 = [] := ⟨rfl, rfl⟩
theorem E147_250 : aCode 147 250 = (Instr.iadd, 251, [], 0) ∧ bMask 147 250 = [] := ⟨rfl, rfl⟩
theorem E147_251 : aCode 147 251 = (Instr.iaload, 252, [0], 0) ∧ bMask 147 251 = [] := ⟨rfl, rfl⟩
theorem E147_252 : aCode 147 252 = (Instr.iastore, 253, [0], 0) ∧ bMask 147 252 = [] := ⟨rfl, rfl⟩
theorem E147_253 : aCode 147 253 = (Instr.iinc 7 1, 256, [], 1) ∧ bMask 147 253 = [] := ⟨rfl, rfl⟩
theorem E147_256 : aCode 147 256 = (Instr.goto (-41), 215, [], 0) ∧ bMask 147 256 = [] := ⟨rfl, rfl⟩
theorem E147_259 : aCode 147 259 = (Instr.aload_n 0, 260, [], 0) ∧ bMask 147 259 = [] := ⟨rfl, rfl⟩
theorem E147_260 : aCode 147 260 = (Instr.dup, 261, [], 0) ∧ bMask 147 260 = [] := ⟨rfl, rfl⟩
theorem E147_261 : aCode 147 261 = (Instr.getfield 272, 264, [84, 7, 38, 0], 0) ∧ bMask 147 261 = [] := ⟨rfl, rfl⟩
theorem E147_264 : aCode 147 264 = (Instr.iconst 1, 265, [], 1) ∧ bMask 147 264 = [] := ⟨rfl, rfl⟩
theorem E147_265 : aCode 147 265 = (Instr.iadd, 266, [], 0) ∧ bMask 147 265 = [] := ⟨rfl, rfl⟩
theorem E147_266 : aCode 147 266 = (Instr.putfield 272, 269, [84, 7, 38, 0], 0) ∧ bMask 147 266 = [] := ⟨rfl, rfl⟩
theorem E147_269 : aCode 147 269 = (Instr.aload_n 0, 270, [], 0) ∧ bMask 147 269 = [] := ⟨rfl, rfl⟩
theorem E147_270 : aCode 147 270 = (Instr.dup, 271, [], 0) ∧ bMask 147 270 = [] := ⟨rfl, rfl⟩
theorem E147_271 : aCode 147 271 = (Instr.getfield 279, 274, [114, 7, 39, 0], 0) ∧ bMask 147 271 = [] := ⟨rfl, rfl⟩
theorem E147_274 : aCode 147 274 = (Instr.iconst 1, 275, [], 1) ∧ bMask 147 274 = [] := ⟨rfl, rfl⟩
theorem E147_275 : aCode 147 275 = (Instr.iadd, 276, [], 0) ∧ bMask 147 275 = [] := ⟨rfl, rfl⟩
theorem E147_276 : aCode 147 276 = (Instr.putfield 279, 279, [114, 7, 39, 0], 0) ∧ bMask 147 276 = [] := ⟨rfl, rfl⟩
theorem E147_279 : aCode 147 279 = (Instr.aload_n 0, 280, [], 0) ∧ bMask 147 279 = [] := ⟨rfl, rfl⟩
theorem E147_280 : aCode 147 280 = (Instr.getfield 279, 283, [114, 7, 39, 0], 0) ∧ bMask 147 280 = [] := ⟨rfl, rfl⟩
theorem E147_283 : aCode 147 283 = (Instr.iconst 1, 284, [], 1) ∧ bMask 147 283 = [] := ⟨rfl, rfl⟩
theorem E147_284 : aCode 147 284 = (Instr.isub, 285, [], 0) ∧ bMask 147 284 = [] := ⟨rfl, rfl⟩
theorem E147_285 : aCode 147 285 = (Instr.ireturn, 286, [0], 0) ∧ bMask 147 285 = [] := ⟨rfl, rfl⟩
theorem g_X7_guess_0 {Q : bQ} {M : bM} {x1 : Int32} {x2 : Int32} {x3 : Int32} {x4 : Int32} {x5 : Int32} (h : bCall 105 [cI x1] M (fun v1 M2 => bV1 v1 fun r3 => (((r3 = 0) → (Q (some (cI (-1 : Int32))) M2)) ∧ (¬ (r3 = 0) → (bCall 104 [cI x2, cI (0 : Int32), cI (2 : Int32)] M2 (fun v4 M5 => bV1 v4 fun r6 => (((r6 = 0) → (Q (some (cI (-1 : Int32))) M5)) ∧ (¬ (r6 = 0) → (((x2 ≤ 0) → (bCall 104 [cI x4, cI (1 : Int32), cI (32 : Int32)] M5 (fun v7 M8 => bV1 v7 fun r9 => (((r9 = 0) → (Q (some (cI (-1 : Int32))) M8)) ∧ (¬ (r9 = 0) → (bCall 104 [cI x5, cI (0 : Int32), cI (9 : Int32)] M8 (fun v10 M11 => bV1 v10 fun r12 => (((¬ r12 = 0) → (((¬ (M11 26 0 38) = (8 : Int32)) → (((¬ x2 = 0) → (bCall 145 [cR 26 0, cI x1, cI x2, cI (x3 + (1 : Int32))] M11 (fun v13 M14 => bV0 v13 (bGo 147 Q 82 [some (cR 26 0), some (cI x1), some (cI x2), some (cI x3), some (cI x4), some (cI x5), none, none] [] M14)))) ∧ (¬ (¬ x2 = 0) → (bCall 145 [cR 26 0, cI x1, cI x2, cI (2 : Int32)] M11 (fun v15 M16 => bV0 v15 (bGo 147 Q 82 [some (cR 26 0), some (cI x1), some (cI x2), some (cI x3), some (cI x4), some (cI x5), none, none] [] M16)))))) ∧ (¬ (¬ (M11 26 0 38) = (8 : Int32)) → (Q (some (cI (-4 : Int32))) M11)))) ∧ (¬ (¬ r12 = 0) → (Q (some (cI (-1 : Int32))) M11)))))))))) ∧ (¬ (x2 ≤ 0) → (bCall 104 [cI x3, cI (1 : Int32), cI (3 : Int32)] M5 (fun v17 M18 => bV1 v17 fun r19 => (((r19 = 0) → (Q (some (cI (-1 : Int32))) M18)) ∧ (¬ (r19 = 0) → (bCall 104 [cI x4, cI (1 : Int32), cI (32 : Int32)] M18 (fun v20 M21 => bV1 v20 fun r22 => (((r22 = 0) → (Q (some (cI (-1 : Int32))) M21)) ∧ (¬ (r22 = 0) → (bCall 104 [cI x5, cI (0 : Int32), cI (9 : Int32)] M21 (fun v23 M24 => bV1 v23 fun r25 => (((¬ r25 = 0) → (((¬ (M24 26 0 38) = (8 : Int32)) → (((¬ x2 = 0) → (bCall 145 [cR 26 0, cI x1, cI x2, cI (x3 + (1 : Int32))] M24 (fun v26 M27 => bV0 v26 (bGo 147 Q 82 [some (cR 26 0), some (cI x1), some (cI x2), some (cI x3), some (cI x4), some (cI x5), none, none] [] M27)))) ∧ (¬ (¬ x2 = 0) → (bCall 145 [cR 26 0, cI x1, cI x2, cI (2 : Int32)] M24 (fun v28 M29 => bV0 v28 (bGo 147 Q 82 [some (cR 26 0), some (cI x1), some (cI x2), some (cI x3), some (cI x4), some (cI x5), none, none] [] M29)))))) ∧ (¬ (¬ (M24 26 0 38) = (8 : Int32)) → (Q (some (cI (-4 : Int32))) M24)))) ∧ (¬ (¬ r25 = 0) → (Q (some (cI (-1 : Int32))) M24))))))))))))))))))))))) : bCall 147 [cR 26 0, cI x1, cI x2, cI x3, cI x4, cI x5] M Q := s_iload_n E147_0.1 (k_ E147_0) rfl (s_scall1 E147_1.1 (k_ E147_1) rfl rfl rfl h (fun M2 r3 z0 => s_if_eq E147_4.1 (k_ E147_4) ⟨fun c1 => s_iconst E147_51.1 (k_ E147_51) (s_iret E147_52.1 (k_ E147_52) (z0.1 c1)), fun c1 => s_iload_n E147_7.1 (k_ E147_7) rfl (s_iconst E147_8.1 (k_ E147_8) (s_iconst E147_9.1 (k_ E147_9) (s_scall1 E147_10.1 (k_ E147_10) rfl rfl rfl (z0.2 c1) (fun M5 r6 z2 => s_if_eq E147_13.1 (k_ E147_13) ⟨fun c3 => s_iconst E147_51.1 (k_ E147_51) (s_iret E147_52.1 (k_ E147_52) (z2.1 c3)), fun c3 => s_iload_n E147_16.1 (k_ E147_16) rfl (s_if_le E147_17.1 (k_ E147_17) ⟨fun c4 => s_iload E147_29.1 (k_ E147_29) rfl (s_iconst E147_31.1 (k_ E147_31) (s_bipush E147_32.1 (k_ E147_32) (s_scall1 E147_34.1 (k_ E147_34) rfl rfl rfl ((z2.2 c3).1 c4) (fun M8 r9 z5 => s_if_eq E147_37.1 (k_ E147_37) ⟨fun c6 => s_iconst E147_51.1 (k_ E147_51) (s_iret E147_52.1 (k_ E147_52) (z5.1 c6)), fun c6 => s_iload E147_40.1 (k_ E147_40) rfl (s_iconst E147_42.1 (k_ E147_42) (s_bipush E147_43.1 (k_ E147_43) (s_scall1 E147_45.1 (k_ E147_45) rfl rfl rfl (z5.2 c6) (fun M11 r12 z7 => s_if_ne E147_48.1 (k_ E147_48) ⟨fun c8 => s_aload_n E147_53.1 (k_ E147_53) rfl (s_getI0 E147_54.1 (k_ E147_54) rfl (s_bipush E147_57.1 (k_ E147_57) (s_icmp_ne E147_59.1 (k_ E147_59) ⟨fun c9 => s_aload_n E147_65.1 (k_ E147_65) rfl (s_iload_n E147_66.1 (k_ E147_66) rfl (s_iload_n E147_67.1 (k_ E147_67) rfl (s_iload_n E147_68.1 (k_ E147_68) rfl (s_if_ne E147_69.1 (k_ E147_69) ⟨fun c10 => s_iload_n E147_76.1 (k_ E147_76) rfl (s_iconst E147_77.1 (k_ E147_77) (s_iadd E147_78.1 (k_ E147_78) (s_vcall0 E147_79.1 (k_ E147_79) rfl rfl rfl (((z7.1 c8).1 c9).1 c10) (fun M14 z11 => z11)))), fun c10 => s_iconst E147_72.1 (k_ E147_72) (s_goto E147_73.1 (k_ E147_73) (s_vcall0 E147_79.1 (k_ E147_79) rfl rfl rfl (((z7.1 c8).1 c9).2 c10) (fun M16 z12 => z12)))⟩)))), fun c9 => s_bipush E147_62.1 (k_ E147_62) (s_iret E147_64.1 (k_ E147_64) ((z7.1 c8).2 c9))⟩))), fun c8 => s_iconst E147_51.1 (k_ E147_51) (s_iret E147_52.1 (k_ E147_52) (z7.2 c8))⟩))))⟩)))), fun c4 => s_iload_n E147_20.1 (k_ E147_20) rfl (s_iconst E147_21.1 (k_ E147_21) (s_iconst E147_22.1 (k_ E147_22) (s_scall1 E147_23.1 (k_ E147_23) rfl rfl rfl ((z2.2 c3).2 c4) (fun M18 r19 z13 => s_if_eq E147_26.1 (k_ E147_26) ⟨fun c14 => s_iconst E147_51.1 (k_ E147_51) (s_iret E147_52.1 (k_ E147_52) (z13.1 c14)), fun c14 => s_iload E147_29.1 (k_ E147_29) rfl (s_iconst E147_31.1 (k_ E147_31) (s_bipush E147_32.1 (k_ E147_32) (s_scall1 E147_34.1 (k_ E147_34) rfl rfl rfl (z13.2 c14) (fun M21 r22 z15 => s_if_eq E147_37.1 (k_ E147_37) ⟨fun c16 => s_iconst E147_51.1 (k_ E147_51) (s_iret E147_52.1 (k_ E147_52) (z15.1 c16)), fun c16 => s_iload E147_40.1 (k_ E147_40) rfl (s_iconst E147_42.1 (k_ E147_42) (s_bipush E147_43.1 (k_ E147_43) (s_scall1 E147_45.1 (k_ E147_45) rfl rfl rfl (z15.2 c16) (fun M24 r25 z17 => s_if_ne E147_48.1 (k_ E147_48) ⟨fun c18 => s_aload_n E147_53.1 (k_ E147_53) rfl (s_getI0 E147_54.1 (k_ E147_54) rfl (s_bipush E147_57.1 (k_ E147_57) (s_icmp_ne E147_59.1 (k_ E147_59) ⟨fun c19 => s_aload_n E147_65.1 (k_ E147_65) rfl (s_iload_n E147_66.1 (k_ E147_66) rfl (s_iload_n E147_67.1 (k_ E147_67) rfl (s_iload_n E147_68.1 (k_ E147_68) rfl (s_if_ne E147_69.1 (k_ E147_69) ⟨fun c20 => s_iload_n E147_76.1 (k_ E147_76) rfl (s_iconst E147_77.1 (k_ E147_77) (s_iadd E147_78.1 (k_ E147_78) (s_vcall0 E147_79.1 (k_ E147_79) rfl rfl rfl (((z17.1 c18).1 c19).1 c20) (fun M27 z21 => z21)))), fun c20 => s_iconst E147_72.1 (k_ E147_72) (s_goto E147_73.1 (k_ E147_73) (s_vcall0 E147_79.1 (k_ E147_79) rfl rfl rfl (((z17.1 c18).1 c19).2 c20) (fun M29 z22 => z22)))⟩)))), fun c19 => s_bipush E147_62.1 (k_ E147_62) (s_iret E147_64.1 (k_ E147_64) ((z17.1 c18).2 c19))⟩))), fun c18 => s_iconst E147_51.1 (k_ E147_51) (s_iret E147_52.1 (k_ E147_52) (z17.2 c18))⟩))))⟩))))⟩))))⟩)⟩))))⟩))
theorem g_X7_guess_82 {Q : bQ} {M : bM} {x1 : Int32} {x2 : Int32} {x3 : Int32} {x4 : Int32} {x5 : Int32} {o6 : Option bV} {o7 : Option bV} (h : bCall 123 [cR 26 0] (bU M 26 0 26 x4) (fun v1 M2 => bV0 v1 (bCall 146 [cR 26 0] M2 (fun v3 M4 => bV1 v3 fun r5 => ((vp_in r5 4) ∧ ((((M4 39 0 r5.toNatClampNeg) ≤ x5) → (bCall 126 [cR 26 0, cI r5] M4 (fun v6 M7 => bV0 v6 (bGo 147 Q 119 [some (cR 26 0), some (cI x1), some (cI x2), some (cI x3), some (cI x4), some (cI x5), some (cI r5), none] [] M7)))) ∧ (¬ ((M4 39 0 r5.toNatClampNeg) ≤ x5) → (Q (some (cI (-3 : Int32))) M4)))))))) : bGo 147 Q 82 [some (cR 26 0), some (cI x1), some (cI x2), some (cI x3), some (cI x4), some (cI x5), o6, o7] [] M := s_aload_n E147_82 rfl rfl (s_iload E147_83.1 (k_ E147_83) rfl (s_putI E147_85.1 (k_ E147_85) rfl (s_aload_n E147_88.1 (k_ E147_88) rfl (s_vcall0 E147_89.1 (k_ E147_89) rfl rfl rfl h (fun M2 z23 => s_aload_n E147_92.1 (k_ E147_92) rfl (s_vcall1 E147_93.1 (k_ E147_93) rfl rfl rfl z23 (fun M4 r5 z24 => s_istore E147_96.1 (k_ E147_96) (s_aload_n E147_98.1 (k_ E147_98) rfl (s_getR E147_99.1 (k_ E147_99) rfl rfl (s_iload E147_102.1 (k_ E147_102) rfl (s_iaload E147_104.1 (k_ E147_104) rfl ⟨z24.1, s_iload E147_105.1 (k_ E147_105) rfl (s_icmp_le E147_107.1 (k_ E147_107) ⟨fun c25 => s_aload_n E147_113.1 (k_ E147_113) rfl (s_iload E147_114.1 (k_ E147_114) rfl (s_vcall0 E147_116.1 (k_ E147_116) rfl rfl rfl (z24.2.1 c25) (fun M7 z26 => z26))), fun c25 => s_bipush E147_110.1 (k_ E147_110) (s_iret E147_112.1 (k_ E147_112) (z24.2.2 c25))⟩)⟩)))))))))))
theorem g_X7_guess_119 {Q : bQ} {M : bM} {x1 : Int32} {x2 : Int32} {x3 : Int32} {x4 : Int32} {x5 : Int32} {x6 : Int32} {o7 : Option bV} (h : (vp_in (M 26 0 38) 8) ∧ ((vp_in ((bU M 46 0 (M 26 0 38).toNatClampNeg (M 26 0 39)) 26 0 38) 8) ∧ ((vp_in ((bU (bU M 46 0 (M 26 0 38).toNatClampNeg (M 26 0 39)) 47 0 ((bU M 46 0 (M 26 0 38).toNatClampNeg (M 26 0 39)) 26 0 38).toNatClampNeg x2) 26 0 38) 8) ∧ ((vp_in ((bU (bU (bU M 46 0 (M 26 0 38).toNatClampNeg (M 26 0 39)) 47 0 ((bU M 46 0 (M 26 0 38).toNatClampNeg (M 26 0 39)) 26 0 38).toNatClampNeg x2) 48 0 ((bU (bU M 46 0 (M 26 0 38).toNatClampNeg (M 26 0 39)) 47 0 ((bU M 46 0 (M 26 0 38).toNatClampNeg (M 26 0 39)) 26 0 38).toNatClampNeg x2) 26 0 38).toNatClampNeg ((bU (bU M 46 0 (M 26 0 38).toNatClampNeg (M 26 0 39)) 47 0 ((bU M 46 0 (M 26 0 38).toNatClampNeg (M 26 0 39)) 26 0 38).toNatClampNeg x2) 26 0 25)) 26 0 38) 8) ∧ ((vp_in x6 4) ∧ ((vp_in ((bU (bU (bU (bU M 46 0 (M 26 0 38).toNatClampNeg (M 26 0 39)) 47 0 ((bU M 46 0 (M 26 0 38).toNatClampNeg (M 26 0 39)) 26 0 38).toNatClampNeg x2) 48 0 ((bU (bU M 46 0 (M 26 0 38).toNatClampNeg (M 26 0 39)) 47 0 ((bU M 46 0 (M 26 0 38).toNatClampNeg (M 26 0 39)) 26 0 38).toNatClampNeg x2) 26 0 38).toNatClampNeg ((bU (bU M 46 0 (M 26 0 38).toNatClampNeg (M 26 0 39)) 47 0 ((bU M 46 0 (M 26 0 38).toNatClampNeg (M 26 0 39)) 26 0 38).toNatClampNeg x2) 26 0 25)) 49 0 ((bU (bU (bU M 46 0 (M 26 0 38).toNatClampNeg (M 26 0 39)) 47 0 ((bU M 46 0 (M 26 0 38).toNatClampNeg (M 26 0 39)) 26 0 38).toNatClampNeg x2) 48 0 ((bU (bU M 46 0 (M 26 0 38).toNatClampNeg (M 26 0 39)) 47 0 ((bU M 46 0 (M 26 0 38).toNatClampNeg (M 26 0 39)) 26 0 38).toNatClampNeg x2) 26 0 38).toNatClampNeg ((bU (bU M 46 0 (M 26 0 38).toNatClampNeg (M 26 0 39)) 47 0 ((bU M 46 0 (M 26 0 38).toNatClampNeg (M 26 0 39)) 26 0 38).toNatClampNeg x2) 26 0 25)) 26 0 38).toNatClampNeg x4) 26 0 38) 8) ∧ (bCall 133 [cR 27 0, cI (0 : Int32)] (bU (bU (bU (bU (bU M 46 0 (M 26 0 38).toNatClampNeg (M 26 0 39)) 47 0 ((bU M 46 0 (M 26 0 38).toNatClampNeg (M 26 0 39)) 26 0 38).toNatClampNeg x2) 48 0 ((bU (bU M 46 0 (M 26 0 38).toNatClampNeg (M 26 0 39)) 47 0 ((bU M 46 0 (M 26 0 38).toNatClampNeg (M 26 0 39)) 26 0 38).toNatClampNeg x2) 26 0 38).toNatClampNeg ((bU (bU M 46 0 (M 26 0 38).toNatClampNeg (M 26 0 39)) 47 0 ((bU M 46 0 (M 26 0 38).toNatClampNeg (M 26 0 39)) 26 0 38).toNatClampNeg x2) 26 0 25)) 49 0 ((bU (bU (bU M 46 0 (M 26 0 38).toNatClampNeg (M 26 0 39)) 47 0 ((bU M 46 0 (M 26 0 38).toNatClampNeg (M 26 0 39)) 26 0 38).toNatClampNeg x2) 48 0 ((bU (bU M 46 0 (M 26 0 38).toNatClampNeg (M 26 0 39)) 47 0 ((bU M 46 0 (M 26 0 38).toNatClampNeg (M 26 0 39)) 26 0 38).toNatClampNeg x2) 26 0 38).toNatClampNeg ((bU (bU M 46 0 (M 26 0 38).toNatClampNeg (M 26 0 39)) 47 0 ((bU M 46 0 (M 26 0 38).toNatClampNeg (M 26 0 39)) 26 0 38).toNatClampNeg x2) 26 0 25)) 26 0 38).toNatClampNeg x4) 50 0 ((bU (bU (bU (bU M 46 0 (M 26 0 38).toNatClampNeg (M 26 0 39)) 47 0 ((bU M 46 0 (M 26 0 38).toNatClampNeg (M 26 0 39)) 26 0 38).toNatClampNeg x2) 48 0 ((bU (bU M 46 0 (M 26 0 38).toNatClampNeg (M 26 0 39)) 47 0 ((bU M 46 0 (M 26 0 38).toNatClampNeg (M 26 0 39)) 26 0 38).toNatClampNeg x2) 26 0 38).toNatClampNeg ((bU (bU M 46 0 (M 26 0 38).toNatClampNeg (M 26 0 39)) 47 0 ((bU M 46 0 (M 26 0 38).toNatClampNeg (M 26 0 39)) 26 0 38).toNatClampNeg x2) 26 0 25)) 49 0 ((bU (bU (bU M 46 0 (M 26 0 38).toNatClampNeg (M 26 0 39)) 47 0 ((bU M 46 0 (M 26 0 38).toNatClampNeg (M 26 0 39)) 26 0 38).toNatClampNeg x2) 48 0 ((bU (bU M 46 0 (M 26 0 38).toNatClampNeg (M 26 0 39)) 47 0 ((bU M 46 0 (M 26 0 38).toNatClampNeg (M 26 0 39)) 26 0 38).toNatClampNeg x2) 26 0 38).toNatClampNeg ((bU (bU M 46 0 (M 26 0 38).toNatClampNeg (M 26 0 39)) 47 0 ((bU M 46 0 (M 26 0 38).toNatClampNeg (M 26 0 39)) 26 0 38).toNatClampNeg x2) 26 0 25)) 26 0 38).toNatClampNeg x4) 26 0 38).toNatClampNeg ((bU (bU (bU (bU M 46 0 (M 26 0 38).toNatClampNeg (M 26 0 39)) 47 0 ((bU M 46 0 (M 26 0 38).toNatClampNeg (M 26 0 39)) 26 0 38).toNatClampNeg x2) 48 0 ((bU (bU M 46 0 (M 26 0 38).toNatClampNeg (M 26 0 39)) 47 0 ((bU M 46 0 (M 26 0 38).toNatClampNeg (M 26 0 39)) 26 0 38).toNatClampNeg x2) 26 0 38).toNatClampNeg ((bU (bU M 46 0 (M 26 0 38).toNatClampNeg (M 26 0 39)) 47 0 ((bU M 46 0 (M 26 0 38).toNatClampNeg (M 26 0 39)) 26 0 38).toNatClampNeg x2) 26 0 25)) 49 0 ((bU (bU (bU M 46 0 (M 26 0 38).toNatClampNeg (M 26 0 39)) 47 0 ((bU M 46 0 (M 26 0 38).toNatClampNeg (M 26 0 39)) 26 0 38).toNatClampNeg x2) 48 0 ((bU (bU M 46 0 (M 26 0 38).toNatClampNeg (M 26 0 39)) 47 0 ((bU M 46 0 (M 26 0 38).toNatClampNeg (M 26 0 39)) 26 0 38).toNatClampNeg x2) 26 0 38).toNatClampNeg ((bU (bU M 46 0 (M 26 0 38).toNatClampNeg (M 26 0 39)) 47 0 ((bU M 46 0 (M 26 0 38).toNatClampNeg (M 26 0 39)) 26 0 38).toNatClampNeg x2) 26 0 25)) 26 0 38).toNatClampNeg x4) 39 0 x6.toNatClampNeg)) (fun v1 M2 => bV1 v1 fun r3 => ((vp_in ((bU (bU (bU (bU (bU M 46 0 (M 26 0 38).toNatClampNeg (M 26 0 39)) 47 0 ((bU M 46 0 (M 26 0 38).toNatClampNeg (M 26 0 39)) 26 0 38).toNatClampNeg x2) 48 0 ((bU (bU M 46 0 (M 26 0 38).toNatClampNeg (M 26 0 39)) 47 0 ((bU M 46 0 (M 26 0 38).toNatClampNeg (M 26 0 39)) 26 0 38).toNatClampNeg x2) 26 0 38).toNatClampNeg ((bU (bU M 46 0 (M 26 0 38).toNatClampNeg (M 26 0 39)) 47 0 ((bU M 46 0 (M 26 0 38).toNatClampNeg (M 26 0 39)) 26 0 38).toNatClampNeg x2) 26 0 25)) 49 0 ((bU (bU (bU M 46 0 (M 26 0 38).toNatClampNeg (M 26 0 39)) 47 0 ((bU M 46 0 (M 26 0 38).toNatClampNeg (M 26 0 39)) 26 0 38).toNatClampNeg x2) 48 0 ((bU (bU M 46 0 (M 26 0 38).toNatClampNeg (M 26 0 39)) 47 0 ((bU M 46 0 (M 26 0 38).toNatClampNeg (M 26 0 39)) 26 0 38).toNatClampNeg x2) 26 0 38).toNatClampNeg ((bU (bU M 46 0 (M 26 0 38).toNatClampNeg (M 26 0 39)) 47 0 ((bU M 46 0 (M 26 0 38).toNatClampNeg (M 26 0 39)) 26 0 38).toNatClampNeg x2) 26 0 25)) 26 0 38).toNatClampNeg x4) 50 0 ((bU (bU (bU (bU M 46 0 (M 26 0 38).toNatClampNeg (M 26 0 39)) 47 0 ((bU M 46 0 (M 26 0 38).toNatClampNeg (M 26 0 39)) 26 0 38).toNatClampNeg x2) 48 0 ((bU (bU M 46 0 (M 26 0 38).toNatClampNeg (M 26 0 39)) 47 0 ((bU M 46 0 (M 26 0 38).toNatClampNeg (M 26 0 39)) 26 0 38).toNatClampNeg x2) 26 0 38).toNatClampNeg ((bU (bU M 46 0 (M 26 0 38).toNatClampNeg (M 26 0 39)) 47 0 ((bU M 46 0 (M 26 0 38).toNatClampNeg (M 26 0 39)) 26 0 38).toNatClampNeg x2) 26 0 25)) 49 0 ((bU (bU (bU M 46 0 (M 26 0 38).toNatClampNeg (M 26 0 39)) 47 0 ((bU M 46 0 (M 26 0 38).toNatClampNeg (M 26 0 39)) 26 0 38).toNatClampNeg x2) 48 0 ((bU (bU M 46 0 (M 26 0 38).toNatClampNeg (M 26 0 39)) 47 0 ((bU M 46 0 (M 26 0 38).toNatClampNeg (M 26 0 39)) 26 0 38).toNatClampNeg x2) 26 0 38).toNatClampNeg ((bU (bU M 46 0 (M 26 0 38).toNatClampNeg (M 26 0 39)) 47 0 ((bU M 46 0 (M 26 0 38).toNatClampNeg (M 26 0 39)) 26 0 38).toNatClampNeg x2) 26 0 25)) 26 0 38).toNatClampNeg x4) 26 0 38).toNatClampNeg ((bU (bU (bU (bU M 46 0 (M 26 0 38).toNatClampNeg (M 26 0 39)) 47 0 ((bU M 46 0 (M 26 0 38).toNatClampNeg (M 26 0 39)) 26 0 38).toNatClampNeg x2) 48 0 ((bU (bU M 46 0 (M 26 0 38).toNatClampNeg (M 26 0 39)) 47 0 ((bU M 46 0 (M 26 0 38).toNatClampNeg (M 26 0 39)) 26 0 38).toNatClampNeg x2) 26 0 38).toNatClampNeg ((bU (bU M 46 0 (M 26 0 38).toNatClampNeg (M 26 0 39)) 47 0 ((bU M 46 0 (M 26 0 38).toNatClampNeg (M 26 0 39)) 26 0 38).toNatClampNeg x2) 26 0 25)) 49 0 ((bU (bU (bU M 46 0 (M 26 0 38).toNatClampNeg (M 26 0 39)) 47 0 ((bU M 46 0 (M 26 0 38).toNatClampNeg (M 26 0 39)) 26 0 38).toNatClampNeg x2) 48 0 ((bU (bU M 46 0 (M 26 0 38).toNatClampNeg (M 26 0 39)) 47 0 ((bU M 46 0 (M 26 0 38).toNatClampNeg (M 26 0 39)) 26 0 38).toNatClampNeg x2) 26 0 38).toNatClampNeg ((bU (bU M 46 0 (M 26 0 38).toNatClampNeg (M 26 0 39)) 47 0 ((bU M 46 0 (M 26 0 38).toNatClampNeg (M 26 0 39)) 26 0 38).toNatClampNeg x2) 26 0 25)) 26 0 38).toNatClampNeg x4) 39 0 x6.toNatClampNeg)) 26 0 38) 8) ∧ ((vp_in ((bU M2 51 0 ((bU (bU (bU (bU (bU M 46 0 (M 26 0 38).toNatClampNeg (M 26 0 39)) 47 0 ((bU M 46 0 (M 26 0 38).toNatClampNeg (M 26 0 39)) 26 0 38).toNatClampNeg x2) 48 0 ((bU (bU M 46 0 (M 26 0 38).toNatClampNeg (M 26 0 39)) 47 0 ((bU M 46 0 (M 26 0 38).toNatClampNeg (M 26 0 39)) 26 0 38).toNatClampNeg x2) 26 0 38).toNatClampNeg ((bU (bU M 46 0 (M 26 0 38).toNatClampNeg (M 26 0 39)) 47 0 ((bU M 46 0 (M 26 0 38).toNatClampNeg (M 26 0 39)) 26 0 38).toNatClampNeg x2) 26 0 25)) 49 0 ((bU (bU (bU M 46 0 (M 26 0 38).toNatClampNeg (M 26 0 39)) 47 0 ((bU M 46 0 (M 26 0 38).toNatClampNeg (M 26 0 39)) 26 0 38).toNatClampNeg x2) 48 0 ((bU (bU M 46 0 (M 26 0 38).toNatClampNeg (M 26 0 39)) 47 0 ((bU M 46 0 (M 26 0 38).toNatClampNeg (M 26 0 39)) 26 0 38).toNatClampNeg x2) 26 0 38).toNatClampNeg ((bU (bU M 46 0 (M 26 0 38).toNatClampNeg (M 26 0 39)) 47 0 ((bU M 46 0 (M 26 0 38).toNatClampNeg (M 26 0 39)) 26 0 38).toNatClampNeg x2) 26 0 25)) 26 0 38).toNatClampNeg x4) 50 0 ((bU (bU (bU (bU M 46 0 (M 26 0 38).toNatClampNeg (M 26 0 39)) 47 0 ((bU M 46 0 (M 26 0 38).toNatClampNeg (M 26 0 39)) 26 0 38).toNatClampNeg x2) 48 0 ((bU (bU M 46 0 (M 26 0 38).toNatClampNeg (M 26 0 39)) 47 0 ((bU M 46 0 (M 26 0 38).toNatClampNeg (M 26 0 39)) 26 0 38).toNatClampNeg x2) 26 0 38).toNatClampNeg ((bU (bU M 46 0 (M 26 0 38).toNatClampNeg (M 26 0 39)) 47 0 ((bU M 46 0 (M 26 0 38).toNatClampNeg (M 26 0 39)) 26 0 38).toNatClampNeg x2) 26 0 25)) 49 0 ((bU (bU (bU M 46 0 (M 26 0 38).toNatClampNeg (M 26 0 39)) 47 0 ((bU M 46 0 (M 26 0 38).toNatClampNeg (M 26 0 39)) 26 0 38).toNatClampNeg x2) 48 0 ((bU (bU M 46 0 (M 26 0 38).toNatClampNeg (M 26 0 39)) 47 0 ((bU M 46 0 (M 26 0 38).toNatClampNeg (M 26 0 39)) 26 0 38).toNatClampNeg x2) 26 0 38).toNatClampNeg ((bU (bU M 46 0 (M 26 0 38).toNatClampNeg (M 26 0 39)) 47 0 ((bU M 46 0 (M 26 0 38).toNatClampNeg (M 26 0 39)) 26 0 38).toNatClampNeg x2) 26 0 25)) 26 0 38).toNatClampNeg x4) 26 0 38).toNatClampNeg ((bU (bU (bU (bU M 46 0 (M 26 0 38).toNatClampNeg (M 26 0 39)) 47 0 ((bU M 46 0 (M 26 0 38).toNatClampNeg (M 26 0 39)) 26 0 38).toNatClampNeg x2) 48 0 ((bU (bU M 46 0 (M 26 0 38).toNatClampNeg (M 26 0 39)) 47 0 ((bU M 46 0 (M 26 0 38).toNatClampNeg (M 26 0 39)) 26 0 38).toNatClampNeg x2) 26 0 38).toNatClampNeg ((bU (bU M 46 0 (M 26 0 38).toNatClampNeg (M 26 0 39)) 47 0 ((bU M 46 0 (M 26 0 38).toNatClampNeg (M 26 0 39)) 26 0 38).toNatClampNeg x2) 26 0 25)) 49 0 ((bU (bU (bU M 46 0 (M 26 0 38).toNatClampNeg (M 26 0 39)) 47 0 ((bU M 46 0 (M 26 0 38).toNatClampNeg (M 26 0 39)) 26 0 38).toNatClampNeg x2) 48 0 ((bU (bU M 46 0 (M 26 0 38).toNatClampNeg (M 26 0 39)) 47 0 ((bU M 46 0 (M 26 0 38).toNatClampNeg (M 26 0 39)) 26 0 38).toNatClampNeg x2) 26 0 38).toNatClampNeg ((bU (bU M 46 0 (M 26 0 38).toNatClampNeg (M 26 0 39)) 47 0 ((bU M 46 0 (M 26 0 38).toNatClampNeg (M 26 0 39)) 26 0 38).toNatClampNeg x2) 26 0 25)) 26 0 38).toNatClampNeg x4) 39 0 x6.toNatClampNeg)) 26 0 38).toNatClampNeg r3) 26 0 38) 8) ∧ bGo 147 Q 215 [some (cR 26 0), some (cI x1), some (cI x2), some (cI x3), some (cI x4), some (cI x5), some (cI x6), some (cI (0 : Int32))] [] (bU (bU M2 51 0 ((bU (bU (bU (bU (bU M 46 0 (M 26 0 38).toNatClampNeg (M 26 0 39)) 47 0 ((bU M 46 0 (M 26 0 38).toNatClampNeg (M 26 0 39)) 26 0 38).toNatClampNeg x2) 48 0 ((bU (bU M 46 0 (M 26 0 38).toNatClampNeg (M 26 0 39)) 47 0 ((bU M 46 0 (M 26 0 38).toNatClampNeg (M 26 0 39)) 26 0 38).toNatClampNeg x2) 26 0 38).toNatClampNeg ((bU (bU M 46 0 (M 26 0 38).toNatClampNeg (M 26 0 39)) 47 0 ((bU M 46 0 (M 26 0 38).toNatClampNeg (M 26 0 39)) 26 0 38).toNatClampNeg x2) 26 0 25)) 49 0 ((bU (bU (bU M 46 0 (M 26 0 38).toNatClampNeg (M 26 0 39)) 47 0 ((bU M 46 0 (M 26 0 38).toNatClampNeg (M 26 0 39)) 26 0 38).toNatClampNeg x2) 48 0 ((bU (bU M 46 0 (M 26 0 38).toNatClampNeg (M 26 0 39)) 47 0 ((bU M 46 0 (M 26 0 38).toNatClampNeg (M 26 0 39)) 26 0 38).toNatClampNeg x2) 26 0 38).toNatClampNeg ((bU (bU M 46 0 (M 26 0 38).toNatClampNeg (M 26 0 39)) 47 0 ((bU M 46 0 (M 26 0 38).toNatClampNeg (M 26 0 39)) 26 0 38).toNatClampNeg x2) 26 0 25)) 26 0 38).toNatClampNeg x4) 50 0 ((bU (bU (bU (bU M 46 0 (M 26 0 38).toNatClampNeg (M 26 0 39)) 47 0 ((bU M 46 0 (M 26 0 38).toNatClampNeg (M 26 0 39)) 26 0 38).toNatClampNeg x2) 48 0 ((bU (bU M 46 0 (M 26 0 38).toNatClampNeg (M 26 0 39)) 47 0 ((bU M 46 0 (M 26 0 38).toNatClampNeg (M 26 0 39)) 26 0 38).toNatClampNeg x2) 26 0 38).toNatClampNeg ((bU (bU M 46 0 (M 26 0 38).toNatClampNeg (M 26 0 39)) 47 0 ((bU M 46 0 (M 26 0 38).toNatClampNeg (M 26 0 39)) 26 0 38).toNatClampNeg x2) 26 0 25)) 49 0 ((bU (bU (bU M 46 0 (M 26 0 38).toNatClampNeg (M 26 0 39)) 47 0 ((bU M 46 0 (M 26 0 38).toNatClampNeg (M 26 0 39)) 26 0 38).toNatClampNeg x2) 48 0 ((bU (bU M 46 0 (M 26 0 38).toNatClampNeg (M 26 0 39)) 47 0 ((bU M 46 0 (M 26 0 38).toNatClampNeg (M 26 0 39)) 26 0 38).toNatClampNeg x2) 26 0 38).toNatClampNeg ((bU (bU M 46 0 (M 26 0 38).toNatClampNeg (M 26 0 39)) 47 0 ((bU M 46 0 (M 26 0 38).toNatClampNeg (M 26 0 39)) 26 0 38).toNatClampNeg x2) 26 0 25)) 26 0 38).toNatClampNeg x4) 26 0 38).toNatClampNeg ((bU (bU (bU (bU M 46 0 (M 26 0 38).toNatClampNeg (M 26 0 39)) 47 0 ((bU M 46 0 (M 26 0 38).toNatClampNeg (M 26 0 39)) 26 0 38).toNatClampNeg x2) 48 0 ((bU (bU M 46 0 (M 26 0 38).toNatClampNeg (M 26 0 39)) 47 0 ((bU M 46 0 (M 26 0 38).toNatClampNeg (M 26 0 39)) 26 0 38).toNatClampNeg x2) 26 0 38).toNatClampNeg ((bU (bU M 46 0 (M 26 0 38).toNatClampNeg (M 26 0 39)) 47 0 ((bU M 46 0 (M 26 0 38).toNatClampNeg (M 26 0 39)) 26 0 38).toNatClampNeg x2) 26 0 25)) 49 0 ((bU (bU (bU M 46 0 (M 26 0 38).toNatClampNeg (M 26 0 39)) 47 0 ((bU M 46 0 (M 26 0 38).toNatClampNeg (M 26 0 39)) 26 0 38).toNatClampNeg x2) 48 0 ((bU (bU M 46 0 (M 26 0 38).toNatClampNeg (M 26 0 39)) 47 0 ((bU M 46 0 (M 26 0 38).toNatClampNeg (M 26 0 39)) 26 0 38).toNatClampNeg x2) 26 0 38).toNatClampNeg ((bU (bU M 46 0 (M 26 0 38).toNatClampNeg (M 26 0 39)) 47 0 ((bU M 46 0 (M 26 0 38).toNatClampNeg (M 26 0 39)) 26 0 38).toNatClampNeg x2) 26 0 25)) 26 0 38).toNatClampNeg x4) 39 0 x6.toNatClampNeg)) 26 0 38).toNatClampNeg r3) 52 0 ((bU M2 51 0 ((bU (bU (bU (bU (bU M 46 0 (M 26 0 38).toNatClampNeg (M 26 0 39)) 47 0 ((bU M 46 0 (M 26 0 38).toNatClampNeg (M 26 0 39)) 26 0 38).toNatClampNeg x2) 48 0 ((bU (bU M 46 0 (M 26 0 38).toNatClampNeg (M 26 0 39)) 47 0 ((bU M 46 0 (M 26 0 38).toNatClampNeg (M 26 0 39)) 26 0 38).toNatClampNeg x2) 26 0 38).toNatClampNeg ((bU (bU M 46 0 (M 26 0 38).toNatClampNeg (M 26 0 39)) 47 0 ((bU M 46 0 (M 26 0 38).toNatClampNeg (M 26 0 39)) 26 0 38).toNatClampNeg x2) 26 0 25)) 49 0 ((bU (bU (bU M 46 0 (M 26 0 38).toNatClampNeg (M 26 0 39)) 47 0 ((bU M 46 0 (M 26 0 38).toNatClampNeg (M 26 0 39)) 26 0 38).toNatClampNeg x2) 48 0 ((bU (bU M 46 0 (M 26 0 38).toNatClampNeg (M 26 0 39)) 47 0 ((bU M 46 0 (M 26 0 38).toNatClampNeg (M 26 0 39)) 26 0 38).toNatClampNeg x2) 26 0 38).toNatClampNeg ((bU (bU M 46 0 (M 26 0 38).toNatClampNeg (M 26 0 39)) 47 0 ((bU M 46 0 (M 26 0 38).toNatClampNeg (M 26 0 39)) 26 0 38).toNatClampNeg x2) 26 0 25)) 26 0 38).toNatClampNeg x4) 50 0 ((bU (bU (bU (bU M 46 0 (M 26 0 38).toNatClampNeg (M 26 0 39)) 47 0 ((bU M 46 0 (M 26 0 38).toNatClampNeg (M 26 0 39)) 26 0 38).toNatClampNeg x2) 48 0 ((bU (bU M 46 0 (M 26 0 38).toNatClampNeg (M 26 0 39)) 47 0 ((bU M 46 0 (M 26 0 38).toNatClampNeg (M 26 0 39)) 26 0 38).toNatClampNeg x2) 26 0 38).toNatClampNeg ((bU (bU M 46 0 (M 26 0 38).toNatClampNeg (M 26 0 39)) 47 0 ((bU M 46 0 (M 26 0 38).toNatClampNeg (M 26 0 39)) 26 0 38).toNatClampNeg x2) 26 0 25)) 49 0 ((bU (bU (bU M 46 0 (M 26 0 38).toNatClampNeg (M 26 0 39)) 47 0 ((bU M 46 0 (M 26 0 38).toNatClampNeg (M 26 0 39)) 26 0 38).toNatClampNeg x2) 48 0 ((bU (bU M 46 0 (M 26 0 38).toNatClampNeg (M 26 0 39)) 47 0 ((bU M 46 0 (M 26 0 38).toNatClampNeg (M 26 0 39)) 26 0 38).toNatClampNeg x2) 26 0 38).toNatClampNeg ((bU (bU M 46 0 (M 26 0 38).toNatClampNeg (M 26 0 39)) 47 0 ((bU M 46 0 (M 26 0 38).toNatClampNeg (M 26 0 39)) 26 0 38).toNatClampNeg x2) 26 0 25)) 26 0 38).toNatClampNeg x4) 26 0 38).toNatClampNeg ((bU (bU (bU (bU M 46 0 (M 26 0 38).toNatClampNeg (M 26 0 39)) 47 0 ((bU M 46 0 (M 26 0 38).toNatClampNeg (M 26 0 39)) 26 0 38).toNatClampNeg x2) 48 0 ((bU (bU M 46 0 (M 26 0 38).toNatClampNeg (M 26 0 39)) 47 0 ((bU M 46 0 (M 26 0 38).toNatClampNeg (M 26 0 39)) 26 0 38).toNatClampNeg x2) 26 0 38).toNatClampNeg ((bU (bU M 46 0 (M 26 0 38).toNatClampNeg (M 26 0 39)) 47 0 ((bU M 46 0 (M 26 0 38).toNatClampNeg (M 26 0 39)) 26 0 38).toNatClampNeg x2) 26 0 25)) 49 0 ((bU (bU (bU M 46 0 (M 26 0 38).toNatClampNeg (M 26 0 39)) 47 0 ((bU M 46 0 (M 26 0 38).toNatClampNeg (M 26 0 39)) 26 0 38).toNatClampNeg x2) 48 0 ((bU (bU M 46 0 (M 26 0 38).toNatClampNeg (M 26 0 39)) 47 0 ((bU M 46 0 (M 26 0 38).toNatClampNeg (M 26 0 39)) 26 0 38).toNatClampNeg x2) 26 0 38).toNatClampNeg ((bU (bU M 46 0 (M 26 0 38).toNatClampNeg (M 26 0 39)) 47 0 ((bU M 46 0 (M 26 0 38).toNatClampNeg (M 26 0 39)) 26 0 38).toNatClampNeg x2) 26 0 25)) 26 0 38).toNatClampNeg x4) 39 0 x6.toNatClampNeg)) 26 0 38).toNatClampNeg r3) 26 0 38).toNatClampNeg ((bU M2 51 0 ((bU (bU (bU (bU (bU M 46 0 (M 26 0 38).toNatClampNeg (M 26 0 39)) 47 0 ((bU M 46 0 (M 26 0 38).toNatClampNeg (M 26 0 39)) 26 0 38).toNatClampNeg x2) 48 0 ((bU (bU M 46 0 (M 26 0 38).toNatClampNeg (M 26 0 39)) 47 0 ((bU M 46 0 (M 26 0 38).toNatClampNeg (M 26 0 39)) 26 0 38).toNatClampNeg x2) 26 0 38).toNatClampNeg ((bU (bU M 46 0 (M 26 0 38).toNatClampNeg (M 26 0 39)) 47 0 ((bU M 46 0 (M 26 0 38).toNatClampNeg (M 26 0 39)) 26 0 38).toNatClampNeg x2) 26 0 25)) 49 0 ((bU (bU (bU M 46 0 (M 26 0 38).toNatClampNeg (M 26 0 39)) 47 0 ((bU M 46 0 (M 26 0 38).toNatClampNeg (M 26 0 39)) 26 0 38).toNatClampNeg x2) 48 0 ((bU (bU M 46 0 (M 26 0 38).toNatClampNeg (M 26 0 39)) 47 0 ((bU M 46 0 (M 26 0 38).toNatClampNeg (M 26 0 39)) 26 0 38).toNatClampNeg x2) 26 0 38).toNatClampNeg ((bU (bU M 46 0 (M 26 0 38).toNatClampNeg (M 26 0 39)) 47 0 ((bU M 46 0 (M 26 0 38).toNatClampNeg (M 26 0 39)) 26 0 38).toNatClampNeg x2) 26 0 25)) 26 0 38).toNatClampNeg x4) 50 0 ((bU (bU (bU (bU M 46 0 (M 26 0 38).toNatClampNeg (M 26 0 39)) 47 0 ((bU M 46 0 (M 26 0 38).toNatClampNeg (M 26 0 39)) 26 0 38).toNatClampNeg x2) 48 0 ((bU (bU M 46 0 (M 26 0 38).toNatClampNeg (M 26 0 39)) 47 0 ((bU M 46 0 (M 26 0 38).toNatClampNeg (M 26 0 39)) 26 0 38).toNatClampNeg x2) 26 0 38).toNatClampNeg ((bU (bU M 46 0 (M 26 0 38).toNatClampNeg (M 26 0 39)) 47 0 ((bU M 46 0 (M 26 0 38).toNatClampNeg (M 26 0 39)) 26 0 38).toNatClampNeg x2) 26 0 25)) 49 0 ((bU (bU (bU M 46 0 (M 26 0 38).toNatClampNeg (M 26 0 39)) 47 0 ((bU M 46 0 (M 26 0 38).toNatClampNeg (M 26 0 39)) 26 0 38).toNatClampNeg x2) 48 0 ((bU (bU M 46 0 (M 26 0 38).toNatClampNeg (M 26 0 39)) 47 0 ((bU M 46 0 (M 26 0 38).toNatClampNeg (M 26 0 39)) 26 0 38).toNatClampNeg x2) 26 0 38).toNatClampNeg ((bU (bU M 46 0 (M 26 0 38).toNatClampNeg (M 26 0 39)) 47 0 ((bU M 46 0 (M 26 0 38).toNatClampNeg (M 26 0 39)) 26 0 38).toNatClampNeg x2) 26 0 25)) 26 0 38).toNatClampNeg x4) 26 0 38).toNatClampNeg ((bU (bU (bU (bU M 46 0 (M 26 0 38).toNatClampNeg (M 26 0 39)) 47 0 ((bU M 46 0 (M 26 0 38).toNatClampNeg (M 26 0 39)) 26 0 38).toNatClampNeg x2) 48 0 ((bU (bU M 46 0 (M 26 0 38).toNatClampNeg (M 26 0 39)) 47 0 ((bU M 46 0 (M 26 0 38).toNatClampNeg (M 26 0 39)) 26 0 38).toNatClampNeg x2) 26 0 38).toNatClampNeg ((bU (bU M 46 0 (M 26 0 38).toNatClampNeg (M 26 0 39)) 47 0 ((bU M 46 0 (M 26 0 38).toNatClampNeg (M 26 0 39)) 26 0 38).toNatClampNeg x2) 26 0 25)) 49 0 ((bU (bU (bU M 46 0 (M 26 0 38).toNatClampNeg (M 26 0 39)) 47 0 ((bU M 46 0 (M 26 0 38).toNatClampNeg (M 26 0 39)) 26 0 38).toNatClampNeg x2) 48 0 ((bU (bU M 46 0 (M 26 0 38).toNatClampNeg (M 26 0 39)) 47 0 ((bU M 46 0 (M 26 0 38).toNatClampNeg (M 26 0 39)) 26 0 38).toNatClampNeg x2) 26 0 38).toNatClampNeg ((bU (bU M 46 0 (M 26 0 38).toNatClampNeg (M 26 0 39)) 47 0 ((bU M 46 0 (M 26 0 38).toNatClampNeg (M 26 0 39)) 26 0 38).toNatClampNeg x2) 26 0 25)) 26 0 38).toNatClampNeg x4) 39 0 x6.toNatClampNeg)) 26 0 38).toNatClampNeg r3) 26 0 0)))))))))))) : bGo 147 Q 119 [some (cR 26 0), some (cI x1), some (cI x2), some (cI x3), some (cI x4), some (cI x5), some (cI x6), o7] [] M := s_aload_n E147_119 rfl rfl (s_getR E147_120.1 (k_ E147_120) rfl rfl (s_aload_n E147_123.1 (k_ E147_123) rfl (s_getI0 E147_124.1 (k_ E147_124) rfl (s_aload_n E147_127.1 (k_ E147_127) rfl (s_getI0 E147_128.1 (k_ E147_128) rfl (s_iastore E147_131.1 (k_ E147_131) rfl ⟨h.1, s_aload_n E147_132.1 (k_ E147_132) rfl (s_getR E147_133.1 (k_ E147_133) rfl rfl (s_aload_n E147_136.1 (k_ E147_136) rfl (s_getI0 E147_137.1 (k_ E147_137) rfl (s_iload_n E147_140.1 (k_ E147_140) rfl (s_iastore E147_141.1 (k_ E147_141) rfl ⟨h.2.1, s_aload_n E147_142.1 (k_ E147_142) rfl (s_getR E147_143.1 (k_ E147_143) rfl rfl (s_aload_n E147_146.1 (k_ E147_146) rfl (s_getI0 E147_147.1 (k_ E147_147) rfl (s_aload_n E147_150.1 (k_ E147_150) rfl (s_getI0 E147_151.1 (k_ E147_151) rfl (s_iastore E147_154.1 (k_ E147_154) rfl ⟨h.2.2.1, s_aload_n E147_155.1 (k_ E147_155) rfl (s_getR E147_156.1 (k_ E147_156) rfl rfl (s_aload_n E147_159.1 (k_ E147_159) rfl (s_getI0 E147_160.1 (k_ E147_160) rfl (s_iload E147_163.1 (k_ E147_163) rfl (s_iastore E147_165.1 (k_ E147_165) rfl ⟨h.2.2.2.1, s_aload_n E147_166.1 (k_ E147_166) rfl (s_getR E147_167.1 (k_ E147_167) rfl rfl (s_aload_n E147_170.1 (k_ E147_170) rfl (s_getI0 E147_171.1 (k_ E147_171) rfl (s_aload_n E147_174.1 (k_ E147_174) rfl (s_getR E147_175.1 (k_ E147_175) rfl rfl (s_iload E147_178.1 (k_ E147_178) rfl (s_iaload E147_180.1 (k_ E147_180) rfl ⟨h.2.2.2.2.1, s_iastore E147_181.1 (k_ E147_181) rfl ⟨h.2.2.2.2.2.1, s_aload_n E147_182.1 (k_ E147_182) rfl (s_getR E147_183.1 (k_ E147_183) rfl rfl (s_aload_n E147_186.1 (k_ E147_186) rfl (s_getI0 E147_187.1 (k_ E147_187) rfl (s_aload_n E147_190.1 (k_ E147_190) rfl (s_getR E147_191.1 (k_ E147_191) rfl rfl (s_iconst E147_194.1 (k_ E147_194) (s_scall1 E147_195.1 (k_ E147_195) rfl rfl rfl h.2.2.2.2.2.2 (fun M2 r3 z27 => s_iastore E147_198.1 (k_ E147_198) rfl ⟨z27.1, s_aload_n E147_199.1 (k_ E147_199) rfl (s_getR E147_200.1 (k_ E147_200) rfl rfl (s_aload_n E147_203.1 (k_ E147_203) rfl (s_getI0 E147_204.1 (k_ E147_204) rfl (s_aload_n E147_207.1 (k_ E147_207) rfl (s_getI0 E147_208.1 (k_ E147_208) rfl (s_iastore E147_211.1 (k_ E147_211) rfl ⟨z27.2.1, s_iconst E147_212.1 (k_ E147_212) (s_istore E147_213.1 (k_ E147_213) (z27.2.2))⟩))))))⟩))))))))⟩⟩)))))))⟩)))))⟩))))))⟩)))))⟩))))))
theorem g_X7_guess_215 {Q : bQ} {M : bM} {x1 : Int32} {x2 : Int32} {x3 : Int32} {x4 : Int32} {x5 : Int32} {x6 : Int32} {x7 : Int32} (h : (((132 : Int32) ≤ x7) → (Q (some (cI (((bU (bU M 26 0 38 ((M 26 0 38) + (1 : Int32))) 26 0 39 (((bU M 26 0 38 ((M 26 0 38) + (1 : Int32))) 26 0 39) + (1 : Int32))) 26 0 39) - (1 : Int32)))) (bU (bU M 26 0 38 ((M 26 0 38) + (1 : Int32))) 26 0 39 (((bU M 26 0 38 ((M 26 0 38) + (1 : Int32))) 26 0 39) + (1 : Int32))))) ∧ (¬ ((132 : Int32) ≤ x7) → ((vp_in (((132 : Int32) * x6) + x7) 528) ∧ ((vp_in (((132 : Int32) * (M 26 0 38)) + x7) 1056) ∧ bGo 147 Q 215 [some (cR 26 0), some (cI x1), some (cI x2), some (cI x3), some (cI x4), some (cI x5), some (cI x6), some (cI (x7 + (1 : Int32)))] [] (bU M 53 0 (((132 : Int32) * (M 26 0 38)) + x7).toNatClampNeg (M 38 0 (((132 : Int32) * x6) + x7).toNatClampNeg)))))) : bGo 147 Q 215 [some (cR 26 0), some (cI x1), some (cI x2), some (cI x3), some (cI x4), some (cI x5), some (cI x6), some (cI x7)] [] M := s_iload E147_215.1 (k_ E147_215) rfl (s_sipush E147_217.1 (k_ E147_217) (s_icmp_ge E147_220.1 (k_ E147_220) ⟨fun c28 => s_aload_n E147_259.1 (k_ E147_259) rfl (s_dupR E147_260.1 (k_ E147_260) (s_getI0 E147_261.1 (k_ E147_261) rfl (s_iconst E147_264.1 (k_ E147_264) (s_iadd E147_265.1 (k_ E147_265) (s_putI E147_266.1 (k_ E147_266) rfl (s_aload_n E147_269.1 (k_ E147_269) rfl (s_dupR E147_270.1 (k_ E147_270) (s_getI0 E147_271.1 (k_ E147_271) rfl (s_iconst E147_274.1 (k_ E147_274) (s_iadd E147_275.1 (k_ E147_275) (s_putI E147_276.1 (k_ E147_276) rfl (s_aload_n E147_279.1 (k_ E147_279) rfl (s_getI0 E147_280.1 (k_ E147_280) rfl (s_iconst E147_283.1 (k_ E147_283) (s_isub E147_284.1 (k_ E147_284) (s_iret E147_285.1 (k_ E147_285) (h.1 c28))))))))))))))))), fun c28 => s_aload_n E147_223.1 (k_ E147_223) rfl (s_getR E147_224.1 (k_ E147_224) rfl rfl (s_sipush E147_227.1 (k_ E147_227) (s_aload_n E147_230.1 (k_ E147_230) rfl (s_getI0 E147_231.1 (k_ E147_231) rfl (s_imul E147_234.1 (k_ E147_234) (s_iload E147_235.1 (k_ E147_235) rfl (s_iadd E147_237.1 (k_ E147_237) (s_aload_n E147_238.1 (k_ E147_238) rfl (s_getR E147_239.1 (k_ E147_239) rfl rfl (s_sipush E147_242.1 (k_ E147_242) (s_iload E147_245.1 (k_ E147_245) rfl (s_imul E147_247.1 (k_ E147_247) (s_iload E147_248.1 (k_ E147_248) rfl (s_iadd E147_250.1 (k_ E147_250) (s_iaload E147_251.1 (k_ E147_251) rfl ⟨(h.2 c28).1, s_iastore E147_252.1 (k_ E147_252) rfl ⟨((h.2 c28).2).1, s_iinc E147_253.1 (k_ E147_253) rfl (s_goto E147_256.1 (k_ E147_256) (((h.2 c28).2).2))⟩⟩)))))))))))))))⟩))
-- 149: X7_inverse
theorem E149_0 : aCode 149 0 = (Instr.iload_n 1, 1, [], 0) ∧ bMask 149 0 = [] := ⟨rfl, rfl⟩
theorem E149_1 : aCode 149 1 = (Instr.invokestatic 134, 4, [105, 1, 1, 0, 0, 90], 0) ∧ bMask 149 1 = [] := ⟨rfl, rfl⟩
theorem E149_4 : aCode 149 4 = (Instr.ifCond .eq 10, 7, [14], 0) ∧ bMask 149 4 = [] := ⟨rfl, rfl⟩
theorem E149_7 : aCode 149 7 = (Instr.iload_n 2, 8, [], 0) ∧ bMask 149 7 = [] := ⟨rfl, rfl⟩
theorem E149_8 : aCode 149 8 = (Instr.invokestatic 134, 11, [105, 1, 1, 0, 0, 90], 0) ∧ bMask 149 8 = [] := ⟨rfl, rfl⟩
theorem E149_11 : aCode 149 11 = (Instr.ifCond .ne 5, 14, [16], 0) ∧ bMask 149 11 = [] := ⟨rfl, rfl⟩
theorem E149_14 : aCode 149 14 = (Instr.iconst (-1), 15, [], (-1)) ∧ bMask 149 14 = [] := ⟨rfl, rfl⟩
theorem E149_15 : aCode 149 15 = (Instr.ireturn, 16, [0], 0) ∧ bMask 149 15 = [] := ⟨rfl, rfl⟩
theorem E149_16 : aCode 149 16 = (Instr.aload_n 0, 17, [], 0) ∧ bMask 149 16 = [] := ⟨rfl, rfl⟩
theorem E149_17 : aCode 149 17 = (Instr.getfield 13, 20, [69, 7, 1, 2], 0) ∧ bMask 149 17 = [] := ⟨rfl, rfl⟩
theorem E149_20 : aCode 149 20 = (Instr.bipush 32, 22, [], 32) ∧ bMask 149 20 = [] := ⟨rfl, rfl⟩
theorem E149_22 : aCode 149 22 = (Instr.iload_n 1, 23, [], 0) ∧ bMask 149 22 = [] := ⟨rfl, rfl⟩
theorem E149_23 : aCode 149 23 = (Instr.imul, 24, [], 0) ∧ bMask 149 23 = [] := ⟨rfl, rfl⟩
theorem E149_24 : aCode 149 24 = (Instr.iaload, 25, [0], 0) ∧ bMask 149 24 = [] := ⟨rfl, rfl⟩
theorem E149_25 : aCode 149 25 = (Instr.ifCond .ne 6, 28, [31], 0) ∧ bMask 149 25 = [] := ⟨rfl, rfl⟩
theorem E149_28 : aCode 149 28 = (Instr.bipush (-2), 30, [], (-2)) ∧ bMask 149 28 = [] := ⟨rfl, rfl⟩
theorem E149_30 : aCode 149 30 = (Instr.ireturn, 31, [0], 0) ∧ bMask 149 30 = [] := ⟨rfl, rfl⟩
theorem E149_31 : aCode 149 31 = (Instr.aload_n 0, 32, [], 0) ∧ bMask 149 31 = [] := ⟨rfl, rfl⟩
theorem E149_32 : aCode 149 32 = (Instr.aload_n 0, 33, [], 0) ∧ bMask 149 32 = [] := ⟨rfl, rfl⟩
theorem E149_33 : aCode 149 33 = (Instr.getfield 20, 36, [110, 7, 4, 2], 0) ∧ bMask 149 33 = [] := ⟨rfl, rfl⟩
theorem E149_36 : aCode 149 36 = (Instr.iconst 1, 37, [], 1) ∧ bMask 149 36 = [] := ⟨rfl, rfl⟩
theorem E149_37 : aCode 149 37 = (Instr.invokevirtual 157, 40, [111, 3, 0, 7, 0, 95], 0) ∧ bMask 149 37 = [] := ⟨rfl, rfl⟩
theorem E149_40 : aCode 149 40 = (Instr.aload_n 0, 41, [], 0) ∧ bMask 149 40 = [] := ⟨rfl, rfl⟩
theorem E149_41 : aCode 149 41 = (Instr.iload_n 1, 42, [], 0) ∧ bMask 149 41 = [] := ⟨rfl, rfl⟩
theorem E149_42 : aCode 149 42 = (Instr.aload_n 0, 43, [], 0) ∧ bMask 149 42 = [] := ⟨rfl, rfl⟩
theorem E149_43 : aCode 149 43 = (Instr.getfield 23, 46, [117, 7, 5, 2], 0) ∧ bMask 149 43 = [] := ⟨rfl, rfl⟩
theorem E149_46 : aCode 149 46 = (Instr.invokevirtual 149, 49, [144, 3, 0, 7, 0, 118], 0) ∧ bMask 149 46 = [] := ⟨rfl, rfl⟩
theorem E149_49 : aCode 149 49 = (Instr.aload_n 0, 50, [], 0) ∧ bMask 149 49 = [] := ⟨rfl, rfl⟩
theorem E149_50 : aCode 149 50 = (Instr.aload_n 0, 51, [], 0) ∧ bMask 149 50 = [] := ⟨rfl, rfl⟩
theorem E149_51 : aCode 149 51 = (Instr.getfield 20, 54, [110, 7, 4, 2], 0) ∧ bMask 149 51 = [] := ⟨rfl, rfl⟩
theorem E149_54 : aCode 149 54 = (Instr.aload_n 0, 55, [], 0) ∧ bMask 149 54 = [] := ⟨rfl, rfl⟩
theorem E149_55 : aCode 149 55 = (Instr.getfield 23, 58, [117, 7, 5, 2], 0) ∧ bMask 149 55 = [] := ⟨rfl, rfl⟩
theorem E149_58 : aCode 149 58 = (Instr.invokevirtual 161, 61, [131, 3, 0, 7, 0, 110], 0) ∧ bMask 149 58 = [] := ⟨rfl, rfl⟩
theorem E149_61 : aCode 149 61 = (Instr.aload_n 0, 62, [], 0) ∧ bMask 149 61 = [] := ⟨rfl, rfl⟩
theorem E149_62 : aCode 149 62 = (Instr.aload_n 0, 63, [], 0) ∧ bMask 149 62 = [] := ⟨rfl, rfl⟩
theorem E149_63 : aCode 149 63 = (Instr.getfield 17, 66, [108, 7, 3, 2], 0) ∧ bMask 149 63 = [] := ⟨rfl, rfl⟩
theorem E149_66 : aCode 149 66 = (Instr.iload_n 2, 67, [], 0) ∧ bMask 149 66 = [] := ⟨rfl, rfl⟩
theorem E149_67 : aCode 149 67 = (Instr.invokevirtual 145, 70, [127, 3, 1, 7, 0, 108], 0) ∧ bMask 149 67 = [] := ⟨rfl, rfl⟩
theorem E149_70 : aCode 149 70 = (Instr.ireturn, 71, [0], 0) ∧ bMask 149 70 = [] := ⟨rfl, rfl⟩
theorem g_X7_inverse_0 {Q : bQ} {M : bM} {x1 : Int32} {x2 : Int32} (h : bCall 105 [cI x1] M (fun v1 M2 => bV1 v1 fun r3 => (((r3 = 0) → (Q (some (cI (-1 : Int32))) M2)) ∧ (¬ (r3 = 0) → (bCall 105 [cI x2] M2 (fun v4 M5 => bV1 v4 fun r6 => (((¬ r6 = 0) → ((vp_in ((32 : Int32) * x1) 192) ∧ (((¬ (M5 28 0 ((32 : Int32) * x1).toNatClampNeg) = 0) → (bCall 111 [cR 26 0, cR 27 1, cI (1 : Int32)] M5 (fun v7 M8 => bV0 v7 (bCall 144 [cR 26 0, cI x1, cR 27 2] M8 (fun v9 M10 => bV0 v9 (bCall 131 [cR 26 0, cR 27 1, cR 27 2] M10 (fun v11 M12 => bV0 v11 (bCall 127 [cR 26 0, cR 27 0, cI x2] M12 (fun v13 M14 => bV1 v13 fun r15 => (Q (some (cI r15)) M14)))))))))) ∧ (¬ (¬ (M5 28 0 ((32 : Int32) * x1).toNatClampNeg) = 0) → (Q (some (cI (-2 : Int32))) M5))))) ∧ (¬ (¬ r6 = 0) → (Q (some (cI (-1 : Int32))) M5))))))))) : bCall 149 [cR 26 0, cI x1, cI x2] M Q := s_iload_n E149_0.1 (k_ E149_0) rfl (s_scall1 E149_1.1 (k_ E149_1) rfl rfl rfl h (fun M2 r3 z0 => s_if_eq E149_4.1 (k_ E149_4) ⟨fun c1 => s_iconst E149_14.1 (k_ E149_14) (s_iret E149_15.1 (k_ E149_15) (z0.1 c1)), fun c1 => s_iload_n E149_7.1 (k_ E149_7) rfl (s_scall1 E149_8.1 (k_ E149_8) rfl rfl rfl (z0.2 c1) (fun M5 r6 z2 => s_if_ne E149_11.1 (k_ E149_11) ⟨fun c3 => s_aload_n E149_16.1 (k_ E149_16) rfl (s_getR E149_17.1 (k_ E149_17) rfl rfl (s_bipush E149_20.1 (k_ E149_20) (s_iload_n E149_22.1 (k_ E149_22) rfl (s_imul E149_23.1 (k_ E149_23) (s_iaload E149_24.1 (k_ E149_24) rfl ⟨(z2.1 c3).1, s_if_ne E149_25.1 (k_ E149_25) ⟨fun c4 => s_aload_n E149_31.1 (k_ E149_31) rfl (s_aload_n E149_32.1 (k_ E149_32) rfl (s_getR E149_33.1 (k_ E149_33) rfl rfl (s_iconst E149_36.1 (k_ E149_36) (s_vcall0 E149_37.1 (k_ E149_37) rfl rfl rfl (((z2.1 c3).2).1 c4) (fun M8 z5 => s_aload_n E149_40.1 (k_ E149_40) rfl (s_iload_n E149_41.1 (k_ E149_41) rfl (s_aload_n E149_42.1 (k_ E149_42) rfl (s_getR E149_43.1 (k_ E149_43) rfl rfl (s_vcall0 E149_46.1 (k_ E149_46) rfl rfl rfl z5 (fun M10 z6 => s_aload_n E149_49.1 (k_ E149_49) rfl (s_aload_n E149_50.1 (k_ E149_50) rfl (s_getR E149_51.1 (k_ E149_51) rfl rfl (s_aload_n E149_54.1 (k_ E149_54) rfl (s_getR E149_55.1 (k_ E149_55) rfl rfl (s_vcall0 E149_58.1 (k_ E149_58) rfl rfl rfl z6 (fun M12 z7 => s_aload_n E149_61.1 (k_ E149_61) rfl (s_aload_n E149_62.1 (k_ E149_62) rfl (s_getR E149_63.1 (k_ E149_63) rfl rfl (s_iload_n E149_66.1 (k_ E149_66) rfl (s_vcall1 E149_67.1 (k_ E149_67) rfl rfl rfl z7 (fun M14 r15 z8 => s_iret E149_70.1 (k_ E149_70) z8))))))))))))))))))))), fun c4 => s_bipush E149_28.1 (k_ E149_28) (s_iret E149_30.1 (k_ E149_30) (((z2.1 c3).2).2 c4))⟩⟩))))), fun c3 => s_iconst E149_14.1 (k_ E149_14) (s_iret E149_15.1 (k_ E149_15) (z2.2 c3))⟩))⟩))
-- 150: X7_keeps
theorem E150_0 : aCode 150 0 = (Instr.aload_n 0, 1, [], 0) ∧ bMask 150 0 = [] := ⟨rfl, rfl⟩
theorem E150_1 : aCode 150 1 = (Instr.getfield 114, 4, [116, 7, 50, 2], 0) ∧ bMask 150 1 = [] := ⟨rfl, rfl⟩
theorem E150_4 : aCode 150 4 = (Instr.bipush 40, 6, [], 40) ∧ bMask 150 4 = [] := ⟨rfl, rfl⟩
theorem E150_6 : aCode 150 6 = (Instr.iload_n 1, 7, [], 0) ∧ bMask 150 6 = [] := ⟨rfl, rfl⟩
theorem E150_7 : aCode 150 7 = (Instr.imul, 8, [], 0) ∧ bMask 150 7 = [] := ⟨rfl, rfl⟩
theorem E150_8 : aCode 150 8 = (Instr.iload_n 2, 9, [], 0) ∧ bMask 150 8 = [] := ⟨rfl, rfl⟩
theorem E150_9 : aCode 150 9 = (Instr.iadd, 10, [], 0) ∧ bMask 150 9 = [] := ⟨rfl, rfl⟩
theorem E150_10 : aCode 150 10 = (Instr.aload_n 0, 11, [], 0) ∧ bMask 150 10 = [] := ⟨rfl, rfl⟩
theorem E150_11 : aCode 150 11 = (Instr.getfield 111, 14, [119, 7, 49, 2], 0) ∧ bMask 150 11 = [] := ⟨rfl, rfl⟩
theorem E150_14 : aCode 150 14 = (Instr.iload_n 1, 15, [], 0) ∧ bMask 150 14 = [] := ⟨rfl, rfl⟩
theorem E150_15 : aCode 150 15 = (Instr.iaload, 16, [0], 0) ∧ bMask 150 15 = [] := ⟨rfl, rfl⟩
theorem E150_16 : aCode 150 16 = (Instr.ifCond .ne 8, 19, [24], 0) ∧ bMask 150 16 = [] := ⟨rfl, rfl⟩
theorem E150_19 : aCode 150 19 = (Instr.iload_n 3, 20, [], 0) ∧ bMask 150 19 = [] := ⟨rfl, rfl⟩
theorem E150_20 : aCode 150 20 = (Instr.i2b, 21, [], 0) ∧ bMask 150 20 = [] := ⟨rfl, rfl⟩
theorem E150_21 : aCode 150 21 = (Instr.goto 4, 25, [], 0) ∧ bMask 150 21 = [] := ⟨rfl, rfl⟩
theorem E150_24 : aCode 150 24 = (Instr.iload_n 3, 25, [], 0) ∧ bMask 150 24 = [] := ⟨rfl, rfl⟩
theorem E150_25 : aCode 150 25 = (Instr.iastore, 26, [0], 0) ∧ bMask 150 25 = [] := ⟨rfl, rfl⟩
theorem E150_26 : aCode 150 26 = (Instr.return_, 27, [], 0) ∧ bMask 150 26 = [] := ⟨rfl, rfl⟩
theorem g_X7_keeps_0 {Q : bQ} {M : bM} {x1 : Int32} {x2 : Int32} {x3 : Int32} (h : (vp_in x1 3) ∧ (((¬ (M 55 0 x1.toNatClampNeg) = 0) → ((vp_in (((40 : Int32) * x1) + x2) 120) ∧ (Q none (bU M 56 0 (((40 : Int32) * x1) + x2).toNatClampNeg x3)))) ∧ (¬ (¬ (M 55 0 x1.toNatClampNeg) = 0) → ((vp_in (((40 : Int32) * x1) + x2) 120) ∧ (Q none (bU M 56 0 (((40 : Int32) * x1) + x2).toNatClampNeg x3.toInt8.toInt32)))))) : bCall 150 [cR 26 0, cI x1, cI x2, cI x3] M Q := s_aload_n E150_0.1 (k_ E150_0) rfl (s_getR E150_1.1 (k_ E150_1) rfl rfl (s_bipush E150_4.1 (k_ E150_4) (s_iload_n E150_6.1 (k_ E150_6) rfl (s_imul E150_7.1 (k_ E150_7) (s_iload_n E150_8.1 (k_ E150_8) rfl (s_iadd E150_9.1 (k_ E150_9) (s_aload_n E150_10.1 (k_ E150_10) rfl (s_getR E150_11.1 (k_ E150_11) rfl rfl (s_iload_n E150_14.1 (k_ E150_14) rfl (s_iaload E150_15.1 (k_ E150_15) rfl ⟨h.1, s_if_ne E150_16.1 (k_ E150_16) ⟨fun c0 => s_iload_n E150_24.1 (k_ E150_24) rfl (s_iastore E150_25.1 (k_ E150_25) rfl ⟨(h.2.1 c0).1, s_ret E150_26.1 (k_ E150_26) ((h.2.1 c0).2)⟩), fun c0 => s_iload_n E150_19.1 (k_ E150_19) rfl (s_i2b E150_20.1 (k_ E150_20) (s_goto E150_21.1 (k_ E150_21) (s_iastore E150_25.1 (k_ E150_25) rfl ⟨(h.2.2 c0).1, s_ret E150_26.1 (k_ E150_26) ((h.2.2 c0).2)⟩)))⟩⟩))))))))))
-- 151: X7_lift
theorem E151_0 : aCode 151 0 = (Instr.iload_n 1, 1, [], 0) ∧ bMask 151 0 = [] := ⟨rfl, rfl⟩
theorem E151_1 : aCode 151 1 = (Instr.invokestatic 134, 4, [105, 1, 1, 0, 0, 90], 0) ∧ bMask 151 1 = [] := ⟨rfl, rfl⟩
theorem E151_4 : aCode 151 4 = (Instr.ifCond .eq 13, 7, [17], 0) ∧ bMask 151 4 = [] := ⟨rfl, rfl⟩
theorem E151_7 : aCode 151 7 = (Instr.iload_n 2, 8, [], 0) ∧ bMask 151 7 = [] := ⟨rfl, rfl⟩
theorem E151_8 : aCode 151 8 = (Instr.iconst 0, 9, [], 0) ∧ bMask 151 8 = [] := ⟨rfl, rfl⟩
theorem E151_9 : aCode 151 9 = (Instr.bipush 9, 11, [], 9) ∧ bMask 151 9 = [] := ⟨rfl, rfl⟩
theorem E151_11 : aCode 151 11 = (Instr.invokestatic 126, 14, [104, 3, 1, 0, 0, 89], 0) ∧ bMask 151 11 = [] := ⟨rfl, rfl⟩
theorem E151_14 : aCode 151 14 = (Instr.ifCond .ne 5, 17, [19], 0) ∧ bMask 151 14 = [] := ⟨rfl, rfl⟩
theorem E151_17 : aCode 151 17 = (Instr.iconst (-1), 18, [], (-1)) ∧ bMask 151 17 = [] := ⟨rfl, rfl⟩
theorem E151_18 : aCode 151 18 = (Instr.ireturn, 19, [0], 0) ∧ bMask 151 18 = [] := ⟨rfl, rfl⟩
theorem E151_19 : aCode 151 19 = (Instr.aload_n 0, 20, [], 0) ∧ bMask 151 19 = [] := ⟨rfl, rfl⟩
theorem E151_20 : aCode 151 20 = (Instr.getfield 48, 23, [98, 7, 23, 2], 0) ∧ bMask 151 20 = [] := ⟨rfl, rfl⟩
theorem E151_23 : aCode 151 23 = (Instr.iload_n 1, 24, [], 0) ∧ bMask 151 23 = [] := ⟨rfl, rfl⟩
theorem E151_24 : aCode 151 24 = (Instr.iaload, 25, [0], 0) ∧ bMask 151 24 = [] := ⟨rfl, rfl⟩
theorem E151_25 : aCode 151 25 = (Instr.istore_n 3, 26, [], 0) ∧ bMask 151 25 = [] := ⟨rfl, rfl⟩
theorem E151_26 : aCode 151 26 = (Instr.aload_n 0, 27, [], 0) ∧ bMask 151 26 = [] := ⟨rfl, rfl⟩
theorem E151_27 : aCode 151 27 = (Instr.getfield 48, 30, [98, 7, 23, 2], 0) ∧ bMask 151 27 = [] := ⟨rfl, rfl⟩
theorem E151_30 : aCode 151 30 = (Instr.iload_n 1, 31, [], 0) ∧ bMask 151 30 = [] := ⟨rfl, rfl⟩
theorem E151_31 : aCode 151 31 = (Instr.iload_n 2, 32, [], 0) ∧ bMask 151 31 = [] := ⟨rfl, rfl⟩
theorem E151_32 : aCode 151 32 = (Instr.iastore, 33, [0], 0) ∧ bMask 151 32 = [] := ⟨rfl, rfl⟩
theorem E151_33 : aCode 151 33 = (Instr.iload_n 3, 34, [], 0) ∧ bMask 151 33 = [] := ⟨rfl, rfl⟩
theorem E151_34 : aCode 151 34 = (Instr.ireturn, 35, [0], 0) ∧ bMask 151 34 = [] := ⟨rfl, rfl⟩
theorem g_X7_lift_0 {Q : bQ} {M : bM} {x1 : Int32} {x2 : Int32} (h : bCall 105 [cI x1] M (fun v1 M2 => bV1 v1 fun r3 => (((r3 = 0) → (Q (some (cI (-1 : Int32))) M2)) ∧ (¬ (r3 = 0) → (bCall 104 [cI x2, cI (0 : Int32), cI (9 : Int32)] M2 (fun v4 M5 => bV1 v4 fun r6 => (((¬ r6 = 0) → ((vp_in x1 6) ∧ ((vp_in x1 6) ∧ (Q (some (cI (M5 35 0 x1.toNatClampNeg))) (bU M5 35 0 x1.toNatClampNeg x2))))) ∧ (¬ (¬ r6 = 0) → (Q (some (cI (-1 : Int32))) M5))))))))) : bCall 151 [cR 26 0, cI x1, cI x2] M Q := s_iload_n E151_0.1 (k_ E151_0) rfl (s_scall1 E151_1.1 (k_ E151_1) rfl rfl rfl h (fun M2 r3 z0 => s_if_eq E151_4.1 (k_ E151_4) ⟨fun c1 => s_iconst E151_17.1 (k_ E151_17) (s_iret E151_18.1 (k_ E151_18) (z0.1 c1)), fun c1 => s_iload_n E151_7.1 (k_ E151_7) rfl (s_iconst E151_8.1 (k_ E151_8) (s_bipush E151_9.1 (k_ E151_9) (s_scall1 E151_11.1 (k_ E151_11) rfl rfl rfl (z0.2 c1) (fun M5 r6 z2 => s_if_ne E151_14.1 (k_ E151_14) ⟨fun c3 => s_aload_n E151_19.1 (k_ E151_19) rfl (s_getR E151_20.1 (k_ E151_20) rfl rfl (s_iload_n E151_23.1 (k_ E151_23) rfl (s_iaload E151_24.1 (k_ E151_24) rfl ⟨(z2.1 c3).1, s_istore_n E151_25.1 (k_ E151_25) (s_aload_n E151_26.1 (k_ E151_26) rfl (s_getR E151_27.1 (k_ E151_27) rfl rfl (s_iload_n E151_30.1 (k_ E151_30) rfl (s_iload_n E151_31.1 (k_ E151_31) rfl (s_iastore E151_32.1 (k_ E151_32) rfl ⟨((z2.1 c3).2).1, s_iload_n E151_33.1 (k_ E151_33) rfl (s_iret E151_34.1 (k_ E151_34) (((z2.1 c3).2).2))⟩)))))⟩))), fun c3 => s_iconst E151_17.1 (k_ E151_17) (s_iret E151_18.1 (k_ E151_18) (z2.2 c3))⟩))))⟩))
