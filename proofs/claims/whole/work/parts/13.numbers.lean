-- needs: 01 02 06 08 09 10 11
-- 9: X2_reciprocal
theorem E9_0 : aCode 9 0 = (Instr.aload_n 0, 1, [], 0) ∧ bMask 9 0 = [] := ⟨rfl, rfl⟩
theorem E9_1 : aCode 9 1 = (Instr.getfield 9, 4, [3, 2, 0, 0], 0) ∧ bMask 9 1 = [] := ⟨rfl, rfl⟩
theorem E9_4 : aCode 9 4 = (Instr.iconst 2, 5, [], 2) ∧ bMask 9 4 = [] := ⟨rfl, rfl⟩
theorem E9_5 : aCode 9 5 = (Instr.if_icmp .ge 5, 8, [10], 0) ∧ bMask 9 5 = [] := ⟨rfl, rfl⟩
theorem E9_8 : aCode 9 8 = (Instr.iconst 0, 9, [], 0) ∧ bMask 9 8 = [] := ⟨rfl, rfl⟩
theorem E9_9 : aCode 9 9 = (Instr.ireturn, 10, [0], 0) ∧ bMask 9 9 = [] := ⟨rfl, rfl⟩
theorem E9_10 : aCode 9 10 = (Instr.iconst 1, 11, [], 1) ∧ bMask 9 10 = [] := ⟨rfl, rfl⟩
theorem E9_11 : aCode 9 11 = (Instr.istore_n 2, 12, [], 0) ∧ bMask 9 11 = [] := ⟨rfl, rfl⟩
theorem E9_12 : aCode 9 12 = (Instr.iload_n 1, 13, [], 0) ∧ bMask 9 12 = [] := ⟨rfl, rfl⟩
theorem E9_13 : aCode 9 13 = (Instr.istore_n 3, 14, [], 0) ∧ bMask 9 13 = [] := ⟨rfl, rfl⟩
theorem E9_14 : aCode 9 14 = (Instr.aload_n 0, 15, [], 0) ∧ bMask 9 14 = [] := ⟨rfl, rfl⟩
theorem E9_15 : aCode 9 15 = (Instr.getfield 9, 18, [3, 2, 0, 0], 0) ∧ bMask 9 15 = [] := ⟨rfl, rfl⟩
theorem E9_18 : aCode 9 18 = (Instr.iconst 2, 19, [], 2) ∧ bMask 9 18 = [] := ⟨rfl, rfl⟩
theorem E9_19 : aCode 9 19 = (Instr.isub, 20, [], 0) ∧ bMask 9 19 = [] := ⟨rfl, rfl⟩
theorem E9_20 : aCode 9 20 = (Instr.istore 4, 22, [], 0) ∧ bMask 9 20 = [] := ⟨rfl, rfl⟩
theorem E9_22 : aCode 9 22 = (Instr.iload 4, 24, [], 0) ∧ bMask 9 22 = [] := ⟨rfl, rfl⟩
theorem E9_24 : aCode 9 24 = (Instr.ifCond .le 37, 27, [61], 0) ∧ bMask 9 24 = [] := ⟨rfl, rfl⟩
theorem E9_27 : aCode 9 27 = (Instr.iload 4, 29, [], 0) ∧ bMask 9 27 = [] := ⟨rfl, rfl⟩
theorem E9_29 : aCode 9 29 = (Instr.iconst 1, 30, [], 1) ∧ bMask 9 29 = [] := ⟨rfl, rfl⟩
theorem E9_30 : aCode 9 30 = (Instr.iand, 31, [], 0) ∧ bMask 9 30 = [] := ⟨rfl, rfl⟩
theorem E9_31 : aCode 9 31 = (Instr.ifCond .eq 12, 34, [43], 0) ∧ bMask 9 31 = [] := ⟨rfl, rfl⟩
theorem E9_34 : aCode 9 34 = (Instr.iload_n 2, 35, [], 0) ∧ bMask 9 34 = [] := ⟨rfl, rfl⟩
theorem E9_35 : aCode 9 35 = (Instr.iload_n 3, 36, [], 0) ∧ bMask 9 35 = [] := ⟨rfl, rfl⟩
theorem E9_36 : aCode 9 36 = (Instr.imul, 37, [], 0) ∧ bMask 9 36 = [] := ⟨rfl, rfl⟩
theorem E9_37 : aCode 9 37 = (Instr.aload_n 0, 38, [], 0) ∧ bMask 9 37 = [] := ⟨rfl, rfl⟩
theorem E9_38 : aCode 9 38 = (Instr.getfield 9, 41, [3, 2, 0, 0], 0) ∧ bMask 9 38 = [] := ⟨rfl, rfl⟩
theorem E9_41 : aCode 9 41 = (Instr.irem, 42, [], 0) ∧ bMask 9 41 = [] := ⟨rfl, rfl⟩
theorem E9_42 : aCode 9 42 = (Instr.istore_n 2, 43, [], 0) ∧ bMask 9 42 = [] := ⟨rfl, rfl⟩
theorem E9_43 : aCode 9 43 = (Instr.iload_n 3, 44, [], 0) ∧ bMask 9 43 = [] := ⟨rfl, rfl⟩
theorem E9_44 : aCode 9 44 = (Instr.iload_n 3, 45, [], 0) ∧ bMask 9 44 = [] := ⟨rfl, rfl⟩
theorem E9_45 : aCode 9 45 = (Instr.imul, 46, [], 0) ∧ bMask 9 45 = [] := ⟨rfl, rfl⟩
theorem E9_46 : aCode 9 46 = (Instr.aload_n 0, 47, [], 0) ∧ bMask 9 46 = [] := ⟨rfl, rfl⟩
theorem E9_47 : aCode 9 47 = (Instr.getfield 9, 50, [3, 2, 0, 0], 0) ∧ bMask 9 47 = [] := ⟨rfl, rfl⟩
theorem E9_50 : aCode 9 50 = (Instr.irem, 51, [], 0) ∧ bMask 9 50 = [] := ⟨rfl, rfl⟩
theorem E9_51 : aCode 9 51 = (Instr.istore_n 3, 52, [], 0) ∧ bMask 9 51 = [] := ⟨rfl, rfl⟩
theorem E9_52 : aCode 9 52 = (Instr.iload 4, 54, [], 0) ∧ bMask 9 52 = [] := ⟨rfl, rfl⟩
theorem E9_54 : aCode 9 54 = (Instr.iconst 1, 55, [], 1) ∧ bMask 9 54 = [] := ⟨rfl, rfl⟩
theorem E9_55 : aCode 9 55 = (Instr.ishr, 56, [], 0) ∧ bMask 9 55 = [] := ⟨rfl, rfl⟩
theorem E9_56 : aCode 9 56 = (Instr.istore 4, 58, [], 0) ∧ bMask 9 56 = [] := ⟨rfl, rfl⟩
theorem E9_58 : aCode 9 58 = (Instr.goto (-36), 22, [], 0) ∧ bMask 9 58 = [] := ⟨rfl, rfl⟩
theorem E9_61 : aCode 9 61 = (Instr.iload_n 2, 62, [], 0) ∧ bMask 9 61 = [] := ⟨rfl, rfl⟩
theorem E9_62 : aCode 9 62 = (Instr.ireturn, 63, [0], 0) ∧ bMask 9 62 = [] := ⟨rfl, rfl⟩
theorem g_X2_reciprocal_0 {Q : bQ} {M : bM} {x1 : Int32} (h : (((2 : Int32) ≤ (M 1 0 0)) → bGo 9 Q 22 [some (cR 1 0), some (cI x1), some (cI (1 : Int32)), some (cI x1), some (cI ((M 1 0 0) - (2 : Int32)))] [] M) ∧ (¬ ((2 : Int32) ≤ (M 1 0 0)) → (Q (some (cI (0 : Int32))) M))) : bCall 9 [cR 1 0, cI x1] M Q := s_aload_n E9_0.1 (k_ E9_0) rfl (s_getI0 E9_1.1 (k_ E9_1) rfl (s_iconst E9_4.1 (k_ E9_4) (s_icmp_ge E9_5.1 (k_ E9_5) ⟨fun c0 => s_iconst E9_10.1 (k_ E9_10) (s_istore_n E9_11.1 (k_ E9_11) (s_iload_n E9_12.1 (k_ E9_12) rfl (s_istore_n E9_13.1 (k_ E9_13) (s_aload_n E9_14.1 (k_ E9_14) rfl (s_getI0 E9_15.1 (k_ E9_15) rfl (s_iconst E9_18.1 (k_ E9_18) (s_isub E9_19.1 (k_ E9_19) (s_istore E9_20.1 (k_ E9_20) (h.1 c0))))))))), fun c0 => s_iconst E9_8.1 (k_ E9_8) (s_iret E9_9.1 (k_ E9_9) (h.2 c0))⟩)))
theorem g_X2_reciprocal_22 {Q : bQ} {M : bM} {x1 : Int32} {x2 : Int32} {x3 : Int32} {x4 : Int32} (h : ((x4 ≤ 0) → (Q (some (cI x2)) M)) ∧ (¬ (x4 ≤ 0) → ((((x4 &&& (1 : Int32)) = 0) → ((¬ (M 1 0 0) = 0) ∧ bGo 9 Q 22 [some (cR 1 0), some (cI x1), some (cI x2), some (cI (aRem (x3 * x3) (M 1 0 0))), some (cI (x4 >>> ((1 : Int32) &&& 31)))] [] M)) ∧ (¬ ((x4 &&& (1 : Int32)) = 0) → ((¬ (M 1 0 0) = 0) ∧ ((¬ (M 1 0 0) = 0) ∧ bGo 9 Q 22 [some (cR 1 0), some (cI x1), some (cI (aRem (x2 * x3) (M 1 0 0))), some (cI (aRem (x3 * x3) (M 1 0 0))), some (cI (x4 >>> ((1 : Int32) &&& 31)))] [] M)))))) : bGo 9 Q 22 [some (cR 1 0), some (cI x1), some (cI x2), some (cI x3), some (cI x4)] [] M := s_iload E9_22.1 (k_ E9_22) rfl (s_if_le E9_24.1 (k_ E9_24) ⟨fun c1 => s_iload_n E9_61.1 (k_ E9_61) rfl (s_iret E9_62.1 (k_ E9_62) (h.1 c1)), fun c1 => s_iload E9_27.1 (k_ E9_27) rfl (s_iconst E9_29.1 (k_ E9_29) (s_iand E9_30.1 (k_ E9_30) (s_if_eq E9_31.1 (k_ E9_31) ⟨fun c2 => s_iload_n E9_43.1 (k_ E9_43) rfl (s_iload_n E9_44.1 (k_ E9_44) rfl (s_imul E9_45.1 (k_ E9_45) (s_aload_n E9_46.1 (k_ E9_46) rfl (s_getI0 E9_47.1 (k_ E9_47) rfl (s_irem E9_50.1 (k_ E9_50) ⟨((h.2 c1).1 c2).1, s_istore_n E9_51.1 (k_ E9_51) (s_iload E9_52.1 (k_ E9_52) rfl (s_iconst E9_54.1 (k_ E9_54) (s_ishr E9_55.1 (k_ E9_55) (s_istore E9_56.1 (k_ E9_56) (s_goto E9_58.1 (k_ E9_58) (((h.2 c1).1 c2).2))))))⟩))))), fun c2 => s_iload_n E9_34.1 (k_ E9_34) rfl (s_iload_n E9_35.1 (k_ E9_35) rfl (s_imul E9_36.1 (k_ E9_36) (s_aload_n E9_37.1 (k_ E9_37) rfl (s_getI0 E9_38.1 (k_ E9_38) rfl (s_irem E9_41.1 (k_ E9_41) ⟨((h.2 c1).2 c2).1, s_istore_n E9_42.1 (k_ E9_42) (s_iload_n E9_43.1 (k_ E9_43) rfl (s_iload_n E9_44.1 (k_ E9_44) rfl (s_imul E9_45.1 (k_ E9_45) (s_aload_n E9_46.1 (k_ E9_46) rfl (s_getI0 E9_47.1 (k_ E9_47) rfl (s_irem E9_50.1 (k_ E9_50) ⟨(((h.2 c1).2 c2).2).1, s_istore_n E9_51.1 (k_ E9_51) (s_iload E9_52.1 (k_ E9_52) rfl (s_iconst E9_54.1 (k_ E9_54) (s_ishr E9_55.1 (k_ E9_55) (s_istore E9_56.1 (k_ E9_56) (s_goto E9_58.1 (k_ E9_58) ((((h.2 c1).2 c2).2).2))))))⟩))))))⟩)))))⟩)))⟩)
-- 10: X2_taken
theorem E10_0 : aCode 10 0 = (Instr.aload_n 0, 1, [], 0) ∧ bMask 10 0 = [] := ⟨rfl, rfl⟩
theorem E10_1 : aCode 10 1 = (Instr.getfield 9, 4, [3, 2, 0, 0], 0) ∧ bMask 10 1 = [] := ⟨rfl, rfl⟩
theorem E10_4 : aCode 10 4 = (Instr.ifCond .le 14, 7, [18], 0) ∧ bMask 10 4 = [] := ⟨rfl, rfl⟩
theorem E10_7 : aCode 10 7 = (Instr.iload_n 1, 8, [], 0) ∧ bMask 10 7 = [] := ⟨rfl, rfl⟩
theorem E10_8 : aCode 10 8 = (Instr.aload_n 0, 9, [], 0) ∧ bMask 10 8 = [] := ⟨rfl, rfl⟩
theorem E10_9 : aCode 10 9 = (Instr.getfield 9, 12, [3, 2, 0, 0], 0) ∧ bMask 10 9 = [] := ⟨rfl, rfl⟩
theorem E10_12 : aCode 10 12 = (Instr.invokestatic 19, 15, [4, 2, 1, 0, 0, 1], 0) ∧ bMask 10 12 = [] := ⟨rfl, rfl⟩
theorem E10_15 : aCode 10 15 = (Instr.goto 4, 19, [], 0) ∧ bMask 10 15 = [] := ⟨rfl, rfl⟩
theorem E10_18 : aCode 10 18 = (Instr.iconst 0, 19, [], 0) ∧ bMask 10 18 = [] := ⟨rfl, rfl⟩
theorem E10_19 : aCode 10 19 = (Instr.ireturn, 20, [0], 0) ∧ bMask 10 19 = [] := ⟨rfl, rfl⟩
theorem g_X2_taken_0 {Q : bQ} {M : bM} {x1 : Int32} (h : (((M 1 0 0) ≤ 0) → (Q (some (cI (0 : Int32))) M)) ∧ (¬ ((M 1 0 0) ≤ 0) → (bCall 4 [cI x1, cI (M 1 0 0)] M (fun v1 M2 => bV1 v1 fun r3 => (Q (some (cI r3)) M2))))) : bCall 10 [cR 1 0, cI x1] M Q := s_aload_n E10_0.1 (k_ E10_0) rfl (s_getI0 E10_1.1 (k_ E10_1) rfl (s_if_le E10_4.1 (k_ E10_4) ⟨fun c0 => s_iconst E10_18.1 (k_ E10_18) (s_iret E10_19.1 (k_ E10_19) (h.1 c0)), fun c0 => s_iload_n E10_7.1 (k_ E10_7) rfl (s_aload_n E10_8.1 (k_ E10_8) rfl (s_getI0 E10_9.1 (k_ E10_9) rfl (s_scall1 E10_12.1 (k_ E10_12) rfl rfl rfl (h.2 c0) (fun M2 r3 z1 => s_goto E10_15.1 (k_ E10_15) (s_iret E10_19.1 (k_ E10_19) z1)))))⟩))
-- 20: X1_find
theorem E20_0 : aCode 20 0 = (Instr.iconst 0, 1, [], 0) ∧ bMask 20 0 = [] := ⟨rfl, rfl⟩
theorem E20_1 : aCode 20 1 = (Instr.istore_n 2, 2, [], 0) ∧ bMask 20 1 = [] := ⟨rfl, rfl⟩
theorem E20_2 : aCode 20 2 = (Instr.iload_n 2, 3, [], 0) ∧ bMask 20 2 = [] := ⟨rfl, rfl⟩
theorem E20_3 : aCode 20 3 = (Instr.bipush 8, 5, [], 8) ∧ bMask 20 3 = [] := ⟨rfl, rfl⟩
theorem E20_5 : aCode 20 5 = (Instr.if_icmp .ge 41, 8, [46], 0) ∧ bMask 20 5 = [] := ⟨rfl, rfl⟩
theorem E20_8 : aCode 20 8 = (Instr.aload_n 0, 9, [], 0) ∧ bMask 20 8 = [] := ⟨rfl, rfl⟩
theorem E20_9 : aCode 20 9 = (Instr.getfield 13, 12, [7, 1, 0, 2], 0) ∧ bMask 20 9 = [] := ⟨rfl, rfl⟩
theorem E20_12 : aCode 20 12 = (Instr.iload_n 2, 13, [], 0) ∧ bMask 20 12 = [] := ⟨rfl, rfl⟩
theorem E20_13 : aCode 20 13 = (Instr.aaload, 14, [3], 0) ∧ bMask 20 13 = [] := ⟨rfl, rfl⟩
theorem E20_14 : aCode 20 14 = (Instr.getfield 18, 17, [8, 3, 1, 1], 0) ∧ bMask 20 14 = [] := ⟨rfl, rfl⟩
theorem E20_17 : aCode 20 17 = (Instr.ifCond .eq 23, 20, [40], 0) ∧ bMask 20 17 = [] := ⟨rfl, rfl⟩
theorem E20_20 : aCode 20 20 = (Instr.aload_n 0, 21, [], 0) ∧ bMask 20 20 = [] := ⟨rfl, rfl⟩
theorem E20_21 : aCode 20 21 = (Instr.getfield 13, 24, [7, 1, 0, 2], 0) ∧ bMask 20 21 = [] := ⟨rfl, rfl⟩
theorem E20_24 : aCode 20 24 = (Instr.iload_n 2, 25, [], 0) ∧ bMask 20 24 = [] := ⟨rfl, rfl⟩
theorem E20_25 : aCode 20 25 = (Instr.aaload, 26, [3], 0) ∧ bMask 20 25 = [] := ⟨rfl, rfl⟩
theorem E20_26 : aCode 20 26 = (Instr.getfield 22, 29, [9, 3, 2, 0], 0) ∧ bMask 20 26 = [] := ⟨rfl, rfl⟩
theorem E20_29 : aCode 20 29 = (Instr.iload_n 1, 30, [], 0) ∧ bMask 20 29 = [] := ⟨rfl, rfl⟩
theorem E20_30 : aCode 20 30 = (Instr.if_icmp .ne 10, 33, [40], 0) ∧ bMask 20 30 = [] := ⟨rfl, rfl⟩
theorem E20_33 : aCode 20 33 = (Instr.aload_n 0, 34, [], 0) ∧ bMask 20 33 = [] := ⟨rfl, rfl⟩
theorem E20_34 : aCode 20 34 = (Instr.getfield 13, 37, [7, 1, 0, 2], 0) ∧ bMask 20 34 = [] := ⟨rfl, rfl⟩
theorem E20_37 : aCode 20 37 = (Instr.iload_n 2, 38, [], 0) ∧ bMask 20 37 = [] := ⟨rfl, rfl⟩
theorem E20_38 : aCode 20 38 = (Instr.aaload, 39, [3], 0) ∧ bMask 20 38 = [] := ⟨rfl, rfl⟩
theorem E20_39 : aCode 20 39 = (Instr.areturn, 40, [], 0) ∧ bMask 20 39 = [] := ⟨rfl, rfl⟩
theorem E20_40 : aCode 20 40 = (Instr.iinc 2 1, 43, [], 1) ∧ bMask 20 40 = [] := ⟨rfl, rfl⟩
theorem E20_43 : aCode 20 43 = (Instr.goto (-41), 2, [], 0) ∧ bMask 20 43 = [] := ⟨rfl, rfl⟩
theorem E20_46 : aCode 20 46 = (Instr.aconst_null, 47, [], 0) ∧ bMask 20 46 = [] := ⟨rfl, rfl⟩
theorem E20_47 : aCode 20 47 = (Instr.areturn, 48, [], 0) ∧ bMask 20 47 = [] := ⟨rfl, rfl⟩
theorem g_X1_find_0 {Q : bQ} {M : bM} {x1 : Int32} (h : bGo 20 Q 2 [some (cR 4 0), some (cI x1), some (cI (0 : Int32))] [] M) : bCall 20 [cR 4 0, cI x1] M Q := s_iconst E20_0.1 (k_ E20_0) (s_istore_n E20_1.1 (k_ E20_1) (h))
theorem g_X1_find_2 {Q : bQ} {M : bM} {x1 : Int32} {x2 : Int32} (h : (((8 : Int32) ≤ x2) → (Q (some (cN)) M)) ∧ (¬ ((8 : Int32) ≤ x2) → ((vp_in x2 8) ∧ ((((M 5 x2.toNatClampNeg 1) = 0) → bGo 20 Q 2 [some (cR 4 0), some (cI x1), some (cI (x2 + (1 : Int32)))] [] M) ∧ (¬ ((M 5 x2.toNatClampNeg 1) = 0) → ((vp_in x2 8) ∧ (((¬ (M 5 x2.toNatClampNeg 2) = x1) → bGo 20 Q 2 [some (cR 4 0), some (cI x1), some (cI (x2 + (1 : Int32)))] [] M) ∧ (¬ (¬ (M 5 x2.toNatClampNeg 2) = x1) → ((vp_in x2 8) ∧ (Q (some (cR 5 x2.toNatClampNeg)) M)))))))))) : bGo 20 Q 2 [some (cR 4 0), some (cI x1), some (cI x2)] [] M := s_iload_n E20_2.1 (k_ E20_2) rfl (s_bipush E20_3.1 (k_ E20_3) (s_icmp_ge E20_5.1 (k_ E20_5) ⟨fun c0 => s_null E20_46.1 (k_ E20_46) (s_aretN E20_47.1 (k_ E20_47) (h.1 c0)), fun c0 => s_aload_n E20_8.1 (k_ E20_8) rfl (s_getR E20_9.1 (k_ E20_9) rfl rfl (s_iload_n E20_12.1 (k_ E20_12) rfl (s_aaload E20_13.1 (k_ E20_13) rfl ⟨(h.2 c0).1, s_getI1 E20_14.1 (k_ E20_14) rfl (s_if_eq E20_17.1 (k_ E20_17) ⟨fun c1 => s_iinc E20_40.1 (k_ E20_40) rfl (s_goto E20_43.1 (k_ E20_43) (((h.2 c0).2).1 c1)), fun c1 => s_aload_n E20_20.1 (k_ E20_20) rfl (s_getR E20_21.1 (k_ E20_21) rfl rfl (s_iload_n E20_24.1 (k_ E20_24) rfl (s_aaload E20_25.1 (k_ E20_25) rfl ⟨(((h.2 c0).2).2 c1).1, s_getI0 E20_26.1 (k_ E20_26) rfl (s_iload_n E20_29.1 (k_ E20_29) rfl (s_icmp_ne E20_30.1 (k_ E20_30) ⟨fun c2 => s_iinc E20_40.1 (k_ E20_40) rfl (s_goto E20_43.1 (k_ E20_43) (((((h.2 c0).2).2 c1).2).1 c2)), fun c2 => s_aload_n E20_33.1 (k_ E20_33) rfl (s_getR E20_34.1 (k_ E20_34) rfl rfl (s_iload_n E20_37.1 (k_ E20_37) rfl (s_aaload E20_38.1 (k_ E20_38) rfl ⟨(((((h.2 c0).2).2 c1).2).2 c2).1, s_aret E20_39.1 (k_ E20_39) ((((((h.2 c0).2).2 c1).2).2 c2).2)⟩)))⟩))⟩)))⟩)⟩)))⟩))
-- 21: X1_freePlace
theorem E21_0 : aCode 21 0 = (Instr.iconst 0, 1, [], 0) ∧ bMask 21 0 = [] := ⟨rfl, rfl⟩
theorem E21_1 : aCode 21 1 = (Instr.istore_n 1, 2, [], 0) ∧ bMask 21 1 = [] := ⟨rfl, rfl⟩
theorem E21_2 : aCode 21 2 = (Instr.iload_n 1, 3, [], 0) ∧ bMask 21 2 = [] := ⟨rfl, rfl⟩
theorem E21_3 : aCode 21 3 = (Instr.bipush 8, 5, [], 8) ∧ bMask 21 3 = [] := ⟨rfl, rfl⟩
theorem E21_5 : aCode 21 5 = (Instr.if_icmp .ge 28, 8, [33], 0) ∧ bMask 21 5 = [] := ⟨rfl, rfl⟩
theorem E21_8 : aCode 21 8 = (Instr.aload_n 0, 9, [], 0) ∧ bMask 21 8 = [] := ⟨rfl, rfl⟩
theorem E21_9 : aCode 21 9 = (Instr.getfield 13, 12, [7, 1, 0, 2], 0) ∧ bMask 21 9 = [] := ⟨rfl, rfl⟩
theorem E21_12 : aCode 21 12 = (Instr.iload_n 1, 13, [], 0) ∧ bMask 21 12 = [] := ⟨rfl, rfl⟩
theorem E21_13 : aCode 21 13 = (Instr.aaload, 14, [3], 0) ∧ bMask 21 13 = [] := ⟨rfl, rfl⟩
theorem E21_14 : aCode 21 14 = (Instr.getfield 18, 17, [8, 3, 1, 1], 0) ∧ bMask 21 14 = [] := ⟨rfl, rfl⟩
theorem E21_17 : aCode 21 17 = (Instr.ifCond .ne 10, 20, [27], 0) ∧ bMask 21 17 = [] := ⟨rfl, rfl⟩
theorem E21_20 : aCode 21 20 = (Instr.aload_n 0, 21, [], 0) ∧ bMask 21 20 = [] := ⟨rfl, rfl⟩
theorem E21_21 : aCode 21 21 = (Instr.getfield 13, 24, [7, 1, 0, 2], 0) ∧ bMask 21 21 = [] := ⟨rfl, rfl⟩
theorem E21_24 : aCode 21 24 = (Instr.iload_n 1, 25, [], 0) ∧ bMask 21 24 = [] := ⟨rfl, rfl⟩
theorem E21_25 : aCode 21 25 = (Instr.aaload, 26, [3], 0) ∧ bMask 21 25 = [] := ⟨rfl, rfl⟩
theorem E21_26 : aCode 21 26 = (Instr.areturn, 27, [], 0) ∧ bMask 21 26 = [] := ⟨rfl, rfl⟩
theorem E21_27 : aCode 21 27 = (Instr.iinc 1 1, 30, [], 1) ∧ bMask 21 27 = [] := ⟨rfl, rfl⟩
theorem E21_30 : aCode 21 30 = (Instr.goto (-28), 2, [], 0) ∧ bMask 21 30 = [] := ⟨rfl, rfl⟩
theorem E21_33 : aCode 21 33 = (Instr.aconst_null, 34, [], 0) ∧ bMask 21 33 = [] := ⟨rfl, rfl⟩
theorem E21_34 : aCode 21 34 = (Instr.areturn, 35, [], 0) ∧ bMask 21 34 = [] := ⟨rfl, rfl⟩
theorem g_X1_freePlace_0 {Q : bQ} {M : bM}  (h : bGo 21 Q 2 [some (cR 4 0), some (cI (0 : Int32))] [] M) : bCall 21 [cR 4 0] M Q := s_iconst E21_0.1 (k_ E21_0) (s_istore_n E21_1.1 (k_ E21_1) (h))
theorem g_X1_freePlace_2 {Q : bQ} {M : bM} {x1 : Int32} (h : (((8 : Int32) ≤ x1) → (Q (some (cN)) M)) ∧ (¬ ((8 : Int32) ≤ x1) → ((vp_in x1 8) ∧ (((¬ (M 5 x1.toNatClampNeg 1) = 0) → bGo 21 Q 2 [some (cR 4 0), some (cI (x1 + (1 : Int32)))] [] M) ∧ (¬ (¬ (M 5 x1.toNatClampNeg 1) = 0) → ((vp_in x1 8) ∧ (Q (some (cR 5 x1.toNatClampNeg)) M))))))) : bGo 21 Q 2 [some (cR 4 0), some (cI x1)] [] M := s_iload_n E21_2.1 (k_ E21_2) rfl (s_bipush E21_3.1 (k_ E21_3) (s_icmp_ge E21_5.1 (k_ E21_5) ⟨fun c0 => s_null E21_33.1 (k_ E21_33) (s_aretN E21_34.1 (k_ E21_34) (h.1 c0)), fun c0 => s_aload_n E21_8.1 (k_ E21_8) rfl (s_getR E21_9.1 (k_ E21_9) rfl rfl (s_iload_n E21_12.1 (k_ E21_12) rfl (s_aaload E21_13.1 (k_ E21_13) rfl ⟨(h.2 c0).1, s_getI1 E21_14.1 (k_ E21_14) rfl (s_if_ne E21_17.1 (k_ E21_17) ⟨fun c1 => s_iinc E21_27.1 (k_ E21_27) rfl (s_goto E21_30.1 (k_ E21_30) (((h.2 c0).2).1 c1)), fun c1 => s_aload_n E21_20.1 (k_ E21_20) rfl (s_getR E21_21.1 (k_ E21_21) rfl rfl (s_iload_n E21_24.1 (k_ E21_24) rfl (s_aaload E21_25.1 (k_ E21_25) rfl ⟨(((h.2 c0).2).2 c1).1, s_aret E21_26.1 (k_ E21_26) ((((h.2 c0).2).2 c1).2)⟩)))⟩)⟩)))⟩))
-- 22: X1_giveNumber
theorem E22_0 : aCode 22 0 = (Instr.aload_n 1, 1, [], 0) ∧ bMask 22 0 = [] := ⟨rfl, rfl⟩
theorem E22_1 : aCode 22 1 = (Instr.iconst 1, 2, [], 1) ∧ bMask 22 1 = [] := ⟨rfl, rfl⟩
theorem E22_2 : aCode 22 2 = (Instr.putfield 18, 5, [8, 3, 1, 1], 0) ∧ bMask 22 2 = [] := ⟨rfl, rfl⟩
theorem E22_5 : aCode 22 5 = (Instr.aload_n 1, 6, [], 0) ∧ bMask 22 5 = [] := ⟨rfl, rfl⟩
theorem E22_6 : aCode 22 6 = (Instr.aload_n 0, 7, [], 0) ∧ bMask 22 6 = [] := ⟨rfl, rfl⟩
theorem E22_7 : aCode 22 7 = (Instr.getfield 26, 10, [10, 1, 1, 0], 0) ∧ bMask 22 7 = [] := ⟨rfl, rfl⟩
theorem E22_10 : aCode 22 10 = (Instr.putfield 22, 13, [9, 3, 2, 0], 0) ∧ bMask 22 10 = [] := ⟨rfl, rfl⟩
theorem E22_13 : aCode 22 13 = (Instr.aload_n 0, 14, [], 0) ∧ bMask 22 13 = [] := ⟨rfl, rfl⟩
theorem E22_14 : aCode 22 14 = (Instr.dup, 15, [], 0) ∧ bMask 22 14 = [] := ⟨rfl, rfl⟩
theorem E22_15 : aCode 22 15 = (Instr.getfield 26, 18, [10, 1, 1, 0], 0) ∧ bMask 22 15 = [] := ⟨rfl, rfl⟩
theorem E22_18 : aCode 22 18 = (Instr.iconst 1, 19, [], 1) ∧ bMask 22 18 = [] := ⟨rfl, rfl⟩
theorem E22_19 : aCode 22 19 = (Instr.iadd, 20, [], 0) ∧ bMask 22 19 = [] := ⟨rfl, rfl⟩
theorem E22_20 : aCode 22 20 = (Instr.putfield 26, 23, [10, 1, 1, 0], 0) ∧ bMask 22 20 = [] := ⟨rfl, rfl⟩
theorem E22_23 : aCode 22 23 = (Instr.aload_n 1, 24, [], 0) ∧ bMask 22 23 = [] := ⟨rfl, rfl⟩
theorem E22_24 : aCode 22 24 = (Instr.getfield 22, 27, [9, 3, 2, 0], 0) ∧ bMask 22 24 = [] := ⟨rfl, rfl⟩
theorem E22_27 : aCode 22 27 = (Instr.ireturn, 28, [0], 0) ∧ bMask 22 27 = [] := ⟨rfl, rfl⟩
theorem g_X1_giveNumber_0 {Q : bQ} {M : bM} {j1 : Nat} (h : ((1 : Int32) = 0 ∨ (1 : Int32) = 1) ∧ (Q (some (cI ((bU (bU (bU M 5 j1 1 (1 : Int32)) 5 j1 2 ((bU M 5 j1 1 (1 : Int32)) 4 0 1)) 4 0 1 (((bU (bU M 5 j1 1 (1 : Int32)) 5 j1 2 ((bU M 5 j1 1 (1 : Int32)) 4 0 1)) 4 0 1) + (1 : Int32))) 5 j1 2))) (bU (bU (bU M 5 j1 1 (1 : Int32)) 5 j1 2 ((bU M 5 j1 1 (1 : Int32)) 4 0 1)) 4 0 1 (((bU (bU M 5 j1 1 (1 : Int32)) 5 j1 2 ((bU M 5 j1 1 (1 : Int32)) 4 0 1)) 4 0 1) + (1 : Int32))))) : bCall 22 [cR 4 0, cR 5 j1] M Q := s_aload_n E22_0.1 (k_ E22_0) rfl (s_iconst E22_1.1 (k_ E22_1) (s_putZ E22_2.1 (k_ E22_2) rfl ⟨h.1, s_aload_n E22_5.1 (k_ E22_5) rfl (s_aload_n E22_6.1 (k_ E22_6) rfl (s_getI0 E22_7.1 (k_ E22_7) rfl (s_putI E22_10.1 (k_ E22_10) rfl (s_aload_n E22_13.1 (k_ E22_13) rfl (s_dupR E22_14.1 (k_ E22_14) (s_getI0 E22_15.1 (k_ E22_15) rfl (s_iconst E22_18.1 (k_ E22_18) (s_iadd E22_19.1 (k_ E22_19) (s_putI E22_20.1 (k_ E22_20) rfl (s_aload_n E22_23.1 (k_ E22_23) rfl (s_getI0 E22_24.1 (k_ E22_24) rfl (s_iret E22_27.1 (k_ E22_27) h.2))))))))))))⟩))
-- 25: X1_lowerThan
theorem E25_0 : aCode 25 0 = (Instr.iconst 0, 1, [], 0) ∧ bMask 25 0 = [] := ⟨rfl, rfl⟩
theorem E25_1 : aCode 25 1 = (Instr.istore_n 2, 2, [], 0) ∧ bMask 25 1 = [] := ⟨rfl, rfl⟩
theorem E25_2 : aCode 25 2 = (Instr.iconst 0, 3, [], 0) ∧ bMask 25 2 = [] := ⟨rfl, rfl⟩
theorem E25_3 : aCode 25 3 = (Instr.istore_n 3, 4, [], 0) ∧ bMask 25 3 = [] := ⟨rfl, rfl⟩
theorem E25_4 : aCode 25 4 = (Instr.iload_n 3, 5, [], 0) ∧ bMask 25 4 = [] := ⟨rfl, rfl⟩
theorem E25_5 : aCode 25 5 = (Instr.bipush 8, 7, [], 8) ∧ bMask 25 5 = [] := ⟨rfl, rfl⟩
theorem E25_7 : aCode 25 7 = (Instr.if_icmp .ge 42, 10, [49], 0) ∧ bMask 25 7 = [] := ⟨rfl, rfl⟩
theorem E25_10 : aCode 25 10 = (Instr.iload_n 2, 11, [], 0) ∧ bMask 25 10 = [] := ⟨rfl, rfl⟩
theorem E25_11 : aCode 25 11 = (Instr.aload_n 0, 12, [], 0) ∧ bMask 25 11 = [] := ⟨rfl, rfl⟩
theorem E25_12 : aCode 25 12 = (Instr.getfield 13, 15, [7, 1, 0, 2], 0) ∧ bMask 25 12 = [] := ⟨rfl, rfl⟩
theorem E25_15 : aCode 25 15 = (Instr.iload_n 3, 16, [], 0) ∧ bMask 25 15 = [] := ⟨rfl, rfl⟩
theorem E25_16 : aCode 25 16 = (Instr.aaload, 17, [3], 0) ∧ bMask 25 16 = [] := ⟨rfl, rfl⟩
theorem E25_17 : aCode 25 17 = (Instr.getfield 18, 20, [8, 3, 1, 1], 0) ∧ bMask 25 17 = [] := ⟨rfl, rfl⟩
theorem E25_20 : aCode 25 20 = (Instr.ifCond .eq 20, 23, [40], 0) ∧ bMask 25 20 = [] := ⟨rfl, rfl⟩
theorem E25_23 : aCode 25 23 = (Instr.aload_n 0, 24, [], 0) ∧ bMask 25 23 = [] := ⟨rfl, rfl⟩
theorem E25_24 : aCode 25 24 = (Instr.getfield 13, 27, [7, 1, 0, 2], 0) ∧ bMask 25 24 = [] := ⟨rfl, rfl⟩
theorem E25_27 : aCode 25 27 = (Instr.iload_n 3, 28, [], 0) ∧ bMask 25 27 = [] := ⟨rfl, rfl⟩
theorem E25_28 : aCode 25 28 = (Instr.aaload, 29, [3], 0) ∧ bMask 25 28 = [] := ⟨rfl, rfl⟩
theorem E25_29 : aCode 25 29 = (Instr.getfield 22, 32, [9, 3, 2, 0], 0) ∧ bMask 25 29 = [] := ⟨rfl, rfl⟩
theorem E25_32 : aCode 25 32 = (Instr.iload_n 1, 33, [], 0) ∧ bMask 25 32 = [] := ⟨rfl, rfl⟩
theorem E25_33 : aCode 25 33 = (Instr.if_icmp .ge 7, 36, [40], 0) ∧ bMask 25 33 = [] := ⟨rfl, rfl⟩
theorem E25_36 : aCode 25 36 = (Instr.iconst 1, 37, [], 1) ∧ bMask 25 36 = [] := ⟨rfl, rfl⟩
theorem E25_37 : aCode 25 37 = (Instr.goto 4, 41, [], 0) ∧ bMask 25 37 = [] := ⟨rfl, rfl⟩
theorem E25_40 : aCode 25 40 = (Instr.iconst 0, 41, [], 0) ∧ bMask 25 40 = [] := ⟨rfl, rfl⟩
theorem E25_41 : aCode 25 41 = (Instr.iadd, 42, [], 0) ∧ bMask 25 41 = [] := ⟨rfl, rfl⟩
theorem E25_42 : aCode 25 42 = (Instr.istore_n 2, 43, [], 0) ∧ bMask 25 42 = [] := ⟨rfl, rfl⟩
theorem E25_43 : aCode 25 43 = (Instr.iinc 3 1, 46, [], 1) ∧ bMask 25 43 = [] := ⟨rfl, rfl⟩
theorem E25_46 : aCode 25 46 = (Instr.goto (-42), 4, [], 0) ∧ bMask 25 46 = [] := ⟨rfl, rfl⟩
theorem E25_49 : aCode 25 49 = (Instr.iload_n 2, 50, [], 0) ∧ bMask 25 49 = [] := ⟨rfl, rfl⟩
theorem E25_50 : aCode 25 50 = (Instr.ireturn, 51, [0], 0) ∧ bMask 25 50 = [] := ⟨rfl, rfl⟩
theorem g_X1_lowerThan_0 {Q : bQ} {M : bM} {x1 : Int32} (h : bGo 25 Q 4 [some (cR 4 0), some (cI x1), some (cI (0 : Int32)), some (cI (0 : Int32))] [] M) : bCall 25 [cR 4 0, cI x1] M Q := s_iconst E25_0.1 (k_ E25_0) (s_istore_n E25_1.1 (k_ E25_1) (s_iconst E25_2.1 (k_ E25_2) (s_istore_n E25_3.1 (k_ E25_3) (h))))
theorem g_X1_lowerThan_4 {Q : bQ} {M : bM} {x1 : Int32} {x2 : Int32} {x3 : Int32} (h : (((8 : Int32) ≤ x3) → (Q (some (cI x2)) M)) ∧ (¬ ((8 : Int32) ≤ x3) → ((vp_in x3 8) ∧ ((((M 5 x3.toNatClampNeg 1) = 0) → bGo 25 Q 4 [some (cR 4 0), some (cI x1), some (cI (x2 + (0 : Int32))), some (cI (x3 + (1 : Int32)))] [] M) ∧ (¬ ((M 5 x3.toNatClampNeg 1) = 0) → ((vp_in x3 8) ∧ (((x1 ≤ (M 5 x3.toNatClampNeg 2)) → bGo 25 Q 4 [some (cR 4 0), some (cI x1), some (cI (x2 + (0 : Int32))), some (cI (x3 + (1 : Int32)))] [] M) ∧ (¬ (x1 ≤ (M 5 x3.toNatClampNeg 2)) → bGo 25 Q 4 [some (cR 4 0), some (cI x1), some (cI (x2 + (1 : Int32))), some (cI (x3 + (1 : Int32)))] [] M)))))))) : bGo 25 Q 4 [some (cR 4 0), some (cI x1), some (cI x2), some (cI x3)] [] M := s_iload_n E25_4.1 (k_ E25_4) rfl (s_bipush E25_5.1 (k_ E25_5) (s_icmp_ge E25_7.1 (k_ E25_7) ⟨fun c0 => s_iload_n E25_49.1 (k_ E25_49) rfl (s_iret E25_50.1 (k_ E25_50) (h.1 c0)), fun c0 => s_iload_n E25_10.1 (k_ E25_10) rfl (s_aload_n E25_11.1 (k_ E25_11) rfl (s_getR E25_12.1 (k_ E25_12) rfl rfl (s_iload_n E25_15.1 (k_ E25_15) rfl (s_aaload E25_16.1 (k_ E25_16) rfl ⟨(h.2 c0).1, s_getI1 E25_17.1 (k_ E25_17) rfl (s_if_eq E25_20.1 (k_ E25_20) ⟨fun c1 => s_iconst E25_40.1 (k_ E25_40) (s_iadd E25_41.1 (k_ E25_41) (s_istore_n E25_42.1 (k_ E25_42) (s_iinc E25_43.1 (k_ E25_43) rfl (s_goto E25_46.1 (k_ E25_46) (((h.2 c0).2).1 c1))))), fun c1 => s_aload_n E25_23.1 (k_ E25_23) rfl (s_getR E25_24.1 (k_ E25_24) rfl rfl (s_iload_n E25_27.1 (k_ E25_27) rfl (s_aaload E25_28.1 (k_ E25_28) rfl ⟨(((h.2 c0).2).2 c1).1, s_getI0 E25_29.1 (k_ E25_29) rfl (s_iload_n E25_32.1 (k_ E25_32) rfl (s_icmp_ge E25_33.1 (k_ E25_33) ⟨fun c2 => s_iconst E25_40.1 (k_ E25_40) (s_iadd E25_41.1 (k_ E25_41) (s_istore_n E25_42.1 (k_ E25_42) (s_iinc E25_43.1 (k_ E25_43) rfl (s_goto E25_46.1 (k_ E25_46) (((((h.2 c0).2).2 c1).2).1 c2))))), fun c2 => s_iconst E25_36.1 (k_ E25_36) (s_goto E25_37.1 (k_ E25_37) (s_iadd E25_41.1 (k_ E25_41) (s_istore_n E25_42.1 (k_ E25_42) (s_iinc E25_43.1 (k_ E25_43) rfl (s_goto E25_46.1 (k_ E25_46) (((((h.2 c0).2).2 c1).2).2 c2))))))⟩))⟩)))⟩)⟩))))⟩))
-- 26: X1_numberInTurn
theorem E26_0 : aCode 26 0 = (Instr.iconst 0, 1, [], 0) ∧ bMask 26 0 = [] := ⟨rfl, rfl⟩
theorem E26_1 : aCode 26 1 = (Instr.istore_n 2, 2, [], 0) ∧ bMask 26 1 = [] := ⟨rfl, rfl⟩
theorem E26_2 : aCode 26 2 = (Instr.iload_n 2, 3, [], 0) ∧ bMask 26 2 = [] := ⟨rfl, rfl⟩
theorem E26_3 : aCode 26 3 = (Instr.bipush 8, 5, [], 8) ∧ bMask 26 3 = [] := ⟨rfl, rfl⟩
theorem E26_5 : aCode 26 5 = (Instr.if_icmp .ge 48, 8, [53], 0) ∧ bMask 26 5 = [] := ⟨rfl, rfl⟩
theorem E26_8 : aCode 26 8 = (Instr.aload_n 0, 9, [], 0) ∧ bMask 26 8 = [] := ⟨rfl, rfl⟩
theorem E26_9 : aCode 26 9 = (Instr.getfield 13, 12, [7, 1, 0, 2], 0) ∧ bMask 26 9 = [] := ⟨rfl, rfl⟩
theorem E26_12 : aCode 26 12 = (Instr.iload_n 2, 13, [], 0) ∧ bMask 26 12 = [] := ⟨rfl, rfl⟩
theorem E26_13 : aCode 26 13 = (Instr.aaload, 14, [3], 0) ∧ bMask 26 13 = [] := ⟨rfl, rfl⟩
theorem E26_14 : aCode 26 14 = (Instr.getfield 18, 17, [8, 3, 1, 1], 0) ∧ bMask 26 14 = [] := ⟨rfl, rfl⟩
theorem E26_17 : aCode 26 17 = (Instr.ifCond .eq 30, 20, [47], 0) ∧ bMask 26 17 = [] := ⟨rfl, rfl⟩
theorem E26_20 : aCode 26 20 = (Instr.aload_n 0, 21, [], 0) ∧ bMask 26 20 = [] := ⟨rfl, rfl⟩
theorem E26_21 : aCode 26 21 = (Instr.aload_n 0, 22, [], 0) ∧ bMask 26 21 = [] := ⟨rfl, rfl⟩
theorem E26_22 : aCode 26 22 = (Instr.getfield 13, 25, [7, 1, 0, 2], 0) ∧ bMask 26 22 = [] := ⟨rfl, rfl⟩
theorem E26_25 : aCode 26 25 = (Instr.iload_n 2, 26, [], 0) ∧ bMask 26 25 = [] := ⟨rfl, rfl⟩
theorem E26_26 : aCode 26 26 = (Instr.aaload, 27, [3], 0) ∧ bMask 26 26 = [] := ⟨rfl, rfl⟩
theorem E26_27 : aCode 26 27 = (Instr.getfield 22, 30, [9, 3, 2, 0], 0) ∧ bMask 26 27 = [] := ⟨rfl, rfl⟩
theorem E26_30 : aCode 26 30 = (Instr.invokevirtual 29, 33, [25, 2, 1, 1, 0, 14], 0) ∧ bMask 26 30 = [] := ⟨rfl, rfl⟩
theorem E26_33 : aCode 26 33 = (Instr.iload_n 1, 34, [], 0) ∧ bMask 26 33 = [] := ⟨rfl, rfl⟩
theorem E26_34 : aCode 26 34 = (Instr.if_icmp .ne 13, 37, [47], 0) ∧ bMask 26 34 = [] := ⟨rfl, rfl⟩
theorem E26_37 : aCode 26 37 = (Instr.aload_n 0, 38, [], 0) ∧ bMask 26 37 = [] := ⟨rfl, rfl⟩
theorem E26_38 : aCode 26 38 = (Instr.getfield 13, 41, [7, 1, 0, 2], 0) ∧ bMask 26 38 = [] := ⟨rfl, rfl⟩
theorem E26_41 : aCode 26 41 = (Instr.iload_n 2, 42, [], 0) ∧ bMask 26 41 = [] := ⟨rfl, rfl⟩
theorem E26_42 : aCode 26 42 = (Instr.aaload, 43, [3], 0) ∧ bMask 26 42 = [] := ⟨rfl, rfl⟩
theorem E26_43 : aCode 26 43 = (Instr.getfield 22, 46, [9, 3, 2, 0], 0) ∧ bMask 26 43 = [] := ⟨rfl, rfl⟩
theorem E26_46 : aCode 26 46 = (Instr.ireturn, 47, [0], 0) ∧ bMask 26 46 = [] := ⟨rfl, rfl⟩
theorem E26_47 : aCode 26 47 = (Instr.iinc 2 1, 50, [], 1) ∧ bMask 26 47 = [] := ⟨rfl, rfl⟩
theorem E26_50 : aCode 26 50 = (Instr.goto (-48), 2, [], 0) ∧ bMask 26 50 = [] := ⟨rfl, rfl⟩
theorem E26_53 : aCode 26 53 = (Instr.bipush (-3), 55, [], (-3)) ∧ bMask 26 53 = [] := ⟨rfl, rfl⟩
theorem E26_55 : aCode 26 55 = (Instr.ireturn, 56, [0], 0) ∧ bMask 26 55 = [] := ⟨rfl, rfl⟩
theorem g_X1_numberInTurn_0 {Q : bQ} {M : bM} {x1 : Int32} (h : bGo 26 Q 2 [some (cR 4 0), some (cI x1), some (cI (0 : Int32))] [] M) : bCall 26 [cR 4 0, cI x1] M Q := s_iconst E26_0.1 (k_ E26_0) (s_istore_n E26_1.1 (k_ E26_1) (h))
theorem g_X1_numberInTurn_2 {Q : bQ} {M : bM} {x1 : Int32} {x2 : Int32} (h : (((8 : Int32) ≤ x2) → (Q (some (cI (-3 : Int32))) M)) ∧ (¬ ((8 : Int32) ≤ x2) → ((vp_in x2 8) ∧ ((((M 5 x2.toNatClampNeg 1) = 0) → bGo 26 Q 2 [some (cR 4 0), some (cI x1), some (cI (x2 + (1 : Int32)))] [] M) ∧ (¬ ((M 5 x2.toNatClampNeg 1) = 0) → ((vp_in x2 8) ∧ (bCall 25 [cR 4 0, cI (M 5 x2.toNatClampNeg 2)] M (fun v1 M2 => bV1 v1 fun r3 => (((¬ r3 = x1) → bGo 26 Q 2 [some (cR 4 0), some (cI x1), some (cI (x2 + (1 : Int32)))] [] M2) ∧ (¬ (¬ r3 = x1) → ((vp_in x2 8) ∧ (Q (some (cI (M2 5 x2.toNatClampNeg 2))) M2)))))))))))) : bGo 26 Q 2 [some (cR 4 0), some (cI x1), some (cI x2)] [] M := s_iload_n E26_2.1 (k_ E26_2) rfl (s_bipush E26_3.1 (k_ E26_3) (s_icmp_ge E26_5.1 (k_ E26_5) ⟨fun c0 => s_bipush E26_53.1 (k_ E26_53) (s_iret E26_55.1 (k_ E26_55) (h.1 c0)), fun c0 => s_aload_n E26_8.1 (k_ E26_8) rfl (s_getR E26_9.1 (k_ E26_9) rfl rfl (s_iload_n E26_12.1 (k_ E26_12) rfl (s_aaload E26_13.1 (k_ E26_13) rfl ⟨(h.2 c0).1, s_getI1 E26_14.1 (k_ E26_14) rfl (s_if_eq E26_17.1 (k_ E26_17) ⟨fun c1 => s_iinc E26_47.1 (k_ E26_47) rfl (s_goto E26_50.1 (k_ E26_50) (((h.2 c0).2).1 c1)), fun c1 => s_aload_n E26_20.1 (k_ E26_20) rfl (s_aload_n E26_21.1 (k_ E26_21) rfl (s_getR E26_22.1 (k_ E26_22) rfl rfl (s_iload_n E26_25.1 (k_ E26_25) rfl (s_aaload E26_26.1 (k_ E26_26) rfl ⟨(((h.2 c0).2).2 c1).1, s_getI0 E26_27.1 (k_ E26_27) rfl (s_vcall1 E26_30.1 (k_ E26_30) rfl rfl rfl ((((h.2 c0).2).2 c1).2) (fun M2 r3 z2 => s_iload_n E26_33.1 (k_ E26_33) rfl (s_icmp_ne E26_34.1 (k_ E26_34) ⟨fun c3 => s_iinc E26_47.1 (k_ E26_47) rfl (s_goto E26_50.1 (k_ E26_50) (z2.1 c3)), fun c3 => s_aload_n E26_37.1 (k_ E26_37) rfl (s_getR E26_38.1 (k_ E26_38) rfl rfl (s_iload_n E26_41.1 (k_ E26_41) rfl (s_aaload E26_42.1 (k_ E26_42) rfl ⟨(z2.2 c3).1, s_getI0 E26_43.1 (k_ E26_43) rfl (s_iret E26_46.1 (k_ E26_46) ((z2.2 c3).2))⟩)))⟩)))⟩))))⟩)⟩)))⟩))
-- 27: X1_size
theorem E27_0 : aCode 27 0 = (Instr.iconst 0, 1, [], 0) ∧ bMask 27 0 = [] := ⟨rfl, rfl⟩
theorem E27_1 : aCode 27 1 = (Instr.istore_n 1, 2, [], 0) ∧ bMask 27 1 = [] := ⟨rfl, rfl⟩
theorem E27_2 : aCode 27 2 = (Instr.iconst 0, 3, [], 0) ∧ bMask 27 2 = [] := ⟨rfl, rfl⟩
theorem E27_3 : aCode 27 3 = (Instr.istore_n 2, 4, [], 0) ∧ bMask 27 3 = [] := ⟨rfl, rfl⟩
theorem E27_4 : aCode 27 4 = (Instr.iload_n 2, 5, [], 0) ∧ bMask 27 4 = [] := ⟨rfl, rfl⟩
theorem E27_5 : aCode 27 5 = (Instr.bipush 8, 7, [], 8) ∧ bMask 27 5 = [] := ⟨rfl, rfl⟩
theorem E27_7 : aCode 27 7 = (Instr.if_icmp .ge 29, 10, [36], 0) ∧ bMask 27 7 = [] := ⟨rfl, rfl⟩
theorem E27_10 : aCode 27 10 = (Instr.iload_n 1, 11, [], 0) ∧ bMask 27 10 = [] := ⟨rfl, rfl⟩
theorem E27_11 : aCode 27 11 = (Instr.aload_n 0, 12, [], 0) ∧ bMask 27 11 = [] := ⟨rfl, rfl⟩
theorem E27_12 : aCode 27 12 = (Instr.getfield 13, 15, [7, 1, 0, 2], 0) ∧ bMask 27 12 = [] := ⟨rfl, rfl⟩
theorem E27_15 : aCode 27 15 = (Instr.iload_n 2, 16, [], 0) ∧ bMask 27 15 = [] := ⟨rfl, rfl⟩
theorem E27_16 : aCode 27 16 = (Instr.aaload, 17, [3], 0) ∧ bMask 27 16 = [] := ⟨rfl, rfl⟩
theorem E27_17 : aCode 27 17 = (Instr.getfield 18, 20, [8, 3, 1, 1], 0) ∧ bMask 27 17 = [] := ⟨rfl, rfl⟩
theorem E27_20 : aCode 27 20 = (Instr.ifCond .eq 7, 23, [27], 0) ∧ bMask 27 20 = [] := ⟨rfl, rfl⟩
theorem E27_23 : aCode 27 23 = (Instr.iconst 1, 24, [], 1) ∧ bMask 27 23 = [] := ⟨rfl, rfl⟩
theorem E27_24 : aCode 27 24 = (Instr.goto 4, 28, [], 0) ∧ bMask 27 24 = [] := ⟨rfl, rfl⟩
theorem E27_27 : aCode 27 27 = (Instr.iconst 0, 28, [], 0) ∧ bMask 27 27 = [] := ⟨rfl, rfl⟩
theorem E27_28 : aCode 27 28 = (Instr.iadd, 29, [], 0) ∧ bMask 27 28 = [] := ⟨rfl, rfl⟩
theorem E27_29 : aCode 27 29 = (Instr.istore_n 1, 30, [], 0) ∧ bMask 27 29 = [] := ⟨rfl, rfl⟩
theorem E27_30 : aCode 27 30 = (Instr.iinc 2 1, 33, [], 1) ∧ bMask 27 30 = [] := ⟨rfl, rfl⟩
theorem E27_33 : aCode 27 33 = (Instr.goto (-29), 4, [], 0) ∧ bMask 27 33 = [] := ⟨rfl, rfl⟩
theorem E27_36 : aCode 27 36 = (Instr.iload_n 1, 37, [], 0) ∧ bMask 27 36 = [] := ⟨rfl, rfl⟩
theorem E27_37 : aCode 27 37 = (Instr.ireturn, 38, [0], 0) ∧ bMask 27 37 = [] := ⟨rfl, rfl⟩
theorem g_X1_size_0 {Q : bQ} {M : bM}  (h : bGo 27 Q 4 [some (cR 4 0), some (cI (0 : Int32)), some (cI (0 : Int32))] [] M) : bCall 27 [cR 4 0] M Q := s_iconst E27_0.1 (k_ E27_0) (s_istore_n E27_1.1 (k_ E27_1) (s_iconst E27_2.1 (k_ E27_2) (s_istore_n E27_3.1 (k_ E27_3) (h))))
theorem g_X1_size_4 {Q : bQ} {M : bM} {x1 : Int32} {x2 : Int32} (h : (((8 : Int32) ≤ x2) → (Q (some (cI x1)) M)) ∧ (¬ ((8 : Int32) ≤ x2) → ((vp_in x2 8) ∧ ((((M 5 x2.toNatClampNeg 1) = 0) → bGo 27 Q 4 [some (cR 4 0), some (cI (x1 + (0 : Int32))), some (cI (x2 + (1 : Int32)))] [] M) ∧ (¬ ((M 5 x2.toNatClampNeg 1) = 0) → bGo 27 Q 4 [some (cR 4 0), some (cI (x1 + (1 : Int32))), some (cI (x2 + (1 : Int32)))] [] M))))) : bGo 27 Q 4 [some (cR 4 0), some (cI x1), some (cI x2)] [] M := s_iload_n E27_4.1 (k_ E27_4) rfl (s_bipush E27_5.1 (k_ E27_5) (s_icmp_ge E27_7.1 (k_ E27_7) ⟨fun c0 => s_iload_n E27_36.1 (k_ E27_36) rfl (s_iret E27_37.1 (k_ E27_37) (h.1 c0)), fun c0 => s_iload_n E27_10.1 (k_ E27_10) rfl (s_aload_n E27_11.1 (k_ E27_11) rfl (s_getR E27_12.1 (k_ E27_12) rfl rfl (s_iload_n E27_15.1 (k_ E27_15) rfl (s_aaload E27_16.1 (k_ E27_16) rfl ⟨(h.2 c0).1, s_getI1 E27_17.1 (k_ E27_17) rfl (s_if_eq E27_20.1 (k_ E27_20) ⟨fun c1 => s_iconst E27_27.1 (k_ E27_27) (s_iadd E27_28.1 (k_ E27_28) (s_istore_n E27_29.1 (k_ E27_29) (s_iinc E27_30.1 (k_ E27_30) rfl (s_goto E27_33.1 (k_ E27_33) (((h.2 c0).2).1 c1))))), fun c1 => s_iconst E27_23.1 (k_ E27_23) (s_goto E27_24.1 (k_ E27_24) (s_iadd E27_28.1 (k_ E27_28) (s_istore_n E27_29.1 (k_ E27_29) (s_iinc E27_30.1 (k_ E27_30) rfl (s_goto E27_33.1 (k_ E27_33) (((h.2 c0).2).2 c1))))))⟩)⟩))))⟩))
-- 28: X2_combine
theorem E28_0 : aCode 28 0 = (Instr.aload_n 0, 1, [], 0) ∧ bMask 28 0 = [] := ⟨rfl, rfl⟩
theorem E28_1 : aCode 28 1 = (Instr.iload_n 2, 2, [], 0) ∧ bMask 28 1 = [] := ⟨rfl, rfl⟩
theorem E28_2 : aCode 28 2 = (Instr.invokevirtual 31, 5, [10, 2, 1, 2, 0, 15], 0) ∧ bMask 28 2 = [] := ⟨rfl, rfl⟩
theorem E28_5 : aCode 28 5 = (Instr.istore 6, 7, [], 0) ∧ bMask 28 5 = [] := ⟨rfl, rfl⟩
theorem E28_7 : aCode 28 7 = (Instr.aload_n 0, 8, [], 0) ∧ bMask 28 7 = [] := ⟨rfl, rfl⟩
theorem E28_8 : aCode 28 8 = (Instr.iload 4, 10, [], 0) ∧ bMask 28 8 = [] := ⟨rfl, rfl⟩
theorem E28_10 : aCode 28 10 = (Instr.invokevirtual 31, 13, [10, 2, 1, 2, 0, 15], 0) ∧ bMask 28 10 = [] := ⟨rfl, rfl⟩
theorem E28_13 : aCode 28 13 = (Instr.istore 7, 15, [], 0) ∧ bMask 28 13 = [] := ⟨rfl, rfl⟩
theorem E28_15 : aCode 28 15 = (Instr.iconst 0, 16, [], 0) ∧ bMask 28 15 = [] := ⟨rfl, rfl⟩
theorem E28_16 : aCode 28 16 = (Instr.istore 8, 18, [], 0) ∧ bMask 28 16 = [] := ⟨rfl, rfl⟩
theorem E28_18 : aCode 28 18 = (Instr.iload 8, 20, [], 0) ∧ bMask 28 18 = [] := ⟨rfl, rfl⟩
theorem E28_20 : aCode 28 20 = (Instr.bipush 32, 22, [], 32) ∧ bMask 28 20 = [] := ⟨rfl, rfl⟩
theorem E28_22 : aCode 28 22 = (Instr.if_icmp .ge 33, 25, [55], 0) ∧ bMask 28 22 = [] := ⟨rfl, rfl⟩
theorem E28_25 : aCode 28 25 = (Instr.aload 5, 27, [], 0) ∧ bMask 28 25 = [] := ⟨rfl, rfl⟩
theorem E28_27 : aCode 28 27 = (Instr.iload 8, 29, [], 0) ∧ bMask 28 27 = [] := ⟨rfl, rfl⟩
theorem E28_29 : aCode 28 29 = (Instr.aload_n 0, 30, [], 0) ∧ bMask 28 29 = [] := ⟨rfl, rfl⟩
theorem E28_30 : aCode 28 30 = (Instr.iload 6, 32, [], 0) ∧ bMask 28 30 = [] := ⟨rfl, rfl⟩
theorem E28_32 : aCode 28 32 = (Instr.aload_n 1, 33, [], 0) ∧ bMask 28 32 = [] := ⟨rfl, rfl⟩
theorem E28_33 : aCode 28 33 = (Instr.iload 8, 35, [], 0) ∧ bMask 28 33 = [] := ⟨rfl, rfl⟩
theorem E28_35 : aCode 28 35 = (Instr.iaload, 36, [0], 0) ∧ bMask 28 35 = [] := ⟨rfl, rfl⟩
theorem E28_36 : aCode 28 36 = (Instr.imul, 37, [], 0) ∧ bMask 28 36 = [] := ⟨rfl, rfl⟩
theorem E28_37 : aCode 28 37 = (Instr.iload 7, 39, [], 0) ∧ bMask 28 37 = [] := ⟨rfl, rfl⟩
theorem E28_39 : aCode 28 39 = (Instr.aload_n 3, 40, [], 0) ∧ bMask 28 39 = [] := ⟨rfl, rfl⟩
theorem E28_40 : aCode 28 40 = (Instr.iload 8, 42, [], 0) ∧ bMask 28 40 = [] := ⟨rfl, rfl⟩
theorem E28_42 : aCode 28 42 = (Instr.iaload, 43, [0], 0) ∧ bMask 28 42 = [] := ⟨rfl, rfl⟩
theorem E28_43 : aCode 28 43 = (Instr.imul, 44, [], 0) ∧ bMask 28 43 = [] := ⟨rfl, rfl⟩
theorem E28_44 : aCode 28 44 = (Instr.iadd, 45, [], 0) ∧ bMask 28 44 = [] := ⟨rfl, rfl⟩
theorem E28_45 : aCode 28 45 = (Instr.invokevirtual 31, 48, [10, 2, 1, 2, 0, 15], 0) ∧ bMask 28 45 = [] := ⟨rfl, rfl⟩
theorem E28_48 : aCode 28 48 = (Instr.iastore, 49, [0], 0) ∧ bMask 28 48 = [] := ⟨rfl, rfl⟩
theorem E28_49 : aCode 28 49 = (Instr.iinc 8 1, 52, [], 1) ∧ bMask 28 49 = [] := ⟨rfl, rfl⟩
theorem E28_52 : aCode 28 52 = (Instr.goto (-34), 18, [], 0) ∧ bMask 28 52 = [] := ⟨rfl, rfl⟩
theorem E28_55 : aCode 28 55 = (Instr.return_, 56, [], 0) ∧ bMask 28 55 = [] := ⟨rfl, rfl⟩
theorem g_X2_combine_0 {Q : bQ} {M : bM} {j1 : Nat} {x2 : Int32} {j3 : Nat} {x4 : Int32} {j5 : Nat} (h : bCall 10 [cR 1 0, cI x2] M (fun v1 M2 => bV1 v1 fun r3 => (bCall 10 [cR 1 0, cI x4] M2 (fun v4 M5 => bV1 v4 fun r6 => (bGo 28 Q 18 [some (cR 1 0), some (cR 7 j1), some (cI x2), some (cR 7 j3), some (cI x4), some (cR 7 j5), some (cI r3), some (cI r6), some (cI (0 : Int32))] [] M5))))) : bCall 28 [cR 1 0, cR 7 j1, cI x2, cR 7 j3, cI x4, cR 7 j5] M Q := s_aload_n E28_0.1 (k_ E28_0) rfl (s_iload_n E28_1.1 (k_ E28_1) rfl (s_vcall1 E28_2.1 (k_ E28_2) rfl rfl rfl h (fun M2 r3 z0 => s_istore E28_5.1 (k_ E28_5) (s_aload_n E28_7.1 (k_ E28_7) rfl (s_iload E28_8.1 (k_ E28_8) rfl (s_vcall1 E28_10.1 (k_ E28_10) rfl rfl rfl z0 (fun M5 r6 z1 => s_istore E28_13.1 (k_ E28_13) (s_iconst E28_15.1 (k_ E28_15) (s_istore E28_16.1 (k_ E28_16) (z1))))))))))
theorem g_X2_combine_18 {Q : bQ} {M : bM} {j1 : Nat} {x2 : Int32} {j3 : Nat} {x4 : Int32} {j5 : Nat} {x6 : Int32} {x7 : Int32} {x8 : Int32} (h : (((32 : Int32) ≤ x8) → (Q none M)) ∧ (¬ ((32 : Int32) ≤ x8) → ((vp_in x8 32) ∧ ((vp_in x8 32) ∧ (bCall 10 [cR 1 0, cI ((x6 * (M 7 j1 x8.toNatClampNeg)) + (x7 * (M 7 j3 x8.toNatClampNeg)))] M (fun v1 M2 => bV1 v1 fun r3 => ((vp_in x8 32) ∧ bGo 28 Q 18 [some (cR 1 0), some (cR 7 j1), some (cI x2), some (cR 7 j3), some (cI x4), some (cR 7 j5), some (cI x6), some (cI x7), some (cI (x8 + (1 : Int32)))] [] (bU M2 7 j5 x8.toNatClampNeg r3)))))))) : bGo 28 Q 18 [some (cR 1 0), some (cR 7 j1), some (cI x2), some (cR 7 j3), some (cI x4), some (cR 7 j5), some (cI x6), some (cI x7), some (cI x8)] [] M := s_iload E28_18.1 (k_ E28_18) rfl (s_bipush E28_20.1 (k_ E28_20) (s_icmp_ge E28_22.1 (k_ E28_22) ⟨fun c2 => s_ret E28_55.1 (k_ E28_55) (h.1 c2), fun c2 => s_aload E28_25.1 (k_ E28_25) rfl (s_iload E28_27.1 (k_ E28_27) rfl (s_aload_n E28_29.1 (k_ E28_29) rfl (s_iload E28_30.1 (k_ E28_30) rfl (s_aload_n E28_32.1 (k_ E28_32) rfl (s_iload E28_33.1 (k_ E28_33) rfl (s_iaload E28_35.1 (k_ E28_35) rfl ⟨(h.2 c2).1, s_imul E28_36.1 (k_ E28_36) (s_iload E28_37.1 (k_ E28_37) rfl (s_aload_n E28_39.1 (k_ E28_39) rfl (s_iload E28_40.1 (k_ E28_40) rfl (s_iaload E28_42.1 (k_ E28_42) rfl ⟨((h.2 c2).2).1, s_imul E28_43.1 (k_ E28_43) (s_iadd E28_44.1 (k_ E28_44) (s_vcall1 E28_45.1 (k_ E28_45) rfl rfl rfl (((h.2 c2).2).2) (fun M2 r3 z3 => s_iastore E28_48.1 (k_ E28_48) rfl ⟨z3.1, s_iinc E28_49.1 (k_ E28_49) rfl (s_goto E28_52.1 (k_ E28_52) (z3.2))⟩)))⟩))))⟩))))))⟩))
-- 29: X2_constant
theorem E29_0 : aCode 29 0 = (Instr.aload_n 2, 1, [], 0) ∧ bMask 29 0 = [] := ⟨rfl, rfl⟩
theorem E29_1 : aCode 29 1 = (Instr.iconst 0, 2, [], 0) ∧ bMask 29 1 = [] := ⟨rfl, rfl⟩
theorem E29_2 : aCode 29 2 = (Instr.invokestatic 25, 5, [1, 2, 0, 0, 0, 16], 0) ∧ bMask 29 2 = [] := ⟨rfl, rfl⟩
theorem E29_5 : aCode 29 5 = (Instr.aload_n 2, 6, [], 0) ∧ bMask 29 5 = [] := ⟨rfl, rfl⟩
theorem E29_6 : aCode 29 6 = (Instr.iconst 0, 7, [], 0) ∧ bMask 29 6 = [] := ⟨rfl, rfl⟩
theorem E29_7 : aCode 29 7 = (Instr.aload_n 0, 8, [], 0) ∧ bMask 29 7 = [] := ⟨rfl, rfl⟩
theorem E29_8 : aCode 29 8 = (Instr.iload_n 1, 9, [], 0) ∧ bMask 29 8 = [] := ⟨rfl, rfl⟩
theorem E29_9 : aCode 29 9 = (Instr.invokevirtual 31, 12, [10, 2, 1, 2, 0, 15], 0) ∧ bMask 29 9 = [] := ⟨rfl, rfl⟩
theorem E29_12 : aCode 29 12 = (Instr.iastore, 13, [0], 0) ∧ bMask 29 12 = [] := ⟨rfl, rfl⟩
theorem E29_13 : aCode 29 13 = (Instr.return_, 14, [], 0) ∧ bMask 29 13 = [] := ⟨rfl, rfl⟩
theorem g_X2_constant_0 {Q : bQ} {M : bM} {x1 : Int32} {j2 : Nat} (h : bCall 1 [cR 7 j2, cI (0 : Int32)] M (fun v1 M2 => bV0 v1 (bCall 10 [cR 1 0, cI x1] M2 (fun v3 M4 => bV1 v3 fun r5 => ((vp_in (0 : Int32) 32) ∧ (Q none (bU M4 7 j2 (0 : Int32).toNatClampNeg r5))))))) : bCall 29 [cR 1 0, cI x1, cR 7 j2] M Q := s_aload_n E29_0.1 (k_ E29_0) rfl (s_iconst E29_1.1 (k_ E29_1) (s_scall0 E29_2.1 (k_ E29_2) rfl rfl rfl h (fun M2 z0 => s_aload_n E29_5.1 (k_ E29_5) rfl (s_iconst E29_6.1 (k_ E29_6) (s_aload_n E29_7.1 (k_ E29_7) rfl (s_iload_n E29_8.1 (k_ E29_8) rfl (s_vcall1 E29_9.1 (k_ E29_9) rfl rfl rfl z0 (fun M4 r5 z1 => s_iastore E29_12.1 (k_ E29_12) rfl ⟨z1.1, s_ret E29_13.1 (k_ E29_13) z1.2⟩))))))))
-- 30: X2_divide
theorem E30_0 : aCode 30 0 = (Instr.aload_n 0, 1, [], 0) ∧ bMask 30 0 = [] := ⟨rfl, rfl⟩
theorem E30_1 : aCode 30 1 = (Instr.aload_n 2, 2, [], 0) ∧ bMask 30 1 = [] := ⟨rfl, rfl⟩
theorem E30_2 : aCode 30 2 = (Instr.iconst 0, 3, [], 0) ∧ bMask 30 2 = [] := ⟨rfl, rfl⟩
theorem E30_3 : aCode 30 3 = (Instr.iaload, 4, [0], 0) ∧ bMask 30 3 = [] := ⟨rfl, rfl⟩
theorem E30_4 : aCode 30 4 = (Instr.invokevirtual 35, 7, [9, 2, 1, 2, 0, 17], 0) ∧ bMask 30 4 = [] := ⟨rfl, rfl⟩
theorem E30_7 : aCode 30 7 = (Instr.istore 4, 9, [], 0) ∧ bMask 30 7 = [] := ⟨rfl, rfl⟩
theorem E30_9 : aCode 30 9 = (Instr.iconst 0, 10, [], 0) ∧ bMask 30 9 = [] := ⟨rfl, rfl⟩
theorem E30_10 : aCode 30 10 = (Instr.istore 5, 12, [], 0) ∧ bMask 30 10 = [] := ⟨rfl, rfl⟩
theorem E30_12 : aCode 30 12 = (Instr.iload 5, 14, [], 0) := rfl
theorem E30_14 : aCode 30 14 = (Instr.bipush 32, 16, [], 32) ∧ bMask 30 14 = [] := ⟨rfl, rfl⟩
theorem E30_16 : aCode 30 16 = (Instr.if_icmp .ge 71, 19, [87], 0) ∧ bMask 30 16 = [] := ⟨rfl, rfl⟩
theorem E30_19 : aCode 30 19 = (Instr.aload_n 1, 20, [], 0) ∧ bMask 30 19 = [] := ⟨rfl, rfl⟩
theorem E30_20 : aCode 30 20 = (Instr.iload 5, 22, [], 0) ∧ bMask 30 20 = [] := ⟨rfl, rfl⟩
theorem E30_22 : aCode 30 22 = (Instr.iaload, 23, [0], 0) ∧ bMask 30 22 = [] := ⟨rfl, rfl⟩
theorem E30_23 : aCode 30 23 = (Instr.istore 6, 25, [], 0) ∧ bMask 30 23 = [] := ⟨rfl, rfl⟩
theorem E30_25 : aCode 30 25 = (Instr.iconst 1, 26, [], 1) ∧ bMask 30 25 = [] := ⟨rfl, rfl⟩
theorem E30_26 : aCode 30 26 = (Instr.istore 7, 28, [], 0) ∧ bMask 30 26 = [] := ⟨rfl, rfl⟩
theorem E30_28 : aCode 30 28 = (Instr.iload 7, 30, [], 0) ∧ bMask 30 28 = [] := ⟨rfl, rfl⟩
theorem E30_30 : aCode 30 30 = (Instr.iload 5, 32, [], 0) ∧ bMask 30 30 = [] := ⟨rfl, rfl⟩
theorem E30_32 : aCode 30 32 = (Instr.if_icmp .gt 29, 35, [61], 0) ∧ bMask 30 32 = [] := ⟨rfl, rfl⟩
theorem E30_35 : aCode 30 35 = (Instr.iload 6, 37, [], 0) ∧ bMask 30 35 = [] := ⟨rfl, rfl⟩
theorem E30_37 : aCode 30 37 = (Instr.aload_n 2, 38, [], 0) ∧ bMask 30 37 = [] := ⟨rfl, rfl⟩
theorem E30_38 : aCode 30 38 = (Instr.iload 7, 40, [], 0) ∧ bMask 30 38 = [] := ⟨rfl, rfl⟩
theorem E30_40 : aCode 30 40 = (Instr.iaload, 41, [0], 0) ∧ bMask 30 40 = [] := ⟨rfl, rfl⟩
theorem E30_41 : aCode 30 41 = (Instr.aload_n 0, 42, [], 0) ∧ bMask 30 41 = [] := ⟨rfl, rfl⟩
theorem E30_42 : aCode 30 42 = (Instr.getfield 15, 45, [12, 2, 1, 2], 0) ∧ bMask 30 42 = [] := ⟨rfl, rfl⟩
theorem E30_45 : aCode 30 45 = (Instr.iload 5, 47, [], 0) ∧ bMask 30 45 = [] := ⟨rfl, rfl⟩
theorem E30_47 : aCode 30 47 = (Instr.iload 7, 49, [], 0) ∧ bMask 30 47 = [] := ⟨rfl, rfl⟩
theorem E30_49 : aCode 30 49 = (Instr.isub, 50, [], 0) ∧ bMask 30 49 = [] := ⟨rfl, rfl⟩
theorem E30_50 : aCode 30 50 = (Instr.iaload, 51, [0], 0) ∧ bMask 30 50 = [] := ⟨rfl, rfl⟩
theorem E30_51 : aCode 30 51 = (Instr.imul, 52, [], 0) ∧ bMask 30 51 = [] := ⟨rfl, rfl⟩
theorem E30_52 : aCode 30 52 = (Instr.isub, 53, [], 0) ∧ bMask 30 52 = [] := ⟨rfl, rfl⟩
theorem E30_53 : aCode 30 53 = (Instr.istore 6, 55, [], 0) ∧ bMask 30 53 = [] := ⟨rfl, rfl⟩
theorem E30_55 : aCode 30 55 = (Instr.iinc 7 1, 58, [], 1) ∧ bMask 30 55 = [] := ⟨rfl, rfl⟩
theorem E30_58 : aCode 30 58 = (Instr.goto (-30), 28, [], 0) ∧ bMask 30 58 = [] := ⟨rfl, rfl⟩
theorem E30_61 : aCode 30 61 = (Instr.aload_n 0, 62, [], 0) ∧ bMask 30 61 = [] := ⟨rfl, rfl⟩
theorem E30_62 : aCode 30 62 = (Instr.getfield 15, 65, [12, 2, 1, 2], 0) ∧ bMask 30 62 = [] := ⟨rfl, rfl⟩
theorem E30_65 : aCode 30 65 = (Instr.iload 5, 67, [], 0) ∧ bMask 30 65 = [] := ⟨rfl, rfl⟩
theorem E30_67 : aCode 30 67 = (Instr.aload_n 0, 68, [], 0) ∧ bMask 30 67 = [] := ⟨rfl, rfl⟩
theorem E30_68 : aCode 30 68 = (Instr.aload_n 0, 69, [], 0) ∧ bMask 30 68 = [] := ⟨rfl, rfl⟩
theorem E30_69 : aCode 30 69 = (Instr.iload 6, 71, [], 0) ∧ bMask 30 69 = [] := ⟨rfl, rfl⟩
theorem E30_71 : aCode 30 71 = (Instr.invokevirtual 31, 74, [10, 2, 1, 2, 0, 15], 0) ∧ bMask 30 71 = [] := ⟨rfl, rfl⟩
theorem E30_74 : aCode 30 74 = (Instr.iload 4, 76, [], 0) ∧ bMask 30 74 = [] := ⟨rfl, rfl⟩
theorem E30_76 : aCode 30 76 = (Instr.imul, 77, [], 0) ∧ bMask 30 76 = [] := ⟨rfl, rfl⟩
theorem E30_77 : aCode 30 77 = (Instr.invokevirtual 31, 80, [10, 2, 1, 2, 0, 15], 0) ∧ bMask 30 77 = [] := ⟨rfl, rfl⟩
theorem E30_80 : aCode 30 80 = (Instr.iastore, 81, [0], 0) ∧ bMask 30 80 = [] := ⟨rfl, rfl⟩
theorem E30_81 : aCode 30 81 = (Instr.iinc 5 1, 84, [], 1) ∧ bMask 30 81 = [] := ⟨rfl, rfl⟩
theorem E30_84 : aCode 30 84 = (Instr.goto (-72), 12, [], 0) ∧ bMask 30 84 = [] := ⟨rfl, rfl⟩
theorem E30_87 : aCode 30 87 = (Instr.aload_n 0, 88, [], 0) ∧ bMask 30 87 = [] := ⟨rfl, rfl⟩
theorem E30_88 : aCode 30 88 = (Instr.getfield 15, 91, [12, 2, 1, 2], 0) ∧ bMask 30 88 = [] := ⟨rfl, rfl⟩
theorem E30_91 : aCode 30 91 = (Instr.iconst 0, 92, [], 0) ∧ bMask 30 91 = [] := ⟨rfl, rfl⟩
theorem E30_92 : aCode 30 92 = (Instr.aload_n 3, 93, [], 0) ∧ bMask 30 92 = [] := ⟨rfl, rfl⟩
theorem E30_93 : aCode 30 93 = (Instr.iconst 0, 94, [], 0) ∧ bMask 30 93 = [] := ⟨rfl, rfl⟩
theorem E30_94 : aCode 30 94 = (Instr.bipush 32, 96, [], 32) ∧ bMask 30 94 = [] := ⟨rfl, rfl⟩
theorem E30_96 : aCode 30 96 = (Instr.invokestatic 38, 99, [1000, 38], 0) ∧ bMask 30 96 = [] := ⟨rfl, rfl⟩
theorem E30_99 : aCode 30 99 = (Instr.return_, 100, [], 0) ∧ bMask 30 99 = [] := ⟨rfl, rfl⟩
theorem g_X2_divide_0 {Q : bQ} {M : bM} {j1 : Nat} {j2 : Nat} {j3 : Nat} (h : (vp_in (0 : Int32) 32) ∧ (bCall 9 [cR 1 0, cI (M 7 j2 (0 : Int32).toNatClampNeg)] M (fun v1 M2 => bV1 v1 fun r3 => (bGo 30 Q 12 [some (cR 1 0), some (cR 7 j1), some (cR 7 j2), some (cR 7 j3), some (cI r3), some (cI (0 : Int32)), none, none] [] M2)))) : bCall 30 [cR 1 0, cR 7 j1, cR 7 j2, cR 7 j3] M Q := s_aload_n E30_0.1 (k_ E30_0) rfl (s_aload_n E30_1.1 (k_ E30_1) rfl (s_iconst E30_2.1 (k_ E30_2) (s_iaload E30_3.1 (k_ E30_3) rfl ⟨h.1, s_vcall1 E30_4.1 (k_ E30_4) rfl rfl rfl h.2 (fun M2 r3 z0 => s_istore E30_7.1 (k_ E30_7) (s_iconst E30_9.1 (k_ E30_9) (s_istore E30_10.1 (k_ E30_10) (z0))))⟩)))
theorem g_X2_divide_12 {Q : bQ} {M : bM} {j1 : Nat} {j2 : Nat} {j3 : Nat} {x4 : Int32} {x5 : Int32} {o6 : Option bV} {o7 : Option bV} (h : (((32 : Int32) ≤ x5) → ((¬ (0 : Int32) < 0 ∧ ¬ (0 : Int32) < 0 ∧ ¬ (32 : Int32) < 0 ∧ (0 : Int32).toNatClampNeg + (32 : Int32).toNatClampNeg ≤ 32 ∧ (0 : Int32).toNatClampNeg + (32 : Int32).toNatClampNeg ≤ 32) ∧ (Q none (bCp M 7 12 7 j3 (0 : Int32) (0 : Int32) (32 : Int32))))) ∧ (¬ ((32 : Int32) ≤ x5) → ((vp_in x5 32) ∧ bGo 30 Q 28 [some (cR 1 0), some (cR 7 j1), some (cR 7 j2), some (cR 7 j3), some (cI x4), some (cI x5), some (cI (M 7 j1 x5.toNatClampNeg)), some (cI (1 : Int32))] [] M))) : bGo 30 Q 12 [some (cR 1 0), some (cR 7 j1), some (cR 7 j2), some (cR 7 j3), some (cI x4), some (cI x5), o6, o7] [] M := s_iload E30_12 rfl rfl (s_bipush E30_14.1 (k_ E30_14) (s_icmp_ge E30_16.1 (k_ E30_16) ⟨fun c1 => s_aload_n E30_87.1 (k_ E30_87) rfl (s_getR E30_88.1 (k_ E30_88) rfl rfl (s_iconst E30_91.1 (k_ E30_91) (s_aload_n E30_92.1 (k_ E30_92) rfl (s_iconst E30_93.1 (k_ E30_93) (s_bipush E30_94.1 (k_ E30_94) (s_acopy E30_96.1 (k_ E30_96) rfl ⟨(h.1 c1).1, s_ret E30_99.1 (k_ E30_99) ((h.1 c1).2)⟩)))))), fun c1 => s_aload_n E30_19.1 (k_ E30_19) rfl (s_iload E30_20.1 (k_ E30_20) rfl (s_iaload E30_22.1 (k_ E30_22) rfl ⟨(h.2 c1).1, s_istore E30_23.1 (k_ E30_23) (s_iconst E30_25.1 (k_ E30_25) (s_istore E30_26.1 (k_ E30_26) ((h.2 c1).2)))⟩))⟩))
theorem g_X2_divide_28 {Q : bQ} {M : bM} {j1 : Nat} {j2 : Nat} {j3 : Nat} {x4 : Int32} {x5 : Int32} {x6 : Int32} {x7 : Int32} (h : ((x5 < x7) → (bCall 10 [cR 1 0, cI x6] M (fun v1 M2 => bV1 v1 fun r3 => (bCall 10 [cR 1 0, cI (r3 * x4)] M2 (fun v4 M5 => bV1 v4 fun r6 => ((vp_in x5 32) ∧ bGo 30 Q 12 [some (cR 1 0), some (cR 7 j1), some (cR 7 j2), some (cR 7 j3), some (cI x4), some (cI (x5 + (1 : Int32))), some (cI x6), some (cI x7)] [] (bU M5 7 12 x5.toNatClampNeg r6))))))) ∧ (¬ (x5 < x7) → ((vp_in x7 32) ∧ ((vp_in (x5 - x7) 32) ∧ bGo 30 Q 28 [some (cR 1 0), some (cR 7 j1), some (cR 7 j2), some (cR 7 j3), some (cI x4), some (cI x5), some (cI (x6 - ((M 7 j2 x7.toNatClampNeg) * (M 7 12 (x5 - x7).toNatClampNeg)))), some (cI (x7 + (1 : Int32)))] [] M)))) : bGo 30 Q 28 [some (cR 1 0), some (cR 7 j1), some (cR 7 j2), some (cR 7 j3), some (cI x4), some (cI x5), some (cI x6), some (cI x7)] [] M := s_iload E30_28.1 (k_ E30_28) rfl (s_iload E30_30.1 (k_ E30_30) rfl (s_icmp_gt E30_32.1 (k_ E30_32) ⟨fun c2 => s_aload_n E30_61.1 (k_ E30_61) rfl (s_getR E30_62.1 (k_ E30_62) rfl rfl (s_iload E30_65.1 (k_ E30_65) rfl (s_aload_n E30_67.1 (k_ E30_67) rfl (s_aload_n E30_68.1 (k_ E30_68) rfl (s_iload E30_69.1 (k_ E30_69) rfl (s_vcall1 E30_71.1 (k_ E30_71) rfl rfl rfl (h.1 c2) (fun M2 r3 z3 => s_iload E30_74.1 (k_ E30_74) rfl (s_imul E30_76.1 (k_ E30_76) (s_vcall1 E30_77.1 (k_ E30_77) rfl rfl rfl z3 (fun M5 r6 z4 => s_iastore E30_80.1 (k_ E30_80) rfl ⟨z4.1, s_iinc E30_81.1 (k_ E30_81) rfl (s_goto E30_84.1 (k_ E30_84) (z4.2))⟩)))))))))), fun c2 => s_iload E30_35.1 (k_ E30_35) rfl (s_aload_n E30_37.1 (k_ E30_37) rfl (s_iload E30_38.1 (k_ E30_38) rfl (s_iaload E30_40.1 (k_ E30_40) rfl ⟨(h.2 c2).1, s_aload_n E30_41.1 (k_ E30_41) rfl (s_getR E30_42.1 (k_ E30_42) rfl rfl (s_iload E30_45.1 (k_ E30_45) rfl (s_iload E30_47.1 (k_ E30_47) rfl (s_isub E30_49.1 (k_ E30_49) (s_iaload E30_50.1 (k_ E30_50) rfl ⟨((h.2 c2).2).1, s_imul E30_51.1 (k_ E30_51) (s_isub E30_52.1 (k_ E30_52) (s_istore E30_53.1 (k_ E30_53) (s_iinc E30_55.1 (k_ E30_55) rfl (s_goto E30_58.1 (k_ E30_58) (((h.2 c2).2).2)))))⟩)))))⟩)))⟩))
-- 32: X2_isPrime
theorem E32_0 : aCode 32 0 = (Instr.iconst 2, 1, [], 2) ∧ bMask 32 0 = [] := ⟨rfl, rfl⟩
theorem E32_1 : aCode 32 1 = (Instr.istore_n 1, 2, [], 0) ∧ bMask 32 1 = [] := ⟨rfl, rfl⟩
theorem E32_2 : aCode 32 2 = (Instr.iload_n 1, 3, [], 0) ∧ bMask 32 2 = [] := ⟨rfl, rfl⟩
theorem E32_3 : aCode 32 3 = (Instr.iload_n 1, 4, [], 0) ∧ bMask 32 3 = [] := ⟨rfl, rfl⟩
theorem E32_4 : aCode 32 4 = (Instr.imul, 5, [], 0) ∧ bMask 32 4 = [] := ⟨rfl, rfl⟩
theorem E32_5 : aCode 32 5 = (Instr.iload_n 0, 6, [], 0) ∧ bMask 32 5 = [] := ⟨rfl, rfl⟩
theorem E32_6 : aCode 32 6 = (Instr.if_icmp .gt 24, 9, [30], 0) ∧ bMask 32 6 = [] := ⟨rfl, rfl⟩
theorem E32_9 : aCode 32 9 = (Instr.iload_n 1, 10, [], 0) ∧ bMask 32 9 = [] := ⟨rfl, rfl⟩
theorem E32_10 : aCode 32 10 = (Instr.sipush 997, 13, [], 997) ∧ bMask 32 10 = [] := ⟨rfl, rfl⟩
theorem E32_13 : aCode 32 13 = (Instr.if_icmp .ge 17, 16, [30], 0) ∧ bMask 32 13 = [] := ⟨rfl, rfl⟩
theorem E32_16 : aCode 32 16 = (Instr.iload_n 0, 17, [], 0) ∧ bMask 32 16 = [] := ⟨rfl, rfl⟩
theorem E32_17 : aCode 32 17 = (Instr.iload_n 1, 18, [], 0) ∧ bMask 32 17 = [] := ⟨rfl, rfl⟩
theorem E32_18 : aCode 32 18 = (Instr.irem, 19, [], 0) ∧ bMask 32 18 = [] := ⟨rfl, rfl⟩
theorem E32_19 : aCode 32 19 = (Instr.ifCond .ne 5, 22, [24], 0) ∧ bMask 32 19 = [] := ⟨rfl, rfl⟩
theorem E32_22 : aCode 32 22 = (Instr.iconst 0, 23, [], 0) ∧ bMask 32 22 = [] := ⟨rfl, rfl⟩
theorem E32_23 : aCode 32 23 = (Instr.ireturn, 24, [1], 0) ∧ bMask 32 23 = [] := ⟨rfl, rfl⟩
theorem E32_24 : aCode 32 24 = (Instr.iinc 1 1, 27, [], 1) ∧ bMask 32 24 = [] := ⟨rfl, rfl⟩
theorem E32_27 : aCode 32 27 = (Instr.goto (-25), 2, [], 0) ∧ bMask 32 27 = [] := ⟨rfl, rfl⟩
theorem E32_30 : aCode 32 30 = (Instr.iload_n 0, 31, [], 0) ∧ bMask 32 30 = [] := ⟨rfl, rfl⟩
theorem E32_31 : aCode 32 31 = (Instr.iconst 1, 32, [], 1) ∧ bMask 32 31 = [] := ⟨rfl, rfl⟩
theorem E32_32 : aCode 32 32 = (Instr.if_icmp .le 7, 35, [39], 0) ∧ bMask 32 32 = [] := ⟨rfl, rfl⟩
theorem E32_35 : aCode 32 35 = (Instr.iconst 1, 36, [], 1) ∧ bMask 32 35 = [] := ⟨rfl, rfl⟩
theorem E32_36 : aCode 32 36 = (Instr.goto 4, 40, [], 0) ∧ bMask 32 36 = [] := ⟨rfl, rfl⟩
theorem E32_39 : aCode 32 39 = (Instr.iconst 0, 40, [], 0) ∧ bMask 32 39 = [] := ⟨rfl, rfl⟩
theorem E32_40 : aCode 32 40 = (Instr.ireturn, 41, [1], 0) ∧ bMask 32 40 = [] := ⟨rfl, rfl⟩
theorem g_X2_isPrime_0 {Q : bQ} {M : bM} {x0 : Int32} (h : bGo 32 Q 2 [some (cI x0), some (cI (2 : Int32))] [] M) : bCall 32 [cI x0] M Q := s_iconst E32_0.1 (k_ E32_0) (s_istore_n E32_1.1 (k_ E32_1) (h))
theorem g_X2_isPrime_2 {Q : bQ} {M : bM} {x0 : Int32} {x1 : Int32} (h : ((x0 < (x1 * x1)) → (((x0 ≤ (1 : Int32)) → (((0 : Int32) = 0 ∨ (0 : Int32) = 1) ∧ Q (some (cI (0 : Int32))) M)) ∧ (¬ (x0 ≤ (1 : Int32)) → (((1 : Int32) = 0 ∨ (1 : Int32) = 1) ∧ Q (some (cI (1 : Int32))) M)))) ∧ (¬ (x0 < (x1 * x1)) → ((((997 : Int32) ≤ x1) → (((x0 ≤ (1 : Int32)) → (((0 : Int32) = 0 ∨ (0 : Int32) = 1) ∧ Q (some (cI (0 : Int32))) M)) ∧ (¬ (x0 ≤ (1 : Int32)) → (((1 : Int32) = 0 ∨ (1 : Int32) = 1) ∧ Q (some (cI (1 : Int32))) M)))) ∧ (¬ ((997 : Int32) ≤ x1) → ((¬ x1 = 0) ∧ (((¬ (aRem x0 x1) = 0) → bGo 32 Q 2 [some (cI x0), some (cI (x1 + (1 : Int32)))] [] M) ∧ (¬ (¬ (aRem x0 x1) = 0) → (((0 : Int32) = 0 ∨ (0 : Int32) = 1) ∧ Q (some (cI (0 : Int32))) M)))))))) : bGo 32 Q 2 [some (cI x0), some (cI x1)] [] M := s_iload_n E32_2.1 (k_ E32_2) rfl (s_iload_n E32_3.1 (k_ E32_3) rfl (s_imul E32_4.1 (k_ E32_4) (s_iload_n E32_5.1 (k_ E32_5) rfl (s_icmp_gt E32_6.1 (k_ E32_6) ⟨fun c0 => s_iload_n E32_30.1 (k_ E32_30) rfl (s_iconst E32_31.1 (k_ E32_31) (s_icmp_le E32_32.1 (k_ E32_32) ⟨fun c1 => s_iconst E32_39.1 (k_ E32_39) (s_zret E32_40.1 (k_ E32_40) ((h.1 c0).1 c1)), fun c1 => s_iconst E32_35.1 (k_ E32_35) (s_goto E32_36.1 (k_ E32_36) (s_zret E32_40.1 (k_ E32_40) ((h.1 c0).2 c1)))⟩)), fun c0 => s_iload_n E32_9.1 (k_ E32_9) rfl (s_sipush E32_10.1 (k_ E32_10) (s_icmp_ge E32_13.1 (k_ E32_13) ⟨fun c2 => s_iload_n E32_30.1 (k_ E32_30) rfl (s_iconst E32_31.1 (k_ E32_31) (s_icmp_le E32_32.1 (k_ E32_32) ⟨fun c3 => s_iconst E32_39.1 (k_ E32_39) (s_zret E32_40.1 (k_ E32_40) (((h.2 c0).1 c2).1 c3)), fun c3 => s_iconst E32_35.1 (k_ E32_35) (s_goto E32_36.1 (k_ E32_36) (s_zret E32_40.1 (k_ E32_40) (((h.2 c0).1 c2).2 c3)))⟩)), fun c2 => s_iload_n E32_16.1 (k_ E32_16) rfl (s_iload_n E32_17.1 (k_ E32_17) rfl (s_irem E32_18.1 (k_ E32_18) ⟨((h.2 c0).2 c2).1, s_if_ne E32_19.1 (k_ E32_19) ⟨fun c4 => s_iinc E32_24.1 (k_ E32_24) rfl (s_goto E32_27.1 (k_ E32_27) ((((h.2 c0).2 c2).2).1 c4)), fun c4 => s_iconst E32_22.1 (k_ E32_22) (s_zret E32_23.1 (k_ E32_23) ((((h.2 c0).2 c2).2).2 c4))⟩⟩))⟩))⟩))))
-- 33: X2_leadingZeros
theorem E33_0 : aCode 33 0 = (Instr.iconst 0, 1, [], 0) ∧ bMask 33 0 = [] := ⟨rfl, rfl⟩
theorem E33_1 : aCode 33 1 = (Instr.istore_n 1, 2, [], 0) ∧ bMask 33 1 = [] := ⟨rfl, rfl⟩
theorem E33_2 : aCode 33 2 = (Instr.iload_n 1, 3, [], 0) ∧ bMask 33 2 = [] := ⟨rfl, rfl⟩
theorem E33_3 : aCode 33 3 = (Instr.bipush 32, 5, [], 32) ∧ bMask 33 3 = [] := ⟨rfl, rfl⟩
theorem E33_5 : aCode 33 5 = (Instr.if_icmp .ge 17, 8, [22], 0) ∧ bMask 33 5 = [] := ⟨rfl, rfl⟩
theorem E33_8 : aCode 33 8 = (Instr.aload_n 0, 9, [], 0) ∧ bMask 33 8 = [] := ⟨rfl, rfl⟩
theorem E33_9 : aCode 33 9 = (Instr.iload_n 1, 10, [], 0) ∧ bMask 33 9 = [] := ⟨rfl, rfl⟩
theorem E33_10 : aCode 33 10 = (Instr.iaload, 11, [0], 0) ∧ bMask 33 10 = [] := ⟨rfl, rfl⟩
theorem E33_11 : aCode 33 11 = (Instr.ifCond .eq 5, 14, [16], 0) ∧ bMask 33 11 = [] := ⟨rfl, rfl⟩
theorem E33_14 : aCode 33 14 = (Instr.iload_n 1, 15, [], 0) ∧ bMask 33 14 = [] := ⟨rfl, rfl⟩
theorem E33_15 : aCode 33 15 = (Instr.ireturn, 16, [0], 0) ∧ bMask 33 15 = [] := ⟨rfl, rfl⟩
theorem E33_16 : aCode 33 16 = (Instr.iinc 1 1, 19, [], 1) ∧ bMask 33 16 = [] := ⟨rfl, rfl⟩
theorem E33_19 : aCode 33 19 = (Instr.goto (-17), 2, [], 0) ∧ bMask 33 19 = [] := ⟨rfl, rfl⟩
theorem E33_22 : aCode 33 22 = (Instr.bipush 32, 24, [], 32) ∧ bMask 33 22 = [] := ⟨rfl, rfl⟩
theorem E33_24 : aCode 33 24 = (Instr.ireturn, 25, [0], 0) ∧ bMask 33 24 = [] := ⟨rfl, rfl⟩
theorem g_X2_leadingZeros_0 {Q : bQ} {M : bM} {j0 : Nat} (h : bGo 33 Q 2 [some (cR 7 j0), some (cI (0 : Int32))] [] M) : bCall 33 [cR 7 j0] M Q := s_iconst E33_0.1 (k_ E33_0) (s_istore_n E33_1.1 (k_ E33_1) (h))
theorem g_X2_leadingZeros_2 {Q : bQ} {M : bM} {j0 : Nat} {x1 : Int32} (h : (((32 : Int32) ≤ x1) → (Q (some (cI (32 : Int32))) M)) ∧ (¬ ((32 : Int32) ≤ x1) → ((vp_in x1 32) ∧ ((((M 7 j0 x1.toNatClampNeg) = 0) → bGo 33 Q 2 [some (cR 7 j0), some (cI (x1 + (1 : Int32)))] [] M) ∧ (¬ ((M 7 j0 x1.toNatClampNeg) = 0) → (Q (some (cI x1)) M)))))) : bGo 33 Q 2 [some (cR 7 j0), some (cI x1)] [] M := s_iload_n E33_2.1 (k_ E33_2) rfl (s_bipush E33_3.1 (k_ E33_3) (s_icmp_ge E33_5.1 (k_ E33_5) ⟨fun c0 => s_bipush E33_22.1 (k_ E33_22) (s_iret E33_24.1 (k_ E33_24) (h.1 c0)), fun c0 => s_aload_n E33_8.1 (k_ E33_8) rfl (s_iload_n E33_9.1 (k_ E33_9) rfl (s_iaload E33_10.1 (k_ E33_10) rfl ⟨(h.2 c0).1, s_if_eq E33_11.1 (k_ E33_11) ⟨fun c1 => s_iinc E33_16.1 (k_ E33_16) rfl (s_goto E33_19.1 (k_ E33_19) (((h.2 c0).2).1 c1)), fun c1 => s_iload_n E33_14.1 (k_ E33_14) rfl (s_iret E33_15.1 (k_ E33_15) (((h.2 c0).2).2 c1))⟩⟩))⟩))
-- 34: X2_multiply
theorem E34_0 : aCode 34 0 = (Instr.bipush 31, 2, [], 31) ∧ bMask 34 0 = [] := ⟨rfl, rfl⟩
theorem E34_2 : aCode 34 2 = (Instr.istore 4, 4, [], 0) ∧ bMask 34 2 = [] := ⟨rfl, rfl⟩
theorem E34_4 : aCode 34 4 = (Instr.iload 4, 6, [], 0) := rfl
theorem E34_6 : aCode 34 6 = (Instr.ifCond .lt 55, 9, [61], 0) ∧ bMask 34 6 = [] := ⟨rfl, rfl⟩
theorem E34_9 : aCode 34 9 = (Instr.iconst 0, 10, [], 0) ∧ bMask 34 9 = [] := ⟨rfl, rfl⟩
theorem E34_10 : aCode 34 10 = (Instr.istore 5, 12, [], 0) ∧ bMask 34 10 = [] := ⟨rfl, rfl⟩
theorem E34_12 : aCode 34 12 = (Instr.iconst 0, 13, [], 0) ∧ bMask 34 12 = [] := ⟨rfl, rfl⟩
theorem E34_13 : aCode 34 13 = (Instr.istore 6, 15, [], 0) ∧ bMask 34 13 = [] := ⟨rfl, rfl⟩
theorem E34_15 : aCode 34 15 = (Instr.iload 6, 17, [], 0) ∧ bMask 34 15 = [] := ⟨rfl, rfl⟩
theorem E34_17 : aCode 34 17 = (Instr.iload 4, 19, [], 0) ∧ bMask 34 17 = [] := ⟨rfl, rfl⟩
theorem E34_19 : aCode 34 19 = (Instr.if_icmp .gt 26, 22, [45], 0) ∧ bMask 34 19 = [] := ⟨rfl, rfl⟩
theorem E34_22 : aCode 34 22 = (Instr.iload 5, 24, [], 0) ∧ bMask 34 22 = [] := ⟨rfl, rfl⟩
theorem E34_24 : aCode 34 24 = (Instr.aload_n 1, 25, [], 0) ∧ bMask 34 24 = [] := ⟨rfl, rfl⟩
theorem E34_25 : aCode 34 25 = (Instr.iload 6, 27, [], 0) ∧ bMask 34 25 = [] := ⟨rfl, rfl⟩
theorem E34_27 : aCode 34 27 = (Instr.iaload, 28, [0], 0) ∧ bMask 34 27 = [] := ⟨rfl, rfl⟩
theorem E34_28 : aCode 34 28 = (Instr.aload_n 2, 29, [], 0) ∧ bMask 34 28 = [] := ⟨rfl, rfl⟩
theorem E34_29 : aCode 34 29 = (Instr.iload 4, 31, [], 0) ∧ bMask 34 29 = [] := ⟨rfl, rfl⟩
theorem E34_31 : aCode 34 31 = (Instr.iload 6, 33, [], 0) ∧ bMask 34 31 = [] := ⟨rfl, rfl⟩
theorem E34_33 : aCode 34 33 = (Instr.isub, 34, [], 0) ∧ bMask 34 33 = [] := ⟨rfl, rfl⟩
theorem E34_34 : aCode 34 34 = (Instr.iaload, 35, [0], 0) ∧ bMask 34 34 = [] := ⟨rfl, rfl⟩
theorem E34_35 : aCode 34 35 = (Instr.imul, 36, [], 0) ∧ bMask 34 35 = [] := ⟨rfl, rfl⟩
theorem E34_36 : aCode 34 36 = (Instr.iadd, 37, [], 0) ∧ bMask 34 36 = [] := ⟨rfl, rfl⟩
theorem E34_37 : aCode 34 37 = (Instr.istore 5, 39, [], 0) ∧ bMask 34 37 = [] := ⟨rfl, rfl⟩
theorem E34_39 : aCode 34 39 = (Instr.iinc 6 1, 42, [], 1) ∧ bMask 34 39 = [] := ⟨rfl, rfl⟩
theorem E34_42 : aCode 34 42 = (Instr.goto (-27), 15, [], 0) ∧ bMask 34 42 = [] := ⟨rfl, rfl⟩
theorem E34_45 : aCode 34 45 = (Instr.aload_n 3, 46, [], 0) ∧ bMask 34 45 = [] := ⟨rfl, rfl⟩
theorem E34_46 : aCode 34 46 = (Instr.iload 4, 48, [], 0) ∧ bMask 34 46 = [] := ⟨rfl, rfl⟩
theorem E34_48 : aCode 34 48 = (Instr.aload_n 0, 49, [], 0) ∧ bMask 34 48 = [] := ⟨rfl, rfl⟩
theorem E34_49 : aCode 34 49 = (Instr.iload 5, 51, [], 0) ∧ bMask 34 49 = [] := ⟨rfl, rfl⟩
theorem E34_51 : aCode 34 51 = (Instr.invokevirtual 31, 54, [10, 2, 1, 2, 0, 15], 0) ∧ bMask 34 51 = [] := ⟨rfl, rfl⟩
theorem E34_54 : aCode 34 54 = (Instr.iastore, 55, [0], 0) ∧ bMask 34 54 = [] := ⟨rfl, rfl⟩
theorem E34_55 : aCode 34 55 = (Instr.iinc 4 (-1), 58, [], (-1)) ∧ bMask 34 55 = [] := ⟨rfl, rfl⟩
theorem E34_58 : aCode 34 58 = (Instr.goto (-54), 4, [], 0) ∧ bMask 34 58 = [] := ⟨rfl, rfl⟩
theorem E34_61 : aCode 34 61 = (Instr.return_, 62, [], 0) ∧ bMask 34 61 = [] := ⟨rfl, rfl⟩
theorem g_X2_multiply_0 {Q : bQ} {M : bM} {j1 : Nat} {j2 : Nat} {j3 : Nat} (h : bGo 34 Q 4 [some (cR 1 0), some (cR 7 j1), some (cR 7 j2), some (cR 7 j3), some (cI (31 : Int32)), none, none] [] M) : bCall 34 [cR 1 0, cR 7 j1, cR 7 j2, cR 7 j3] M Q := s_bipush E34_0.1 (k_ E34_0) (s_istore E34_2.1 (k_ E34_2) (h))
theorem g_X2_multiply_4 {Q : bQ} {M : bM} {j1 : Nat} {j2 : Nat} {j3 : Nat} {x4 : Int32} {o5 : Option bV} {o6 : Option bV} (h : ((x4 < 0) → (Q none M)) ∧ (¬ (x4 < 0) → bGo 34 Q 15 [some (cR 1 0), some (cR 7 j1), some (cR 7 j2), some (cR 7 j3), some (cI x4), some (cI (0 : Int32)), some (cI (0 : Int32))] [] M)) : bGo 34 Q 4 [some (cR 1 0), some (cR 7 j1), some (cR 7 j2), some (cR 7 j3), some (cI x4), o5, o6] [] M := s_iload E34_4 rfl rfl (s_if_lt E34_6.1 (k_ E34_6) ⟨fun c0 => s_ret E34_61.1 (k_ E34_61) (h.1 c0), fun c0 => s_iconst E34_9.1 (k_ E34_9) (s_istore E34_10.1 (k_ E34_10) (s_iconst E34_12.1 (k_ E34_12) (s_istore E34_13.1 (k_ E34_13) (h.2 c0))))⟩)
theorem g_X2_multiply_15 {Q : bQ} {M : bM} {j1 : Nat} {j2 : Nat} {j3 : Nat} {x4 : Int32} {x5 : Int32} {x6 : Int32} (h : ((x4 < x6) → (bCall 10 [cR 1 0, cI x5] M (fun v1 M2 => bV1 v1 fun r3 => ((vp_in x4 32) ∧ bGo 34 Q 4 [some (cR 1 0), some (cR 7 j1), some (cR 7 j2), some (cR 7 j3), some (cI (x4 + (-1 : Int32))), some (cI x5), some (cI x6)] [] (bU M2 7 j3 x4.toNatClampNeg r3))))) ∧ (¬ (x4 < x6) → ((vp_in x6 32) ∧ ((vp_in (x4 - x6) 32) ∧ bGo 34 Q 15 [some (cR 1 0), some (cR 7 j1), some (cR 7 j2), some (cR 7 j3), some (cI x4), some (cI (x5 + ((M 7 j1 x6.toNatClampNeg) * (M 7 j2 (x4 - x6).toNatClampNeg)))), some (cI (x6 + (1 : Int32)))] [] M)))) : bGo 34 Q 15 [some (cR 1 0), some (cR 7 j1), some (cR 7 j2), some (cR 7 j3), some (cI x4), some (cI x5), some (cI x6)] [] M := s_iload E34_15.1 (k_ E34_15) rfl (s_iload E34_17.1 (k_ E34_17) rfl (s_icmp_gt E34_19.1 (k_ E34_19) ⟨fun c1 => s_aload_n E34_45.1 (k_ E34_45) rfl (s_iload E34_46.1 (k_ E34_46) rfl (s_aload_n E34_48.1 (k_ E34_48) rfl (s_iload E34_49.1 (k_ E34_49) rfl (s_vcall1 E34_51.1 (k_ E34_51) rfl rfl rfl (h.1 c1) (fun M2 r3 z2 => s_iastore E34_54.1 (k_ E34_54) rfl ⟨z2.1, s_iinc E34_55.1 (k_ E34_55) rfl (s_goto E34_58.1 (k_ E34_58) (z2.2))⟩))))), fun c1 => s_iload E34_22.1 (k_ E34_22) rfl (s_aload_n E34_24.1 (k_ E34_24) rfl (s_iload E34_25.1 (k_ E34_25) rfl (s_iaload E34_27.1 (k_ E34_27) rfl ⟨(h.2 c1).1, s_aload_n E34_28.1 (k_ E34_28) rfl (s_iload E34_29.1 (k_ E34_29) rfl (s_iload E34_31.1 (k_ E34_31) rfl (s_isub E34_33.1 (k_ E34_33) (s_iaload E34_34.1 (k_ E34_34) rfl ⟨((h.2 c1).2).1, s_imul E34_35.1 (k_ E34_35) (s_iadd E34_36.1 (k_ E34_36) (s_istore E34_37.1 (k_ E34_37) (s_iinc E34_39.1 (k_ E34_39) rfl (s_goto E34_42.1 (k_ E34_42) (((h.2 c1).2).2)))))⟩))))⟩)))⟩))
-- 35: X2_weight
theorem E35_0 : aCode 35 0 = (Instr.iconst 0, 1, [], 0) ∧ bMask 35 0 = [] := ⟨rfl, rfl⟩
theorem E35_1 : aCode 35 1 = (Instr.istore_n 3, 2, [], 0) ∧ bMask 35 1 = [] := ⟨rfl, rfl⟩
theorem E35_2 : aCode 35 2 = (Instr.iload_n 3, 3, [], 0) ∧ bMask 35 2 = [] := ⟨rfl, rfl⟩
theorem E35_3 : aCode 35 3 = (Instr.bipush 32, 5, [], 32) ∧ bMask 35 3 = [] := ⟨rfl, rfl⟩
theorem E35_5 : aCode 35 5 = (Instr.if_icmp .ge 21, 8, [26], 0) ∧ bMask 35 5 = [] := ⟨rfl, rfl⟩
theorem E35_8 : aCode 35 8 = (Instr.aload_n 2, 9, [], 0) ∧ bMask 35 8 = [] := ⟨rfl, rfl⟩
theorem E35_9 : aCode 35 9 = (Instr.iload_n 3, 10, [], 0) ∧ bMask 35 9 = [] := ⟨rfl, rfl⟩
theorem E35_10 : aCode 35 10 = (Instr.aload_n 0, 11, [], 0) ∧ bMask 35 10 = [] := ⟨rfl, rfl⟩
theorem E35_11 : aCode 35 11 = (Instr.iload_n 3, 12, [], 0) ∧ bMask 35 11 = [] := ⟨rfl, rfl⟩
theorem E35_12 : aCode 35 12 = (Instr.aload_n 1, 13, [], 0) ∧ bMask 35 12 = [] := ⟨rfl, rfl⟩
theorem E35_13 : aCode 35 13 = (Instr.iload_n 3, 14, [], 0) ∧ bMask 35 13 = [] := ⟨rfl, rfl⟩
theorem E35_14 : aCode 35 14 = (Instr.iaload, 15, [0], 0) ∧ bMask 35 14 = [] := ⟨rfl, rfl⟩
theorem E35_15 : aCode 35 15 = (Instr.imul, 16, [], 0) ∧ bMask 35 15 = [] := ⟨rfl, rfl⟩
theorem E35_16 : aCode 35 16 = (Instr.invokevirtual 31, 19, [10, 2, 1, 2, 0, 15], 0) ∧ bMask 35 16 = [] := ⟨rfl, rfl⟩
theorem E35_19 : aCode 35 19 = (Instr.iastore, 20, [0], 0) ∧ bMask 35 19 = [] := ⟨rfl, rfl⟩
theorem E35_20 : aCode 35 20 = (Instr.iinc 3 1, 23, [], 1) ∧ bMask 35 20 = [] := ⟨rfl, rfl⟩
theorem E35_23 : aCode 35 23 = (Instr.goto (-21), 2, [], 0) ∧ bMask 35 23 = [] := ⟨rfl, rfl⟩
theorem E35_26 : aCode 35 26 = (Instr.return_, 27, [], 0) ∧ bMask 35 26 = [] := ⟨rfl, rfl⟩
theorem g_X2_weight_0 {Q : bQ} {M : bM} {j1 : Nat} {j2 : Nat} (h : bGo 35 Q 2 [some (cR 1 0), some (cR 7 j1), some (cR 7 j2), some (cI (0 : Int32))] [] M) : bCall 35 [cR 1 0, cR 7 j1, cR 7 j2] M Q := s_iconst E35_0.1 (k_ E35_0) (s_istore_n E35_1.1 (k_ E35_1) (h))
theorem g_X2_weight_2 {Q : bQ} {M : bM} {j1 : Nat} {j2 : Nat} {x3 : Int32} (h : (((32 : Int32) ≤ x3) → (Q none M)) ∧ (¬ ((32 : Int32) ≤ x3) → ((vp_in x3 32) ∧ (bCall 10 [cR 1 0, cI (x3 * (M 7 j1 x3.toNatClampNeg))] M (fun v1 M2 => bV1 v1 fun r3 => ((vp_in x3 32) ∧ bGo 35 Q 2 [some (cR 1 0), some (cR 7 j1), some (cR 7 j2), some (cI (x3 + (1 : Int32)))] [] (bU M2 7 j2 x3.toNatClampNeg r3))))))) : bGo 35 Q 2 [some (cR 1 0), some (cR 7 j1), some (cR 7 j2), some (cI x3)] [] M := s_iload_n E35_2.1 (k_ E35_2) rfl (s_bipush E35_3.1 (k_ E35_3) (s_icmp_ge E35_5.1 (k_ E35_5) ⟨fun c0 => s_ret E35_26.1 (k_ E35_26) (h.1 c0), fun c0 => s_aload_n E35_8.1 (k_ E35_8) rfl (s_iload_n E35_9.1 (k_ E35_9) rfl (s_aload_n E35_10.1 (k_ E35_10) rfl (s_iload_n E35_11.1 (k_ E35_11) rfl (s_aload_n E35_12.1 (k_ E35_12) rfl (s_iload_n E35_13.1 (k_ E35_13) rfl (s_iaload E35_14.1 (k_ E35_14) rfl ⟨(h.2 c0).1, s_imul E35_15.1 (k_ E35_15) (s_vcall1 E35_16.1 (k_ E35_16) rfl rfl rfl ((h.2 c0).2) (fun M2 r3 z1 => s_iastore E35_19.1 (k_ E35_19) rfl ⟨z1.1, s_iinc E35_20.1 (k_ E35_20) rfl (s_goto E35_23.1 (k_ E35_23) (z1.2))⟩))⟩))))))⟩))
-- 36: X3_coefficient
theorem E36_0 : aCode 36 0 = (Instr.iload_n 1, 1, [], 0) ∧ bMask 36 0 = [] := ⟨rfl, rfl⟩
theorem E36_1 : aCode 36 1 = (Instr.ifCond .lt 30, 4, [31], 0) ∧ bMask 36 1 = [] := ⟨rfl, rfl⟩
theorem E36_4 : aCode 36 4 = (Instr.iload_n 1, 5, [], 0) ∧ bMask 36 4 = [] := ⟨rfl, rfl⟩
theorem E36_5 : aCode 36 5 = (Instr.aload_n 0, 6, [], 0) ∧ bMask 36 5 = [] := ⟨rfl, rfl⟩
theorem E36_6 : aCode 36 6 = (Instr.getfield 22, 9, [13, 3, 4, 0], 0) ∧ bMask 36 6 = [] := ⟨rfl, rfl⟩
theorem E36_9 : aCode 36 9 = (Instr.if_icmp .ge 22, 12, [31], 0) ∧ bMask 36 9 = [] := ⟨rfl, rfl⟩
theorem E36_12 : aCode 36 12 = (Instr.iload_n 1, 13, [], 0) ∧ bMask 36 12 = [] := ⟨rfl, rfl⟩
theorem E36_13 : aCode 36 13 = (Instr.iconst 4, 14, [], 4) ∧ bMask 36 13 = [] := ⟨rfl, rfl⟩
theorem E36_14 : aCode 36 14 = (Instr.if_icmp .ge 17, 17, [31], 0) ∧ bMask 36 14 = [] := ⟨rfl, rfl⟩
theorem E36_17 : aCode 36 17 = (Instr.iload_n 2, 18, [], 0) ∧ bMask 36 17 = [] := ⟨rfl, rfl⟩
theorem E36_18 : aCode 36 18 = (Instr.ifCond .lt 13, 21, [31], 0) ∧ bMask 36 18 = [] := ⟨rfl, rfl⟩
theorem E36_21 : aCode 36 21 = (Instr.iload_n 2, 22, [], 0) ∧ bMask 36 21 = [] := ⟨rfl, rfl⟩
theorem E36_22 : aCode 36 22 = (Instr.bipush 10, 24, [], 10) ∧ bMask 36 22 = [] := ⟨rfl, rfl⟩
theorem E36_24 : aCode 36 24 = (Instr.if_icmp .ge 7, 27, [31], 0) ∧ bMask 36 24 = [] := ⟨rfl, rfl⟩
theorem E36_27 : aCode 36 27 = (Instr.iconst 1, 28, [], 1) ∧ bMask 36 27 = [] := ⟨rfl, rfl⟩
theorem E36_28 : aCode 36 28 = (Instr.goto 4, 32, [], 0) ∧ bMask 36 28 = [] := ⟨rfl, rfl⟩
theorem E36_31 : aCode 36 31 = (Instr.iconst 0, 32, [], 0) ∧ bMask 36 31 = [] := ⟨rfl, rfl⟩
theorem E36_32 : aCode 36 32 = (Instr.istore_n 3, 33, [], 0) ∧ bMask 36 32 = [] := ⟨rfl, rfl⟩
theorem E36_33 : aCode 36 33 = (Instr.iload_n 3, 34, [], 0) ∧ bMask 36 33 = [] := ⟨rfl, rfl⟩
theorem E36_34 : aCode 36 34 = (Instr.ifCond .eq 14, 37, [48], 0) ∧ bMask 36 34 = [] := ⟨rfl, rfl⟩
theorem E36_37 : aCode 36 37 = (Instr.aload_n 0, 38, [], 0) ∧ bMask 36 37 = [] := ⟨rfl, rfl⟩
theorem E36_38 : aCode 36 38 = (Instr.getfield 13, 41, [11, 3, 0, 2], 0) ∧ bMask 36 38 = [] := ⟨rfl, rfl⟩
theorem E36_41 : aCode 36 41 = (Instr.iload_n 1, 42, [], 0) ∧ bMask 36 41 = [] := ⟨rfl, rfl⟩
theorem E36_42 : aCode 36 42 = (Instr.aaload, 43, [2], 0) ∧ bMask 36 42 = [] := ⟨rfl, rfl⟩
theorem E36_43 : aCode 36 43 = (Instr.iload_n 2, 44, [], 0) ∧ bMask 36 43 = [] := ⟨rfl, rfl⟩
theorem E36_44 : aCode 36 44 = (Instr.iaload, 45, [0], 0) ∧ bMask 36 44 = [] := ⟨rfl, rfl⟩
theorem E36_45 : aCode 36 45 = (Instr.goto 4, 49, [], 0) ∧ bMask 36 45 = [] := ⟨rfl, rfl⟩
theorem E36_48 : aCode 36 48 = (Instr.iconst 0, 49, [], 0) ∧ bMask 36 48 = [] := ⟨rfl, rfl⟩
theorem E36_49 : aCode 36 49 = (Instr.ireturn, 50, [0], 0) ∧ bMask 36 49 = [] := ⟨rfl, rfl⟩
theorem g_X3_coefficient_0 {Q : bQ} {M : bM} {j0 : Nat} {x1 : Int32} {x2 : Int32} (h : ((x1 < 0) → ((((0 : Int32) = 0) → (Q (some (cI (0 : Int32))) M)) ∧ (¬ ((0 : Int32) = 0) → ((vp_in x1 4) ∧ ((vp_in x2 10) ∧ (Q (some (cI (M 15 (4 * j0 + x1.toNatClampNeg) x2.toNatClampNeg))) M)))))) ∧ (¬ (x1 < 0) → ((((M 5 j0 4) ≤ x1) → ((((0 : Int32) = 0) → (Q (some (cI (0 : Int32))) M)) ∧ (¬ ((0 : Int32) = 0) → ((vp_in x1 4) ∧ ((vp_in x2 10) ∧ (Q (some (cI (M 15 (4 * j0 + x1.toNatClampNeg) x2.toNatClampNeg))) M)))))) ∧ (¬ ((M 5 j0 4) ≤ x1) → ((((4 : Int32) ≤ x1) → ((((0 : Int32) = 0) → (Q (some (cI (0 : Int32))) M)) ∧ (¬ ((0 : Int32) = 0) → ((vp_in x1 4) ∧ ((vp_in x2 10) ∧ (Q (some (cI (M 15 (4 * j0 + x1.toNatClampNeg) x2.toNatClampNeg))) M)))))) ∧ (¬ ((4 : Int32) ≤ x1) → (((x2 < 0) → ((((0 : Int32) = 0) → (Q (some (cI (0 : Int32))) M)) ∧ (¬ ((0 : Int32) = 0) → ((vp_in x1 4) ∧ ((vp_in x2 10) ∧ (Q (some (cI (M 15 (4 * j0 + x1.toNatClampNeg) x2.toNatClampNeg))) M)))))) ∧ (¬ (x2 < 0) → ((((10 : Int32) ≤ x2) → ((((0 : Int32) = 0) → (Q (some (cI (0 : Int32))) M)) ∧ (¬ ((0 : Int32) = 0) → ((vp_in x1 4) ∧ ((vp_in x2 10) ∧ (Q (some (cI (M 15 (4 * j0 + x1.toNatClampNeg) x2.toNatClampNeg))) M)))))) ∧ (¬ ((10 : Int32) ≤ x2) → ((((1 : Int32) = 0) → (Q (some (cI (0 : Int32))) M)) ∧ (¬ ((1 : Int32) = 0) → ((vp_in x1 4) ∧ ((vp_in x2 10) ∧ (Q (some (cI (M 15 (4 * j0 + x1.toNatClampNeg) x2.toNatClampNeg))) M))))))))))))))) : bCall 36 [cR 5 j0, cI x1, cI x2] M Q := s_iload_n E36_0.1 (k_ E36_0) rfl (s_if_lt E36_1.1 (k_ E36_1) ⟨fun c0 => s_iconst E36_31.1 (k_ E36_31) (s_istore_n E36_32.1 (k_ E36_32) (s_iload_n E36_33.1 (k_ E36_33) rfl (s_if_eq E36_34.1 (k_ E36_34) ⟨fun c1 => s_iconst E36_48.1 (k_ E36_48) (s_iret E36_49.1 (k_ E36_49) ((h.1 c0).1 c1)), fun c1 => s_aload_n E36_37.1 (k_ E36_37) rfl (s_getR E36_38.1 (k_ E36_38) rfl rfl (s_iload_n E36_41.1 (k_ E36_41) rfl (s_aaload E36_42.1 (k_ E36_42) rfl ⟨((h.1 c0).2 c1).1, s_iload_n E36_43.1 (k_ E36_43) rfl (s_iaload E36_44.1 (k_ E36_44) rfl ⟨(((h.1 c0).2 c1).2).1, s_goto E36_45.1 (k_ E36_45) (s_iret E36_49.1 (k_ E36_49) ((((h.1 c0).2 c1).2).2))⟩)⟩)))⟩))), fun c0 => s_iload_n E36_4.1 (k_ E36_4) rfl (s_aload_n E36_5.1 (k_ E36_5) rfl (s_getI0 E36_6.1 (k_ E36_6) rfl (s_icmp_ge E36_9.1 (k_ E36_9) ⟨fun c2 => s_iconst E36_31.1 (k_ E36_31) (s_istore_n E36_32.1 (k_ E36_32) (s_iload_n E36_33.1 (k_ E36_33) rfl (s_if_eq E36_34.1 (k_ E36_34) ⟨fun c3 => s_iconst E36_48.1 (k_ E36_48) (s_iret E36_49.1 (k_ E36_49) (((h.2 c0).1 c2).1 c3)), fun c3 => s_aload_n E36_37.1 (k_ E36_37) rfl (s_getR E36_38.1 (k_ E36_38) rfl rfl (s_iload_n E36_41.1 (k_ E36_41) rfl (s_aaload E36_42.1 (k_ E36_42) rfl ⟨(((h.2 c0).1 c2).2 c3).1, s_iload_n E36_43.1 (k_ E36_43) rfl (s_iaload E36_44.1 (k_ E36_44) rfl ⟨((((h.2 c0).1 c2).2 c3).2).1, s_goto E36_45.1 (k_ E36_45) (s_iret E36_49.1 (k_ E36_49) (((((h.2 c0).1 c2).2 c3).2).2))⟩)⟩)))⟩))), fun c2 => s_iload_n E36_12.1 (k_ E36_12) rfl (s_iconst E36_13.1 (k_ E36_13) (s_icmp_ge E36_14.1 (k_ E36_14) ⟨fun c4 => s_iconst E36_31.1 (k_ E36_31) (s_istore_n E36_32.1 (k_ E36_32) (s_iload_n E36_33.1 (k_ E36_33) rfl (s_if_eq E36_34.1 (k_ E36_34) ⟨fun c5 => s_iconst E36_48.1 (k_ E36_48) (s_iret E36_49.1 (k_ E36_49) ((((h.2 c0).2 c2).1 c4).1 c5)), fun c5 => s_aload_n E36_37.1 (k_ E36_37) rfl (s_getR E36_38.1 (k_ E36_38) rfl rfl (s_iload_n E36_41.1 (k_ E36_41) rfl (s_aaload E36_42.1 (k_ E36_42) rfl ⟨((((h.2 c0).2 c2).1 c4).2 c5).1, s_iload_n E36_43.1 (k_ E36_43) rfl (s_iaload E36_44.1 (k_ E36_44) rfl ⟨(((((h.2 c0).2 c2).1 c4).2 c5).2).1, s_goto E36_45.1 (k_ E36_45) (s_iret E36_49.1 (k_ E36_49) ((((((h.2 c0).2 c2).1 c4).2 c5).2).2))⟩)⟩)))⟩))), fun c4 => s_iload_n E36_17.1 (k_ E36_17) rfl (s_if_lt E36_18.1 (k_ E36_18) ⟨fun c6 => s_iconst E36_31.1 (k_ E36_31) (s_istore_n E36_32.1 (k_ E36_32) (s_iload_n E36_33.1 (k_ E36_33) rfl (s_if_eq E36_34.1 (k_ E36_34) ⟨fun c7 => s_iconst E36_48.1 (k_ E36_48) (s_iret E36_49.1 (k_ E36_49) (((((h.2 c0).2 c2).2 c4).1 c6).1 c7)), fun c7 => s_aload_n E36_37.1 (k_ E36_37) rfl (s_getR E36_38.1 (k_ E36_38) rfl rfl (s_iload_n E36_41.1 (k_ E36_41) rfl (s_aaload E36_42.1 (k_ E36_42) rfl ⟨(((((h.2 c0).2 c2).2 c4).1 c6).2 c7).1, s_iload_n E36_43.1 (k_ E36_43) rfl (s_iaload E36_44.1 (k_ E36_44) rfl ⟨((((((h.2 c0).2 c2).2 c4).1 c6).2 c7).2).1, s_goto E36_45.1 (k_ E36_45) (s_iret E36_49.1 (k_ E36_49) (((((((h.2 c0).2 c2).2 c4).1 c6).2 c7).2).2))⟩)⟩)))⟩))), fun c6 => s_iload_n E36_21.1 (k_ E36_21) rfl (s_bipush E36_22.1 (k_ E36_22) (s_icmp_ge E36_24.1 (k_ E36_24) ⟨fun c8 => s_iconst E36_31.1 (k_ E36_31) (s_istore_n E36_32.1 (k_ E36_32) (s_iload_n E36_33.1 (k_ E36_33) rfl (s_if_eq E36_34.1 (k_ E36_34) ⟨fun c9 => s_iconst E36_48.1 (k_ E36_48) (s_iret E36_49.1 (k_ E36_49) ((((((h.2 c0).2 c2).2 c4).2 c6).1 c8).1 c9)), fun c9 => s_aload_n E36_37.1 (k_ E36_37) rfl (s_getR E36_38.1 (k_ E36_38) rfl rfl (s_iload_n E36_41.1 (k_ E36_41) rfl (s_aaload E36_42.1 (k_ E36_42) rfl ⟨((((((h.2 c0).2 c2).2 c4).2 c6).1 c8).2 c9).1, s_iload_n E36_43.1 (k_ E36_43) rfl (s_iaload E36_44.1 (k_ E36_44) rfl ⟨(((((((h.2 c0).2 c2).2 c4).2 c6).1 c8).2 c9).2).1, s_goto E36_45.1 (k_ E36_45) (s_iret E36_49.1 (k_ E36_49) ((((((((h.2 c0).2 c2).2 c4).2 c6).1 c8).2 c9).2).2))⟩)⟩)))⟩))), fun c8 => s_iconst E36_27.1 (k_ E36_27) (s_goto E36_28.1 (k_ E36_28) (s_istore_n E36_32.1 (k_ E36_32) (s_iload_n E36_33.1 (k_ E36_33) rfl (s_if_eq E36_34.1 (k_ E36_34) ⟨fun c10 => s_iconst E36_48.1 (k_ E36_48) (s_iret E36_49.1 (k_ E36_49) ((((((h.2 c0).2 c2).2 c4).2 c6).2 c8).1 c10)), fun c10 => s_aload_n E36_37.1 (k_ E36_37) rfl (s_getR E36_38.1 (k_ E36_38) rfl rfl (s_iload_n E36_41.1 (k_ E36_41) rfl (s_aaload E36_42.1 (k_ E36_42) rfl ⟨((((((h.2 c0).2 c2).2 c4).2 c6).2 c8).2 c10).1, s_iload_n E36_43.1 (k_ E36_43) rfl (s_iaload E36_44.1 (k_ E36_44) rfl ⟨(((((((h.2 c0).2 c2).2 c4).2 c6).2 c8).2 c10).2).1, s_goto E36_45.1 (k_ E36_45) (s_iret E36_49.1 (k_ E36_49) ((((((((h.2 c0).2 c2).2 c4).2 c6).2 c8).2 c10).2).2))⟩)⟩)))⟩))))⟩))⟩)⟩))⟩)))⟩)
-- 37: X3_copyPolynomial
theorem E37_0 : aCode 37 0 = (Instr.aload_n 2, 1, [], 0) ∧ bMask 37 0 = [] := ⟨rfl, rfl⟩
theorem E37_1 : aCode 37 1 = (Instr.iconst 0, 2, [], 0) ∧ bMask 37 1 = [] := ⟨rfl, rfl⟩
theorem E37_2 : aCode 37 2 = (Instr.invokestatic 47, 5, [1, 2, 0, 0, 0, 18], 0) ∧ bMask 37 2 = [] := ⟨rfl, rfl⟩
theorem E37_5 : aCode 37 5 = (Instr.iconst 0, 6, [], 0) ∧ bMask 37 5 = [] := ⟨rfl, rfl⟩
theorem E37_6 : aCode 37 6 = (Instr.istore_n 3, 7, [], 0) ∧ bMask 37 6 = [] := ⟨rfl, rfl⟩
theorem E37_7 : aCode 37 7 = (Instr.iload_n 3, 8, [], 0) ∧ bMask 37 7 = [] := ⟨rfl, rfl⟩
theorem E37_8 : aCode 37 8 = (Instr.bipush 10, 10, [], 10) ∧ bMask 37 8 = [] := ⟨rfl, rfl⟩
theorem E37_10 : aCode 37 10 = (Instr.if_icmp .ge 18, 13, [28], 0) ∧ bMask 37 10 = [] := ⟨rfl, rfl⟩
theorem E37_13 : aCode 37 13 = (Instr.aload_n 2, 14, [], 0) ∧ bMask 37 13 = [] := ⟨rfl, rfl⟩
theorem E37_14 : aCode 37 14 = (Instr.iload_n 3, 15, [], 0) ∧ bMask 37 14 = [] := ⟨rfl, rfl⟩
theorem E37_15 : aCode 37 15 = (Instr.aload_n 0, 16, [], 0) ∧ bMask 37 15 = [] := ⟨rfl, rfl⟩
theorem E37_16 : aCode 37 16 = (Instr.iload_n 1, 17, [], 0) ∧ bMask 37 16 = [] := ⟨rfl, rfl⟩
theorem E37_17 : aCode 37 17 = (Instr.iload_n 3, 18, [], 0) ∧ bMask 37 17 = [] := ⟨rfl, rfl⟩
theorem E37_18 : aCode 37 18 = (Instr.invokevirtual 53, 21, [36, 3, 1, 3, 0, 19], 0) ∧ bMask 37 18 = [] := ⟨rfl, rfl⟩
theorem E37_21 : aCode 37 21 = (Instr.iastore, 22, [0], 0) ∧ bMask 37 21 = [] := ⟨rfl, rfl⟩
theorem E37_22 : aCode 37 22 = (Instr.iinc 3 1, 25, [], 1) ∧ bMask 37 22 = [] := ⟨rfl, rfl⟩
theorem E37_25 : aCode 37 25 = (Instr.goto (-18), 7, [], 0) ∧ bMask 37 25 = [] := ⟨rfl, rfl⟩
theorem E37_28 : aCode 37 28 = (Instr.return_, 29, [], 0) ∧ bMask 37 28 = [] := ⟨rfl, rfl⟩
theorem g_X3_copyPolynomial_0 {Q : bQ} {M : bM} {j0 : Nat} {x1 : Int32} {j2 : Nat} (h : bCall 1 [cR 7 j2, cI (0 : Int32)] M (fun v1 M2 => bV0 v1 (bGo 37 Q 7 [some (cR 5 j0), some (cI x1), some (cR 7 j2), some (cI (0 : Int32))] [] M2))) : bCall 37 [cR 5 j0, cI x1, cR 7 j2] M Q := s_aload_n E37_0.1 (k_ E37_0) rfl (s_iconst E37_1.1 (k_ E37_1) (s_scall0 E37_2.1 (k_ E37_2) rfl rfl rfl h (fun M2 z0 => s_iconst E37_5.1 (k_ E37_5) (s_istore_n E37_6.1 (k_ E37_6) (z0)))))
theorem g_X3_copyPolynomial_7 {Q : bQ} {M : bM} {j0 : Nat} {x1 : Int32} {j2 : Nat} {x3 : Int32} (h : (((10 : Int32) ≤ x3) → (Q none M)) ∧ (¬ ((10 : Int32) ≤ x3) → (bCall 36 [cR 5 j0, cI x1, cI x3] M (fun v1 M2 => bV1 v1 fun r3 => ((vp_in x3 32) ∧ bGo 37 Q 7 [some (cR 5 j0), some (cI x1), some (cR 7 j2), some (cI (x3 + (1 : Int32)))] [] (bU M2 7 j2 x3.toNatClampNeg r3)))))) : bGo 37 Q 7 [some (cR 5 j0), some (cI x1), some (cR 7 j2), some (cI x3)] [] M := s_iload_n E37_7.1 (k_ E37_7) rfl (s_bipush E37_8.1 (k_ E37_8) (s_icmp_ge E37_10.1 (k_ E37_10) ⟨fun c1 => s_ret E37_28.1 (k_ E37_28) (h.1 c1), fun c1 => s_aload_n E37_13.1 (k_ E37_13) rfl (s_iload_n E37_14.1 (k_ E37_14) rfl (s_aload_n E37_15.1 (k_ E37_15) rfl (s_iload_n E37_16.1 (k_ E37_16) rfl (s_iload_n E37_17.1 (k_ E37_17) rfl (s_vcall1 E37_18.1 (k_ E37_18) rfl rfl rfl (h.2 c1) (fun M2 r3 z2 => s_iastore E37_21.1 (k_ E37_21) rfl ⟨z2.1, s_iinc E37_22.1 (k_ E37_22) rfl (s_goto E37_25.1 (k_ E37_25) (z2.2))⟩))))))⟩))
-- 38: X3_keepRow
theorem E38_0 : aCode 38 0 = (Instr.aload_n 0, 1, [], 0) ∧ bMask 38 0 = [] := ⟨rfl, rfl⟩
theorem E38_1 : aCode 38 1 = (Instr.aload_n 1, 2, [], 0) ∧ bMask 38 1 = [] := ⟨rfl, rfl⟩
theorem E38_2 : aCode 38 2 = (Instr.getfield 16, 5, [14, 0, 5, 0], 0) ∧ bMask 38 2 = [] := ⟨rfl, rfl⟩
theorem E38_5 : aCode 38 5 = (Instr.putfield 22, 8, [13, 3, 4, 0], 0) ∧ bMask 38 5 = [] := ⟨rfl, rfl⟩
theorem E38_8 : aCode 38 8 = (Instr.aload_n 0, 9, [], 0) ∧ bMask 38 8 = [] := ⟨rfl, rfl⟩
theorem E38_9 : aCode 38 9 = (Instr.aload_n 1, 10, [], 0) ∧ bMask 38 9 = [] := ⟨rfl, rfl⟩
theorem E38_10 : aCode 38 10 = (Instr.iload_n 2, 11, [], 0) ∧ bMask 38 10 = [] := ⟨rfl, rfl⟩
theorem E38_11 : aCode 38 11 = (Instr.invokevirtual 25, 14, [8, 2, 1, 0, 0, 20], 0) ∧ bMask 38 11 = [] := ⟨rfl, rfl⟩
theorem E38_14 : aCode 38 14 = (Instr.putfield 29, 17, [15, 3, 6, 0], 0) ∧ bMask 38 14 = [] := ⟨rfl, rfl⟩
theorem E38_17 : aCode 38 17 = (Instr.aload_n 0, 18, [], 0) ∧ bMask 38 17 = [] := ⟨rfl, rfl⟩
theorem E38_18 : aCode 38 18 = (Instr.aload_n 1, 19, [], 0) ∧ bMask 38 18 = [] := ⟨rfl, rfl⟩
theorem E38_19 : aCode 38 19 = (Instr.getfield 31, 22, [16, 0, 2, 2], 0) ∧ bMask 38 19 = [] := ⟨rfl, rfl⟩
theorem E38_22 : aCode 38 22 = (Instr.iload_n 2, 23, [], 0) ∧ bMask 38 22 = [] := ⟨rfl, rfl⟩
theorem E38_23 : aCode 38 23 = (Instr.aaload, 24, [2], 0) ∧ bMask 38 23 = [] := ⟨rfl, rfl⟩
theorem E38_24 : aCode 38 24 = (Instr.invokestatic 34, 27, [33, 1, 1, 0, 0, 21], 0) ∧ bMask 38 24 = [] := ⟨rfl, rfl⟩
theorem E38_27 : aCode 38 27 = (Instr.putfield 40, 30, [17, 3, 7, 0], 0) ∧ bMask 38 27 = [] := ⟨rfl, rfl⟩
theorem E38_30 : aCode 38 30 = (Instr.iconst 0, 31, [], 0) ∧ bMask 38 30 = [] := ⟨rfl, rfl⟩
theorem E38_31 : aCode 38 31 = (Instr.istore_n 3, 32, [], 0) ∧ bMask 38 31 = [] := ⟨rfl, rfl⟩
theorem E38_32 : aCode 38 32 = (Instr.iload_n 3, 33, [], 0) := rfl
theorem E38_33 : aCode 38 33 = (Instr.aload_n 0, 34, [], 0) ∧ bMask 38 33 = [] := ⟨rfl, rfl⟩
theorem E38_34 : aCode 38 34 = (Instr.getfield 22, 37, [13, 3, 4, 0], 0) ∧ bMask 38 34 = [] := ⟨rfl, rfl⟩
theorem E38_37 : aCode 38 37 = (Instr.if_icmp .ge 47, 40, [84], 0) ∧ bMask 38 37 = [] := ⟨rfl, rfl⟩
theorem E38_40 : aCode 38 40 = (Instr.iload_n 3, 41, [], 0) ∧ bMask 38 40 = [] := ⟨rfl, rfl⟩
theorem E38_41 : aCode 38 41 = (Instr.iconst 4, 42, [], 4) ∧ bMask 38 41 = [] := ⟨rfl, rfl⟩
theorem E38_42 : aCode 38 42 = (Instr.if_icmp .ge 42, 45, [84], 0) ∧ bMask 38 42 = [] := ⟨rfl, rfl⟩
theorem E38_45 : aCode 38 45 = (Instr.iconst 0, 46, [], 0) ∧ bMask 38 45 = [] := ⟨rfl, rfl⟩
theorem E38_46 : aCode 38 46 = (Instr.istore 4, 48, [], 0) ∧ bMask 38 46 = [] := ⟨rfl, rfl⟩
theorem E38_48 : aCode 38 48 = (Instr.iload 4, 50, [], 0) ∧ bMask 38 48 = [] := ⟨rfl, rfl⟩
theorem E38_50 : aCode 38 50 = (Instr.bipush 10, 52, [], 10) ∧ bMask 38 50 = [] := ⟨rfl, rfl⟩
theorem E38_52 : aCode 38 52 = (Instr.if_icmp .ge 26, 55, [78], 0) ∧ bMask 38 52 = [] := ⟨rfl, rfl⟩
theorem E38_55 : aCode 38 55 = (Instr.aload_n 0, 56, [], 0) ∧ bMask 38 55 = [] := ⟨rfl, rfl⟩
theorem E38_56 : aCode 38 56 = (Instr.getfield 13, 59, [11, 3, 0, 2], 0) ∧ bMask 38 56 = [] := ⟨rfl, rfl⟩
theorem E38_59 : aCode 38 59 = (Instr.iload_n 3, 60, [], 0) ∧ bMask 38 59 = [] := ⟨rfl, rfl⟩
theorem E38_60 : aCode 38 60 = (Instr.aaload, 61, [2], 0) ∧ bMask 38 60 = [] := ⟨rfl, rfl⟩
theorem E38_61 : aCode 38 61 = (Instr.iload 4, 63, [], 0) ∧ bMask 38 61 = [] := ⟨rfl, rfl⟩
theorem E38_63 : aCode 38 63 = (Instr.aload_n 1, 64, [], 0) ∧ bMask 38 63 = [] := ⟨rfl, rfl⟩
theorem E38_64 : aCode 38 64 = (Instr.iload_n 2, 65, [], 0) ∧ bMask 38 64 = [] := ⟨rfl, rfl⟩
theorem E38_65 : aCode 38 65 = (Instr.iload_n 3, 66, [], 0) ∧ bMask 38 65 = [] := ⟨rfl, rfl⟩
theorem E38_66 : aCode 38 66 = (Instr.iload 4, 68, [], 0) ∧ bMask 38 66 = [] := ⟨rfl, rfl⟩
theorem E38_68 : aCode 38 68 = (Instr.invokevirtual 43, 71, [14, 4, 1, 0, 0, 22], 0) ∧ bMask 38 68 = [] := ⟨rfl, rfl⟩
theorem E38_71 : aCode 38 71 = (Instr.iastore, 72, [0], 0) ∧ bMask 38 71 = [] := ⟨rfl, rfl⟩
theorem E38_72 : aCode 38 72 = (Instr.iinc 4 1, 75, [], 1) ∧ bMask 38 72 = [] := ⟨rfl, rfl⟩
theorem E38_75 : aCode 38 75 = (Instr.goto (-27), 48, [], 0) ∧ bMask 38 75 = [] := ⟨rfl, rfl⟩
theorem E38_78 : aCode 38 78 = (Instr.iinc 3 1, 81, [], 1) ∧ bMask 38 78 = [] := ⟨rfl, rfl⟩
theorem E38_81 : aCode 38 81 = (Instr.goto (-49), 32, [], 0) ∧ bMask 38 81 = [] := ⟨rfl, rfl⟩
theorem E38_84 : aCode 38 84 = (Instr.return_, 85, [], 0) ∧ bMask 38 84 = [] := ⟨rfl, rfl⟩
theorem g_X3_keepRow_0 {Q : bQ} {M : bM} {j0 : Nat} {x2 : Int32} (h : bCall 8 [cR 3 0, cI x2] (bU M 5 j0 4 (M 3 0 5)) (fun v1 M2 => bV1 v1 fun r3 => ((vp_in x2 4) ∧ (bCall 33 [cR 7 (29 + x2.toNatClampNeg)] (bU M2 5 j0 6 r3) (fun v4 M5 => bV1 v4 fun r6 => (bGo 38 Q 32 [some (cR 5 j0), some (cR 3 0), some (cI x2), some (cI (0 : Int32)), none] [] (bU M5 5 j0 7 r6))))))) : bCall 38 [cR 5 j0, cR 3 0, cI x2] M Q := s_aload_n E38_0.1 (k_ E38_0) rfl (s_aload_n E38_1.1 (k_ E38_1) rfl (s_getI0 E38_2.1 (k_ E38_2) rfl (s_putI E38_5.1 (k_ E38_5) rfl (s_aload_n E38_8.1 (k_ E38_8) rfl (s_aload_n E38_9.1 (k_ E38_9) rfl (s_iload_n E38_10.1 (k_ E38_10) rfl (s_vcall1 E38_11.1 (k_ E38_11) rfl rfl rfl h (fun M2 r3 z0 => s_putI E38_14.1 (k_ E38_14) rfl (s_aload_n E38_17.1 (k_ E38_17) rfl (s_aload_n E38_18.1 (k_ E38_18) rfl (s_getR E38_19.1 (k_ E38_19) rfl rfl (s_iload_n E38_22.1 (k_ E38_22) rfl (s_aaload E38_23.1 (k_ E38_23) rfl ⟨z0.1, s_scall1 E38_24.1 (k_ E38_24) rfl rfl rfl z0.2 (fun M5 r6 z1 => s_putI E38_27.1 (k_ E38_27) rfl (s_iconst E38_30.1 (k_ E38_30) (s_istore_n E38_31.1 (k_ E38_31) (z1))))⟩)))))))))))))
theorem g_X3_keepRow_32 {Q : bQ} {M : bM} {j0 : Nat} {x2 : Int32} {x3 : Int32} {o4 : Option bV} (h : (((M 5 j0 4) ≤ x3) → (Q none M)) ∧ (¬ ((M 5 j0 4) ≤ x3) → ((((4 : Int32) ≤ x3) → (Q none M)) ∧ (¬ ((4 : Int32) ≤ x3) → bGo 38 Q 48 [some (cR 5 j0), some (cR 3 0), some (cI x2), some (cI x3), some (cI (0 : Int32))] [] M)))) : bGo 38 Q 32 [some (cR 5 j0), some (cR 3 0), some (cI x2), some (cI x3), o4] [] M := s_iload_n E38_32 rfl rfl (s_aload_n E38_33.1 (k_ E38_33) rfl (s_getI0 E38_34.1 (k_ E38_34) rfl (s_icmp_ge E38_37.1 (k_ E38_37) ⟨fun c2 => s_ret E38_84.1 (k_ E38_84) (h.1 c2), fun c2 => s_iload_n E38_40.1 (k_ E38_40) rfl (s_iconst E38_41.1 (k_ E38_41) (s_icmp_ge E38_42.1 (k_ E38_42) ⟨fun c3 => s_ret E38_84.1 (k_ E38_84) ((h.2 c2).1 c3), fun c3 => s_iconst E38_45.1 (k_ E38_45) (s_istore E38_46.1 (k_ E38_46) ((h.2 c2).2 c3))⟩))⟩)))
theorem g_X3_keepRow_48 {Q : bQ} {M : bM} {j0 : Nat} {x2 : Int32} {x3 : Int32} {x4 : Int32} (h : (((10 : Int32) ≤ x4) → bGo 38 Q 32 [some (cR 5 j0), some (cR 3 0), some (cI x2), some (cI (x3 + (1 : Int32))), some (cI x4)] [] M) ∧ (¬ ((10 : Int32) ≤ x4) → ((vp_in x3 4) ∧ (bCall 14 [cR 3 0, cI x2, cI x3, cI x4] M (fun v1 M2 => bV1 v1 fun r3 => ((vp_in x4 10) ∧ bGo 38 Q 48 [some (cR 5 j0), some (cR 3 0), some (cI x2), some (cI x3), some (cI (x4 + (1 : Int32)))] [] (bU M2 15 (4 * j0 + x3.toNatClampNeg) x4.toNatClampNeg r3))))))) : bGo 38 Q 48 [some (cR 5 j0), some (cR 3 0), some (cI x2), some (cI x3), some (cI x4)] [] M := s_iload E38_48.1 (k_ E38_48) rfl (s_bipush E38_50.1 (k_ E38_50) (s_icmp_ge E38_52.1 (k_ E38_52) ⟨fun c4 => s_iinc E38_78.1 (k_ E38_78) rfl (s_goto E38_81.1 (k_ E38_81) (h.1 c4)), fun c4 => s_aload_n E38_55.1 (k_ E38_55) rfl (s_getR E38_56.1 (k_ E38_56) rfl rfl (s_iload_n E38_59.1 (k_ E38_59) rfl (s_aaload E38_60.1 (k_ E38_60) rfl ⟨(h.2 c4).1, s_iload E38_61.1 (k_ E38_61) rfl (s_aload_n E38_63.1 (k_ E38_63) rfl (s_iload_n E38_64.1 (k_ E38_64) rfl (s_iload_n E38_65.1 (k_ E38_65) rfl (s_iload E38_66.1 (k_ E38_66) rfl (s_vcall1 E38_68.1 (k_ E38_68) rfl rfl rfl ((h.2 c4).2) (fun M2 r3 z5 => s_iastore E38_71.1 (k_ E38_71) rfl ⟨z5.1, s_iinc E38_72.1 (k_ E38_72) rfl (s_goto E38_75.1 (k_ E38_75) (z5.2))⟩))))))⟩)))⟩))
-- 54: X5_begin
theorem E54_0 : aCode 54 0 = (Instr.aload_n 0, 1, [], 0) ∧ bMask 54 0 = [] := ⟨rfl, rfl⟩
theorem E54_1 : aCode 54 1 = (Instr.iload_n 1, 2, [], 0) ∧ bMask 54 1 = [] := ⟨rfl, rfl⟩
theorem E54_2 : aCode 54 2 = (Instr.putfield 17, 5, [36, 5, 1, 0], 0) ∧ bMask 54 2 = [] := ⟨rfl, rfl⟩
theorem E54_5 : aCode 54 5 = (Instr.aload_n 0, 6, [], 0) ∧ bMask 54 5 = [] := ⟨rfl, rfl⟩
theorem E54_6 : aCode 54 6 = (Instr.iload_n 2, 7, [], 0) ∧ bMask 54 6 = [] := ⟨rfl, rfl⟩
theorem E54_7 : aCode 54 7 = (Instr.putfield 13, 10, [37, 5, 2, 0], 0) ∧ bMask 54 7 = [] := ⟨rfl, rfl⟩
theorem E54_10 : aCode 54 10 = (Instr.aload_n 0, 11, [], 0) ∧ bMask 54 10 = [] := ⟨rfl, rfl⟩
theorem E54_11 : aCode 54 11 = (Instr.getfield 9, 14, [38, 5, 0, 2], 0) ∧ bMask 54 11 = [] := ⟨rfl, rfl⟩
theorem E54_14 : aCode 54 14 = (Instr.iconst 0, 15, [], 0) ∧ bMask 54 14 = [] := ⟨rfl, rfl⟩
theorem E54_15 : aCode 54 15 = (Instr.invokestatic 20, 18, [1, 2, 0, 0, 0, 40], 0) ∧ bMask 54 15 = [] := ⟨rfl, rfl⟩
theorem E54_18 : aCode 54 18 = (Instr.return_, 19, [], 0) ∧ bMask 54 18 = [] := ⟨rfl, rfl⟩
theorem g_X5_begin_0 {Q : bQ} {M : bM} {j0 : Nat} {x1 : Int32} {x2 : Int32} (h : bCall 1 [cR 12 j0, cI (0 : Int32)] (bU (bU M 6 j0 1 x1) 6 j0 2 x2) (fun v1 M2 => bV0 v1 (Q none M2))) : bCall 54 [cR 6 j0, cI x1, cI x2] M Q := s_aload_n E54_0.1 (k_ E54_0) rfl (s_iload_n E54_1.1 (k_ E54_1) rfl (s_putI E54_2.1 (k_ E54_2) rfl (s_aload_n E54_5.1 (k_ E54_5) rfl (s_iload_n E54_6.1 (k_ E54_6) rfl (s_putI E54_7.1 (k_ E54_7) rfl (s_aload_n E54_10.1 (k_ E54_10) rfl (s_getR E54_11.1 (k_ E54_11) rfl rfl (s_iconst E54_14.1 (k_ E54_14) (s_scall0 E54_15.1 (k_ E54_15) rfl rfl rfl h (fun M2 z0 => s_ret E54_18.1 (k_ E54_18) z0))))))))))
-- 55: X5_hasPlaces
theorem E55_0 : aCode 55 0 = (Instr.iload_n 1, 1, [], 0) ∧ bMask 55 0 = [] := ⟨rfl, rfl⟩
theorem E55_1 : aCode 55 1 = (Instr.ifCond .lt 21, 4, [22], 0) ∧ bMask 55 1 = [] := ⟨rfl, rfl⟩
theorem E55_4 : aCode 55 4 = (Instr.iload_n 2, 5, [], 0) ∧ bMask 55 4 = [] := ⟨rfl, rfl⟩
theorem E55_5 : aCode 55 5 = (Instr.ifCond .lt 17, 8, [22], 0) ∧ bMask 55 5 = [] := ⟨rfl, rfl⟩
theorem E55_8 : aCode 55 8 = (Instr.iload_n 2, 9, [], 0) ∧ bMask 55 8 = [] := ⟨rfl, rfl⟩
theorem E55_9 : aCode 55 9 = (Instr.aload_n 0, 10, [], 0) ∧ bMask 55 9 = [] := ⟨rfl, rfl⟩
theorem E55_10 : aCode 55 10 = (Instr.getfield 13, 13, [37, 5, 2, 0], 0) ∧ bMask 55 10 = [] := ⟨rfl, rfl⟩
theorem E55_13 : aCode 55 13 = (Instr.iload_n 1, 14, [], 0) ∧ bMask 55 13 = [] := ⟨rfl, rfl⟩
theorem E55_14 : aCode 55 14 = (Instr.isub, 15, [], 0) ∧ bMask 55 14 = [] := ⟨rfl, rfl⟩
theorem E55_15 : aCode 55 15 = (Instr.if_icmp .gt 7, 18, [22], 0) ∧ bMask 55 15 = [] := ⟨rfl, rfl⟩
theorem E55_18 : aCode 55 18 = (Instr.iconst 1, 19, [], 1) ∧ bMask 55 18 = [] := ⟨rfl, rfl⟩
theorem E55_19 : aCode 55 19 = (Instr.goto 4, 23, [], 0) ∧ bMask 55 19 = [] := ⟨rfl, rfl⟩
theorem E55_22 : aCode 55 22 = (Instr.iconst 0, 23, [], 0) ∧ bMask 55 22 = [] := ⟨rfl, rfl⟩
theorem E55_23 : aCode 55 23 = (Instr.ireturn, 24, [1], 0) ∧ bMask 55 23 = [] := ⟨rfl, rfl⟩
theorem g_X5_hasPlaces_0 {Q : bQ} {M : bM} {j0 : Nat} {x1 : Int32} {x2 : Int32} (h : ((x1 < 0) → (((0 : Int32) = 0 ∨ (0 : Int32) = 1) ∧ Q (some (cI (0 : Int32))) M)) ∧ (¬ (x1 < 0) → (((x2 < 0) → (((0 : Int32) = 0 ∨ (0 : Int32) = 1) ∧ Q (some (cI (0 : Int32))) M)) ∧ (¬ (x2 < 0) → (((((M 6 j0 2) - x1) < x2) → (((0 : Int32) = 0 ∨ (0 : Int32) = 1) ∧ Q (some (cI (0 : Int32))) M)) ∧ (¬ (((M 6 j0 2) - x1) < x2) → (((1 : Int32) = 0 ∨ (1 : Int32) = 1) ∧ Q (some (cI (1 : Int32))) M))))))) : bCall 55 [cR 6 j0, cI x1, cI x2] M Q := s_iload_n E55_0.1 (k_ E55_0) rfl (s_if_lt E55_1.1 (k_ E55_1) ⟨fun c0 => s_iconst E55_22.1 (k_ E55_22) (s_zret E55_23.1 (k_ E55_23) (h.1 c0)), fun c0 => s_iload_n E55_4.1 (k_ E55_4) rfl (s_if_lt E55_5.1 (k_ E55_5) ⟨fun c1 => s_iconst E55_22.1 (k_ E55_22) (s_zret E55_23.1 (k_ E55_23) ((h.2 c0).1 c1)), fun c1 => s_iload_n E55_8.1 (k_ E55_8) rfl (s_aload_n E55_9.1 (k_ E55_9) rfl (s_getI0 E55_10.1 (k_ E55_10) rfl (s_iload_n E55_13.1 (k_ E55_13) rfl (s_isub E55_14.1 (k_ E55_14) (s_icmp_gt E55_15.1 (k_ E55_15) ⟨fun c2 => s_iconst E55_22.1 (k_ E55_22) (s_zret E55_23.1 (k_ E55_23) (((h.2 c0).2 c1).1 c2)), fun c2 => s_iconst E55_18.1 (k_ E55_18) (s_goto E55_19.1 (k_ E55_19) (s_zret E55_23.1 (k_ E55_23) (((h.2 c0).2 c1).2 c2)))⟩)))))⟩)⟩)
-- 57: X5_isMissing
theorem E57_0 : aCode 57 0 = (Instr.aload_n 0, 1, [], 0) ∧ bMask 57 0 = [] := ⟨rfl, rfl⟩
theorem E57_1 : aCode 57 1 = (Instr.getfield 13, 4, [37, 5, 2, 0], 0) ∧ bMask 57 1 = [] := ⟨rfl, rfl⟩
theorem E57_4 : aCode 57 4 = (Instr.ifCond .ge 7, 7, [11], 0) ∧ bMask 57 4 = [] := ⟨rfl, rfl⟩
theorem E57_7 : aCode 57 7 = (Instr.iconst 1, 8, [], 1) ∧ bMask 57 7 = [] := ⟨rfl, rfl⟩
theorem E57_8 : aCode 57 8 = (Instr.goto 4, 12, [], 0) ∧ bMask 57 8 = [] := ⟨rfl, rfl⟩
theorem E57_11 : aCode 57 11 = (Instr.iconst 0, 12, [], 0) ∧ bMask 57 11 = [] := ⟨rfl, rfl⟩
theorem E57_12 : aCode 57 12 = (Instr.ireturn, 13, [1], 0) ∧ bMask 57 12 = [] := ⟨rfl, rfl⟩
theorem g_X5_isMissing_0 {Q : bQ} {M : bM} {j0 : Nat} (h : ((0 ≤ (M 6 j0 2)) → (((0 : Int32) = 0 ∨ (0 : Int32) = 1) ∧ Q (some (cI (0 : Int32))) M)) ∧ (¬ (0 ≤ (M 6 j0 2)) → (((1 : Int32) = 0 ∨ (1 : Int32) = 1) ∧ Q (some (cI (1 : Int32))) M))) : bCall 57 [cR 6 j0] M Q := s_aload_n E57_0.1 (k_ E57_0) rfl (s_getI0 E57_1.1 (k_ E57_1) rfl (s_if_ge E57_4.1 (k_ E57_4) ⟨fun c0 => s_iconst E57_11.1 (k_ E57_11) (s_zret E57_12.1 (k_ E57_12) (h.1 c0)), fun c0 => s_iconst E57_7.1 (k_ E57_7) (s_goto E57_8.1 (k_ E57_8) (s_zret E57_12.1 (k_ E57_12) (h.2 c0)))⟩))
-- 58: X5_keep
theorem E58_0 : aCode 58 0 = (Instr.iload_n 1, 1, [], 0) ∧ bMask 58 0 = [] := ⟨rfl, rfl⟩
theorem E58_1 : aCode 58 1 = (Instr.ifCond .lt 28, 4, [29], 0) ∧ bMask 58 1 = [] := ⟨rfl, rfl⟩
theorem E58_4 : aCode 58 4 = (Instr.iload_n 1, 5, [], 0) ∧ bMask 58 4 = [] := ⟨rfl, rfl⟩
theorem E58_5 : aCode 58 5 = (Instr.bipush 40, 7, [], 40) ∧ bMask 58 5 = [] := ⟨rfl, rfl⟩
theorem E58_7 : aCode 58 7 = (Instr.if_icmp .ge 22, 10, [29], 0) ∧ bMask 58 7 = [] := ⟨rfl, rfl⟩
theorem E58_10 : aCode 58 10 = (Instr.aload_n 0, 11, [], 0) ∧ bMask 58 10 = [] := ⟨rfl, rfl⟩
theorem E58_11 : aCode 58 11 = (Instr.getfield 9, 14, [38, 5, 0, 2], 0) ∧ bMask 58 11 = [] := ⟨rfl, rfl⟩
theorem E58_14 : aCode 58 14 = (Instr.iload_n 1, 15, [], 0) ∧ bMask 58 14 = [] := ⟨rfl, rfl⟩
theorem E58_15 : aCode 58 15 = (Instr.aload_n 0, 16, [], 0) ∧ bMask 58 15 = [] := ⟨rfl, rfl⟩
theorem E58_16 : aCode 58 16 = (Instr.getfield 17, 19, [36, 5, 1, 0], 0) ∧ bMask 58 16 = [] := ⟨rfl, rfl⟩
theorem E58_19 : aCode 58 19 = (Instr.ifCond .ne 8, 22, [27], 0) ∧ bMask 58 19 = [] := ⟨rfl, rfl⟩
theorem E58_22 : aCode 58 22 = (Instr.iload_n 2, 23, [], 0) ∧ bMask 58 22 = [] := ⟨rfl, rfl⟩
theorem E58_23 : aCode 58 23 = (Instr.i2b, 24, [], 0) ∧ bMask 58 23 = [] := ⟨rfl, rfl⟩
theorem E58_24 : aCode 58 24 = (Instr.goto 4, 28, [], 0) ∧ bMask 58 24 = [] := ⟨rfl, rfl⟩
theorem E58_27 : aCode 58 27 = (Instr.iload_n 2, 28, [], 0) ∧ bMask 58 27 = [] := ⟨rfl, rfl⟩
theorem E58_28 : aCode 58 28 = (Instr.iastore, 29, [0], 0) ∧ bMask 58 28 = [] := ⟨rfl, rfl⟩
theorem E58_29 : aCode 58 29 = (Instr.return_, 30, [], 0) ∧ bMask 58 29 = [] := ⟨rfl, rfl⟩
theorem g_X5_keep_0 {Q : bQ} {M : bM} {j0 : Nat} {x1 : Int32} {x2 : Int32} (h : ((x1 < 0) → (Q none M)) ∧ (¬ (x1 < 0) → ((((40 : Int32) ≤ x1) → (Q none M)) ∧ (¬ ((40 : Int32) ≤ x1) → (((¬ (M 6 j0 1) = 0) → ((vp_in x1 40) ∧ (Q none (bU M 12 j0 x1.toNatClampNeg x2)))) ∧ (¬ (¬ (M 6 j0 1) = 0) → ((vp_in x1 40) ∧ (Q none (bU M 12 j0 x1.toNatClampNeg x2.toInt8.toInt32))))))))) : bCall 58 [cR 6 j0, cI x1, cI x2] M Q := s_iload_n E58_0.1 (k_ E58_0) rfl (s_if_lt E58_1.1 (k_ E58_1) ⟨fun c0 => s_ret E58_29.1 (k_ E58_29) (h.1 c0), fun c0 => s_iload_n E58_4.1 (k_ E58_4) rfl (s_bipush E58_5.1 (k_ E58_5) (s_icmp_ge E58_7.1 (k_ E58_7) ⟨fun c1 => s_ret E58_29.1 (k_ E58_29) ((h.2 c0).1 c1), fun c1 => s_aload_n E58_10.1 (k_ E58_10) rfl (s_getR E58_11.1 (k_ E58_11) rfl rfl (s_iload_n E58_14.1 (k_ E58_14) rfl (s_aload_n E58_15.1 (k_ E58_15) rfl (s_getI0 E58_16.1 (k_ E58_16) rfl (s_if_ne E58_19.1 (k_ E58_19) ⟨fun c2 => s_iload_n E58_27.1 (k_ E58_27) rfl (s_iastore E58_28.1 (k_ E58_28) rfl ⟨(((h.2 c0).2 c1).1 c2).1, s_ret E58_29.1 (k_ E58_29) ((((h.2 c0).2 c1).1 c2).2)⟩), fun c2 => s_iload_n E58_22.1 (k_ E58_22) rfl (s_i2b E58_23.1 (k_ E58_23) (s_goto E58_24.1 (k_ E58_24) (s_iastore E58_28.1 (k_ E58_28) rfl ⟨(((h.2 c0).2 c1).2 c2).1, s_ret E58_29.1 (k_ E58_29) ((((h.2 c0).2 c1).2 c2).2)⟩)))⟩)))))⟩))⟩)
-- 59: X5_numberOrZero
theorem E59_0 : aCode 59 0 = (Instr.iload_n 1, 1, [], 0) ∧ bMask 59 0 = [] := ⟨rfl, rfl⟩
theorem E59_1 : aCode 59 1 = (Instr.ifCond .lt 26, 4, [27], 0) ∧ bMask 59 1 = [] := ⟨rfl, rfl⟩
theorem E59_4 : aCode 59 4 = (Instr.iload_n 1, 5, [], 0) ∧ bMask 59 4 = [] := ⟨rfl, rfl⟩
theorem E59_5 : aCode 59 5 = (Instr.aload_n 0, 6, [], 0) ∧ bMask 59 5 = [] := ⟨rfl, rfl⟩
theorem E59_6 : aCode 59 6 = (Instr.getfield 13, 9, [37, 5, 2, 0], 0) ∧ bMask 59 6 = [] := ⟨rfl, rfl⟩
theorem E59_9 : aCode 59 9 = (Instr.if_icmp .ge 18, 12, [27], 0) ∧ bMask 59 9 = [] := ⟨rfl, rfl⟩
theorem E59_12 : aCode 59 12 = (Instr.iload_n 1, 13, [], 0) ∧ bMask 59 12 = [] := ⟨rfl, rfl⟩
theorem E59_13 : aCode 59 13 = (Instr.bipush 40, 15, [], 40) ∧ bMask 59 13 = [] := ⟨rfl, rfl⟩
theorem E59_15 : aCode 59 15 = (Instr.if_icmp .ge 12, 18, [27], 0) ∧ bMask 59 15 = [] := ⟨rfl, rfl⟩
theorem E59_18 : aCode 59 18 = (Instr.aload_n 0, 19, [], 0) ∧ bMask 59 18 = [] := ⟨rfl, rfl⟩
theorem E59_19 : aCode 59 19 = (Instr.getfield 9, 22, [38, 5, 0, 2], 0) ∧ bMask 59 19 = [] := ⟨rfl, rfl⟩
theorem E59_22 : aCode 59 22 = (Instr.iload_n 1, 23, [], 0) ∧ bMask 59 22 = [] := ⟨rfl, rfl⟩
theorem E59_23 : aCode 59 23 = (Instr.iaload, 24, [0], 0) ∧ bMask 59 23 = [] := ⟨rfl, rfl⟩
theorem E59_24 : aCode 59 24 = (Instr.goto 4, 28, [], 0) ∧ bMask 59 24 = [] := ⟨rfl, rfl⟩
theorem E59_27 : aCode 59 27 = (Instr.iconst 0, 28, [], 0) ∧ bMask 59 27 = [] := ⟨rfl, rfl⟩
theorem E59_28 : aCode 59 28 = (Instr.ireturn, 29, [0], 0) ∧ bMask 59 28 = [] := ⟨rfl, rfl⟩
theorem g_X5_numberOrZero_0 {Q : bQ} {M : bM} {j0 : Nat} {x1 : Int32} (h : ((x1 < 0) → (Q (some (cI (0 : Int32))) M)) ∧ (¬ (x1 < 0) → ((((M 6 j0 2) ≤ x1) → (Q (some (cI (0 : Int32))) M)) ∧ (¬ ((M 6 j0 2) ≤ x1) → ((((40 : Int32) ≤ x1) → (Q (some (cI (0 : Int32))) M)) ∧ (¬ ((40 : Int32) ≤ x1) → ((vp_in x1 40) ∧ (Q (some (cI (M 12 j0 x1.toNatClampNeg))) M)))))))) : bCall 59 [cR 6 j0, cI x1] M Q := s_iload_n E59_0.1 (k_ E59_0) rfl (s_if_lt E59_1.1 (k_ E59_1) ⟨fun c0 => s_iconst E59_27.1 (k_ E59_27) (s_iret E59_28.1 (k_ E59_28) (h.1 c0)), fun c0 => s_iload_n E59_4.1 (k_ E59_4) rfl (s_aload_n E59_5.1 (k_ E59_5) rfl (s_getI0 E59_6.1 (k_ E59_6) rfl (s_icmp_ge E59_9.1 (k_ E59_9) ⟨fun c1 => s_iconst E59_27.1 (k_ E59_27) (s_iret E59_28.1 (k_ E59_28) ((h.2 c0).1 c1)), fun c1 => s_iload_n E59_12.1 (k_ E59_12) rfl (s_bipush E59_13.1 (k_ E59_13) (s_icmp_ge E59_15.1 (k_ E59_15) ⟨fun c2 => s_iconst E59_27.1 (k_ E59_27) (s_iret E59_28.1 (k_ E59_28) (((h.2 c0).2 c1).1 c2)), fun c2 => s_aload_n E59_18.1 (k_ E59_18) rfl (s_getR E59_19.1 (k_ E59_19) rfl rfl (s_iload_n E59_22.1 (k_ E59_22) rfl (s_iaload E59_23.1 (k_ E59_23) rfl ⟨(((h.2 c0).2 c1).2 c2).1, s_goto E59_24.1 (k_ E59_24) (s_iret E59_28.1 (k_ E59_28) ((((h.2 c0).2 c1).2 c2).2))⟩)))⟩))⟩)))⟩)
