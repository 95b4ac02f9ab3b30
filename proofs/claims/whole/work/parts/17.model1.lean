-- needs: 01 02 06 08 09 10 11
-- 104: X7_in
theorem E104_0 : aCode 104 0 = (Instr.iload_n 0, 1, [], 0) ∧ bMask 104 0 = [] := ⟨rfl, rfl⟩
theorem E104_1 : aCode 104 1 = (Instr.iload_n 1, 2, [], 0) ∧ bMask 104 1 = [] := ⟨rfl, rfl⟩
theorem E104_2 : aCode 104 2 = (Instr.if_icmp .lt 12, 5, [14], 0) ∧ bMask 104 2 = [] := ⟨rfl, rfl⟩
theorem E104_5 : aCode 104 5 = (Instr.iload_n 0, 6, [], 0) ∧ bMask 104 5 = [] := ⟨rfl, rfl⟩
theorem E104_6 : aCode 104 6 = (Instr.iload_n 2, 7, [], 0) ∧ bMask 104 6 = [] := ⟨rfl, rfl⟩
theorem E104_7 : aCode 104 7 = (Instr.if_icmp .gt 7, 10, [14], 0) ∧ bMask 104 7 = [] := ⟨rfl, rfl⟩
theorem E104_10 : aCode 104 10 = (Instr.iconst 1, 11, [], 1) ∧ bMask 104 10 = [] := ⟨rfl, rfl⟩
theorem E104_11 : aCode 104 11 = (Instr.goto 4, 15, [], 0) ∧ bMask 104 11 = [] := ⟨rfl, rfl⟩
theorem E104_14 : aCode 104 14 = (Instr.iconst 0, 15, [], 0) ∧ bMask 104 14 = [] := ⟨rfl, rfl⟩
theorem E104_15 : aCode 104 15 = (Instr.ireturn, 16, [1], 0) ∧ bMask 104 15 = [] := ⟨rfl, rfl⟩
theorem g_X7_in_0 {Q : bQ} {M : bM} {x0 : Int32} {x1 : Int32} {x2 : Int32} (h : ((x0 < x1) → (((0 : Int32) = 0 ∨ (0 : Int32) = 1) ∧ Q (some (cI (0 : Int32))) M)) ∧ (¬ (x0 < x1) → (((x2 < x0) → (((0 : Int32) = 0 ∨ (0 : Int32) = 1) ∧ Q (some (cI (0 : Int32))) M)) ∧ (¬ (x2 < x0) → (((1 : Int32) = 0 ∨ (1 : Int32) = 1) ∧ Q (some (cI (1 : Int32))) M))))) : bCall 104 [cI x0, cI x1, cI x2] M Q := s_iload_n E104_0.1 (k_ E104_0) rfl (s_iload_n E104_1.1 (k_ E104_1) rfl (s_icmp_lt E104_2.1 (k_ E104_2) ⟨fun c0 => s_iconst E104_14.1 (k_ E104_14) (s_zret E104_15.1 (k_ E104_15) (h.1 c0)), fun c0 => s_iload_n E104_5.1 (k_ E104_5) rfl (s_iload_n E104_6.1 (k_ E104_6) rfl (s_icmp_gt E104_7.1 (k_ E104_7) ⟨fun c1 => s_iconst E104_14.1 (k_ E104_14) (s_zret E104_15.1 (k_ E104_15) ((h.2 c0).1 c1)), fun c1 => s_iconst E104_10.1 (k_ E104_10) (s_goto E104_11.1 (k_ E104_11) (s_zret E104_15.1 (k_ E104_15) ((h.2 c0).2 c1)))⟩))⟩))
-- 105: X7_isSeries
theorem E105_0 : aCode 105 0 = (Instr.iload_n 0, 1, [], 0) ∧ bMask 105 0 = [] := ⟨rfl, rfl⟩
theorem E105_1 : aCode 105 1 = (Instr.iconst 0, 2, [], 0) ∧ bMask 105 1 = [] := ⟨rfl, rfl⟩
theorem E105_2 : aCode 105 2 = (Instr.iconst 5, 3, [], 5) ∧ bMask 105 2 = [] := ⟨rfl, rfl⟩
theorem E105_3 : aCode 105 3 = (Instr.invokestatic 126, 6, [104, 3, 1, 0, 0, 89], 0) ∧ bMask 105 3 = [] := ⟨rfl, rfl⟩
theorem E105_6 : aCode 105 6 = (Instr.ireturn, 7, [1], 0) ∧ bMask 105 6 = [] := ⟨rfl, rfl⟩
theorem g_X7_isSeries_0 {Q : bQ} {M : bM} {x0 : Int32} (h : bCall 104 [cI x0, cI (0 : Int32), cI (5 : Int32)] M (fun v1 M2 => bV1 v1 fun r3 => ((r3 = 0 ∨ r3 = 1) ∧ Q (some (cI r3)) M2))) : bCall 105 [cI x0] M Q := s_iload_n E105_0.1 (k_ E105_0) rfl (s_iconst E105_1.1 (k_ E105_1) (s_iconst E105_2.1 (k_ E105_2) (s_scall1 E105_3.1 (k_ E105_3) rfl rfl rfl h (fun M2 r3 z0 => s_zret E105_6.1 (k_ E105_6) z0))))
-- 106: X7_at
theorem E106_0 : aCode 106 0 = (Instr.iload_n 1, 1, [], 0) ∧ bMask 106 0 = [] := ⟨rfl, rfl⟩
theorem E106_1 : aCode 106 1 = (Instr.invokestatic 134, 4, [105, 1, 1, 0, 0, 90], 0) ∧ bMask 106 1 = [] := ⟨rfl, rfl⟩
theorem E106_4 : aCode 106 4 = (Instr.ifCond .eq 27, 7, [31], 0) ∧ bMask 106 4 = [] := ⟨rfl, rfl⟩
theorem E106_7 : aCode 106 7 = (Instr.iload_n 2, 8, [], 0) ∧ bMask 106 7 = [] := ⟨rfl, rfl⟩
theorem E106_8 : aCode 106 8 = (Instr.iconst 0, 9, [], 0) ∧ bMask 106 8 = [] := ⟨rfl, rfl⟩
theorem E106_9 : aCode 106 9 = (Instr.bipush 31, 11, [], 31) ∧ bMask 106 9 = [] := ⟨rfl, rfl⟩
theorem E106_11 : aCode 106 11 = (Instr.invokestatic 126, 14, [104, 3, 1, 0, 0, 89], 0) ∧ bMask 106 11 = [] := ⟨rfl, rfl⟩
theorem E106_14 : aCode 106 14 = (Instr.ifCond .eq 17, 17, [31], 0) ∧ bMask 106 14 = [] := ⟨rfl, rfl⟩
theorem E106_17 : aCode 106 17 = (Instr.aload_n 0, 18, [], 0) ∧ bMask 106 17 = [] := ⟨rfl, rfl⟩
theorem E106_18 : aCode 106 18 = (Instr.getfield 13, 21, [69, 7, 1, 2], 0) ∧ bMask 106 18 = [] := ⟨rfl, rfl⟩
theorem E106_21 : aCode 106 21 = (Instr.bipush 32, 23, [], 32) ∧ bMask 106 21 = [] := ⟨rfl, rfl⟩
theorem E106_23 : aCode 106 23 = (Instr.iload_n 1, 24, [], 0) ∧ bMask 106 23 = [] := ⟨rfl, rfl⟩
theorem E106_24 : aCode 106 24 = (Instr.imul, 25, [], 0) ∧ bMask 106 24 = [] := ⟨rfl, rfl⟩
theorem E106_25 : aCode 106 25 = (Instr.iload_n 2, 26, [], 0) ∧ bMask 106 25 = [] := ⟨rfl, rfl⟩
theorem E106_26 : aCode 106 26 = (Instr.iadd, 27, [], 0) ∧ bMask 106 26 = [] := ⟨rfl, rfl⟩
theorem E106_27 : aCode 106 27 = (Instr.iaload, 28, [0], 0) ∧ bMask 106 27 = [] := ⟨rfl, rfl⟩
theorem E106_28 : aCode 106 28 = (Instr.goto 4, 32, [], 0) ∧ bMask 106 28 = [] := ⟨rfl, rfl⟩
theorem E106_31 : aCode 106 31 = (Instr.iconst (-1), 32, [], (-1)) ∧ bMask 106 31 = [] := ⟨rfl, rfl⟩
theorem E106_32 : aCode 106 32 = (Instr.ireturn, 33, [0], 0) ∧ bMask 106 32 = [] := ⟨rfl, rfl⟩
theorem g_X7_at_0 {Q : bQ} {M : bM} {x1 : Int32} {x2 : Int32} (h : bCall 105 [cI x1] M (fun v1 M2 => bV1 v1 fun r3 => (((r3 = 0) → (Q (some (cI (-1 : Int32))) M2)) ∧ (¬ (r3 = 0) → (bCall 104 [cI x2, cI (0 : Int32), cI (31 : Int32)] M2 (fun v4 M5 => bV1 v4 fun r6 => (((r6 = 0) → (Q (some (cI (-1 : Int32))) M5)) ∧ (¬ (r6 = 0) → ((vp_in (((32 : Int32) * x1) + x2) 192) ∧ (Q (some (cI (M5 28 0 (((32 : Int32) * x1) + x2).toNatClampNeg))) M5)))))))))) : bCall 106 [cR 26 0, cI x1, cI x2] M Q := s_iload_n E106_0.1 (k_ E106_0) rfl (s_scall1 E106_1.1 (k_ E106_1) rfl rfl rfl h (fun M2 r3 z0 => s_if_eq E106_4.1 (k_ E106_4) ⟨fun c1 => s_iconst E106_31.1 (k_ E106_31) (s_iret E106_32.1 (k_ E106_32) (z0.1 c1)), fun c1 => s_iload_n E106_7.1 (k_ E106_7) rfl (s_iconst E106_8.1 (k_ E106_8) (s_bipush E106_9.1 (k_ E106_9) (s_scall1 E106_11.1 (k_ E106_11) rfl rfl rfl (z0.2 c1) (fun M5 r6 z2 => s_if_eq E106_14.1 (k_ E106_14) ⟨fun c3 => s_iconst E106_31.1 (k_ E106_31) (s_iret E106_32.1 (k_ E106_32) (z2.1 c3)), fun c3 => s_aload_n E106_17.1 (k_ E106_17) rfl (s_getR E106_18.1 (k_ E106_18) rfl rfl (s_bipush E106_21.1 (k_ E106_21) (s_iload_n E106_23.1 (k_ E106_23) rfl (s_imul E106_24.1 (k_ E106_24) (s_iload_n E106_25.1 (k_ E106_25) rfl (s_iadd E106_26.1 (k_ E106_26) (s_iaload E106_27.1 (k_ E106_27) rfl ⟨(z2.2 c3).1, s_goto E106_28.1 (k_ E106_28) (s_iret E106_32.1 (k_ E106_32) ((z2.2 c3).2))⟩)))))))⟩))))⟩))
-- 107: X7_begins
theorem E107_0 : aCode 107 0 = (Instr.iconst 0, 1, [], 0) ∧ bMask 107 0 = [] := ⟨rfl, rfl⟩
theorem E107_1 : aCode 107 1 = (Instr.istore_n 1, 2, [], 0) ∧ bMask 107 1 = [] := ⟨rfl, rfl⟩
theorem E107_2 : aCode 107 2 = (Instr.iload_n 1, 3, [], 0) ∧ bMask 107 2 = [] := ⟨rfl, rfl⟩
theorem E107_3 : aCode 107 3 = (Instr.bipush 32, 5, [], 32) ∧ bMask 107 3 = [] := ⟨rfl, rfl⟩
theorem E107_5 : aCode 107 5 = (Instr.if_icmp .ge 24, 8, [29], 0) ∧ bMask 107 5 = [] := ⟨rfl, rfl⟩
theorem E107_8 : aCode 107 8 = (Instr.aload_n 0, 9, [], 0) ∧ bMask 107 8 = [] := ⟨rfl, rfl⟩
theorem E107_9 : aCode 107 9 = (Instr.getfield 29, 12, [70, 7, 12, 2], 0) ∧ bMask 107 9 = [] := ⟨rfl, rfl⟩
theorem E107_12 : aCode 107 12 = (Instr.bipush 32, 14, [], 32) ∧ bMask 107 12 = [] := ⟨rfl, rfl⟩
theorem E107_14 : aCode 107 14 = (Instr.aload_n 0, 15, [], 0) ∧ bMask 107 14 = [] := ⟨rfl, rfl⟩
theorem E107_15 : aCode 107 15 = (Instr.getfield 188, 18, [71, 7, 17, 0], 0) ∧ bMask 107 15 = [] := ⟨rfl, rfl⟩
theorem E107_18 : aCode 107 18 = (Instr.imul, 19, [], 0) ∧ bMask 107 18 = [] := ⟨rfl, rfl⟩
theorem E107_19 : aCode 107 19 = (Instr.iload_n 1, 20, [], 0) ∧ bMask 107 19 = [] := ⟨rfl, rfl⟩
theorem E107_20 : aCode 107 20 = (Instr.iadd, 21, [], 0) ∧ bMask 107 20 = [] := ⟨rfl, rfl⟩
theorem E107_21 : aCode 107 21 = (Instr.iconst 0, 22, [], 0) ∧ bMask 107 21 = [] := ⟨rfl, rfl⟩
theorem E107_22 : aCode 107 22 = (Instr.iastore, 23, [0], 0) ∧ bMask 107 22 = [] := ⟨rfl, rfl⟩
theorem E107_23 : aCode 107 23 = (Instr.iinc 1 1, 26, [], 1) ∧ bMask 107 23 = [] := ⟨rfl, rfl⟩
theorem E107_26 : aCode 107 26 = (Instr.goto (-24), 2, [], 0) ∧ bMask 107 26 = [] := ⟨rfl, rfl⟩
theorem E107_29 : aCode 107 29 = (Instr.aload_n 0, 30, [], 0) ∧ bMask 107 29 = [] := ⟨rfl, rfl⟩
theorem E107_30 : aCode 107 30 = (Instr.getfield 35, 33, [72, 7, 14, 2], 0) ∧ bMask 107 30 = [] := ⟨rfl, rfl⟩
theorem E107_33 : aCode 107 33 = (Instr.aload_n 0, 34, [], 0) ∧ bMask 107 33 = [] := ⟨rfl, rfl⟩
theorem E107_34 : aCode 107 34 = (Instr.getfield 188, 37, [71, 7, 17, 0], 0) ∧ bMask 107 34 = [] := ⟨rfl, rfl⟩
theorem E107_37 : aCode 107 37 = (Instr.iconst 0, 38, [], 0) ∧ bMask 107 37 = [] := ⟨rfl, rfl⟩
theorem E107_38 : aCode 107 38 = (Instr.bastore, 39, [1], 0) ∧ bMask 107 38 = [] := ⟨rfl, rfl⟩
theorem E107_39 : aCode 107 39 = (Instr.aload_n 0, 40, [], 0) ∧ bMask 107 39 = [] := ⟨rfl, rfl⟩
theorem E107_40 : aCode 107 40 = (Instr.getfield 39, 43, [73, 7, 15, 2], 0) ∧ bMask 107 40 = [] := ⟨rfl, rfl⟩
theorem E107_43 : aCode 107 43 = (Instr.aload_n 0, 44, [], 0) ∧ bMask 107 43 = [] := ⟨rfl, rfl⟩
theorem E107_44 : aCode 107 44 = (Instr.getfield 188, 47, [71, 7, 17, 0], 0) ∧ bMask 107 44 = [] := ⟨rfl, rfl⟩
theorem E107_47 : aCode 107 47 = (Instr.iconst 0, 48, [], 0) ∧ bMask 107 47 = [] := ⟨rfl, rfl⟩
theorem E107_48 : aCode 107 48 = (Instr.iastore, 49, [0], 0) ∧ bMask 107 48 = [] := ⟨rfl, rfl⟩
theorem E107_49 : aCode 107 49 = (Instr.return_, 50, [], 0) ∧ bMask 107 49 = [] := ⟨rfl, rfl⟩
theorem g_X7_begins_0 {Q : bQ} {M : bM}  (h : bGo 107 Q 2 [some (cR 26 0), some (cI (0 : Int32))] [] M) : bCall 107 [cR 26 0] M Q := s_iconst E107_0.1 (k_ E107_0) (s_istore_n E107_1.1 (k_ E107_1) (h))
theorem g_X7_begins_2 {Q : bQ} {M : bM} {x1 : Int32} (h : (((32 : Int32) ≤ x1) → ((vp_in (M 26 0 17) 5 ∧ ((0 : Int32) = 0 ∨ (0 : Int32) = 1)) ∧ ((vp_in ((bU M 32 0 (M 26 0 17).toNatClampNeg (0 : Int32)) 26 0 17) 5) ∧ (Q none (bU (bU M 32 0 (M 26 0 17).toNatClampNeg (0 : Int32)) 33 0 ((bU M 32 0 (M 26 0 17).toNatClampNeg (0 : Int32)) 26 0 17).toNatClampNeg (0 : Int32)))))) ∧ (¬ ((32 : Int32) ≤ x1) → ((vp_in (((32 : Int32) * (M 26 0 17)) + x1) 160) ∧ bGo 107 Q 2 [some (cR 26 0), some (cI (x1 + (1 : Int32)))] [] (bU M 30 0 (((32 : Int32) * (M 26 0 17)) + x1).toNatClampNeg (0 : Int32))))) : bGo 107 Q 2 [some (cR 26 0), some (cI x1)] [] M := s_iload_n E107_2.1 (k_ E107_2) rfl (s_bipush E107_3.1 (k_ E107_3) (s_icmp_ge E107_5.1 (k_ E107_5) ⟨fun c0 => s_aload_n E107_29.1 (k_ E107_29) rfl (s_getR E107_30.1 (k_ E107_30) rfl rfl (s_aload_n E107_33.1 (k_ E107_33) rfl (s_getI0 E107_34.1 (k_ E107_34) rfl (s_iconst E107_37.1 (k_ E107_37) (s_bastore E107_38.1 (k_ E107_38) rfl ⟨(h.1 c0).1, s_aload_n E107_39.1 (k_ E107_39) rfl (s_getR E107_40.1 (k_ E107_40) rfl rfl (s_aload_n E107_43.1 (k_ E107_43) rfl (s_getI0 E107_44.1 (k_ E107_44) rfl (s_iconst E107_47.1 (k_ E107_47) (s_iastore E107_48.1 (k_ E107_48) rfl ⟨((h.1 c0).2).1, s_ret E107_49.1 (k_ E107_49) (((h.1 c0).2).2)⟩)))))⟩))))), fun c0 => s_aload_n E107_8.1 (k_ E107_8) rfl (s_getR E107_9.1 (k_ E107_9) rfl rfl (s_bipush E107_12.1 (k_ E107_12) (s_aload_n E107_14.1 (k_ E107_14) rfl (s_getI0 E107_15.1 (k_ E107_15) rfl (s_imul E107_18.1 (k_ E107_18) (s_iload_n E107_19.1 (k_ E107_19) rfl (s_iadd E107_20.1 (k_ E107_20) (s_iconst E107_21.1 (k_ E107_21) (s_iastore E107_22.1 (k_ E107_22) rfl ⟨(h.2 c0).1, s_iinc E107_23.1 (k_ E107_23) rfl (s_goto E107_26.1 (k_ E107_26) ((h.2 c0).2))⟩)))))))))⟩))
-- 108: X7_isDigit
theorem E108_0 : aCode 108 0 = (Instr.iload_n 0, 1, [], 0) ∧ bMask 108 0 = [] := ⟨rfl, rfl⟩
theorem E108_1 : aCode 108 1 = (Instr.bipush 48, 3, [], 48) ∧ bMask 108 1 = [] := ⟨rfl, rfl⟩
theorem E108_3 : aCode 108 3 = (Instr.bipush 57, 5, [], 57) ∧ bMask 108 3 = [] := ⟨rfl, rfl⟩
theorem E108_5 : aCode 108 5 = (Instr.invokestatic 126, 8, [104, 3, 1, 0, 0, 89], 0) ∧ bMask 108 5 = [] := ⟨rfl, rfl⟩
theorem E108_8 : aCode 108 8 = (Instr.ireturn, 9, [1], 0) ∧ bMask 108 8 = [] := ⟨rfl, rfl⟩
theorem g_X7_isDigit_0 {Q : bQ} {M : bM} {x0 : Int32} (h : bCall 104 [cI x0, cI (48 : Int32), cI (57 : Int32)] M (fun v1 M2 => bV1 v1 fun r3 => ((r3 = 0 ∨ r3 = 1) ∧ Q (some (cI r3)) M2))) : bCall 108 [cI x0] M Q := s_iload_n E108_0.1 (k_ E108_0) rfl (s_bipush E108_1.1 (k_ E108_1) (s_bipush E108_3.1 (k_ E108_3) (s_scall1 E108_5.1 (k_ E108_5) rfl rfl rfl h (fun M2 r3 z0 => s_zret E108_8.1 (k_ E108_8) z0))))
-- 109: X7_isSign
theorem E109_0 : aCode 109 0 = (Instr.iload_n 0, 1, [], 0) ∧ bMask 109 0 = [] := ⟨rfl, rfl⟩
theorem E109_1 : aCode 109 1 = (Instr.bipush 120, 3, [], 120) ∧ bMask 109 1 = [] := ⟨rfl, rfl⟩
theorem E109_3 : aCode 109 3 = (Instr.if_icmp .eq 45, 6, [48], 0) ∧ bMask 109 3 = [] := ⟨rfl, rfl⟩
theorem E109_6 : aCode 109 6 = (Instr.iload_n 0, 7, [], 0) ∧ bMask 109 6 = [] := ⟨rfl, rfl⟩
theorem E109_7 : aCode 109 7 = (Instr.bipush 43, 9, [], 43) ∧ bMask 109 7 = [] := ⟨rfl, rfl⟩
theorem E109_9 : aCode 109 9 = (Instr.if_icmp .eq 39, 12, [48], 0) ∧ bMask 109 9 = [] := ⟨rfl, rfl⟩
theorem E109_12 : aCode 109 12 = (Instr.iload_n 0, 13, [], 0) ∧ bMask 109 12 = [] := ⟨rfl, rfl⟩
theorem E109_13 : aCode 109 13 = (Instr.bipush 45, 15, [], 45) ∧ bMask 109 13 = [] := ⟨rfl, rfl⟩
theorem E109_15 : aCode 109 15 = (Instr.if_icmp .eq 33, 18, [48], 0) ∧ bMask 109 15 = [] := ⟨rfl, rfl⟩
theorem E109_18 : aCode 109 18 = (Instr.iload_n 0, 19, [], 0) ∧ bMask 109 18 = [] := ⟨rfl, rfl⟩
theorem E109_19 : aCode 109 19 = (Instr.bipush 42, 21, [], 42) ∧ bMask 109 19 = [] := ⟨rfl, rfl⟩
theorem E109_21 : aCode 109 21 = (Instr.if_icmp .eq 27, 24, [48], 0) ∧ bMask 109 21 = [] := ⟨rfl, rfl⟩
theorem E109_24 : aCode 109 24 = (Instr.iload_n 0, 25, [], 0) ∧ bMask 109 24 = [] := ⟨rfl, rfl⟩
theorem E109_25 : aCode 109 25 = (Instr.bipush 47, 27, [], 47) ∧ bMask 109 25 = [] := ⟨rfl, rfl⟩
theorem E109_27 : aCode 109 27 = (Instr.if_icmp .eq 21, 30, [48], 0) ∧ bMask 109 27 = [] := ⟨rfl, rfl⟩
theorem E109_30 : aCode 109 30 = (Instr.iload_n 0, 31, [], 0) ∧ bMask 109 30 = [] := ⟨rfl, rfl⟩
theorem E109_31 : aCode 109 31 = (Instr.bipush 94, 33, [], 94) ∧ bMask 109 31 = [] := ⟨rfl, rfl⟩
theorem E109_33 : aCode 109 33 = (Instr.if_icmp .eq 15, 36, [48], 0) ∧ bMask 109 33 = [] := ⟨rfl, rfl⟩
theorem E109_36 : aCode 109 36 = (Instr.iload_n 0, 37, [], 0) ∧ bMask 109 36 = [] := ⟨rfl, rfl⟩
theorem E109_37 : aCode 109 37 = (Instr.bipush 40, 39, [], 40) ∧ bMask 109 37 = [] := ⟨rfl, rfl⟩
theorem E109_39 : aCode 109 39 = (Instr.if_icmp .eq 9, 42, [48], 0) ∧ bMask 109 39 = [] := ⟨rfl, rfl⟩
theorem E109_42 : aCode 109 42 = (Instr.iload_n 0, 43, [], 0) ∧ bMask 109 42 = [] := ⟨rfl, rfl⟩
theorem E109_43 : aCode 109 43 = (Instr.bipush 41, 45, [], 41) ∧ bMask 109 43 = [] := ⟨rfl, rfl⟩
theorem E109_45 : aCode 109 45 = (Instr.if_icmp .ne 7, 48, [52], 0) ∧ bMask 109 45 = [] := ⟨rfl, rfl⟩
theorem E109_48 : aCode 109 48 = (Instr.iconst 1, 49, [], 1) ∧ bMask 109 48 = [] := ⟨rfl, rfl⟩
theorem E109_49 : aCode 109 49 = (Instr.goto 4, 53, [], 0) ∧ bMask 109 49 = [] := ⟨rfl, rfl⟩
theorem E109_52 : aCode 109 52 = (Instr.iconst 0, 53, [], 0) ∧ bMask 109 52 = [] := ⟨rfl, rfl⟩
theorem E109_53 : aCode 109 53 = (Instr.ireturn, 54, [1], 0) ∧ bMask 109 53 = [] := ⟨rfl, rfl⟩
theorem g_X7_isSign_0 {Q : bQ} {M : bM} {x0 : Int32} (h : ((x0 = (120 : Int32)) → (((1 : Int32) = 0 ∨ (1 : Int32) = 1) ∧ Q (some (cI (1 : Int32))) M)) ∧ (¬ (x0 = (120 : Int32)) → (((x0 = (43 : Int32)) → (((1 : Int32) = 0 ∨ (1 : Int32) = 1) ∧ Q (some (cI (1 : Int32))) M)) ∧ (¬ (x0 = (43 : Int32)) → (((x0 = (45 : Int32)) → (((1 : Int32) = 0 ∨ (1 : Int32) = 1) ∧ Q (some (cI (1 : Int32))) M)) ∧ (¬ (x0 = (45 : Int32)) → (((x0 = (42 : Int32)) → (((1 : Int32) = 0 ∨ (1 : Int32) = 1) ∧ Q (some (cI (1 : Int32))) M)) ∧ (¬ (x0 = (42 : Int32)) → (((x0 = (47 : Int32)) → (((1 : Int32) = 0 ∨ (1 : Int32) = 1) ∧ Q (some (cI (1 : Int32))) M)) ∧ (¬ (x0 = (47 : Int32)) → (((x0 = (94 : Int32)) → (((1 : Int32) = 0 ∨ (1 : Int32) = 1) ∧ Q (some (cI (1 : Int32))) M)) ∧ (¬ (x0 = (94 : Int32)) → (((x0 = (40 : Int32)) → (((1 : Int32) = 0 ∨ (1 : Int32) = 1) ∧ Q (some (cI (1 : Int32))) M)) ∧ (¬ (x0 = (40 : Int32)) → (((¬ x0 = (41 : Int32)) → (((0 : Int32) = 0 ∨ (0 : Int32) = 1) ∧ Q (some (cI (0 : Int32))) M)) ∧ (¬ (¬ x0 = (41 : Int32)) → (((1 : Int32) = 0 ∨ (1 : Int32) = 1) ∧ Q (some (cI (1 : Int32))) M))))))))))))))))) : bCall 109 [cI x0] M Q := s_iload_n E109_0.1 (k_ E109_0) rfl (s_bipush E109_1.1 (k_ E109_1) (s_icmp_eq E109_3.1 (k_ E109_3) ⟨fun c0 => s_iconst E109_48.1 (k_ E109_48) (s_goto E109_49.1 (k_ E109_49) (s_zret E109_53.1 (k_ E109_53) (h.1 c0))), fun c0 => s_iload_n E109_6.1 (k_ E109_6) rfl (s_bipush E109_7.1 (k_ E109_7) (s_icmp_eq E109_9.1 (k_ E109_9) ⟨fun c1 => s_iconst E109_48.1 (k_ E109_48) (s_goto E109_49.1 (k_ E109_49) (s_zret E109_53.1 (k_ E109_53) ((h.2 c0).1 c1))), fun c1 => s_iload_n E109_12.1 (k_ E109_12) rfl (s_bipush E109_13.1 (k_ E109_13) (s_icmp_eq E109_15.1 (k_ E109_15) ⟨fun c2 => s_iconst E109_48.1 (k_ E109_48) (s_goto E109_49.1 (k_ E109_49) (s_zret E109_53.1 (k_ E109_53) (((h.2 c0).2 c1).1 c2))), fun c2 => s_iload_n E109_18.1 (k_ E109_18) rfl (s_bipush E109_19.1 (k_ E109_19) (s_icmp_eq E109_21.1 (k_ E109_21) ⟨fun c3 => s_iconst E109_48.1 (k_ E109_48) (s_goto E109_49.1 (k_ E109_49) (s_zret E109_53.1 (k_ E109_53) ((((h.2 c0).2 c1).2 c2).1 c3))), fun c3 => s_iload_n E109_24.1 (k_ E109_24) rfl (s_bipush E109_25.1 (k_ E109_25) (s_icmp_eq E109_27.1 (k_ E109_27) ⟨fun c4 => s_iconst E109_48.1 (k_ E109_48) (s_goto E109_49.1 (k_ E109_49) (s_zret E109_53.1 (k_ E109_53) (((((h.2 c0).2 c1).2 c2).2 c3).1 c4))), fun c4 => s_iload_n E109_30.1 (k_ E109_30) rfl (s_bipush E109_31.1 (k_ E109_31) (s_icmp_eq E109_33.1 (k_ E109_33) ⟨fun c5 => s_iconst E109_48.1 (k_ E109_48) (s_goto E109_49.1 (k_ E109_49) (s_zret E109_53.1 (k_ E109_53) ((((((h.2 c0).2 c1).2 c2).2 c3).2 c4).1 c5))), fun c5 => s_iload_n E109_36.1 (k_ E109_36) rfl (s_bipush E109_37.1 (k_ E109_37) (s_icmp_eq E109_39.1 (k_ E109_39) ⟨fun c6 => s_iconst E109_48.1 (k_ E109_48) (s_goto E109_49.1 (k_ E109_49) (s_zret E109_53.1 (k_ E109_53) (((((((h.2 c0).2 c1).2 c2).2 c3).2 c4).2 c5).1 c6))), fun c6 => s_iload_n E109_42.1 (k_ E109_42) rfl (s_bipush E109_43.1 (k_ E109_43) (s_icmp_ne E109_45.1 (k_ E109_45) ⟨fun c7 => s_iconst E109_52.1 (k_ E109_52) (s_zret E109_53.1 (k_ E109_53) ((((((((h.2 c0).2 c1).2 c2).2 c3).2 c4).2 c5).2 c6).1 c7)), fun c7 => s_iconst E109_48.1 (k_ E109_48) (s_goto E109_49.1 (k_ E109_49) (s_zret E109_53.1 (k_ E109_53) ((((((((h.2 c0).2 c1).2 c2).2 c3).2 c4).2 c5).2 c6).2 c7)))⟩))⟩))⟩))⟩))⟩))⟩))⟩))⟩))
-- 110: X7_next
theorem E110_0 : aCode 110 0 = (Instr.aload_n 0, 1, [], 0) := rfl
theorem E110_1 : aCode 110 1 = (Instr.getfield 170, 4, [74, 7, 8, 0], 0) ∧ bMask 110 1 = [] := ⟨rfl, rfl⟩
theorem E110_4 : aCode 110 4 = (Instr.aload_n 0, 5, [], 0) ∧ bMask 110 4 = [] := ⟨rfl, rfl⟩
theorem E110_5 : aCode 110 5 = (Instr.getfield 167, 8, [75, 7, 7, 0], 0) ∧ bMask 110 5 = [] := ⟨rfl, rfl⟩
theorem E110_8 : aCode 110 8 = (Instr.if_icmp .ge 30, 11, [38], 0) ∧ bMask 110 8 = [] := ⟨rfl, rfl⟩
theorem E110_11 : aCode 110 11 = (Instr.aload_n 0, 12, [], 0) ∧ bMask 110 11 = [] := ⟨rfl, rfl⟩
theorem E110_12 : aCode 110 12 = (Instr.getfield 26, 15, [76, 7, 6, 2], 0) ∧ bMask 110 12 = [] := ⟨rfl, rfl⟩
theorem E110_15 : aCode 110 15 = (Instr.aload_n 0, 16, [], 0) ∧ bMask 110 15 = [] := ⟨rfl, rfl⟩
theorem E110_16 : aCode 110 16 = (Instr.getfield 170, 19, [74, 7, 8, 0], 0) ∧ bMask 110 16 = [] := ⟨rfl, rfl⟩
theorem E110_19 : aCode 110 19 = (Instr.iaload, 20, [0], 0) ∧ bMask 110 19 = [] := ⟨rfl, rfl⟩
theorem E110_20 : aCode 110 20 = (Instr.bipush 32, 22, [], 32) ∧ bMask 110 20 = [] := ⟨rfl, rfl⟩
theorem E110_22 : aCode 110 22 = (Instr.if_icmp .ne 16, 25, [38], 0) ∧ bMask 110 22 = [] := ⟨rfl, rfl⟩
theorem E110_25 : aCode 110 25 = (Instr.aload_n 0, 26, [], 0) ∧ bMask 110 25 = [] := ⟨rfl, rfl⟩
theorem E110_26 : aCode 110 26 = (Instr.dup, 27, [], 0) ∧ bMask 110 26 = [] := ⟨rfl, rfl⟩
theorem E110_27 : aCode 110 27 = (Instr.getfield 170, 30, [74, 7, 8, 0], 0) ∧ bMask 110 27 = [] := ⟨rfl, rfl⟩
theorem E110_30 : aCode 110 30 = (Instr.iconst 1, 31, [], 1) ∧ bMask 110 30 = [] := ⟨rfl, rfl⟩
theorem E110_31 : aCode 110 31 = (Instr.iadd, 32, [], 0) ∧ bMask 110 31 = [] := ⟨rfl, rfl⟩
theorem E110_32 : aCode 110 32 = (Instr.putfield 170, 35, [74, 7, 8, 0], 0) ∧ bMask 110 32 = [] := ⟨rfl, rfl⟩
theorem E110_35 : aCode 110 35 = (Instr.goto (-35), 0, [], 0) ∧ bMask 110 35 = [] := ⟨rfl, rfl⟩
theorem E110_38 : aCode 110 38 = (Instr.aload_n 0, 39, [], 0) ∧ bMask 110 38 = [] := ⟨rfl, rfl⟩
theorem E110_39 : aCode 110 39 = (Instr.aload_n 0, 40, [], 0) ∧ bMask 110 39 = [] := ⟨rfl, rfl⟩
theorem E110_40 : aCode 110 40 = (Instr.getfield 170, 43, [74, 7, 8, 0], 0) ∧ bMask 110 40 = [] := ⟨rfl, rfl⟩
theorem E110_43 : aCode 110 43 = (Instr.putfield 173, 46, [77, 7, 9, 0], 0) ∧ bMask 110 43 = [] := ⟨rfl, rfl⟩
theorem E110_46 : aCode 110 46 = (Instr.aload_n 0, 47, [], 0) ∧ bMask 110 46 = [] := ⟨rfl, rfl⟩
theorem E110_47 : aCode 110 47 = (Instr.iconst 0, 48, [], 0) ∧ bMask 110 47 = [] := ⟨rfl, rfl⟩
theorem E110_48 : aCode 110 48 = (Instr.putfield 176, 51, [78, 7, 10, 0], 0) ∧ bMask 110 48 = [] := ⟨rfl, rfl⟩
theorem E110_51 : aCode 110 51 = (Instr.aload_n 0, 52, [], 0) ∧ bMask 110 51 = [] := ⟨rfl, rfl⟩
theorem E110_52 : aCode 110 52 = (Instr.iconst 0, 53, [], 0) ∧ bMask 110 52 = [] := ⟨rfl, rfl⟩
theorem E110_53 : aCode 110 53 = (Instr.putfield 179, 56, [79, 7, 11, 0], 0) ∧ bMask 110 53 = [] := ⟨rfl, rfl⟩
theorem E110_56 : aCode 110 56 = (Instr.aload_n 0, 57, [], 0) ∧ bMask 110 56 = [] := ⟨rfl, rfl⟩
theorem E110_57 : aCode 110 57 = (Instr.getfield 170, 60, [74, 7, 8, 0], 0) ∧ bMask 110 57 = [] := ⟨rfl, rfl⟩
theorem E110_60 : aCode 110 60 = (Instr.aload_n 0, 61, [], 0) ∧ bMask 110 60 = [] := ⟨rfl, rfl⟩
theorem E110_61 : aCode 110 61 = (Instr.getfield 167, 64, [75, 7, 7, 0], 0) ∧ bMask 110 61 = [] := ⟨rfl, rfl⟩
theorem E110_64 : aCode 110 64 = (Instr.if_icmp .ne 4, 67, [68], 0) ∧ bMask 110 64 = [] := ⟨rfl, rfl⟩
theorem E110_67 : aCode 110 67 = (Instr.return_, 68, [], 0) ∧ bMask 110 67 = [] := ⟨rfl, rfl⟩
theorem E110_68 : aCode 110 68 = (Instr.aload_n 0, 69, [], 0) ∧ bMask 110 68 = [] := ⟨rfl, rfl⟩
theorem E110_69 : aCode 110 69 = (Instr.getfield 26, 72, [76, 7, 6, 2], 0) ∧ bMask 110 69 = [] := ⟨rfl, rfl⟩
theorem E110_72 : aCode 110 72 = (Instr.aload_n 0, 73, [], 0) ∧ bMask 110 72 = [] := ⟨rfl, rfl⟩
theorem E110_73 : aCode 110 73 = (Instr.getfield 170, 76, [74, 7, 8, 0], 0) ∧ bMask 110 73 = [] := ⟨rfl, rfl⟩
theorem E110_76 : aCode 110 76 = (Instr.iaload, 77, [0], 0) ∧ bMask 110 76 = [] := ⟨rfl, rfl⟩
theorem E110_77 : aCode 110 77 = (Instr.invokestatic 182, 80, [108, 1, 1, 0, 0, 91], 0) ∧ bMask 110 77 = [] := ⟨rfl, rfl⟩
theorem E110_80 : aCode 110 80 = (Instr.ifCond .ne 46, 83, [126], 0) ∧ bMask 110 80 = [] := ⟨rfl, rfl⟩
theorem E110_83 : aCode 110 83 = (Instr.aload_n 0, 84, [], 0) ∧ bMask 110 83 = [] := ⟨rfl, rfl⟩
theorem E110_84 : aCode 110 84 = (Instr.aload_n 0, 85, [], 0) ∧ bMask 110 84 = [] := ⟨rfl, rfl⟩
theorem E110_85 : aCode 110 85 = (Instr.getfield 26, 88, [76, 7, 6, 2], 0) ∧ bMask 110 85 = [] := ⟨rfl, rfl⟩
theorem E110_88 : aCode 110 88 = (Instr.aload_n 0, 89, [], 0) ∧ bMask 110 88 = [] := ⟨rfl, rfl⟩
theorem E110_89 : aCode 110 89 = (Instr.getfield 170, 92, [74, 7, 8, 0], 0) ∧ bMask 110 89 = [] := ⟨rfl, rfl⟩
theorem E110_92 : aCode 110 92 = (Instr.iaload, 93, [0], 0) ∧ bMask 110 92 = [] := ⟨rfl, rfl⟩
theorem E110_93 : aCode 110 93 = (Instr.invokestatic 185, 96, [109, 1, 1, 0, 0, 92], 0) ∧ bMask 110 93 = [] := ⟨rfl, rfl⟩
theorem E110_96 : aCode 110 96 = (Instr.ifCond .eq 15, 99, [111], 0) ∧ bMask 110 96 = [] := ⟨rfl, rfl⟩
theorem E110_99 : aCode 110 99 = (Instr.aload_n 0, 100, [], 0) ∧ bMask 110 99 = [] := ⟨rfl, rfl⟩
theorem E110_100 : aCode 110 100 = (Instr.getfield 26, 103, [76, 7, 6, 2], 0) ∧ bMask 110 100 = [] := ⟨rfl, rfl⟩
theorem E110_103 : aCode 110 103 = (Instr.aload_n 0, 104, [], 0) ∧ bMask 110 103 = [] := ⟨rfl, rfl⟩
theorem E110_104 : aCode 110 104 = (Instr.getfield 170, 107, [74, 7, 8, 0], 0) ∧ bMask 110 104 = [] := ⟨rfl, rfl⟩
theorem E110_107 : aCode 110 107 = (Instr.iaload, 108, [0], 0) ∧ bMask 110 107 = [] := ⟨rfl, rfl⟩
theorem E110_108 : aCode 110 108 = (Instr.goto 4, 112, [], 0) ∧ bMask 110 108 = [] := ⟨rfl, rfl⟩
theorem E110_111 : aCode 110 111 = (Instr.iconst (-1), 112, [], (-1)) ∧ bMask 110 111 = [] := ⟨rfl, rfl⟩
theorem E110_112 : aCode 110 112 = (Instr.putfield 176, 115, [78, 7, 10, 0], 0) ∧ bMask 110 112 = [] := ⟨rfl, rfl⟩
theorem E110_115 : aCode 110 115 = (Instr.aload_n 0, 116, [], 0) ∧ bMask 110 115 = [] := ⟨rfl, rfl⟩
theorem E110_116 : aCode 110 116 = (Instr.dup, 117, [], 0) ∧ bMask 110 116 = [] := ⟨rfl, rfl⟩
theorem E110_117 : aCode 110 117 = (Instr.getfield 170, 120, [74, 7, 8, 0], 0) ∧ bMask 110 117 = [] := ⟨rfl, rfl⟩
theorem E110_120 : aCode 110 120 = (Instr.iconst 1, 121, [], 1) ∧ bMask 110 120 = [] := ⟨rfl, rfl⟩
theorem E110_121 : aCode 110 121 = (Instr.iadd, 122, [], 0) ∧ bMask 110 121 = [] := ⟨rfl, rfl⟩
theorem E110_122 : aCode 110 122 = (Instr.putfield 170, 125, [74, 7, 8, 0], 0) ∧ bMask 110 122 = [] := ⟨rfl, rfl⟩
theorem E110_125 : aCode 110 125 = (Instr.return_, 126, [], 0) ∧ bMask 110 125 = [] := ⟨rfl, rfl⟩
theorem E110_126 : aCode 110 126 = (Instr.iconst 0, 127, [], 0) ∧ bMask 110 126 = [] := ⟨rfl, rfl⟩
theorem E110_127 : aCode 110 127 = (Instr.istore_n 1, 128, [], 0) ∧ bMask 110 127 = [] := ⟨rfl, rfl⟩
theorem E110_128 : aCode 110 128 = (Instr.aload_n 0, 129, [], 0) ∧ bMask 110 128 = [] := ⟨rfl, rfl⟩
theorem E110_129 : aCode 110 129 = (Instr.getfield 170, 132, [74, 7, 8, 0], 0) ∧ bMask 110 129 = [] := ⟨rfl, rfl⟩
theorem E110_132 : aCode 110 132 = (Instr.aload_n 0, 133, [], 0) ∧ bMask 110 132 = [] := ⟨rfl, rfl⟩
theorem E110_133 : aCode 110 133 = (Instr.getfield 167, 136, [75, 7, 7, 0], 0) ∧ bMask 110 133 = [] := ⟨rfl, rfl⟩
theorem E110_136 : aCode 110 136 = (Instr.if_icmp .ge 67, 139, [203], 0) ∧ bMask 110 136 = [] := ⟨rfl, rfl⟩
theorem E110_139 : aCode 110 139 = (Instr.aload_n 0, 140, [], 0) ∧ bMask 110 139 = [] := ⟨rfl, rfl⟩
theorem E110_140 : aCode 110 140 = (Instr.getfield 26, 143, [76, 7, 6, 2], 0) ∧ bMask 110 140 = [] := ⟨rfl, rfl⟩
theorem E110_143 : aCode 110 143 = (Instr.aload_n 0, 144, [], 0) ∧ bMask 110 143 = [] := ⟨rfl, rfl⟩
theorem E110_144 : aCode 110 144 = (Instr.getfield 170, 147, [74, 7, 8, 0], 0) ∧ bMask 110 144 = [] := ⟨rfl, rfl⟩
theorem E110_147 : aCode 110 147 = (Instr.iaload, 148, [0], 0) ∧ bMask 110 147 = [] := ⟨rfl, rfl⟩
theorem E110_148 : aCode 110 148 = (Instr.invokestatic 182, 151, [108, 1, 1, 0, 0, 91], 0) ∧ bMask 110 148 = [] := ⟨rfl, rfl⟩
theorem E110_151 : aCode 110 151 = (Instr.ifCond .eq 52, 154, [203], 0) ∧ bMask 110 151 = [] := ⟨rfl, rfl⟩
theorem E110_154 : aCode 110 154 = (Instr.aload_n 0, 155, [], 0) ∧ bMask 110 154 = [] := ⟨rfl, rfl⟩
theorem E110_155 : aCode 110 155 = (Instr.iload_n 1, 156, [], 0) ∧ bMask 110 155 = [] := ⟨rfl, rfl⟩
theorem E110_156 : aCode 110 156 = (Instr.iconst 4, 157, [], 4) ∧ bMask 110 156 = [] := ⟨rfl, rfl⟩
theorem E110_157 : aCode 110 157 = (Instr.if_icmp .ge 26, 160, [183], 0) ∧ bMask 110 157 = [] := ⟨rfl, rfl⟩
theorem E110_160 : aCode 110 160 = (Instr.bipush 10, 162, [], 10) ∧ bMask 110 160 = [] := ⟨rfl, rfl⟩
theorem E110_162 : aCode 110 162 = (Instr.aload_n 0, 163, [], 0) ∧ bMask 110 162 = [] := ⟨rfl, rfl⟩
theorem E110_163 : aCode 110 163 = (Instr.getfield 179, 166, [79, 7, 11, 0], 0) ∧ bMask 110 163 = [] := ⟨rfl, rfl⟩
theorem E110_166 : aCode 110 166 = (Instr.imul, 167, [], 0) ∧ bMask 110 166 = [] := ⟨rfl, rfl⟩
theorem E110_167 : aCode 110 167 = (Instr.aload_n 0, 168, [], 0) ∧ bMask 110 167 = [] := ⟨rfl, rfl⟩
theorem E110_168 : aCode 110 168 = (Instr.getfield 26, 171, [76, 7, 6, 2], 0) ∧ bMask 110 168 = [] := ⟨rfl, rfl⟩
theorem E110_171 : aCode 110 171 = (Instr.aload_n 0, 172, [], 0) ∧ bMask 110 171 = [] := ⟨rfl, rfl⟩
theorem E110_172 : aCode 110 172 = (Instr.getfield 170, 175, [74, 7, 8, 0], 0) ∧ bMask 110 172 = [] := ⟨rfl, rfl⟩
theorem E110_175 : aCode 110 175 = (Instr.iaload, 176, [0], 0) ∧ bMask 110 175 = [] := ⟨rfl, rfl⟩
theorem E110_176 : aCode 110 176 = (Instr.iadd, 177, [], 0) ∧ bMask 110 176 = [] := ⟨rfl, rfl⟩
theorem E110_177 : aCode 110 177 = (Instr.bipush 48, 179, [], 48) ∧ bMask 110 177 = [] := ⟨rfl, rfl⟩
theorem E110_179 : aCode 110 179 = (Instr.isub, 180, [], 0) ∧ bMask 110 179 = [] := ⟨rfl, rfl⟩
theorem E110_180 : aCode 110 180 = (Instr.goto 4, 184, [], 0) ∧ bMask 110 180 = [] := ⟨rfl, rfl⟩
theorem E110_183 : aCode 110 183 = (Instr.iconst 0, 184, [], 0) ∧ bMask 110 183 = [] := ⟨rfl, rfl⟩
theorem E110_184 : aCode 110 184 = (Instr.putfield 179, 187, [79, 7, 11, 0], 0) ∧ bMask 110 184 = [] := ⟨rfl, rfl⟩
theorem E110_187 : aCode 110 187 = (Instr.iinc 1 1, 190, [], 1) ∧ bMask 110 187 = [] := ⟨rfl, rfl⟩
theorem E110_190 : aCode 110 190 = (Instr.aload_n 0, 191, [], 0) ∧ bMask 110 190 = [] := ⟨rfl, rfl⟩
theorem E110_191 : aCode 110 191 = (Instr.dup, 192, [], 0) ∧ bMask 110 191 = [] := ⟨rfl, rfl⟩
theorem E110_192 : aCode 110 192 = (Instr.getfield 170, 195, [74, 7, 8, 0], 0) ∧ bMask 110 192 = [] := ⟨rfl, rfl⟩
theorem E110_195 : aCode 110 195 = (Instr.iconst 1, 196, [], 1) ∧ bMask 110 195 = [] := ⟨rfl, rfl⟩
theorem E110_196 : aCode 110 196 = (Instr.iadd, 197, [], 0) ∧ bMask 110 196 = [] := ⟨rfl, rfl⟩
theorem E110_197 : aCode 110 197 = (Instr.putfield 170, 200, [74, 7, 8, 0], 0) ∧ bMask 110 197 = [] := ⟨rfl, rfl⟩
theorem E110_200 : aCode 110 200 = (Instr.goto (-72), 128, [], 0) ∧ bMask 110 200 = [] := ⟨rfl, rfl⟩
theorem E110_203 : aCode 110 203 = (Instr.aload_n 0, 204, [], 0) ∧ bMask 110 203 = [] := ⟨rfl, rfl⟩
theorem E110_204 : aCode 110 204 = (Instr.iload_n 1, 205, [], 0) ∧ bMask 110 204 = [] := ⟨rfl, rfl⟩
theorem E110_205 : aCode 110 205 = (Instr.iconst 4, 206, [], 4) ∧ bMask 110 205 = [] := ⟨rfl, rfl⟩
theorem E110_206 : aCode 110 206 = (Instr.if_icmp .le 7, 209, [213], 0) ∧ bMask 110 206 = [] := ⟨rfl, rfl⟩
theorem E110_209 : aCode 110 209 = (Instr.iconst (-1), 210, [], (-1)) ∧ bMask 110 209 = [] := ⟨rfl, rfl⟩
theorem E110_210 : aCode 110 210 = (Instr.goto 4, 214, [], 0) ∧ bMask 110 210 = [] := ⟨rfl, rfl⟩
theorem E110_213 : aCode 110 213 = (Instr.iconst 1, 214, [], 1) ∧ bMask 110 213 = [] := ⟨rfl, rfl⟩
theorem E110_214 : aCode 110 214 = (Instr.putfield 176, 217, [78, 7, 10, 0], 0) ∧ bMask 110 214 = [] := ⟨rfl, rfl⟩
theorem E110_217 : aCode 110 217 = (Instr.return_, 218, [], 0) ∧ bMask 110 217 = [] := ⟨rfl, rfl⟩
theorem g_X7_next_0 {Q : bQ} {M : bM} {o1 : Option bV} (h : (((M 26 0 7) ≤ (M 26 0 8)) → (((¬ ((bU (bU (bU M 26 0 9 (M 26 0 8)) 26 0 10 (0 : Int32)) 26 0 11 (0 : Int32)) 26 0 8) = ((bU (bU (bU M 26 0 9 (M 26 0 8)) 26 0 10 (0 : Int32)) 26 0 11 (0 : Int32)) 26 0 7)) → ((vp_in ((bU (bU (bU M 26 0 9 (M 26 0 8)) 26 0 10 (0 : Int32)) 26 0 11 (0 : Int32)) 26 0 8) 80) ∧ (bCall 108 [cI ((bU (bU (bU M 26 0 9 (M 26 0 8)) 26 0 10 (0 : Int32)) 26 0 11 (0 : Int32)) 29 0 ((bU (bU (bU M 26 0 9 (M 26 0 8)) 26 0 10 (0 : Int32)) 26 0 11 (0 : Int32)) 26 0 8).toNatClampNeg)] (bU (bU (bU M 26 0 9 (M 26 0 8)) 26 0 10 (0 : Int32)) 26 0 11 (0 : Int32)) (fun v1 M2 => bV1 v1 fun r3 => (((¬ r3 = 0) → bGo 110 Q 128 [some (cR 26 0), some (cI (0 : Int32))] [] M2) ∧ (¬ (¬ r3 = 0) → ((vp_in (M2 26 0 8) 80) ∧ (bCall 109 [cI (M2 29 0 (M2 26 0 8).toNatClampNeg)] M2 (fun v4 M5 => bV1 v4 fun r6 => (((r6 = 0) → (Q none (bU (bU M5 26 0 10 (-1 : Int32)) 26 0 8 (((bU M5 26 0 10 (-1 : Int32)) 26 0 8) + (1 : Int32))))) ∧ (¬ (r6 = 0) → ((vp_in (M5 26 0 8) 80) ∧ (Q none (bU (bU M5 26 0 10 (M5 29 0 (M5 26 0 8).toNatClampNeg)) 26 0 8 (((bU M5 26 0 10 (M5 29 0 (M5 26 0 8).toNatClampNeg)) 26 0 8) + (1 : Int32)))))))))))))))) ∧ (¬ (¬ ((bU (bU (bU M 26 0 9 (M 26 0 8)) 26 0 10 (0 : Int32)) 26 0 11 (0 : Int32)) 26 0 8) = ((bU (bU (bU M 26 0 9 (M 26 0 8)) 26 0 10 (0 : Int32)) 26 0 11 (0 : Int32)) 26 0 7)) → (Q none (bU (bU (bU M 26 0 9 (M 26 0 8)) 26 0 10 (0 : Int32)) 26 0 11 (0 : Int32)))))) ∧ (¬ ((M 26 0 7) ≤ (M 26 0 8)) → ((vp_in (M 26 0 8) 80) ∧ (((¬ (M 29 0 (M 26 0 8).toNatClampNeg) = (32 : Int32)) → (((¬ ((bU (bU (bU M 26 0 9 (M 26 0 8)) 26 0 10 (0 : Int32)) 26 0 11 (0 : Int32)) 26 0 8) = ((bU (bU (bU M 26 0 9 (M 26 0 8)) 26 0 10 (0 : Int32)) 26 0 11 (0 : Int32)) 26 0 7)) → ((vp_in ((bU (bU (bU M 26 0 9 (M 26 0 8)) 26 0 10 (0 : Int32)) 26 0 11 (0 : Int32)) 26 0 8) 80) ∧ (bCall 108 [cI ((bU (bU (bU M 26 0 9 (M 26 0 8)) 26 0 10 (0 : Int32)) 26 0 11 (0 : Int32)) 29 0 ((bU (bU (bU M 26 0 9 (M 26 0 8)) 26 0 10 (0 : Int32)) 26 0 11 (0 : Int32)) 26 0 8).toNatClampNeg)] (bU (bU (bU M 26 0 9 (M 26 0 8)) 26 0 10 (0 : Int32)) 26 0 11 (0 : Int32)) (fun v7 M8 => bV1 v7 fun r9 => (((¬ r9 = 0) → bGo 110 Q 128 [some (cR 26 0), some (cI (0 : Int32))] [] M8) ∧ (¬ (¬ r9 = 0) → ((vp_in (M8 26 0 8) 80) ∧ (bCall 109 [cI (M8 29 0 (M8 26 0 8).toNatClampNeg)] M8 (fun v10 M11 => bV1 v10 fun r12 => (((r12 = 0) → (Q none (bU (bU M11 26 0 10 (-1 : Int32)) 26 0 8 (((bU M11 26 0 10 (-1 : Int32)) 26 0 8) + (1 : Int32))))) ∧ (¬ (r12 = 0) → ((vp_in (M11 26 0 8) 80) ∧ (Q none (bU (bU M11 26 0 10 (M11 29 0 (M11 26 0 8).toNatClampNeg)) 26 0 8 (((bU M11 26 0 10 (M11 29 0 (M11 26 0 8).toNatClampNeg)) 26 0 8) + (1 : Int32)))))))))))))))) ∧ (¬ (¬ ((bU (bU (bU M 26 0 9 (M 26 0 8)) 26 0 10 (0 : Int32)) 26 0 11 (0 : Int32)) 26 0 8) = ((bU (bU (bU M 26 0 9 (M 26 0 8)) 26 0 10 (0 : Int32)) 26 0 11 (0 : Int32)) 26 0 7)) → (Q none (bU (bU (bU M 26 0 9 (M 26 0 8)) 26 0 10 (0 : Int32)) 26 0 11 (0 : Int32)))))) ∧ (¬ (¬ (M 29 0 (M 26 0 8).toNatClampNeg) = (32 : Int32)) → bGo 110 Q 0 [some (cR 26 0), none] [] (bU M 26 0 8 ((M 26 0 8) + (1 : Int32)))))))) : bGo 110 Q 0 [some (cR 26 0), o1] [] M := s_aload_n E110_0 rfl rfl (s_getI0 E110_1.1 (k_ E110_1) rfl (s_aload_n E110_4.1 (k_ E110_4) rfl (s_getI0 E110_5.1 (k_ E110_5) rfl (s_icmp_ge E110_8.1 (k_ E110_8) ⟨fun c0 => s_aload_n E110_38.1 (k_ E110_38) rfl (s_aload_n E110_39.1 (k_ E110_39) rfl (s_getI0 E110_40.1 (k_ E110_40) rfl (s_putI E110_43.1 (k_ E110_43) rfl (s_aload_n E110_46.1 (k_ E110_46) rfl (s_iconst E110_47.1 (k_ E110_47) (s_putI E110_48.1 (k_ E110_48) rfl (s_aload_n E110_51.1 (k_ E110_51) rfl (s_iconst E110_52.1 (k_ E110_52) (s_putI E110_53.1 (k_ E110_53) rfl (s_aload_n E110_56.1 (k_ E110_56) rfl (s_getI0 E110_57.1 (k_ E110_57) rfl (s_aload_n E110_60.1 (k_ E110_60) rfl (s_getI0 E110_61.1 (k_ E110_61) rfl (s_icmp_ne E110_64.1 (k_ E110_64) ⟨fun c1 => s_aload_n E110_68.1 (k_ E110_68) rfl (s_getR E110_69.1 (k_ E110_69) rfl rfl (s_aload_n E110_72.1 (k_ E110_72) rfl (s_getI0 E110_73.1 (k_ E110_73) rfl (s_iaload E110_76.1 (k_ E110_76) rfl ⟨((h.1 c0).1 c1).1, s_scall1 E110_77.1 (k_ E110_77) rfl rfl rfl (((h.1 c0).1 c1).2) (fun M2 r3 z2 => s_if_ne E110_80.1 (k_ E110_80) ⟨fun c3 => s_iconst E110_126.1 (k_ E110_126) (s_istore_n E110_127.1 (k_ E110_127) (z2.1 c3)), fun c3 => s_aload_n E110_83.1 (k_ E110_83) rfl (s_aload_n E110_84.1 (k_ E110_84) rfl (s_getR E110_85.1 (k_ E110_85) rfl rfl (s_aload_n E110_88.1 (k_ E110_88) rfl (s_getI0 E110_89.1 (k_ E110_89) rfl (s_iaload E110_92.1 (k_ E110_92) rfl ⟨(z2.2 c3).1, s_scall1 E110_93.1 (k_ E110_93) rfl rfl rfl ((z2.2 c3).2) (fun M5 r6 z4 => s_if_eq E110_96.1 (k_ E110_96) ⟨fun c5 => s_iconst E110_111.1 (k_ E110_111) (s_putI E110_112.1 (k_ E110_112) rfl (s_aload_n E110_115.1 (k_ E110_115) rfl (s_dupR E110_116.1 (k_ E110_116) (s_getI0 E110_117.1 (k_ E110_117) rfl (s_iconst E110_120.1 (k_ E110_120) (s_iadd E110_121.1 (k_ E110_121) (s_putI E110_122.1 (k_ E110_122) rfl (s_ret E110_125.1 (k_ E110_125) (z4.1 c5))))))))), fun c5 => s_aload_n E110_99.1 (k_ E110_99) rfl (s_getR E110_100.1 (k_ E110_100) rfl rfl (s_aload_n E110_103.1 (k_ E110_103) rfl (s_getI0 E110_104.1 (k_ E110_104) rfl (s_iaload E110_107.1 (k_ E110_107) rfl ⟨(z4.2 c5).1, s_goto E110_108.1 (k_ E110_108) (s_putI E110_112.1 (k_ E110_112) rfl (s_aload_n E110_115.1 (k_ E110_115) rfl (s_dupR E110_116.1 (k_ E110_116) (s_getI0 E110_117.1 (k_ E110_117) rfl (s_iconst E110_120.1 (k_ E110_120) (s_iadd E110_121.1 (k_ E110_121) (s_putI E110_122.1 (k_ E110_122) rfl (s_ret E110_125.1 (k_ E110_125) ((z4.2 c5).2)))))))))⟩))))⟩)⟩)))))⟩)⟩)))), fun c1 => s_ret E110_67.1 (k_ E110_67) ((h.1 c0).2 c1)⟩)))))))))))))), fun c0 => s_aload_n E110_11.1 (k_ E110_11) rfl (s_getR E110_12.1 (k_ E110_12) rfl rfl (s_aload_n E110_15.1 (k_ E110_15) rfl (s_getI0 E110_16.1 (k_ E110_16) rfl (s_iaload E110_19.1 (k_ E110_19) rfl ⟨(h.2 c0).1, s_bipush E110_20.1 (k_ E110_20) (s_icmp_ne E110_22.1 (k_ E110_22) ⟨fun c6 => s_aload_n E110_38.1 (k_ E110_38) rfl (s_aload_n E110_39.1 (k_ E110_39) rfl (s_getI0 E110_40.1 (k_ E110_40) rfl (s_putI E110_43.1 (k_ E110_43) rfl (s_aload_n E110_46.1 (k_ E110_46) rfl (s_iconst E110_47.1 (k_ E110_47) (s_putI E110_48.1 (k_ E110_48) rfl (s_aload_n E110_51.1 (k_ E110_51) rfl (s_iconst E110_52.1 (k_ E110_52) (s_putI E110_53.1 (k_ E110_53) rfl (s_aload_n E110_56.1 (k_ E110_56) rfl (s_getI0 E110_57.1 (k_ E110_57) rfl (s_aload_n E110_60.1 (k_ E110_60) rfl (s_getI0 E110_61.1 (k_ E110_61) rfl (s_icmp_ne E110_64.1 (k_ E110_64) ⟨fun c7 => s_aload_n E110_68.1 (k_ E110_68) rfl (s_getR E110_69.1 (k_ E110_69) rfl rfl (s_aload_n E110_72.1 (k_ E110_72) rfl (s_getI0 E110_73.1 (k_ E110_73) rfl (s_iaload E110_76.1 (k_ E110_76) rfl ⟨((((h.2 c0).2).1 c6).1 c7).1, s_scall1 E110_77.1 (k_ E110_77) rfl rfl rfl (((((h.2 c0).2).1 c6).1 c7).2) (fun M8 r9 z8 => s_if_ne E110_80.1 (k_ E110_80) ⟨fun c9 => s_iconst E110_126.1 (k_ E110_126) (s_istore_n E110_127.1 (k_ E110_127) (z8.1 c9)), fun c9 => s_aload_n E110_83.1 (k_ E110_83) rfl (s_aload_n E110_84.1 (k_ E110_84) rfl (s_getR E110_85.1 (k_ E110_85) rfl rfl (s_aload_n E110_88.1 (k_ E110_88) rfl (s_getI0 E110_89.1 (k_ E110_89) rfl (s_iaload E110_92.1 (k_ E110_92) rfl ⟨(z8.2 c9).1, s_scall1 E110_93.1 (k_ E110_93) rfl rfl rfl ((z8.2 c9).2) (fun M11 r12 z10 => s_if_eq E110_96.1 (k_ E110_96) ⟨fun c11 => s_iconst E110_111.1 (k_ E110_111) (s_putI E110_112.1 (k_ E110_112) rfl (s_aload_n E110_115.1 (k_ E110_115) rfl (s_dupR E110_116.1 (k_ E110_116) (s_getI0 E110_117.1 (k_ E110_117) rfl (s_iconst E110_120.1 (k_ E110_120) (s_iadd E110_121.1 (k_ E110_121) (s_putI E110_122.1 (k_ E110_122) rfl (s_ret E110_125.1 (k_ E110_125) (z10.1 c11))))))))), fun c11 => s_aload_n E110_99.1 (k_ E110_99) rfl (s_getR E110_100.1 (k_ E110_100) rfl rfl (s_aload_n E110_103.1 (k_ E110_103) rfl (s_getI0 E110_104.1 (k_ E110_104) rfl (s_iaload E110_107.1 (k_ E110_107) rfl ⟨(z10.2 c11).1, s_goto E110_108.1 (k_ E110_108) (s_putI E110_112.1 (k_ E110_112) rfl (s_aload_n E110_115.1 (k_ E110_115) rfl (s_dupR E110_116.1 (k_ E110_116) (s_getI0 E110_117.1 (k_ E110_117) rfl (s_iconst E110_120.1 (k_ E110_120) (s_iadd E110_121.1 (k_ E110_121) (s_putI E110_122.1 (k_ E110_122) rfl (s_ret E110_125.1 (k_ E110_125) ((z10.2 c11).2)))))))))⟩))))⟩)⟩)))))⟩)⟩)))), fun c7 => s_ret E110_67.1 (k_ E110_67) ((((h.2 c0).2).1 c6).2 c7)⟩)))))))))))))), fun c6 => s_aload_n E110_25.1 (k_ E110_25) rfl (s_dupR E110_26.1 (k_ E110_26) (s_getI0 E110_27.1 (k_ E110_27) rfl (s_iconst E110_30.1 (k_ E110_30) (s_iadd E110_31.1 (k_ E110_31) (s_putI E110_32.1 (k_ E110_32) rfl (s_goto E110_35.1 (k_ E110_35) (((h.2 c0).2).2 c6)))))))⟩)⟩))))⟩))))
theorem g_X7_next_e {Q : bQ} {M : bM} {o1 : Option bV} (h : bGo 110 Q 0 [some (cR 26 0), none] [] M) : bCall 110 [cR 26 0] M Q := h
theorem g_X7_next_128 {Q : bQ} {M : bM} {x1 : Int32} (h : (((M 26 0 7) ≤ (M 26 0 8)) → (((x1 ≤ (4 : Int32)) → (Q none (bU M 26 0 10 (1 : Int32)))) ∧ (¬ (x1 ≤ (4 : Int32)) → (Q none (bU M 26 0 10 (-1 : Int32)))))) ∧ (¬ ((M 26 0 7) ≤ (M 26 0 8)) → ((vp_in (M 26 0 8) 80) ∧ (bCall 108 [cI (M 29 0 (M 26 0 8).toNatClampNeg)] M (fun v1 M2 => bV1 v1 fun r3 => (((r3 = 0) → (((x1 ≤ (4 : Int32)) → (Q none (bU M2 26 0 10 (1 : Int32)))) ∧ (¬ (x1 ≤ (4 : Int32)) → (Q none (bU M2 26 0 10 (-1 : Int32)))))) ∧ (¬ (r3 = 0) → ((((4 : Int32) ≤ x1) → bGo 110 Q 128 [some (cR 26 0), some (cI (x1 + (1 : Int32)))] [] (bU (bU M2 26 0 11 (0 : Int32)) 26 0 8 (((bU M2 26 0 11 (0 : Int32)) 26 0 8) + (1 : Int32)))) ∧ (¬ ((4 : Int32) ≤ x1) → ((vp_in (M2 26 0 8) 80) ∧ bGo 110 Q 128 [some (cR 26 0), some (cI (x1 + (1 : Int32)))] [] (bU (bU M2 26 0 11 ((((10 : Int32) * (M2 26 0 11)) + (M2 29 0 (M2 26 0 8).toNatClampNeg)) - (48 : Int32))) 26 0 8 (((bU M2 26 0 11 ((((10 : Int32) * (M2 26 0 11)) + (M2 29 0 (M2 26 0 8).toNatClampNeg)) - (48 : Int32))) 26 0 8) + (1 : Int32))))))))))))) : bGo 110 Q 128 [some (cR 26 0), some (cI x1)] [] M := s_aload_n E110_128.1 (k_ E110_128) rfl (s_getI0 E110_129.1 (k_ E110_129) rfl (s_aload_n E110_132.1 (k_ E110_132) rfl (s_getI0 E110_133.1 (k_ E110_133) rfl (s_icmp_ge E110_136.1 (k_ E110_136) ⟨fun c12 => s_aload_n E110_203.1 (k_ E110_203) rfl (s_iload_n E110_204.1 (k_ E110_204) rfl (s_iconst E110_205.1 (k_ E110_205) (s_icmp_le E110_206.1 (k_ E110_206) ⟨fun c13 => s_iconst E110_213.1 (k_ E110_213) (s_putI E110_214.1 (k_ E110_214) rfl (s_ret E110_217.1 (k_ E110_217) ((h.1 c12).1 c13))), fun c13 => s_iconst E110_209.1 (k_ E110_209) (s_goto E110_210.1 (k_ E110_210) (s_putI E110_214.1 (k_ E110_214) rfl (s_ret E110_217.1 (k_ E110_217) ((h.1 c12).2 c13))))⟩))), fun c12 => s_aload_n E110_139.1 (k_ E110_139) rfl (s_getR E110_140.1 (k_ E110_140) rfl rfl (s_aload_n E110_143.1 (k_ E110_143) rfl (s_getI0 E110_144.1 (k_ E110_144) rfl (s_iaload E110_147.1 (k_ E110_147) rfl ⟨(h.2 c12).1, s_scall1 E110_148.1 (k_ E110_148) rfl rfl rfl ((h.2 c12).2) (fun M2 r3 z14 => s_if_eq E110_151.1 (k_ E110_151) ⟨fun c15 => s_aload_n E110_203.1 (k_ E110_203) rfl (s_iload_n E110_204.1 (k_ E110_204) rfl (s_iconst E110_205.1 (k_ E110_205) (s_icmp_le E110_206.1 (k_ E110_206) ⟨fun c16 => s_iconst E110_213.1 (k_ E110_213) (s_putI E110_214.1 (k_ E110_214) rfl (s_ret E110_217.1 (k_ E110_217) ((z14.1 c15).1 c16))), fun c16 => s_iconst E110_209.1 (k_ E110_209) (s_goto E110_210.1 (k_ E110_210) (s_putI E110_214.1 (k_ E110_214) rfl (s_ret E110_217.1 (k_ E110_217) ((z14.1 c15).2 c16))))⟩))), fun c15 => s_aload_n E110_154.1 (k_ E110_154) rfl (s_iload_n E110_155.1 (k_ E110_155) rfl (s_iconst E110_156.1 (k_ E110_156) (s_icmp_ge E110_157.1 (k_ E110_157) ⟨fun c17 => s_iconst E110_183.1 (k_ E110_183) (s_putI E110_184.1 (k_ E110_184) rfl (s_iinc E110_187.1 (k_ E110_187) rfl (s_aload_n E110_190.1 (k_ E110_190) rfl (s_dupR E110_191.1 (k_ E110_191) (s_getI0 E110_192.1 (k_ E110_192) rfl (s_iconst E110_195.1 (k_ E110_195) (s_iadd E110_196.1 (k_ E110_196) (s_putI E110_197.1 (k_ E110_197) rfl (s_goto E110_200.1 (k_ E110_200) ((z14.2 c15).1 c17)))))))))), fun c17 => s_bipush E110_160.1 (k_ E110_160) (s_aload_n E110_162.1 (k_ E110_162) rfl (s_getI0 E110_163.1 (k_ E110_163) rfl (s_imul E110_166.1 (k_ E110_166) (s_aload_n E110_167.1 (k_ E110_167) rfl (s_getR E110_168.1 (k_ E110_168) rfl rfl (s_aload_n E110_171.1 (k_ E110_171) rfl (s_getI0 E110_172.1 (k_ E110_172) rfl (s_iaload E110_175.1 (k_ E110_175) rfl ⟨((z14.2 c15).2 c17).1, s_iadd E110_176.1 (k_ E110_176) (s_bipush E110_177.1 (k_ E110_177) (s_isub E110_179.1 (k_ E110_179) (s_goto E110_180.1 (k_ E110_180) (s_putI E110_184.1 (k_ E110_184) rfl (s_iinc E110_187.1 (k_ E110_187) rfl (s_aload_n E110_190.1 (k_ E110_190) rfl (s_dupR E110_191.1 (k_ E110_191) (s_getI0 E110_192.1 (k_ E110_192) rfl (s_iconst E110_195.1 (k_ E110_195) (s_iadd E110_196.1 (k_ E110_196) (s_putI E110_197.1 (k_ E110_197) rfl (s_goto E110_200.1 (k_ E110_200) (((z14.2 c15).2 c17).2)))))))))))))⟩))))))))⟩)))⟩)⟩))))⟩))))
-- 111: X7_setsTo
theorem E111_0 : aCode 111 0 = (Instr.iconst 0, 1, [], 0) ∧ bMask 111 0 = [] := ⟨rfl, rfl⟩
theorem E111_1 : aCode 111 1 = (Instr.istore_n 3, 2, [], 0) ∧ bMask 111 1 = [] := ⟨rfl, rfl⟩
theorem E111_2 : aCode 111 2 = (Instr.iload_n 3, 3, [], 0) ∧ bMask 111 2 = [] := ⟨rfl, rfl⟩
theorem E111_3 : aCode 111 3 = (Instr.bipush 32, 5, [], 32) ∧ bMask 111 3 = [] := ⟨rfl, rfl⟩
theorem E111_5 : aCode 111 5 = (Instr.if_icmp .ge 13, 8, [18], 0) ∧ bMask 111 5 = [] := ⟨rfl, rfl⟩
theorem E111_8 : aCode 111 8 = (Instr.aload_n 1, 9, [], 0) ∧ bMask 111 8 = [] := ⟨rfl, rfl⟩
theorem E111_9 : aCode 111 9 = (Instr.iload_n 3, 10, [], 0) ∧ bMask 111 9 = [] := ⟨rfl, rfl⟩
theorem E111_10 : aCode 111 10 = (Instr.iconst 0, 11, [], 0) ∧ bMask 111 10 = [] := ⟨rfl, rfl⟩
theorem E111_11 : aCode 111 11 = (Instr.iastore, 12, [0], 0) ∧ bMask 111 11 = [] := ⟨rfl, rfl⟩
theorem E111_12 : aCode 111 12 = (Instr.iinc 3 1, 15, [], 1) ∧ bMask 111 12 = [] := ⟨rfl, rfl⟩
theorem E111_15 : aCode 111 15 = (Instr.goto (-13), 2, [], 0) ∧ bMask 111 15 = [] := ⟨rfl, rfl⟩
theorem E111_18 : aCode 111 18 = (Instr.aload_n 1, 19, [], 0) ∧ bMask 111 18 = [] := ⟨rfl, rfl⟩
theorem E111_19 : aCode 111 19 = (Instr.iconst 0, 20, [], 0) ∧ bMask 111 19 = [] := ⟨rfl, rfl⟩
theorem E111_20 : aCode 111 20 = (Instr.iload_n 2, 21, [], 0) ∧ bMask 111 20 = [] := ⟨rfl, rfl⟩
theorem E111_21 : aCode 111 21 = (Instr.iastore, 22, [0], 0) ∧ bMask 111 21 = [] := ⟨rfl, rfl⟩
theorem E111_22 : aCode 111 22 = (Instr.return_, 23, [], 0) ∧ bMask 111 22 = [] := ⟨rfl, rfl⟩
theorem g_X7_setsTo_0 {Q : bQ} {M : bM} {j1 : Nat} {x2 : Int32} (h : bGo 111 Q 2 [some (cR 26 0), some (cR 27 j1), some (cI x2), some (cI (0 : Int32))] [] M) : bCall 111 [cR 26 0, cR 27 j1, cI x2] M Q := s_iconst E111_0.1 (k_ E111_0) (s_istore_n E111_1.1 (k_ E111_1) (h))
theorem g_X7_setsTo_2 {Q : bQ} {M : bM} {j1 : Nat} {x2 : Int32} {x3 : Int32} (h : (((32 : Int32) ≤ x3) → ((vp_in (0 : Int32) 32) ∧ (Q none (bU M 27 j1 (0 : Int32).toNatClampNeg x2)))) ∧ (¬ ((32 : Int32) ≤ x3) → ((vp_in x3 32) ∧ bGo 111 Q 2 [some (cR 26 0), some (cR 27 j1), some (cI x2), some (cI (x3 + (1 : Int32)))] [] (bU M 27 j1 x3.toNatClampNeg (0 : Int32))))) : bGo 111 Q 2 [some (cR 26 0), some (cR 27 j1), some (cI x2), some (cI x3)] [] M := s_iload_n E111_2.1 (k_ E111_2) rfl (s_bipush E111_3.1 (k_ E111_3) (s_icmp_ge E111_5.1 (k_ E111_5) ⟨fun c0 => s_aload_n E111_18.1 (k_ E111_18) rfl (s_iconst E111_19.1 (k_ E111_19) (s_iload_n E111_20.1 (k_ E111_20) rfl (s_iastore E111_21.1 (k_ E111_21) rfl ⟨(h.1 c0).1, s_ret E111_22.1 (k_ E111_22) ((h.1 c0).2)⟩))), fun c0 => s_aload_n E111_8.1 (k_ E111_8) rfl (s_iload_n E111_9.1 (k_ E111_9) rfl (s_iconst E111_10.1 (k_ E111_10) (s_iastore E111_11.1 (k_ E111_11) rfl ⟨(h.2 c0).1, s_iinc E111_12.1 (k_ E111_12) rfl (s_goto E111_15.1 (k_ E111_15) ((h.2 c0).2))⟩)))⟩))
-- 112: X7_beginsPart
theorem E112_0 : aCode 112 0 = (Instr.aload_n 0, 1, [], 0) ∧ bMask 112 0 = [] := ⟨rfl, rfl⟩
theorem E112_1 : aCode 112 1 = (Instr.getfield 176, 4, [78, 7, 10, 0], 0) ∧ bMask 112 1 = [] := ⟨rfl, rfl⟩
theorem E112_4 : aCode 112 4 = (Instr.bipush 40, 6, [], 40) ∧ bMask 112 4 = [] := ⟨rfl, rfl⟩
theorem E112_6 : aCode 112 6 = (Instr.if_icmp .ne 38, 9, [44], 0) ∧ bMask 112 6 = [] := ⟨rfl, rfl⟩
theorem E112_9 : aCode 112 9 = (Instr.aload_n 0, 10, [], 0) ∧ bMask 112 9 = [] := ⟨rfl, rfl⟩
theorem E112_10 : aCode 112 10 = (Instr.getfield 188, 13, [71, 7, 17, 0], 0) ∧ bMask 112 10 = [] := ⟨rfl, rfl⟩
theorem E112_13 : aCode 112 13 = (Instr.iconst 4, 14, [], 4) ∧ bMask 112 13 = [] := ⟨rfl, rfl⟩
theorem E112_14 : aCode 112 14 = (Instr.if_icmp .ne 5, 17, [19], 0) ∧ bMask 112 14 = [] := ⟨rfl, rfl⟩
theorem E112_17 : aCode 112 17 = (Instr.iconst 0, 18, [], 0) ∧ bMask 112 17 = [] := ⟨rfl, rfl⟩
theorem E112_18 : aCode 112 18 = (Instr.ireturn, 19, [1], 0) ∧ bMask 112 18 = [] := ⟨rfl, rfl⟩
theorem E112_19 : aCode 112 19 = (Instr.aload_n 0, 20, [], 0) ∧ bMask 112 19 = [] := ⟨rfl, rfl⟩
theorem E112_20 : aCode 112 20 = (Instr.dup, 21, [], 0) ∧ bMask 112 20 = [] := ⟨rfl, rfl⟩
theorem E112_21 : aCode 112 21 = (Instr.getfield 188, 24, [71, 7, 17, 0], 0) ∧ bMask 112 21 = [] := ⟨rfl, rfl⟩
theorem E112_24 : aCode 112 24 = (Instr.iconst 1, 25, [], 1) ∧ bMask 112 24 = [] := ⟨rfl, rfl⟩
theorem E112_25 : aCode 112 25 = (Instr.iadd, 26, [], 0) ∧ bMask 112 25 = [] := ⟨rfl, rfl⟩
theorem E112_26 : aCode 112 26 = (Instr.putfield 188, 29, [71, 7, 17, 0], 0) ∧ bMask 112 26 = [] := ⟨rfl, rfl⟩
theorem E112_29 : aCode 112 29 = (Instr.aload_n 0, 30, [], 0) ∧ bMask 112 29 = [] := ⟨rfl, rfl⟩
theorem E112_30 : aCode 112 30 = (Instr.invokevirtual 194, 33, [107, 1, 0, 7, 0, 93], 0) ∧ bMask 112 30 = [] := ⟨rfl, rfl⟩
theorem E112_33 : aCode 112 33 = (Instr.aload_n 0, 34, [], 0) ∧ bMask 112 33 = [] := ⟨rfl, rfl⟩
theorem E112_34 : aCode 112 34 = (Instr.iconst 2, 35, [], 2) ∧ bMask 112 34 = [] := ⟨rfl, rfl⟩
theorem E112_35 : aCode 112 35 = (Instr.putfield 197, 38, [80, 7, 20, 0], 0) ∧ bMask 112 35 = [] := ⟨rfl, rfl⟩
theorem E112_38 : aCode 112 38 = (Instr.aload_n 0, 39, [], 0) ∧ bMask 112 38 = [] := ⟨rfl, rfl⟩
theorem E112_39 : aCode 112 39 = (Instr.invokevirtual 200, 42, [110, 1, 0, 7, 0, 94], 0) ∧ bMask 112 39 = [] := ⟨rfl, rfl⟩
theorem E112_42 : aCode 112 42 = (Instr.iconst 1, 43, [], 1) ∧ bMask 112 42 = [] := ⟨rfl, rfl⟩
theorem E112_43 : aCode 112 43 = (Instr.ireturn, 44, [1], 0) ∧ bMask 112 43 = [] := ⟨rfl, rfl⟩
theorem E112_44 : aCode 112 44 = (Instr.aload_n 0, 45, [], 0) ∧ bMask 112 44 = [] := ⟨rfl, rfl⟩
theorem E112_45 : aCode 112 45 = (Instr.getfield 176, 48, [78, 7, 10, 0], 0) ∧ bMask 112 45 = [] := ⟨rfl, rfl⟩
theorem E112_48 : aCode 112 48 = (Instr.iconst 1, 49, [], 1) ∧ bMask 112 48 = [] := ⟨rfl, rfl⟩
theorem E112_49 : aCode 112 49 = (Instr.if_icmp .eq 14, 52, [63], 0) ∧ bMask 112 49 = [] := ⟨rfl, rfl⟩
theorem E112_52 : aCode 112 52 = (Instr.aload_n 0, 53, [], 0) ∧ bMask 112 52 = [] := ⟨rfl, rfl⟩
theorem E112_53 : aCode 112 53 = (Instr.getfield 176, 56, [78, 7, 10, 0], 0) ∧ bMask 112 53 = [] := ⟨rfl, rfl⟩
theorem E112_56 : aCode 112 56 = (Instr.bipush 120, 58, [], 120) ∧ bMask 112 56 = [] := ⟨rfl, rfl⟩
theorem E112_58 : aCode 112 58 = (Instr.if_icmp .eq 5, 61, [63], 0) ∧ bMask 112 58 = [] := ⟨rfl, rfl⟩
theorem E112_61 : aCode 112 61 = (Instr.iconst 0, 62, [], 0) ∧ bMask 112 61 = [] := ⟨rfl, rfl⟩
theorem E112_62 : aCode 112 62 = (Instr.ireturn, 63, [1], 0) ∧ bMask 112 62 = [] := ⟨rfl, rfl⟩
theorem E112_63 : aCode 112 63 = (Instr.aload_n 0, 64, [], 0) ∧ bMask 112 63 = [] := ⟨rfl, rfl⟩
theorem E112_64 : aCode 112 64 = (Instr.aload_n 0, 65, [], 0) ∧ bMask 112 64 = [] := ⟨rfl, rfl⟩
theorem E112_65 : aCode 112 65 = (Instr.getfield 45, 68, [81, 7, 19, 2], 0) ∧ bMask 112 65 = [] := ⟨rfl, rfl⟩
theorem E112_68 : aCode 112 68 = (Instr.aload_n 0, 69, [], 0) ∧ bMask 112 68 = [] := ⟨rfl, rfl⟩
theorem E112_69 : aCode 112 69 = (Instr.getfield 176, 72, [78, 7, 10, 0], 0) ∧ bMask 112 69 = [] := ⟨rfl, rfl⟩
theorem E112_72 : aCode 112 72 = (Instr.iconst 1, 73, [], 1) ∧ bMask 112 72 = [] := ⟨rfl, rfl⟩
theorem E112_73 : aCode 112 73 = (Instr.if_icmp .ne 15, 76, [88], 0) ∧ bMask 112 73 = [] := ⟨rfl, rfl⟩
theorem E112_76 : aCode 112 76 = (Instr.aload_n 0, 77, [], 0) ∧ bMask 112 76 = [] := ⟨rfl, rfl⟩
theorem E112_77 : aCode 112 77 = (Instr.getfield 179, 80, [79, 7, 11, 0], 0) ∧ bMask 112 77 = [] := ⟨rfl, rfl⟩
theorem E112_80 : aCode 112 80 = (Instr.aload_n 0, 81, [], 0) ∧ bMask 112 80 = [] := ⟨rfl, rfl⟩
theorem E112_81 : aCode 112 81 = (Instr.getfield 7, 84, [82, 7, 0, 0], 0) ∧ bMask 112 81 = [] := ⟨rfl, rfl⟩
theorem E112_84 : aCode 112 84 = (Instr.irem, 85, [], 0) ∧ bMask 112 84 = [] := ⟨rfl, rfl⟩
theorem E112_85 : aCode 112 85 = (Instr.goto 4, 89, [], 0) ∧ bMask 112 85 = [] := ⟨rfl, rfl⟩
theorem E112_88 : aCode 112 88 = (Instr.iconst 0, 89, [], 0) ∧ bMask 112 88 = [] := ⟨rfl, rfl⟩
theorem E112_89 : aCode 112 89 = (Instr.invokevirtual 157, 92, [111, 3, 0, 7, 0, 95], 0) ∧ bMask 112 89 = [] := ⟨rfl, rfl⟩
theorem E112_92 : aCode 112 92 = (Instr.aload_n 0, 93, [], 0) ∧ bMask 112 92 = [] := ⟨rfl, rfl⟩
theorem E112_93 : aCode 112 93 = (Instr.getfield 45, 96, [81, 7, 19, 2], 0) ∧ bMask 112 93 = [] := ⟨rfl, rfl⟩
theorem E112_96 : aCode 112 96 = (Instr.iconst 1, 97, [], 1) ∧ bMask 112 96 = [] := ⟨rfl, rfl⟩
theorem E112_97 : aCode 112 97 = (Instr.aload_n 0, 98, [], 0) ∧ bMask 112 97 = [] := ⟨rfl, rfl⟩
theorem E112_98 : aCode 112 98 = (Instr.getfield 176, 101, [78, 7, 10, 0], 0) ∧ bMask 112 98 = [] := ⟨rfl, rfl⟩
theorem E112_101 : aCode 112 101 = (Instr.bipush 120, 103, [], 120) ∧ bMask 112 101 = [] := ⟨rfl, rfl⟩
theorem E112_103 : aCode 112 103 = (Instr.if_icmp .ne 7, 106, [110], 0) ∧ bMask 112 103 = [] := ⟨rfl, rfl⟩
theorem E112_106 : aCode 112 106 = (Instr.iconst 1, 107, [], 1) ∧ bMask 112 106 = [] := ⟨rfl, rfl⟩
theorem E112_107 : aCode 112 107 = (Instr.goto 4, 111, [], 0) ∧ bMask 112 107 = [] := ⟨rfl, rfl⟩
theorem E112_110 : aCode 112 110 = (Instr.iconst 0, 111, [], 0) ∧ bMask 112 110 = [] := ⟨rfl, rfl⟩
theorem E112_111 : aCode 112 111 = (Instr.iastore, 112, [0], 0) ∧ bMask 112 111 = [] := ⟨rfl, rfl⟩
theorem E112_112 : aCode 112 112 = (Instr.aload_n 0, 113, [], 0) ∧ bMask 112 112 = [] := ⟨rfl, rfl⟩
theorem E112_113 : aCode 112 113 = (Instr.iconst 0, 114, [], 0) ∧ bMask 112 113 = [] := ⟨rfl, rfl⟩
theorem E112_114 : aCode 112 114 = (Instr.putfield 197, 117, [80, 7, 20, 0], 0) ∧ bMask 112 114 = [] := ⟨rfl, rfl⟩
theorem E112_117 : aCode 112 117 = (Instr.aload_n 0, 118, [], 0) ∧ bMask 112 117 = [] := ⟨rfl, rfl⟩
theorem E112_118 : aCode 112 118 = (Instr.iconst 1, 119, [], 1) ∧ bMask 112 118 = [] := ⟨rfl, rfl⟩
theorem E112_119 : aCode 112 119 = (Instr.putfield 203, 122, [83, 7, 21, 1], 0) ∧ bMask 112 119 = [] := ⟨rfl, rfl⟩
theorem E112_122 : aCode 112 122 = (Instr.aload_n 0, 123, [], 0) ∧ bMask 112 122 = [] := ⟨rfl, rfl⟩
theorem E112_123 : aCode 112 123 = (Instr.invokevirtual 200, 126, [110, 1, 0, 7, 0, 94], 0) ∧ bMask 112 123 = [] := ⟨rfl, rfl⟩
theorem E112_126 : aCode 112 126 = (Instr.iconst 1, 127, [], 1) ∧ bMask 112 126 = [] := ⟨rfl, rfl⟩
theorem E112_127 : aCode 112 127 = (Instr.ireturn, 128, [1], 0) ∧ bMask 112 127 = [] := ⟨rfl, rfl⟩
theorem g_X7_beginsPart_0 {Q : bQ} {M : bM}  (h : ((¬ (M 26 0 10) = (40 : Int32)) → ((((M 26 0 10) = (1 : Int32)) → (((¬ (M 26 0 10) = (1 : Int32)) → (bCall 111 [cR 26 0, cR 27 3, cI (0 : Int32)] M (fun v1 M2 => bV0 v1 (((¬ (M2 26 0 10) = (120 : Int32)) → ((vp_in (1 : Int32) 32) ∧ (((1 : Int32) = 0 ∨ (1 : Int32) = 1) ∧ (bCall 110 [cR 26 0] (bU (bU (bU M2 27 3 (1 : Int32).toNatClampNeg (0 : Int32)) 26 0 20 (0 : Int32)) 26 0 21 (1 : Int32)) (fun v3 M4 => bV0 v3 (((1 : Int32) = 0 ∨ (1 : Int32) = 1) ∧ Q (some (cI (1 : Int32))) M4)))))) ∧ (¬ (¬ (M2 26 0 10) = (120 : Int32)) → ((vp_in (1 : Int32) 32) ∧ (((1 : Int32) = 0 ∨ (1 : Int32) = 1) ∧ (bCall 110 [cR 26 0] (bU (bU (bU M2 27 3 (1 : Int32).toNatClampNeg (1 : Int32)) 26 0 20 (0 : Int32)) 26 0 21 (1 : Int32)) (fun v5 M6 => bV0 v5 (((1 : Int32) = 0 ∨ (1 : Int32) = 1) ∧ Q (some (cI (1 : Int32))) M6)))))))))) ∧ (¬ (¬ (M 26 0 10) = (1 : Int32)) → ((¬ (M 26 0 0) = 0) ∧ (bCall 111 [cR 26 0, cR 27 3, cI (aRem (M 26 0 11) (M 26 0 0))] M (fun v7 M8 => bV0 v7 (((¬ (M8 26 0 10) = (120 : Int32)) → ((vp_in (1 : Int32) 32) ∧ (((1 : Int32) = 0 ∨ (1 : Int32) = 1) ∧ (bCall 110 [cR 26 0] (bU (bU (bU M8 27 3 (1 : Int32).toNatClampNeg (0 : Int32)) 26 0 20 (0 : Int32)) 26 0 21 (1 : Int32)) (fun v9 M10 => bV0 v9 (((1 : Int32) = 0 ∨ (1 : Int32) = 1) ∧ Q (some (cI (1 : Int32))) M10)))))) ∧ (¬ (¬ (M8 26 0 10) = (120 : Int32)) → ((vp_in (1 : Int32) 32) ∧ (((1 : Int32) = 0 ∨ (1 : Int32) = 1) ∧ (bCall 110 [cR 26 0] (bU (bU (bU M8 27 3 (1 : Int32).toNatClampNeg (1 : Int32)) 26 0 20 (0 : Int32)) 26 0 21 (1 : Int32)) (fun v11 M12 => bV0 v11 (((1 : Int32) = 0 ∨ (1 : Int32) = 1) ∧ Q (some (cI (1 : Int32))) M12))))))))))))) ∧ (¬ ((M 26 0 10) = (1 : Int32)) → ((((M 26 0 10) = (120 : Int32)) → (((¬ (M 26 0 10) = (1 : Int32)) → (bCall 111 [cR 26 0, cR 27 3, cI (0 : Int32)] M (fun v13 M14 => bV0 v13 (((¬ (M14 26 0 10) = (120 : Int32)) → ((vp_in (1 : Int32) 32) ∧ (((1 : Int32) = 0 ∨ (1 : Int32) = 1) ∧ (bCall 110 [cR 26 0] (bU (bU (bU M14 27 3 (1 : Int32).toNatClampNeg (0 : Int32)) 26 0 20 (0 : Int32)) 26 0 21 (1 : Int32)) (fun v15 M16 => bV0 v15 (((1 : Int32) = 0 ∨ (1 : Int32) = 1) ∧ Q (some (cI (1 : Int32))) M16)))))) ∧ (¬ (¬ (M14 26 0 10) = (120 : Int32)) → ((vp_in (1 : Int32) 32) ∧ (((1 : Int32) = 0 ∨ (1 : Int32) = 1) ∧ (bCall 110 [cR 26 0] (bU (bU (bU M14 27 3 (1 : Int32).toNatClampNeg (1 : Int32)) 26 0 20 (0 : Int32)) 26 0 21 (1 : Int32)) (fun v17 M18 => bV0 v17 (((1 : Int32) = 0 ∨ (1 : Int32) = 1) ∧ Q (some (cI (1 : Int32))) M18)))))))))) ∧ (¬ (¬ (M 26 0 10) = (1 : Int32)) → ((¬ (M 26 0 0) = 0) ∧ (bCall 111 [cR 26 0, cR 27 3, cI (aRem (M 26 0 11) (M 26 0 0))] M (fun v19 M20 => bV0 v19 (((¬ (M20 26 0 10) = (120 : Int32)) → ((vp_in (1 : Int32) 32) ∧ (((1 : Int32) = 0 ∨ (1 : Int32) = 1) ∧ (bCall 110 [cR 26 0] (bU (bU (bU M20 27 3 (1 : Int32).toNatClampNeg (0 : Int32)) 26 0 20 (0 : Int32)) 26 0 21 (1 : Int32)) (fun v21 M22 => bV0 v21 (((1 : Int32) = 0 ∨ (1 : Int32) = 1) ∧ Q (some (cI (1 : Int32))) M22)))))) ∧ (¬ (¬ (M20 26 0 10) = (120 : Int32)) → ((vp_in (1 : Int32) 32) ∧ (((1 : Int32) = 0 ∨ (1 : Int32) = 1) ∧ (bCall 110 [cR 26 0] (bU (bU (bU M20 27 3 (1 : Int32).toNatClampNeg (1 : Int32)) 26 0 20 (0 : Int32)) 26 0 21 (1 : Int32)) (fun v23 M24 => bV0 v23 (((1 : Int32) = 0 ∨ (1 : Int32) = 1) ∧ Q (some (cI (1 : Int32))) M24))))))))))))) ∧ (¬ ((M 26 0 10) = (120 : Int32)) → (((0 : Int32) = 0 ∨ (0 : Int32) = 1) ∧ Q (some (cI (0 : Int32))) M)))))) ∧ (¬ (¬ (M 26 0 10) = (40 : Int32)) → (((¬ (M 26 0 17) = (4 : Int32)) → (bCall 107 [cR 26 0] (bU M 26 0 17 ((M 26 0 17) + (1 : Int32))) (fun v25 M26 => bV0 v25 (bCall 110 [cR 26 0] (bU M26 26 0 20 (2 : Int32)) (fun v27 M28 => bV0 v27 (((1 : Int32) = 0 ∨ (1 : Int32) = 1) ∧ Q (some (cI (1 : Int32))) M28)))))) ∧ (¬ (¬ (M 26 0 17) = (4 : Int32)) → (((0 : Int32) = 0 ∨ (0 : Int32) = 1) ∧ Q (some (cI (0 : Int32))) M))))) : bCall 112 [cR 26 0] M Q := s_aload_n E112_0.1 (k_ E112_0) rfl (s_getI0 E112_1.1 (k_ E112_1) rfl (s_bipush E112_4.1 (k_ E112_4) (s_icmp_ne E112_6.1 (k_ E112_6) ⟨fun c0 => s_aload_n E112_44.1 (k_ E112_44) rfl (s_getI0 E112_45.1 (k_ E112_45) rfl (s_iconst E112_48.1 (k_ E112_48) (s_icmp_eq E112_49.1 (k_ E112_49) ⟨fun c1 => s_aload_n E112_63.1 (k_ E112_63) rfl (s_aload_n E112_64.1 (k_ E112_64) rfl (s_getR E112_65.1 (k_ E112_65) rfl rfl (s_aload_n E112_68.1 (k_ E112_68) rfl (s_getI0 E112_69.1 (k_ E112_69) rfl (s_iconst E112_72.1 (k_ E112_72) (s_icmp_ne E112_73.1 (k_ E112_73) ⟨fun c2 => s_iconst E112_88.1 (k_ E112_88) (s_vcall0 E112_89.1 (k_ E112_89) rfl rfl rfl (((h.1 c0).1 c1).1 c2) (fun M2 z3 => s_aload_n E112_92.1 (k_ E112_92) rfl (s_getR E112_93.1 (k_ E112_93) rfl rfl (s_iconst E112_96.1 (k_ E112_96) (s_aload_n E112_97.1 (k_ E112_97) rfl (s_getI0 E112_98.1 (k_ E112_98) rfl (s_bipush E112_101.1 (k_ E112_101) (s_icmp_ne E112_103.1 (k_ E112_103) ⟨fun c4 => s_iconst E112_110.1 (k_ E112_110) (s_iastore E112_111.1 (k_ E112_111) rfl ⟨(z3.1 c4).1, s_aload_n E112_112.1 (k_ E112_112) rfl (s_iconst E112_113.1 (k_ E112_113) (s_putI E112_114.1 (k_ E112_114) rfl (s_aload_n E112_117.1 (k_ E112_117) rfl (s_iconst E112_118.1 (k_ E112_118) (s_putZ E112_119.1 (k_ E112_119) rfl ⟨((z3.1 c4).2).1, s_aload_n E112_122.1 (k_ E112_122) rfl (s_vcall0 E112_123.1 (k_ E112_123) rfl rfl rfl (((z3.1 c4).2).2) (fun M4 z5 => s_iconst E112_126.1 (k_ E112_126) (s_zret E112_127.1 (k_ E112_127) z5)))⟩)))))⟩), fun c4 => s_iconst E112_106.1 (k_ E112_106) (s_goto E112_107.1 (k_ E112_107) (s_iastore E112_111.1 (k_ E112_111) rfl ⟨(z3.2 c4).1, s_aload_n E112_112.1 (k_ E112_112) rfl (s_iconst E112_113.1 (k_ E112_113) (s_putI E112_114.1 (k_ E112_114) rfl (s_aload_n E112_117.1 (k_ E112_117) rfl (s_iconst E112_118.1 (k_ E112_118) (s_putZ E112_119.1 (k_ E112_119) rfl ⟨((z3.2 c4).2).1, s_aload_n E112_122.1 (k_ E112_122) rfl (s_vcall0 E112_123.1 (k_ E112_123) rfl rfl rfl (((z3.2 c4).2).2) (fun M6 z6 => s_iconst E112_126.1 (k_ E112_126) (s_zret E112_127.1 (k_ E112_127) z6)))⟩)))))⟩))⟩)))))))), fun c2 => s_aload_n E112_76.1 (k_ E112_76) rfl (s_getI0 E112_77.1 (k_ E112_77) rfl (s_aload_n E112_80.1 (k_ E112_80) rfl (s_getI0 E112_81.1 (k_ E112_81) rfl (s_irem E112_84.1 (k_ E112_84) ⟨(((h.1 c0).1 c1).2 c2).1, s_goto E112_85.1 (k_ E112_85) (s_vcall0 E112_89.1 (k_ E112_89) rfl rfl rfl ((((h.1 c0).1 c1).2 c2).2) (fun M8 z7 => s_aload_n E112_92.1 (k_ E112_92) rfl (s_getR E112_93.1 (k_ E112_93) rfl rfl (s_iconst E112_96.1 (k_ E112_96) (s_aload_n E112_97.1 (k_ E112_97) rfl (s_getI0 E112_98.1 (k_ E112_98) rfl (s_bipush E112_101.1 (k_ E112_101) (s_icmp_ne E112_103.1 (k_ E112_103) ⟨fun c8 => s_iconst E112_110.1 (k_ E112_110) (s_iastore E112_111.1 (k_ E112_111) rfl ⟨(z7.1 c8).1, s_aload_n E112_112.1 (k_ E112_112) rfl (s_iconst E112_113.1 (k_ E112_113) (s_putI E112_114.1 (k_ E112_114) rfl (s_aload_n E112_117.1 (k_ E112_117) rfl (s_iconst E112_118.1 (k_ E112_118) (s_putZ E112_119.1 (k_ E112_119) rfl ⟨((z7.1 c8).2).1, s_aload_n E112_122.1 (k_ E112_122) rfl (s_vcall0 E112_123.1 (k_ E112_123) rfl rfl rfl (((z7.1 c8).2).2) (fun M10 z9 => s_iconst E112_126.1 (k_ E112_126) (s_zret E112_127.1 (k_ E112_127) z9)))⟩)))))⟩), fun c8 => s_iconst E112_106.1 (k_ E112_106) (s_goto E112_107.1 (k_ E112_107) (s_iastore E112_111.1 (k_ E112_111) rfl ⟨(z7.2 c8).1, s_aload_n E112_112.1 (k_ E112_112) rfl (s_iconst E112_113.1 (k_ E112_113) (s_putI E112_114.1 (k_ E112_114) rfl (s_aload_n E112_117.1 (k_ E112_117) rfl (s_iconst E112_118.1 (k_ E112_118) (s_putZ E112_119.1 (k_ E112_119) rfl ⟨((z7.2 c8).2).1, s_aload_n E112_122.1 (k_ E112_122) rfl (s_vcall0 E112_123.1 (k_ E112_123) rfl rfl rfl (((z7.2 c8).2).2) (fun M12 z10 => s_iconst E112_126.1 (k_ E112_126) (s_zret E112_127.1 (k_ E112_127) z10)))⟩)))))⟩))⟩))))))))⟩))))⟩)))))), fun c1 => s_aload_n E112_52.1 (k_ E112_52) rfl (s_getI0 E112_53.1 (k_ E112_53) rfl (s_bipush E112_56.1 (k_ E112_56) (s_icmp_eq E112_58.1 (k_ E112_58) ⟨fun c11 => s_aload_n E112_63.1 (k_ E112_63) rfl (s_aload_n E112_64.1 (k_ E112_64) rfl (s_getR E112_65.1 (k_ E112_65) rfl rfl (s_aload_n E112_68.1 (k_ E112_68) rfl (s_getI0 E112_69.1 (k_ E112_69) rfl (s_iconst E112_72.1 (k_ E112_72) (s_icmp_ne E112_73.1 (k_ E112_73) ⟨fun c12 => s_iconst E112_88.1 (k_ E112_88) (s_vcall0 E112_89.1 (k_ E112_89) rfl rfl rfl ((((h.1 c0).2 c1).1 c11).1 c12) (fun M14 z13 => s_aload_n E112_92.1 (k_ E112_92) rfl (s_getR E112_93.1 (k_ E112_93) rfl rfl (s_iconst E112_96.1 (k_ E112_96) (s_aload_n E112_97.1 (k_ E112_97) rfl (s_getI0 E112_98.1 (k_ E112_98) rfl (s_bipush E112_101.1 (k_ E112_101) (s_icmp_ne E112_103.1 (k_ E112_103) ⟨fun c14 => s_iconst E112_110.1 (k_ E112_110) (s_iastore E112_111.1 (k_ E112_111) rfl ⟨(z13.1 c14).1, s_aload_n E112_112.1 (k_ E112_112) rfl (s_iconst E112_113.1 (k_ E112_113) (s_putI E112_114.1 (k_ E112_114) rfl (s_aload_n E112_117.1 (k_ E112_117) rfl (s_iconst E112_118.1 (k_ E112_118) (s_putZ E112_119.1 (k_ E112_119) rfl ⟨((z13.1 c14).2).1, s_aload_n E112_122.1 (k_ E112_122) rfl (s_vcall0 E112_123.1 (k_ E112_123) rfl rfl rfl (((z13.1 c14).2).2) (fun M16 z15 => s_iconst E112_126.1 (k_ E112_126) (s_zret E112_127.1 (k_ E112_127) z15)))⟩)))))⟩), fun c14 => s_iconst E112_106.1 (k_ E112_106) (s_goto E112_107.1 (k_ E112_107) (s_iastore E112_111.1 (k_ E112_111) rfl ⟨(z13.2 c14).1, s_aload_n E112_112.1 (k_ E112_112) rfl (s_iconst E112_113.1 (k_ E112_113) (s_putI E112_114.1 (k_ E112_114) rfl (s_aload_n E112_117.1 (k_ E112_117) rfl (s_iconst E112_118.1 (k_ E112_118) (s_putZ E112_119.1 (k_ E112_119) rfl ⟨((z13.2 c14).2).1, s_aload_n E112_122.1 (k_ E112_122) rfl (s_vcall0 E112_123.1 (k_ E112_123) rfl rfl rfl (((z13.2 c14).2).2) (fun M18 z16 => s_iconst E112_126.1 (k_ E112_126) (s_zret E112_127.1 (k_ E112_127) z16)))⟩)))))⟩))⟩)))))))), fun c12 => s_aload_n E112_76.1 (k_ E112_76) rfl (s_getI0 E112_77.1 (k_ E112_77) rfl (s_aload_n E112_80.1 (k_ E112_80) rfl (s_getI0 E112_81.1 (k_ E112_81) rfl (s_irem E112_84.1 (k_ E112_84) ⟨((((h.1 c0).2 c1).1 c11).2 c12).1, s_goto E112_85.1 (k_ E112_85) (s_vcall0 E112_89.1 (k_ E112_89) rfl rfl rfl (((((h.1 c0).2 c1).1 c11).2 c12).2) (fun M20 z17 => s_aload_n E112_92.1 (k_ E112_92) rfl (s_getR E112_93.1 (k_ E112_93) rfl rfl (s_iconst E112_96.1 (k_ E112_96) (s_aload_n E112_97.1 (k_ E112_97) rfl (s_getI0 E112_98.1 (k_ E112_98) rfl (s_bipush E112_101.1 (k_ E112_101) (s_icmp_ne E112_103.1 (k_ E112_103) ⟨fun c18 => s_iconst E112_110.1 (k_ E112_110) (s_iastore E112_111.1 (k_ E112_111) rfl ⟨(z17.1 c18).1, s_aload_n E112_112.1 (k_ E112_112) rfl (s_iconst E112_113.1 (k_ E112_113) (s_putI E112_114.1 (k_ E112_114) rfl (s_aload_n E112_117.1 (k_ E112_117) rfl (s_iconst E112_118.1 (k_ E112_118) (s_putZ E112_119.1 (k_ E112_119) rfl ⟨((z17.1 c18).2).1, s_aload_n E112_122.1 (k_ E112_122) rfl (s_vcall0 E112_123.1 (k_ E112_123) rfl rfl rfl (((z17.1 c18).2).2) (fun M22 z19 => s_iconst E112_126.1 (k_ E112_126) (s_zret E112_127.1 (k_ E112_127) z19)))⟩)))))⟩), fun c18 => s_iconst E112_106.1 (k_ E112_106) (s_goto E112_107.1 (k_ E112_107) (s_iastore E112_111.1 (k_ E112_111) rfl ⟨(z17.2 c18).1, s_aload_n E112_112.1 (k_ E112_112) rfl (s_iconst E112_113.1 (k_ E112_113) (s_putI E112_114.1 (k_ E112_114) rfl (s_aload_n E112_117.1 (k_ E112_117) rfl (s_iconst E112_118.1 (k_ E112_118) (s_putZ E112_119.1 (k_ E112_119) rfl ⟨((z17.2 c18).2).1, s_aload_n E112_122.1 (k_ E112_122) rfl (s_vcall0 E112_123.1 (k_ E112_123) rfl rfl rfl (((z17.2 c18).2).2) (fun M24 z20 => s_iconst E112_126.1 (k_ E112_126) (s_zret E112_127.1 (k_ E112_127) z20)))⟩)))))⟩))⟩))))))))⟩))))⟩)))))), fun c11 => s_iconst E112_61.1 (k_ E112_61) (s_zret E112_62.1 (k_ E112_62) (((h.1 c0).2 c1).2 c11))⟩)))⟩))), fun c0 => s_aload_n E112_9.1 (k_ E112_9) rfl (s_getI0 E112_10.1 (k_ E112_10) rfl (s_iconst E112_13.1 (k_ E112_13) (s_icmp_ne E112_14.1 (k_ E112_14) ⟨fun c21 => s_aload_n E112_19.1 (k_ E112_19) rfl (s_dupR E112_20.1 (k_ E112_20) (s_getI0 E112_21.1 (k_ E112_21) rfl (s_iconst E112_24.1 (k_ E112_24) (s_iadd E112_25.1 (k_ E112_25) (s_putI E112_26.1 (k_ E112_26) rfl (s_aload_n E112_29.1 (k_ E112_29) rfl (s_vcall0 E112_30.1 (k_ E112_30) rfl rfl rfl ((h.2 c0).1 c21) (fun M26 z22 => s_aload_n E112_33.1 (k_ E112_33) rfl (s_iconst E112_34.1 (k_ E112_34) (s_putI E112_35.1 (k_ E112_35) rfl (s_aload_n E112_38.1 (k_ E112_38) rfl (s_vcall0 E112_39.1 (k_ E112_39) rfl rfl rfl z22 (fun M28 z23 => s_iconst E112_42.1 (k_ E112_42) (s_zret E112_43.1 (k_ E112_43) z23)))))))))))))), fun c21 => s_iconst E112_17.1 (k_ E112_17) (s_zret E112_18.1 (k_ E112_18) ((h.2 c0).2 c21))⟩)))⟩)))
-- 113: X7_placeOf
theorem E113_0 : aCode 113 0 = (Instr.iconst 0, 1, [], 0) ∧ bMask 113 0 = [] := ⟨rfl, rfl⟩
theorem E113_1 : aCode 113 1 = (Instr.istore_n 2, 2, [], 0) ∧ bMask 113 1 = [] := ⟨rfl, rfl⟩
theorem E113_2 : aCode 113 2 = (Instr.iload_n 2, 3, [], 0) ∧ bMask 113 2 = [] := ⟨rfl, rfl⟩
theorem E113_3 : aCode 113 3 = (Instr.aload_n 0, 4, [], 0) ∧ bMask 113 3 = [] := ⟨rfl, rfl⟩
theorem E113_4 : aCode 113 4 = (Instr.getfield 272, 7, [84, 7, 38, 0], 0) ∧ bMask 113 4 = [] := ⟨rfl, rfl⟩
theorem E113_7 : aCode 113 7 = (Instr.if_icmp .ge 19, 10, [26], 0) ∧ bMask 113 7 = [] := ⟨rfl, rfl⟩
theorem E113_10 : aCode 113 10 = (Instr.aload_n 0, 11, [], 0) ∧ bMask 113 10 = [] := ⟨rfl, rfl⟩
theorem E113_11 : aCode 113 11 = (Instr.getfield 84, 14, [85, 7, 40, 2], 0) ∧ bMask 113 11 = [] := ⟨rfl, rfl⟩
theorem E113_14 : aCode 113 14 = (Instr.iload_n 2, 15, [], 0) ∧ bMask 113 14 = [] := ⟨rfl, rfl⟩
theorem E113_15 : aCode 113 15 = (Instr.iaload, 16, [0], 0) ∧ bMask 113 15 = [] := ⟨rfl, rfl⟩
theorem E113_16 : aCode 113 16 = (Instr.iload_n 1, 17, [], 0) ∧ bMask 113 16 = [] := ⟨rfl, rfl⟩
theorem E113_17 : aCode 113 17 = (Instr.if_icmp .eq 9, 20, [26], 0) ∧ bMask 113 17 = [] := ⟨rfl, rfl⟩
theorem E113_20 : aCode 113 20 = (Instr.iinc 2 1, 23, [], 1) ∧ bMask 113 20 = [] := ⟨rfl, rfl⟩
theorem E113_23 : aCode 113 23 = (Instr.goto (-21), 2, [], 0) ∧ bMask 113 23 = [] := ⟨rfl, rfl⟩
theorem E113_26 : aCode 113 26 = (Instr.iload_n 2, 27, [], 0) ∧ bMask 113 26 = [] := ⟨rfl, rfl⟩
theorem E113_27 : aCode 113 27 = (Instr.aload_n 0, 28, [], 0) ∧ bMask 113 27 = [] := ⟨rfl, rfl⟩
theorem E113_28 : aCode 113 28 = (Instr.getfield 272, 31, [84, 7, 38, 0], 0) ∧ bMask 113 28 = [] := ⟨rfl, rfl⟩
theorem E113_31 : aCode 113 31 = (Instr.if_icmp .ge 7, 34, [38], 0) ∧ bMask 113 31 = [] := ⟨rfl, rfl⟩
theorem E113_34 : aCode 113 34 = (Instr.iload_n 2, 35, [], 0) ∧ bMask 113 34 = [] := ⟨rfl, rfl⟩
theorem E113_35 : aCode 113 35 = (Instr.goto 4, 39, [], 0) ∧ bMask 113 35 = [] := ⟨rfl, rfl⟩
theorem E113_38 : aCode 113 38 = (Instr.iconst (-1), 39, [], (-1)) ∧ bMask 113 38 = [] := ⟨rfl, rfl⟩
theorem E113_39 : aCode 113 39 = (Instr.ireturn, 40, [0], 0) ∧ bMask 113 39 = [] := ⟨rfl, rfl⟩
theorem g_X7_placeOf_0 {Q : bQ} {M : bM} {x1 : Int32} (h : bGo 113 Q 2 [some (cR 26 0), some (cI x1), some (cI (0 : Int32))] [] M) : bCall 113 [cR 26 0, cI x1] M Q := s_iconst E113_0.1 (k_ E113_0) (s_istore_n E113_1.1 (k_ E113_1) (h))
theorem g_X7_placeOf_2 {Q : bQ} {M : bM} {x1 : Int32} {x2 : Int32} (h : (((M 26 0 38) ≤ x2) → ((((M 26 0 38) ≤ x2) → (Q (some (cI (-1 : Int32))) M)) ∧ (¬ ((M 26 0 38) ≤ x2) → (Q (some (cI x2)) M)))) ∧ (¬ ((M 26 0 38) ≤ x2) → ((vp_in x2 8) ∧ ((((M 46 0 x2.toNatClampNeg) = x1) → ((((M 26 0 38) ≤ x2) → (Q (some (cI (-1 : Int32))) M)) ∧ (¬ ((M 26 0 38) ≤ x2) → (Q (some (cI x2)) M)))) ∧ (¬ ((M 46 0 x2.toNatClampNeg) = x1) → bGo 113 Q 2 [some (cR 26 0), some (cI x1), some (cI (x2 + (1 : Int32)))] [] M))))) : bGo 113 Q 2 [some (cR 26 0), some (cI x1), some (cI x2)] [] M := s_iload_n E113_2.1 (k_ E113_2) rfl (s_aload_n E113_3.1 (k_ E113_3) rfl (s_getI0 E113_4.1 (k_ E113_4) rfl (s_icmp_ge E113_7.1 (k_ E113_7) ⟨fun c0 => s_iload_n E113_26.1 (k_ E113_26) rfl (s_aload_n E113_27.1 (k_ E113_27) rfl (s_getI0 E113_28.1 (k_ E113_28) rfl (s_icmp_ge E113_31.1 (k_ E113_31) ⟨fun c1 => s_iconst E113_38.1 (k_ E113_38) (s_iret E113_39.1 (k_ E113_39) ((h.1 c0).1 c1)), fun c1 => s_iload_n E113_34.1 (k_ E113_34) rfl (s_goto E113_35.1 (k_ E113_35) (s_iret E113_39.1 (k_ E113_39) ((h.1 c0).2 c1)))⟩))), fun c0 => s_aload_n E113_10.1 (k_ E113_10) rfl (s_getR E113_11.1 (k_ E113_11) rfl rfl (s_iload_n E113_14.1 (k_ E113_14) rfl (s_iaload E113_15.1 (k_ E113_15) rfl ⟨(h.2 c0).1, s_iload_n E113_16.1 (k_ E113_16) rfl (s_icmp_eq E113_17.1 (k_ E113_17) ⟨fun c2 => s_iload_n E113_26.1 (k_ E113_26) rfl (s_aload_n E113_27.1 (k_ E113_27) rfl (s_getI0 E113_28.1 (k_ E113_28) rfl (s_icmp_ge E113_31.1 (k_ E113_31) ⟨fun c3 => s_iconst E113_38.1 (k_ E113_38) (s_iret E113_39.1 (k_ E113_39) ((((h.2 c0).2).1 c2).1 c3)), fun c3 => s_iload_n E113_34.1 (k_ E113_34) rfl (s_goto E113_35.1 (k_ E113_35) (s_iret E113_39.1 (k_ E113_39) ((((h.2 c0).2).1 c2).2 c3)))⟩))), fun c2 => s_iinc E113_20.1 (k_ E113_20) rfl (s_goto E113_23.1 (k_ E113_23) (((h.2 c0).2).2 c2))⟩)⟩)))⟩)))
-- 114: X7_certificate
theorem E114_0 : aCode 114 0 = (Instr.iload_n 2, 1, [], 0) ∧ bMask 114 0 = [] := ⟨rfl, rfl⟩
theorem E114_1 : aCode 114 1 = (Instr.iconst 0, 2, [], 0) ∧ bMask 114 1 = [] := ⟨rfl, rfl⟩
theorem E114_2 : aCode 114 2 = (Instr.iconst 5, 3, [], 5) ∧ bMask 114 2 = [] := ⟨rfl, rfl⟩
theorem E114_3 : aCode 114 3 = (Instr.invokestatic 126, 6, [104, 3, 1, 0, 0, 89], 0) ∧ bMask 114 3 = [] := ⟨rfl, rfl⟩
theorem E114_6 : aCode 114 6 = (Instr.ifCond .ne 5, 9, [11], 0) ∧ bMask 114 6 = [] := ⟨rfl, rfl⟩
theorem E114_9 : aCode 114 9 = (Instr.iconst (-1), 10, [], (-1)) ∧ bMask 114 9 = [] := ⟨rfl, rfl⟩
theorem E114_10 : aCode 114 10 = (Instr.ireturn, 11, [0], 0) ∧ bMask 114 10 = [] := ⟨rfl, rfl⟩
theorem E114_11 : aCode 114 11 = (Instr.aload_n 0, 12, [], 0) ∧ bMask 114 11 = [] := ⟨rfl, rfl⟩
theorem E114_12 : aCode 114 12 = (Instr.iload_n 1, 13, [], 0) ∧ bMask 114 12 = [] := ⟨rfl, rfl⟩
theorem E114_13 : aCode 114 13 = (Instr.invokevirtual 282, 16, [113, 2, 1, 7, 0, 96], 0) ∧ bMask 114 13 = [] := ⟨rfl, rfl⟩
theorem E114_16 : aCode 114 16 = (Instr.istore_n 3, 17, [], 0) ∧ bMask 114 16 = [] := ⟨rfl, rfl⟩
theorem E114_17 : aCode 114 17 = (Instr.iload_n 3, 18, [], 0) ∧ bMask 114 17 = [] := ⟨rfl, rfl⟩
theorem E114_18 : aCode 114 18 = (Instr.ifCond .ge 6, 21, [24], 0) ∧ bMask 114 18 = [] := ⟨rfl, rfl⟩
theorem E114_21 : aCode 114 21 = (Instr.bipush (-3), 23, [], (-3)) ∧ bMask 114 21 = [] := ⟨rfl, rfl⟩
theorem E114_23 : aCode 114 23 = (Instr.ireturn, 24, [0], 0) ∧ bMask 114 23 = [] := ⟨rfl, rfl⟩
theorem E114_24 : aCode 114 24 = (Instr.iload_n 2, 25, [], 0) ∧ bMask 114 24 = [] := ⟨rfl, rfl⟩
theorem E114_25 : aCode 114 25 = (Instr.tableswitch 70 0 4 #[35, 42, 49, 56, 63], 60, [95, 60, 67, 74, 81, 88], 0) ∧ bMask 114 25 = [] := ⟨rfl, rfl⟩
theorem E114_60 : aCode 114 60 = (Instr.aload_n 0, 61, [], 0) ∧ bMask 114 60 = [] := ⟨rfl, rfl⟩
theorem E114_61 : aCode 114 61 = (Instr.getfield 87, 64, [86, 7, 41, 2], 0) ∧ bMask 114 61 = [] := ⟨rfl, rfl⟩
theorem E114_64 : aCode 114 64 = (Instr.iload_n 3, 65, [], 0) ∧ bMask 114 64 = [] := ⟨rfl, rfl⟩
theorem E114_65 : aCode 114 65 = (Instr.iaload, 66, [0], 0) ∧ bMask 114 65 = [] := ⟨rfl, rfl⟩
theorem E114_66 : aCode 114 66 = (Instr.ireturn, 67, [0], 0) ∧ bMask 114 66 = [] := ⟨rfl, rfl⟩
theorem E114_67 : aCode 114 67 = (Instr.aload_n 0, 68, [], 0) ∧ bMask 114 67 = [] := ⟨rfl, rfl⟩
theorem E114_68 : aCode 114 68 = (Instr.getfield 90, 71, [87, 7, 42, 2], 0) ∧ bMask 114 68 = [] := ⟨rfl, rfl⟩
theorem E114_71 : aCode 114 71 = (Instr.iload_n 3, 72, [], 0) ∧ bMask 114 71 = [] := ⟨rfl, rfl⟩
theorem E114_72 : aCode 114 72 = (Instr.iaload, 73, [0], 0) ∧ bMask 114 72 = [] := ⟨rfl, rfl⟩
theorem E114_73 : aCode 114 73 = (Instr.ireturn, 74, [0], 0) ∧ bMask 114 73 = [] := ⟨rfl, rfl⟩
theorem E114_74 : aCode 114 74 = (Instr.aload_n 0, 75, [], 0) ∧ bMask 114 74 = [] := ⟨rfl, rfl⟩
theorem E114_75 : aCode 114 75 = (Instr.getfield 93, 78, [88, 7, 43, 2], 0) ∧ bMask 114 75 = [] := ⟨rfl, rfl⟩
theorem E114_78 : aCode 114 78 = (Instr.iload_n 3, 79, [], 0) ∧ bMask 114 78 = [] := ⟨rfl, rfl⟩
theorem E114_79 : aCode 114 79 = (Instr.iaload, 80, [0], 0) ∧ bMask 114 79 = [] := ⟨rfl, rfl⟩
theorem E114_80 : aCode 114 80 = (Instr.ireturn, 81, [0], 0) ∧ bMask 114 80 = [] := ⟨rfl, rfl⟩
theorem E114_81 : aCode 114 81 = (Instr.aload_n 0, 82, [], 0) ∧ bMask 114 81 = [] := ⟨rfl, rfl⟩
theorem E114_82 : aCode 114 82 = (Instr.getfield 96, 85, [89, 7, 44, 2], 0) ∧ bMask 114 82 = [] := ⟨rfl, rfl⟩
theorem E114_85 : aCode 114 85 = (Instr.iload_n 3, 86, [], 0) ∧ bMask 114 85 = [] := ⟨rfl, rfl⟩
theorem E114_86 : aCode 114 86 = (Instr.iaload, 87, [0], 0) ∧ bMask 114 86 = [] := ⟨rfl, rfl⟩
theorem E114_87 : aCode 114 87 = (Instr.ireturn, 88, [0], 0) ∧ bMask 114 87 = [] := ⟨rfl, rfl⟩
theorem E114_88 : aCode 114 88 = (Instr.aload_n 0, 89, [], 0) ∧ bMask 114 88 = [] := ⟨rfl, rfl⟩
theorem E114_89 : aCode 114 89 = (Instr.getfield 99, 92, [90, 7, 45, 2], 0) ∧ bMask 114 89 = [] := ⟨rfl, rfl⟩
theorem E114_92 : aCode 114 92 = (Instr.iload_n 3, 93, [], 0) ∧ bMask 114 92 = [] := ⟨rfl, rfl⟩
theorem E114_93 : aCode 114 93 = (Instr.iaload, 94, [0], 0) ∧ bMask 114 93 = [] := ⟨rfl, rfl⟩
theorem E114_94 : aCode 114 94 = (Instr.ireturn, 95, [0], 0) ∧ bMask 114 94 = [] := ⟨rfl, rfl⟩
theorem E114_95 : aCode 114 95 = (Instr.aload_n 0, 96, [], 0) ∧ bMask 114 95 = [] := ⟨rfl, rfl⟩
theorem E114_96 : aCode 114 96 = (Instr.getfield 102, 99, [91, 7, 46, 2], 0) ∧ bMask 114 96 = [] := ⟨rfl, rfl⟩
theorem E114_99 : aCode 114 99 = (Instr.iload_n 3, 100, [], 0) ∧ bMask 114 99 = [] := ⟨rfl, rfl⟩
theorem E114_100 : aCode 114 100 = (Instr.iaload, 101, [0], 0) ∧ bMask 114 100 = [] := ⟨rfl, rfl⟩
theorem E114_101 : aCode 114 101 = (Instr.ireturn, 102, [0], 0) ∧ bMask 114 101 = [] := ⟨rfl, rfl⟩
theorem g_X7_certificate_0 {Q : bQ} {M : bM} {x1 : Int32} {x2 : Int32} (h : bCall 104 [cI x2, cI (0 : Int32), cI (5 : Int32)] M (fun v1 M2 => bV1 v1 fun r3 => (((¬ r3 = 0) → (bCall 113 [cR 26 0, cI x1] M2 (fun v4 M5 => bV1 v4 fun r6 => (((0 ≤ r6) → (((x2 = Int32.ofInt 0) → ((vp_in r6 8) ∧ (Q (some (cI (M5 47 0 r6.toNatClampNeg))) M5))) ∧ (¬ (x2 = Int32.ofInt 0) → (((x2 = Int32.ofInt 1) → ((vp_in r6 8) ∧ (Q (some (cI (M5 48 0 r6.toNatClampNeg))) M5))) ∧ (¬ (x2 = Int32.ofInt 1) → (((x2 = Int32.ofInt 2) → ((vp_in r6 8) ∧ (Q (some (cI (M5 49 0 r6.toNatClampNeg))) M5))) ∧ (¬ (x2 = Int32.ofInt 2) → (((x2 = Int32.ofInt 3) → ((vp_in r6 8) ∧ (Q (some (cI (M5 50 0 r6.toNatClampNeg))) M5))) ∧ (¬ (x2 = Int32.ofInt 3) → (((x2 = Int32.ofInt 4) → ((vp_in r6 8) ∧ (Q (some (cI (M5 51 0 r6.toNatClampNeg))) M5))) ∧ (¬ (x2 = Int32.ofInt 4) → ((vp_in r6 8) ∧ (Q (some (cI (M5 52 0 r6.toNatClampNeg))) M5))))))))))))) ∧ (¬ (0 ≤ r6) → (Q (some (cI (-3 : Int32))) M5)))))) ∧ (¬ (¬ r3 = 0) → (Q (some (cI (-1 : Int32))) M2))))) : bCall 114 [cR 26 0, cI x1, cI x2] M Q := s_iload_n E114_0.1 (k_ E114_0) rfl (s_iconst E114_1.1 (k_ E114_1) (s_iconst E114_2.1 (k_ E114_2) (s_scall1 E114_3.1 (k_ E114_3) rfl rfl rfl h (fun M2 r3 z0 => s_if_ne E114_6.1 (k_ E114_6) ⟨fun c1 => s_aload_n E114_11.1 (k_ E114_11) rfl (s_iload_n E114_12.1 (k_ E114_12) rfl (s_vcall1 E114_13.1 (k_ E114_13) rfl rfl rfl (z0.1 c1) (fun M5 r6 z2 => s_istore_n E114_16.1 (k_ E114_16) (s_iload_n E114_17.1 (k_ E114_17) rfl (s_if_ge E114_18.1 (k_ E114_18) ⟨fun c3 => s_iload_n E114_24.1 (k_ E114_24) rfl (s_tsw E114_25.1 (k_ E114_25) (And.intro (fun c4 => s_aload_n E114_60.1 (k_ E114_60) rfl (s_getR E114_61.1 (k_ E114_61) rfl rfl (s_iload_n E114_64.1 (k_ E114_64) rfl (s_iaload E114_65.1 (k_ E114_65) rfl ⟨((z2.1 c3).1 c4).1, s_iret E114_66.1 (k_ E114_66) (((z2.1 c3).1 c4).2)⟩)))) (fun c4 => And.intro (fun c5 => s_aload_n E114_67.1 (k_ E114_67) rfl (s_getR E114_68.1 (k_ E114_68) rfl rfl (s_iload_n E114_71.1 (k_ E114_71) rfl (s_iaload E114_72.1 (k_ E114_72) rfl ⟨(((z2.1 c3).2 c4).1 c5).1, s_iret E114_73.1 (k_ E114_73) ((((z2.1 c3).2 c4).1 c5).2)⟩)))) (fun c5 => And.intro (fun c6 => s_aload_n E114_74.1 (k_ E114_74) rfl (s_getR E114_75.1 (k_ E114_75) rfl rfl (s_iload_n E114_78.1 (k_ E114_78) rfl (s_iaload E114_79.1 (k_ E114_79) rfl ⟨((((z2.1 c3).2 c4).2 c5).1 c6).1, s_iret E114_80.1 (k_ E114_80) (((((z2.1 c3).2 c4).2 c5).1 c6).2)⟩)))) (fun c6 => And.intro (fun c7 => s_aload_n E114_81.1 (k_ E114_81) rfl (s_getR E114_82.1 (k_ E114_82) rfl rfl (s_iload_n E114_85.1 (k_ E114_85) rfl (s_iaload E114_86.1 (k_ E114_86) rfl ⟨(((((z2.1 c3).2 c4).2 c5).2 c6).1 c7).1, s_iret E114_87.1 (k_ E114_87) ((((((z2.1 c3).2 c4).2 c5).2 c6).1 c7).2)⟩)))) (fun c7 => And.intro (fun c8 => s_aload_n E114_88.1 (k_ E114_88) rfl (s_getR E114_89.1 (k_ E114_89) rfl rfl (s_iload_n E114_92.1 (k_ E114_92) rfl (s_iaload E114_93.1 (k_ E114_93) rfl ⟨((((((z2.1 c3).2 c4).2 c5).2 c6).2 c7).1 c8).1, s_iret E114_94.1 (k_ E114_94) (((((((z2.1 c3).2 c4).2 c5).2 c6).2 c7).1 c8).2)⟩)))) (fun c8 => s_aload_n E114_95.1 (k_ E114_95) rfl (s_getR E114_96.1 (k_ E114_96) rfl rfl (s_iload_n E114_99.1 (k_ E114_99) rfl (s_iaload E114_100.1 (k_ E114_100) rfl ⟨((((((z2.1 c3).2 c4).2 c5).2 c6).2 c7).2 c8).1, s_iret E114_101.1 (k_ E114_101) (((((((z2.1 c3).2 c4).2 c5).2 c6).2 c7).2 c8).2)⟩)))))))))), fun c3 => s_bipush E114_21.1 (k_ E114_21) (s_iret E114_23.1 (k_ E114_23) (z2.2 c3))⟩))))), fun c1 => s_iconst E114_9.1 (k_ E114_9) (s_iret E114_10.1 (k_ E114_10) (z0.2 c1))⟩))))
-- 115: X7_ones
theorem E115_0 : aCode 115 0 = (Instr.iconst 0, 1, [], 0) ∧ bMask 115 0 = [] := ⟨rfl, rfl⟩
theorem E115_1 : aCode 115 1 = (Instr.istore_n 1, 2, [], 0) ∧ bMask 115 1 = [] := ⟨rfl, rfl⟩
theorem E115_2 : aCode 115 2 = (Instr.iload_n 0, 3, [], 0) ∧ bMask 115 2 = [] := ⟨rfl, rfl⟩
theorem E115_3 : aCode 115 3 = (Instr.istore_n 2, 4, [], 0) ∧ bMask 115 3 = [] := ⟨rfl, rfl⟩
theorem E115_4 : aCode 115 4 = (Instr.iload_n 2, 5, [], 0) ∧ bMask 115 4 = [] := ⟨rfl, rfl⟩
theorem E115_5 : aCode 115 5 = (Instr.ifCond .eq 15, 8, [20], 0) ∧ bMask 115 5 = [] := ⟨rfl, rfl⟩
theorem E115_8 : aCode 115 8 = (Instr.iinc 1 1, 11, [], 1) ∧ bMask 115 8 = [] := ⟨rfl, rfl⟩
theorem E115_11 : aCode 115 11 = (Instr.iload_n 2, 12, [], 0) ∧ bMask 115 11 = [] := ⟨rfl, rfl⟩
theorem E115_12 : aCode 115 12 = (Instr.iload_n 2, 13, [], 0) ∧ bMask 115 12 = [] := ⟨rfl, rfl⟩
theorem E115_13 : aCode 115 13 = (Instr.iconst 1, 14, [], 1) ∧ bMask 115 13 = [] := ⟨rfl, rfl⟩
theorem E115_14 : aCode 115 14 = (Instr.isub, 15, [], 0) ∧ bMask 115 14 = [] := ⟨rfl, rfl⟩
theorem E115_15 : aCode 115 15 = (Instr.iand, 16, [], 0) ∧ bMask 115 15 = [] := ⟨rfl, rfl⟩
theorem E115_16 : aCode 115 16 = (Instr.istore_n 2, 17, [], 0) ∧ bMask 115 16 = [] := ⟨rfl, rfl⟩
theorem E115_17 : aCode 115 17 = (Instr.goto (-13), 4, [], 0) ∧ bMask 115 17 = [] := ⟨rfl, rfl⟩
theorem E115_20 : aCode 115 20 = (Instr.iload_n 1, 21, [], 0) ∧ bMask 115 20 = [] := ⟨rfl, rfl⟩
theorem E115_21 : aCode 115 21 = (Instr.ireturn, 22, [0], 0) ∧ bMask 115 21 = [] := ⟨rfl, rfl⟩
theorem g_X7_ones_0 {Q : bQ} {M : bM} {x0 : Int32} (h : bGo 115 Q 4 [some (cI x0), some (cI (0 : Int32)), some (cI x0)] [] M) : bCall 115 [cI x0] M Q := s_iconst E115_0.1 (k_ E115_0) (s_istore_n E115_1.1 (k_ E115_1) (s_iload_n E115_2.1 (k_ E115_2) rfl (s_istore_n E115_3.1 (k_ E115_3) (h))))
theorem g_X7_ones_4 {Q : bQ} {M : bM} {x0 : Int32} {x1 : Int32} {x2 : Int32} (h : ((x2 = 0) → (Q (some (cI x1)) M)) ∧ (¬ (x2 = 0) → bGo 115 Q 4 [some (cI x0), some (cI (x1 + (1 : Int32))), some (cI (x2 &&& (x2 - (1 : Int32))))] [] M)) : bGo 115 Q 4 [some (cI x0), some (cI x1), some (cI x2)] [] M := s_iload_n E115_4.1 (k_ E115_4) rfl (s_if_eq E115_5.1 (k_ E115_5) ⟨fun c0 => s_iload_n E115_20.1 (k_ E115_20) rfl (s_iret E115_21.1 (k_ E115_21) (h.1 c0)), fun c0 => s_iinc E115_8.1 (k_ E115_8) rfl (s_iload_n E115_11.1 (k_ E115_11) rfl (s_iload_n E115_12.1 (k_ E115_12) rfl (s_iconst E115_13.1 (k_ E115_13) (s_isub E115_14.1 (k_ E115_14) (s_iand E115_15.1 (k_ E115_15) (s_istore_n E115_16.1 (k_ E115_16) (s_goto E115_17.1 (k_ E115_17) (h.2 c0))))))))⟩)
-- 116: X7_choose
theorem E116_0 : aCode 116 0 = (Instr.iload_n 1, 1, [], 0) ∧ bMask 116 0 = [] := ⟨rfl, rfl⟩
theorem E116_1 : aCode 116 1 = (Instr.bipush (-64), 3, [], (-64)) ∧ bMask 116 1 = [] := ⟨rfl, rfl⟩
theorem E116_3 : aCode 116 3 = (Instr.iand, 4, [], 0) ∧ bMask 116 3 = [] := ⟨rfl, rfl⟩
theorem E116_4 : aCode 116 4 = (Instr.ifCond .ne 15, 7, [19], 0) ∧ bMask 116 4 = [] := ⟨rfl, rfl⟩
theorem E116_7 : aCode 116 7 = (Instr.iload_n 1, 8, [], 0) ∧ bMask 116 7 = [] := ⟨rfl, rfl⟩
theorem E116_8 : aCode 116 8 = (Instr.invokestatic 247, 11, [115, 1, 1, 0, 0, 97], 0) ∧ bMask 116 8 = [] := ⟨rfl, rfl⟩
theorem E116_11 : aCode 116 11 = (Instr.iconst 1, 12, [], 1) ∧ bMask 116 11 = [] := ⟨rfl, rfl⟩
theorem E116_12 : aCode 116 12 = (Instr.iconst 4, 13, [], 4) ∧ bMask 116 12 = [] := ⟨rfl, rfl⟩
theorem E116_13 : aCode 116 13 = (Instr.invokestatic 126, 16, [104, 3, 1, 0, 0, 89], 0) ∧ bMask 116 13 = [] := ⟨rfl, rfl⟩
theorem E116_16 : aCode 116 16 = (Instr.ifCond .ne 5, 19, [21], 0) ∧ bMask 116 16 = [] := ⟨rfl, rfl⟩
theorem E116_19 : aCode 116 19 = (Instr.iconst (-1), 20, [], (-1)) ∧ bMask 116 19 = [] := ⟨rfl, rfl⟩
theorem E116_20 : aCode 116 20 = (Instr.ireturn, 21, [0], 0) ∧ bMask 116 20 = [] := ⟨rfl, rfl⟩
theorem E116_21 : aCode 116 21 = (Instr.aload_n 0, 22, [], 0) ∧ bMask 116 21 = [] := ⟨rfl, rfl⟩
theorem E116_22 : aCode 116 22 = (Instr.iload_n 1, 23, [], 0) ∧ bMask 116 22 = [] := ⟨rfl, rfl⟩
theorem E116_23 : aCode 116 23 = (Instr.putfield 120, 26, [92, 7, 22, 0], 0) ∧ bMask 116 23 = [] := ⟨rfl, rfl⟩
theorem E116_26 : aCode 116 26 = (Instr.iload_n 1, 27, [], 0) ∧ bMask 116 26 = [] := ⟨rfl, rfl⟩
theorem E116_27 : aCode 116 27 = (Instr.invokestatic 247, 30, [115, 1, 1, 0, 0, 97], 0) ∧ bMask 116 27 = [] := ⟨rfl, rfl⟩
theorem E116_30 : aCode 116 30 = (Instr.ireturn, 31, [0], 0) ∧ bMask 116 30 = [] := ⟨rfl, rfl⟩
theorem g_X7_choose_0 {Q : bQ} {M : bM} {x1 : Int32} (h : ((¬ (x1 &&& (-64 : Int32)) = 0) → (Q (some (cI (-1 : Int32))) M)) ∧ (¬ (¬ (x1 &&& (-64 : Int32)) = 0) → (bCall 115 [cI x1] M (fun v1 M2 => bV1 v1 fun r3 => (bCall 104 [cI r3, cI (1 : Int32), cI (4 : Int32)] M2 (fun v4 M5 => bV1 v4 fun r6 => (((¬ r6 = 0) → (bCall 115 [cI x1] (bU M5 26 0 22 x1) (fun v7 M8 => bV1 v7 fun r9 => (Q (some (cI r9)) M8)))) ∧ (¬ (¬ r6 = 0) → (Q (some (cI (-1 : Int32))) M5))))))))) : bCall 116 [cR 26 0, cI x1] M Q := s_iload_n E116_0.1 (k_ E116_0) rfl (s_bipush E116_1.1 (k_ E116_1) (s_iand E116_3.1 (k_ E116_3) (s_if_ne E116_4.1 (k_ E116_4) ⟨fun c0 => s_iconst E116_19.1 (k_ E116_19) (s_iret E116_20.1 (k_ E116_20) (h.1 c0)), fun c0 => s_iload_n E116_7.1 (k_ E116_7) rfl (s_scall1 E116_8.1 (k_ E116_8) rfl rfl rfl (h.2 c0) (fun M2 r3 z1 => s_iconst E116_11.1 (k_ E116_11) (s_iconst E116_12.1 (k_ E116_12) (s_scall1 E116_13.1 (k_ E116_13) rfl rfl rfl z1 (fun M5 r6 z2 => s_if_ne E116_16.1 (k_ E116_16) ⟨fun c3 => s_aload_n E116_21.1 (k_ E116_21) rfl (s_iload_n E116_22.1 (k_ E116_22) rfl (s_putI E116_23.1 (k_ E116_23) rfl (s_iload_n E116_26.1 (k_ E116_26) rfl (s_scall1 E116_27.1 (k_ E116_27) rfl rfl rfl (z2.1 c3) (fun M8 r9 z4 => s_iret E116_30.1 (k_ E116_30) z4))))), fun c3 => s_iconst E116_19.1 (k_ E116_19) (s_iret E116_20.1 (k_ E116_20) (z2.2 c3))⟩)))))⟩)))
-- 117: X7_takesChoice
theorem E117_0 : aCode 117 0 = (Instr.aload_n 0, 1, [], 0) ∧ bMask 117 0 = [] := ⟨rfl, rfl⟩
theorem E117_1 : aCode 117 1 = (Instr.iconst 0, 2, [], 0) ∧ bMask 117 1 = [] := ⟨rfl, rfl⟩
theorem E117_2 : aCode 117 2 = (Instr.putfield 227, 5, [93, 7, 25, 0], 0) ∧ bMask 117 2 = [] := ⟨rfl, rfl⟩
theorem E117_5 : aCode 117 5 = (Instr.aload_n 0, 6, [], 0) ∧ bMask 117 5 = [] := ⟨rfl, rfl⟩
theorem E117_6 : aCode 117 6 = (Instr.aload_n 0, 7, [], 0) ∧ bMask 117 6 = [] := ⟨rfl, rfl⟩
theorem E117_7 : aCode 117 7 = (Instr.getfield 51, 10, [94, 7, 24, 0], 0) ∧ bMask 117 7 = [] := ⟨rfl, rfl⟩
theorem E117_10 : aCode 117 10 = (Instr.putfield 230, 13, [95, 7, 26, 0], 0) ∧ bMask 117 10 = [] := ⟨rfl, rfl⟩
theorem E117_13 : aCode 117 13 = (Instr.iconst 0, 14, [], 0) ∧ bMask 117 13 = [] := ⟨rfl, rfl⟩
theorem E117_14 : aCode 117 14 = (Instr.istore_n 1, 15, [], 0) ∧ bMask 117 14 = [] := ⟨rfl, rfl⟩
theorem E117_15 : aCode 117 15 = (Instr.iload_n 1, 16, [], 0) := rfl
theorem E117_16 : aCode 117 16 = (Instr.bipush 6, 18, [], 6) ∧ bMask 117 16 = [] := ⟨rfl, rfl⟩
theorem E117_18 : aCode 117 18 = (Instr.if_icmp .ge 85, 21, [103], 0) ∧ bMask 117 18 = [] := ⟨rfl, rfl⟩
theorem E117_21 : aCode 117 21 = (Instr.aload_n 0, 22, [], 0) ∧ bMask 117 21 = [] := ⟨rfl, rfl⟩
theorem E117_22 : aCode 117 22 = (Instr.getfield 120, 25, [92, 7, 22, 0], 0) ∧ bMask 117 22 = [] := ⟨rfl, rfl⟩
theorem E117_25 : aCode 117 25 = (Instr.iload_n 1, 26, [], 0) ∧ bMask 117 25 = [] := ⟨rfl, rfl⟩
theorem E117_26 : aCode 117 26 = (Instr.ishr, 27, [], 0) ∧ bMask 117 26 = [] := ⟨rfl, rfl⟩
theorem E117_27 : aCode 117 27 = (Instr.iconst 1, 28, [], 1) ∧ bMask 117 27 = [] := ⟨rfl, rfl⟩
theorem E117_28 : aCode 117 28 = (Instr.iand, 29, [], 0) ∧ bMask 117 28 = [] := ⟨rfl, rfl⟩
theorem E117_29 : aCode 117 29 = (Instr.iconst 1, 30, [], 1) ∧ bMask 117 29 = [] := ⟨rfl, rfl⟩
theorem E117_30 : aCode 117 30 = (Instr.if_icmp .ne 67, 33, [97], 0) ∧ bMask 117 30 = [] := ⟨rfl, rfl⟩
theorem E117_33 : aCode 117 33 = (Instr.iconst 0, 34, [], 0) ∧ bMask 117 33 = [] := ⟨rfl, rfl⟩
theorem E117_34 : aCode 117 34 = (Instr.istore_n 2, 35, [], 0) ∧ bMask 117 34 = [] := ⟨rfl, rfl⟩
theorem E117_35 : aCode 117 35 = (Instr.iload_n 2, 36, [], 0) ∧ bMask 117 35 = [] := ⟨rfl, rfl⟩
theorem E117_36 : aCode 117 36 = (Instr.bipush 32, 38, [], 32) ∧ bMask 117 36 = [] := ⟨rfl, rfl⟩
theorem E117_38 : aCode 117 38 = (Instr.if_icmp .ge 34, 41, [72], 0) ∧ bMask 117 38 = [] := ⟨rfl, rfl⟩
theorem E117_41 : aCode 117 41 = (Instr.aload_n 0, 42, [], 0) ∧ bMask 117 41 = [] := ⟨rfl, rfl⟩
theorem E117_42 : aCode 117 42 = (Instr.getfield 54, 45, [96, 7, 27, 2], 0) ∧ bMask 117 42 = [] := ⟨rfl, rfl⟩
theorem E117_45 : aCode 117 45 = (Instr.bipush 32, 47, [], 32) ∧ bMask 117 45 = [] := ⟨rfl, rfl⟩
theorem E117_47 : aCode 117 47 = (Instr.aload_n 0, 48, [], 0) ∧ bMask 117 47 = [] := ⟨rfl, rfl⟩
theorem E117_48 : aCode 117 48 = (Instr.getfield 227, 51, [93, 7, 25, 0], 0) ∧ bMask 117 48 = [] := ⟨rfl, rfl⟩
theorem E117_51 : aCode 117 51 = (Instr.imul, 52, [], 0) ∧ bMask 117 51 = [] := ⟨rfl, rfl⟩
theorem E117_52 : aCode 117 52 = (Instr.iload_n 2, 53, [], 0) ∧ bMask 117 52 = [] := ⟨rfl, rfl⟩
theorem E117_53 : aCode 117 53 = (Instr.iadd, 54, [], 0) ∧ bMask 117 53 = [] := ⟨rfl, rfl⟩
theorem E117_54 : aCode 117 54 = (Instr.aload_n 0, 55, [], 0) ∧ bMask 117 54 = [] := ⟨rfl, rfl⟩
theorem E117_55 : aCode 117 55 = (Instr.getfield 13, 58, [69, 7, 1, 2], 0) ∧ bMask 117 55 = [] := ⟨rfl, rfl⟩
theorem E117_58 : aCode 117 58 = (Instr.bipush 32, 60, [], 32) ∧ bMask 117 58 = [] := ⟨rfl, rfl⟩
theorem E117_60 : aCode 117 60 = (Instr.iload_n 1, 61, [], 0) ∧ bMask 117 60 = [] := ⟨rfl, rfl⟩
theorem E117_61 : aCode 117 61 = (Instr.imul, 62, [], 0) ∧ bMask 117 61 = [] := ⟨rfl, rfl⟩
theorem E117_62 : aCode 117 62 = (Instr.iload_n 2, 63, [], 0) ∧ bMask 117 62 = [] := ⟨rfl, rfl⟩
theorem E117_63 : aCode 117 63 = (Instr.iadd, 64, [], 0) ∧ bMask 117 63 = [] := ⟨rfl, rfl⟩
theorem E117_64 : aCode 117 64 = (Instr.iaload, 65, [0], 0) ∧ bMask 117 64 = [] := ⟨rfl, rfl⟩
theorem E117_65 : aCode 117 65 = (Instr.iastore, 66, [0], 0) ∧ bMask 117 65 = [] := ⟨rfl, rfl⟩
theorem E117_66 : aCode 117 66 = (Instr.iinc 2 1, 69, [], 1) ∧ bMask 117 66 = [] := ⟨rfl, rfl⟩
theorem E117_69 : aCode 117 69 = (Instr.goto (-34), 35, [], 0) ∧ bMask 117 69 = [] := ⟨rfl, rfl⟩
theorem E117_72 : aCode 117 72 = (Instr.aload_n 0, 73, [], 0) ∧ bMask 117 72 = [] := ⟨rfl, rfl⟩
theorem E117_73 : aCode 117 73 = (Instr.getfield 57, 76, [97, 7, 28, 2], 0) ∧ bMask 117 73 = [] := ⟨rfl, rfl⟩
theorem E117_76 : aCode 117 76 = (Instr.aload_n 0, 77, [], 0) ∧ bMask 117 76 = [] := ⟨rfl, rfl⟩
theorem E117_77 : aCode 117 77 = (Instr.getfield 227, 80, [93, 7, 25, 0], 0) ∧ bMask 117 77 = [] := ⟨rfl, rfl⟩
theorem E117_80 : aCode 117 80 = (Instr.aload_n 0, 81, [], 0) ∧ bMask 117 80 = [] := ⟨rfl, rfl⟩
theorem E117_81 : aCode 117 81 = (Instr.getfield 48, 84, [98, 7, 23, 2], 0) ∧ bMask 117 81 = [] := ⟨rfl, rfl⟩
theorem E117_84 : aCode 117 84 = (Instr.iload_n 1, 85, [], 0) ∧ bMask 117 84 = [] := ⟨rfl, rfl⟩
theorem E117_85 : aCode 117 85 = (Instr.iaload, 86, [0], 0) ∧ bMask 117 85 = [] := ⟨rfl, rfl⟩
theorem E117_86 : aCode 117 86 = (Instr.iastore, 87, [0], 0) ∧ bMask 117 86 = [] := ⟨rfl, rfl⟩
theorem E117_87 : aCode 117 87 = (Instr.aload_n 0, 88, [], 0) ∧ bMask 117 87 = [] := ⟨rfl, rfl⟩
theorem E117_88 : aCode 117 88 = (Instr.dup, 89, [], 0) ∧ bMask 117 88 = [] := ⟨rfl, rfl⟩
theorem E117_89 : aCode 117 89 = (Instr.getfield 227, 92, [93, 7, 25, 0], 0) ∧ bMask 117 89 = [] := ⟨rfl, rfl⟩
theorem E117_92 : aCode 117 92 = (Instr.iconst 1, 93, [], 1) ∧ bMask 117 92 = [] := ⟨rfl, rfl⟩
theorem E117_93 : aCode 117 93 = (Instr.iadd, 94, [], 0) ∧ bMask 117 93 = [] := ⟨rfl, rfl⟩
theorem E117_94 : aCode 117 94 = (Instr.putfield 227, 97, [93, 7, 25, 0], 0) ∧ bMask 117 94 = [] := ⟨rfl, rfl⟩
theorem E117_97 : aCode 117 97 = (Instr.iinc 1 1, 100, [], 1) ∧ bMask 117 97 = [] := ⟨rfl, rfl⟩
theorem E117_100 : aCode 117 100 = (Instr.goto (-85), 15, [], 0) ∧ bMask 117 100 = [] := ⟨rfl, rfl⟩
theorem E117_103 : aCode 117 103 = (Instr.return_, 104, [], 0) ∧ bMask 117 103 = [] := ⟨rfl, rfl⟩
theorem g_X7_takesChoice_0 {Q : bQ} {M : bM}  (h : bGo 117 Q 15 [some (cR 26 0), some (cI (0 : Int32)), none] [] (bU (bU M 26 0 25 (0 : Int32)) 26 0 26 ((bU M 26 0 25 (0 : Int32)) 26 0 24))) : bCall 117 [cR 26 0] M Q := s_aload_n E117_0.1 (k_ E117_0) rfl (s_iconst E117_1.1 (k_ E117_1) (s_putI E117_2.1 (k_ E117_2) rfl (s_aload_n E117_5.1 (k_ E117_5) rfl (s_aload_n E117_6.1 (k_ E117_6) rfl (s_getI0 E117_7.1 (k_ E117_7) rfl (s_putI E117_10.1 (k_ E117_10) rfl (s_iconst E117_13.1 (k_ E117_13) (s_istore_n E117_14.1 (k_ E117_14) (h)))))))))
theorem g_X7_takesChoice_15 {Q : bQ} {M : bM} {x1 : Int32} {o2 : Option bV} (h : (((6 : Int32) ≤ x1) → (Q none M)) ∧ (¬ ((6 : Int32) ≤ x1) → (((¬ (((M 26 0 22) >>> (x1 &&& 31)) &&& (1 : Int32)) = (1 : Int32)) → bGo 117 Q 15 [some (cR 26 0), some (cI (x1 + (1 : Int32))), none] [] M) ∧ (¬ (¬ (((M 26 0 22) >>> (x1 &&& 31)) &&& (1 : Int32)) = (1 : Int32)) → bGo 117 Q 35 [some (cR 26 0), some (cI x1), some (cI (0 : Int32))] [] M)))) : bGo 117 Q 15 [some (cR 26 0), some (cI x1), o2] [] M := s_iload_n E117_15 rfl rfl (s_bipush E117_16.1 (k_ E117_16) (s_icmp_ge E117_18.1 (k_ E117_18) ⟨fun c0 => s_ret E117_103.1 (k_ E117_103) (h.1 c0), fun c0 => s_aload_n E117_21.1 (k_ E117_21) rfl (s_getI0 E117_22.1 (k_ E117_22) rfl (s_iload_n E117_25.1 (k_ E117_25) rfl (s_ishr E117_26.1 (k_ E117_26) (s_iconst E117_27.1 (k_ E117_27) (s_iand E117_28.1 (k_ E117_28) (s_iconst E117_29.1 (k_ E117_29) (s_icmp_ne E117_30.1 (k_ E117_30) ⟨fun c1 => s_iinc E117_97.1 (k_ E117_97) rfl (s_goto E117_100.1 (k_ E117_100) ((h.2 c0).1 c1)), fun c1 => s_iconst E117_33.1 (k_ E117_33) (s_istore_n E117_34.1 (k_ E117_34) ((h.2 c0).2 c1))⟩)))))))⟩))
theorem g_X7_takesChoice_35 {Q : bQ} {M : bM} {x1 : Int32} {x2 : Int32} (h : (((32 : Int32) ≤ x2) → ((vp_in x1 6) ∧ ((vp_in (M 26 0 25) 4) ∧ bGo 117 Q 15 [some (cR 26 0), some (cI (x1 + (1 : Int32))), some (cI x2)] [] (bU (bU M 37 0 (M 26 0 25).toNatClampNeg (M 35 0 x1.toNatClampNeg)) 26 0 25 (((bU M 37 0 (M 26 0 25).toNatClampNeg (M 35 0 x1.toNatClampNeg)) 26 0 25) + (1 : Int32)))))) ∧ (¬ ((32 : Int32) ≤ x2) → ((vp_in (((32 : Int32) * x1) + x2) 192) ∧ ((vp_in (((32 : Int32) * (M 26 0 25)) + x2) 128) ∧ bGo 117 Q 35 [some (cR 26 0), some (cI x1), some (cI (x2 + (1 : Int32)))] [] (bU M 36 0 (((32 : Int32) * (M 26 0 25)) + x2).toNatClampNeg (M 28 0 (((32 : Int32) * x1) + x2).toNatClampNeg)))))) : bGo 117 Q 35 [some (cR 26 0), some (cI x1), some (cI x2)] [] M := s_iload_n E117_35.1 (k_ E117_35) rfl (s_bipush E117_36.1 (k_ E117_36) (s_icmp_ge E117_38.1 (k_ E117_38) ⟨fun c2 => s_aload_n E117_72.1 (k_ E117_72) rfl (s_getR E117_73.1 (k_ E117_73) rfl rfl (s_aload_n E117_76.1 (k_ E117_76) rfl (s_getI0 E117_77.1 (k_ E117_77) rfl (s_aload_n E117_80.1 (k_ E117_80) rfl (s_getR E117_81.1 (k_ E117_81) rfl rfl (s_iload_n E117_84.1 (k_ E117_84) rfl (s_iaload E117_85.1 (k_ E117_85) rfl ⟨(h.1 c2).1, s_iastore E117_86.1 (k_ E117_86) rfl ⟨((h.1 c2).2).1, s_aload_n E117_87.1 (k_ E117_87) rfl (s_dupR E117_88.1 (k_ E117_88) (s_getI0 E117_89.1 (k_ E117_89) rfl (s_iconst E117_92.1 (k_ E117_92) (s_iadd E117_93.1 (k_ E117_93) (s_putI E117_94.1 (k_ E117_94) rfl (s_iinc E117_97.1 (k_ E117_97) rfl (s_goto E117_100.1 (k_ E117_100) (((h.1 c2).2).2))))))))⟩⟩))))))), fun c2 => s_aload_n E117_41.1 (k_ E117_41) rfl (s_getR E117_42.1 (k_ E117_42) rfl rfl (s_bipush E117_45.1 (k_ E117_45) (s_aload_n E117_47.1 (k_ E117_47) rfl (s_getI0 E117_48.1 (k_ E117_48) rfl (s_imul E117_51.1 (k_ E117_51) (s_iload_n E117_52.1 (k_ E117_52) rfl (s_iadd E117_53.1 (k_ E117_53) (s_aload_n E117_54.1 (k_ E117_54) rfl (s_getR E117_55.1 (k_ E117_55) rfl rfl (s_bipush E117_58.1 (k_ E117_58) (s_iload_n E117_60.1 (k_ E117_60) rfl (s_imul E117_61.1 (k_ E117_61) (s_iload_n E117_62.1 (k_ E117_62) rfl (s_iadd E117_63.1 (k_ E117_63) (s_iaload E117_64.1 (k_ E117_64) rfl ⟨(h.2 c2).1, s_iastore E117_65.1 (k_ E117_65) rfl ⟨((h.2 c2).2).1, s_iinc E117_66.1 (k_ E117_66) rfl (s_goto E117_69.1 (k_ E117_69) (((h.2 c2).2).2))⟩⟩)))))))))))))))⟩))
-- 118: X7_mod
theorem E118_0 : aCode 118 0 = (Instr.lload_n 1, 1, [], 0) ∧ bMask 118 0 = [] := ⟨rfl, rfl⟩
theorem E118_1 : aCode 118 1 = (Instr.aload_n 0, 2, [], 0) ∧ bMask 118 1 = [] := ⟨rfl, rfl⟩
theorem E118_2 : aCode 118 2 = (Instr.getfield 7, 5, [82, 7, 0, 0], 0) ∧ bMask 118 2 = [] := ⟨rfl, rfl⟩
theorem E118_5 : aCode 118 5 = (Instr.i2l, 6, [], 0) ∧ bMask 118 5 = [] := ⟨rfl, rfl⟩
theorem E118_6 : aCode 118 6 = (Instr.lrem, 7, [], 0) ∧ bMask 118 6 = [] := ⟨rfl, rfl⟩
theorem E118_7 : aCode 118 7 = (Instr.lstore_n 3, 8, [], 0) ∧ bMask 118 7 = [] := ⟨rfl, rfl⟩
theorem E118_8 : aCode 118 8 = (Instr.lload_n 3, 9, [], 0) ∧ bMask 118 8 = [] := ⟨rfl, rfl⟩
theorem E118_9 : aCode 118 9 = (Instr.lconst 0, 10, [], 0) ∧ bMask 118 9 = [] := ⟨rfl, rfl⟩
theorem E118_10 : aCode 118 10 = (Instr.lcmp, 11, [], 0) ∧ bMask 118 10 = [] := ⟨rfl, rfl⟩
theorem E118_11 : aCode 118 11 = (Instr.ifCond .ge 13, 14, [24], 0) ∧ bMask 118 11 = [] := ⟨rfl, rfl⟩
theorem E118_14 : aCode 118 14 = (Instr.lload_n 3, 15, [], 0) ∧ bMask 118 14 = [] := ⟨rfl, rfl⟩
theorem E118_15 : aCode 118 15 = (Instr.aload_n 0, 16, [], 0) ∧ bMask 118 15 = [] := ⟨rfl, rfl⟩
theorem E118_16 : aCode 118 16 = (Instr.getfield 7, 19, [82, 7, 0, 0], 0) ∧ bMask 118 16 = [] := ⟨rfl, rfl⟩
theorem E118_19 : aCode 118 19 = (Instr.i2l, 20, [], 0) ∧ bMask 118 19 = [] := ⟨rfl, rfl⟩
theorem E118_20 : aCode 118 20 = (Instr.ladd, 21, [], 0) ∧ bMask 118 20 = [] := ⟨rfl, rfl⟩
theorem E118_21 : aCode 118 21 = (Instr.goto 4, 25, [], 0) ∧ bMask 118 21 = [] := ⟨rfl, rfl⟩
theorem E118_24 : aCode 118 24 = (Instr.lload_n 3, 25, [], 0) ∧ bMask 118 24 = [] := ⟨rfl, rfl⟩
theorem E118_25 : aCode 118 25 = (Instr.l2i, 26, [], 0) ∧ bMask 118 25 = [] := ⟨rfl, rfl⟩
theorem E118_26 : aCode 118 26 = (Instr.ireturn, 27, [0], 0) ∧ bMask 118 26 = [] := ⟨rfl, rfl⟩
theorem g_X7_mod_0 {Q : bQ} {M : bM} {x1 : Int64} (h : (¬ ((M 26 0 0).toInt64) = 0) ∧ (((0 ≤ (lg_cmp (aLrem x1 ((M 26 0 0).toInt64)) (0 : Int64))) → (Q (some (cI ((aLrem x1 ((M 26 0 0).toInt64)).toInt32))) M)) ∧ (¬ (0 ≤ (lg_cmp (aLrem x1 ((M 26 0 0).toInt64)) (0 : Int64))) → (Q (some (cI (((aLrem x1 ((M 26 0 0).toInt64)) + ((M 26 0 0).toInt64)).toInt32))) M)))) : bCall 118 [cR 26 0, cL x1] M Q := s_lload_n E118_0.1 (k_ E118_0) rfl (s_aload_n E118_1.1 (k_ E118_1) rfl (s_getI0 E118_2.1 (k_ E118_2) rfl (s_i2l E118_5.1 (k_ E118_5) (s_lrem E118_6.1 (k_ E118_6) ⟨h.1, s_lstore_n E118_7.1 (k_ E118_7) (s_lload_n E118_8.1 (k_ E118_8) rfl (s_lconst E118_9.1 (k_ E118_9) (s_lcmp E118_10.1 (k_ E118_10) (s_if_ge E118_11.1 (k_ E118_11) ⟨fun c0 => s_lload_n E118_24.1 (k_ E118_24) rfl (s_l2i E118_25.1 (k_ E118_25) (s_iret E118_26.1 (k_ E118_26) (h.2.1 c0))), fun c0 => s_lload_n E118_14.1 (k_ E118_14) rfl (s_aload_n E118_15.1 (k_ E118_15) rfl (s_getI0 E118_16.1 (k_ E118_16) rfl (s_i2l E118_19.1 (k_ E118_19) (s_ladd E118_20.1 (k_ E118_20) (s_goto E118_21.1 (k_ E118_21) (s_l2i E118_25.1 (k_ E118_25) (s_iret E118_26.1 (k_ E118_26) (h.2.2 c0))))))))⟩))))⟩))))
-- 119: X7_isSum
theorem E119_0 : aCode 119 0 = (Instr.iconst 0, 1, [], 0) ∧ bMask 119 0 = [] := ⟨rfl, rfl⟩
theorem E119_1 : aCode 119 1 = (Instr.istore_n 3, 2, [], 0) ∧ bMask 119 1 = [] := ⟨rfl, rfl⟩
theorem E119_2 : aCode 119 2 = (Instr.iload_n 3, 3, [], 0) := rfl
theorem E119_3 : aCode 119 3 = (Instr.aload_n 0, 4, [], 0) ∧ bMask 119 3 = [] := ⟨rfl, rfl⟩
theorem E119_4 : aCode 119 4 = (Instr.getfield 230, 7, [95, 7, 26, 0], 0) ∧ bMask 119 4 = [] := ⟨rfl, rfl⟩
theorem E119_7 : aCode 119 7 = (Instr.if_icmp .ge 37, 10, [44], 0) ∧ bMask 119 7 = [] := ⟨rfl, rfl⟩
theorem E119_10 : aCode 119 10 = (Instr.aload_n 0, 11, [], 0) ∧ bMask 119 10 = [] := ⟨rfl, rfl⟩
theorem E119_11 : aCode 119 11 = (Instr.getfield 78, 14, [99, 7, 36, 2], 0) ∧ bMask 119 11 = [] := ⟨rfl, rfl⟩
theorem E119_14 : aCode 119 14 = (Instr.iload_n 3, 15, [], 0) ∧ bMask 119 14 = [] := ⟨rfl, rfl⟩
theorem E119_15 : aCode 119 15 = (Instr.iload_n 3, 16, [], 0) ∧ bMask 119 15 = [] := ⟨rfl, rfl⟩
theorem E119_16 : aCode 119 16 = (Instr.iload_n 2, 17, [], 0) ∧ bMask 119 16 = [] := ⟨rfl, rfl⟩
theorem E119_17 : aCode 119 17 = (Instr.if_icmp .ge 7, 20, [24], 0) ∧ bMask 119 17 = [] := ⟨rfl, rfl⟩
theorem E119_20 : aCode 119 20 = (Instr.iconst 0, 21, [], 0) ∧ bMask 119 20 = [] := ⟨rfl, rfl⟩
theorem E119_21 : aCode 119 21 = (Instr.goto 16, 37, [], 0) ∧ bMask 119 21 = [] := ⟨rfl, rfl⟩
theorem E119_24 : aCode 119 24 = (Instr.aload_n 0, 25, [], 0) ∧ bMask 119 24 = [] := ⟨rfl, rfl⟩
theorem E119_25 : aCode 119 25 = (Instr.getfield 54, 28, [96, 7, 27, 2], 0) ∧ bMask 119 25 = [] := ⟨rfl, rfl⟩
theorem E119_28 : aCode 119 28 = (Instr.bipush 32, 30, [], 32) ∧ bMask 119 28 = [] := ⟨rfl, rfl⟩
theorem E119_30 : aCode 119 30 = (Instr.iload_n 1, 31, [], 0) ∧ bMask 119 30 = [] := ⟨rfl, rfl⟩
theorem E119_31 : aCode 119 31 = (Instr.imul, 32, [], 0) ∧ bMask 119 31 = [] := ⟨rfl, rfl⟩
theorem E119_32 : aCode 119 32 = (Instr.iload_n 3, 33, [], 0) ∧ bMask 119 32 = [] := ⟨rfl, rfl⟩
theorem E119_33 : aCode 119 33 = (Instr.iadd, 34, [], 0) ∧ bMask 119 33 = [] := ⟨rfl, rfl⟩
theorem E119_34 : aCode 119 34 = (Instr.iload_n 2, 35, [], 0) ∧ bMask 119 34 = [] := ⟨rfl, rfl⟩
theorem E119_35 : aCode 119 35 = (Instr.isub, 36, [], 0) ∧ bMask 119 35 = [] := ⟨rfl, rfl⟩
theorem E119_36 : aCode 119 36 = (Instr.iaload, 37, [0], 0) ∧ bMask 119 36 = [] := ⟨rfl, rfl⟩
theorem E119_37 : aCode 119 37 = (Instr.iastore, 38, [0], 0) ∧ bMask 119 37 = [] := ⟨rfl, rfl⟩
theorem E119_38 : aCode 119 38 = (Instr.iinc 3 1, 41, [], 1) ∧ bMask 119 38 = [] := ⟨rfl, rfl⟩
theorem E119_41 : aCode 119 41 = (Instr.goto (-39), 2, [], 0) ∧ bMask 119 41 = [] := ⟨rfl, rfl⟩
theorem E119_44 : aCode 119 44 = (Instr.iconst 0, 45, [], 0) ∧ bMask 119 44 = [] := ⟨rfl, rfl⟩
theorem E119_45 : aCode 119 45 = (Instr.istore_n 3, 46, [], 0) ∧ bMask 119 45 = [] := ⟨rfl, rfl⟩
theorem E119_46 : aCode 119 46 = (Instr.iload_n 3, 47, [], 0) := rfl
theorem E119_47 : aCode 119 47 = (Instr.bipush 33, 49, [], 33) ∧ bMask 119 47 = [] := ⟨rfl, rfl⟩
theorem E119_49 : aCode 119 49 = (Instr.if_icmp .ge 16, 52, [65], 0) ∧ bMask 119 49 = [] := ⟨rfl, rfl⟩
theorem E119_52 : aCode 119 52 = (Instr.aload_n 0, 53, [], 0) ∧ bMask 119 52 = [] := ⟨rfl, rfl⟩
theorem E119_53 : aCode 119 53 = (Instr.getfield 81, 56, [100, 7, 37, 2], 0) ∧ bMask 119 53 = [] := ⟨rfl, rfl⟩
theorem E119_56 : aCode 119 56 = (Instr.iload_n 3, 57, [], 0) ∧ bMask 119 56 = [] := ⟨rfl, rfl⟩
theorem E119_57 : aCode 119 57 = (Instr.iconst 0, 58, [], 0) ∧ bMask 119 57 = [] := ⟨rfl, rfl⟩
theorem E119_58 : aCode 119 58 = (Instr.iastore, 59, [0], 0) ∧ bMask 119 58 = [] := ⟨rfl, rfl⟩
theorem E119_59 : aCode 119 59 = (Instr.iinc 3 1, 62, [], 1) ∧ bMask 119 59 = [] := ⟨rfl, rfl⟩
theorem E119_62 : aCode 119 62 = (Instr.goto (-16), 46, [], 0) ∧ bMask 119 62 = [] := ⟨rfl, rfl⟩
theorem E119_65 : aCode 119 65 = (Instr.iconst 0, 66, [], 0) ∧ bMask 119 65 = [] := ⟨rfl, rfl⟩
theorem E119_66 : aCode 119 66 = (Instr.istore_n 3, 67, [], 0) ∧ bMask 119 66 = [] := ⟨rfl, rfl⟩
theorem E119_67 : aCode 119 67 = (Instr.iload_n 3, 68, [], 0) := rfl
theorem E119_68 : aCode 119 68 = (Instr.aload_n 0, 69, [], 0) ∧ bMask 119 68 = [] := ⟨rfl, rfl⟩
theorem E119_69 : aCode 119 69 = (Instr.getfield 233, 72, [101, 7, 31, 0], 0) ∧ bMask 119 69 = [] := ⟨rfl, rfl⟩
theorem E119_72 : aCode 119 72 = (Instr.if_icmp .ge 138, 75, [210], 0) ∧ bMask 119 72 = [] := ⟨rfl, rfl⟩
theorem E119_75 : aCode 119 75 = (Instr.aload_n 0, 76, [], 0) ∧ bMask 119 75 = [] := ⟨rfl, rfl⟩
theorem E119_76 : aCode 119 76 = (Instr.getfield 78, 79, [99, 7, 36, 2], 0) ∧ bMask 119 76 = [] := ⟨rfl, rfl⟩
theorem E119_79 : aCode 119 79 = (Instr.aload_n 0, 80, [], 0) ∧ bMask 119 79 = [] := ⟨rfl, rfl⟩
theorem E119_80 : aCode 119 80 = (Instr.getfield 75, 83, [102, 7, 35, 2], 0) ∧ bMask 119 80 = [] := ⟨rfl, rfl⟩
theorem E119_83 : aCode 119 83 = (Instr.iload_n 3, 84, [], 0) ∧ bMask 119 83 = [] := ⟨rfl, rfl⟩
theorem E119_84 : aCode 119 84 = (Instr.iaload, 85, [0], 0) ∧ bMask 119 84 = [] := ⟨rfl, rfl⟩
theorem E119_85 : aCode 119 85 = (Instr.iaload, 86, [0], 0) ∧ bMask 119 85 = [] := ⟨rfl, rfl⟩
theorem E119_86 : aCode 119 86 = (Instr.istore 4, 88, [], 0) ∧ bMask 119 86 = [] := ⟨rfl, rfl⟩
theorem E119_88 : aCode 119 88 = (Instr.iconst 0, 89, [], 0) ∧ bMask 119 88 = [] := ⟨rfl, rfl⟩
theorem E119_89 : aCode 119 89 = (Instr.istore 5, 91, [], 0) ∧ bMask 119 89 = [] := ⟨rfl, rfl⟩
theorem E119_91 : aCode 119 91 = (Instr.iload 5, 93, [], 0) ∧ bMask 119 91 = [] := ⟨rfl, rfl⟩
theorem E119_93 : aCode 119 93 = (Instr.aload_n 0, 94, [], 0) ∧ bMask 119 93 = [] := ⟨rfl, rfl⟩
theorem E119_94 : aCode 119 94 = (Instr.getfield 230, 97, [95, 7, 26, 0], 0) ∧ bMask 119 94 = [] := ⟨rfl, rfl⟩
theorem E119_97 : aCode 119 97 = (Instr.if_icmp .ge 49, 100, [146], 0) ∧ bMask 119 97 = [] := ⟨rfl, rfl⟩
theorem E119_100 : aCode 119 100 = (Instr.iload 4, 102, [], 0) ∧ bMask 119 100 = [] := ⟨rfl, rfl⟩
theorem E119_102 : aCode 119 102 = (Instr.ifCond .eq 44, 105, [146], 0) ∧ bMask 119 102 = [] := ⟨rfl, rfl⟩
theorem E119_105 : aCode 119 105 = (Instr.aload_n 0, 106, [], 0) ∧ bMask 119 105 = [] := ⟨rfl, rfl⟩
theorem E119_106 : aCode 119 106 = (Instr.getfield 78, 109, [99, 7, 36, 2], 0) ∧ bMask 119 106 = [] := ⟨rfl, rfl⟩
theorem E119_109 : aCode 119 109 = (Instr.iload 5, 111, [], 0) ∧ bMask 119 109 = [] := ⟨rfl, rfl⟩
theorem E119_111 : aCode 119 111 = (Instr.aload_n 0, 112, [], 0) ∧ bMask 119 111 = [] := ⟨rfl, rfl⟩
theorem E119_112 : aCode 119 112 = (Instr.aload_n 0, 113, [], 0) ∧ bMask 119 112 = [] := ⟨rfl, rfl⟩
theorem E119_113 : aCode 119 113 = (Instr.getfield 78, 116, [99, 7, 36, 2], 0) ∧ bMask 119 113 = [] := ⟨rfl, rfl⟩
theorem E119_116 : aCode 119 116 = (Instr.iload 5, 118, [], 0) ∧ bMask 119 116 = [] := ⟨rfl, rfl⟩
theorem E119_118 : aCode 119 118 = (Instr.iaload, 119, [0], 0) ∧ bMask 119 118 = [] := ⟨rfl, rfl⟩
theorem E119_119 : aCode 119 119 = (Instr.iload 4, 121, [], 0) ∧ bMask 119 119 = [] := ⟨rfl, rfl⟩
theorem E119_121 : aCode 119 121 = (Instr.aload_n 0, 122, [], 0) ∧ bMask 119 121 = [] := ⟨rfl, rfl⟩
theorem E119_122 : aCode 119 122 = (Instr.getfield 69, 125, [103, 7, 33, 2], 0) ∧ bMask 119 122 = [] := ⟨rfl, rfl⟩
theorem E119_125 : aCode 119 125 = (Instr.bipush 32, 127, [], 32) ∧ bMask 119 125 = [] := ⟨rfl, rfl⟩
theorem E119_127 : aCode 119 127 = (Instr.iload_n 3, 128, [], 0) ∧ bMask 119 127 = [] := ⟨rfl, rfl⟩
theorem E119_128 : aCode 119 128 = (Instr.imul, 129, [], 0) ∧ bMask 119 128 = [] := ⟨rfl, rfl⟩
theorem E119_129 : aCode 119 129 = (Instr.iload 5, 131, [], 0) ∧ bMask 119 129 = [] := ⟨rfl, rfl⟩
theorem E119_131 : aCode 119 131 = (Instr.iadd, 132, [], 0) ∧ bMask 119 131 = [] := ⟨rfl, rfl⟩
theorem E119_132 : aCode 119 132 = (Instr.iaload, 133, [0], 0) ∧ bMask 119 132 = [] := ⟨rfl, rfl⟩
theorem E119_133 : aCode 119 133 = (Instr.imul, 134, [], 0) ∧ bMask 119 133 = [] := ⟨rfl, rfl⟩
theorem E119_134 : aCode 119 134 = (Instr.isub, 135, [], 0) ∧ bMask 119 134 = [] := ⟨rfl, rfl⟩
theorem E119_135 : aCode 119 135 = (Instr.i2l, 136, [], 0) ∧ bMask 119 135 = [] := ⟨rfl, rfl⟩
theorem E119_136 : aCode 119 136 = (Instr.invokevirtual 137, 139, [118, 2, 1, 7, 0, 98], 0) ∧ bMask 119 136 = [] := ⟨rfl, rfl⟩
theorem E119_139 : aCode 119 139 = (Instr.iastore, 140, [0], 0) ∧ bMask 119 139 = [] := ⟨rfl, rfl⟩
theorem E119_140 : aCode 119 140 = (Instr.iinc 5 1, 143, [], 1) ∧ bMask 119 140 = [] := ⟨rfl, rfl⟩
theorem E119_143 : aCode 119 143 = (Instr.goto (-52), 91, [], 0) ∧ bMask 119 143 = [] := ⟨rfl, rfl⟩
theorem E119_146 : aCode 119 146 = (Instr.iconst 0, 147, [], 0) ∧ bMask 119 146 = [] := ⟨rfl, rfl⟩
theorem E119_147 : aCode 119 147 = (Instr.istore 5, 149, [], 0) ∧ bMask 119 147 = [] := ⟨rfl, rfl⟩
theorem E119_149 : aCode 119 149 = (Instr.iload 5, 151, [], 0) ∧ bMask 119 149 = [] := ⟨rfl, rfl⟩
theorem E119_151 : aCode 119 151 = (Instr.aload_n 0, 152, [], 0) ∧ bMask 119 151 = [] := ⟨rfl, rfl⟩
theorem E119_152 : aCode 119 152 = (Instr.getfield 233, 155, [101, 7, 31, 0], 0) ∧ bMask 119 152 = [] := ⟨rfl, rfl⟩
theorem E119_155 : aCode 119 155 = (Instr.if_icmp .ge 49, 158, [204], 0) ∧ bMask 119 155 = [] := ⟨rfl, rfl⟩
theorem E119_158 : aCode 119 158 = (Instr.iload 4, 160, [], 0) ∧ bMask 119 158 = [] := ⟨rfl, rfl⟩
theorem E119_160 : aCode 119 160 = (Instr.ifCond .eq 44, 163, [204], 0) ∧ bMask 119 160 = [] := ⟨rfl, rfl⟩
theorem E119_163 : aCode 119 163 = (Instr.aload_n 0, 164, [], 0) ∧ bMask 119 163 = [] := ⟨rfl, rfl⟩
theorem E119_164 : aCode 119 164 = (Instr.getfield 81, 167, [100, 7, 37, 2], 0) ∧ bMask 119 164 = [] := ⟨rfl, rfl⟩
theorem E119_167 : aCode 119 167 = (Instr.iload 5, 169, [], 0) ∧ bMask 119 167 = [] := ⟨rfl, rfl⟩
theorem E119_169 : aCode 119 169 = (Instr.aload_n 0, 170, [], 0) ∧ bMask 119 169 = [] := ⟨rfl, rfl⟩
theorem E119_170 : aCode 119 170 = (Instr.aload_n 0, 171, [], 0) ∧ bMask 119 170 = [] := ⟨rfl, rfl⟩
theorem E119_171 : aCode 119 171 = (Instr.getfield 81, 174, [100, 7, 37, 2], 0) ∧ bMask 119 171 = [] := ⟨rfl, rfl⟩
theorem E119_174 : aCode 119 174 = (Instr.iload 5, 176, [], 0) ∧ bMask 119 174 = [] := ⟨rfl, rfl⟩
theorem E119_176 : aCode 119 176 = (Instr.iaload, 177, [0], 0) ∧ bMask 119 176 = [] := ⟨rfl, rfl⟩
theorem E119_177 : aCode 119 177 = (Instr.iload 4, 179, [], 0) ∧ bMask 119 177 = [] := ⟨rfl, rfl⟩
theorem E119_179 : aCode 119 179 = (Instr.aload_n 0, 180, [], 0) ∧ bMask 119 179 = [] := ⟨rfl, rfl⟩
theorem E119_180 : aCode 119 180 = (Instr.getfield 72, 183, [104, 7, 34, 2], 0) ∧ bMask 119 180 = [] := ⟨rfl, rfl⟩
theorem E119_183 : aCode 119 183 = (Instr.bipush 32, 185, [], 32) ∧ bMask 119 183 = [] := ⟨rfl, rfl⟩
theorem E119_185 : aCode 119 185 = (Instr.iload_n 3, 186, [], 0) ∧ bMask 119 185 = [] := ⟨rfl, rfl⟩
theorem E119_186 : aCode 119 186 = (Instr.imul, 187, [], 0) ∧ bMask 119 186 = [] := ⟨rfl, rfl⟩
theorem E119_187 : aCode 119 187 = (Instr.iload 5, 189, [], 0) ∧ bMask 119 187 = [] := ⟨rfl, rfl⟩
theorem E119_189 : aCode 119 189 = (Instr.iadd, 190, [], 0) ∧ bMask 119 189 = [] := ⟨rfl, rfl⟩
theorem E119_190 : aCode 119 190 = (Instr.iaload, 191, [0], 0) ∧ bMask 119 190 = [] := ⟨rfl, rfl⟩
theorem E119_191 : aCode 119 191 = (Instr.imul, 192, [], 0) ∧ bMask 119 191 = [] := ⟨rfl, rfl⟩
theorem E119_192 : aCode 119 192 = (Instr.isub, 193, [], 0) ∧ bMask 119 192 = [] := ⟨rfl, rfl⟩
theorem E119_193 : aCode 119 193 = (Instr.i2l, 194, [], 0) ∧ bMask 119 193 = [] := ⟨rfl, rfl⟩
theorem E119_194 : aCode 119 194 = (Instr.invokevirtual 137, 197, [118, 2, 1, 7, 0, 98], 0) ∧ bMask 119 194 = [] := ⟨rfl, rfl⟩
theorem E119_197 : aCode 119 197 = (Instr.iastore, 198, [0], 0) ∧ bMask 119 197 = [] := ⟨rfl, rfl⟩
theorem E119_198 : aCode 119 198 = (Instr.iinc 5 1, 201, [], 1) ∧ bMask 119 198 = [] := ⟨rfl, rfl⟩
theorem E119_201 : aCode 119 201 = (Instr.goto (-52), 149, [], 0) ∧ bMask 119 201 = [] := ⟨rfl, rfl⟩
theorem E119_204 : aCode 119 204 = (Instr.iinc 3 1, 207, [], 1) ∧ bMask 119 204 = [] := ⟨rfl, rfl⟩
theorem E119_207 : aCode 119 207 = (Instr.goto (-140), 67, [], 0) ∧ bMask 119 207 = [] := ⟨rfl, rfl⟩
theorem E119_210 : aCode 119 210 = (Instr.iconst 0, 211, [], 0) ∧ bMask 119 210 = [] := ⟨rfl, rfl⟩
theorem E119_211 : aCode 119 211 = (Instr.istore_n 3, 212, [], 0) ∧ bMask 119 211 = [] := ⟨rfl, rfl⟩
theorem E119_212 : aCode 119 212 = (Instr.iload_n 3, 213, [], 0) := rfl
theorem E119_213 : aCode 119 213 = (Instr.aload_n 0, 214, [], 0) ∧ bMask 119 213 = [] := ⟨rfl, rfl⟩
theorem E119_214 : aCode 119 214 = (Instr.getfield 230, 217, [95, 7, 26, 0], 0) ∧ bMask 119 214 = [] := ⟨rfl, rfl⟩
theorem E119_217 : aCode 119 217 = (Instr.if_icmp .ge 18, 220, [235], 0) ∧ bMask 119 217 = [] := ⟨rfl, rfl⟩
theorem E119_220 : aCode 119 220 = (Instr.aload_n 0, 221, [], 0) ∧ bMask 119 220 = [] := ⟨rfl, rfl⟩
theorem E119_221 : aCode 119 221 = (Instr.getfield 78, 224, [99, 7, 36, 2], 0) ∧ bMask 119 221 = [] := ⟨rfl, rfl⟩
theorem E119_224 : aCode 119 224 = (Instr.iload_n 3, 225, [], 0) ∧ bMask 119 224 = [] := ⟨rfl, rfl⟩
theorem E119_225 : aCode 119 225 = (Instr.iaload, 226, [0], 0) ∧ bMask 119 225 = [] := ⟨rfl, rfl⟩
theorem E119_226 : aCode 119 226 = (Instr.ifCond .ne 9, 229, [235], 0) ∧ bMask 119 226 = [] := ⟨rfl, rfl⟩
theorem E119_229 : aCode 119 229 = (Instr.iinc 3 1, 232, [], 1) ∧ bMask 119 229 = [] := ⟨rfl, rfl⟩
theorem E119_232 : aCode 119 232 = (Instr.goto (-20), 212, [], 0) ∧ bMask 119 232 = [] := ⟨rfl, rfl⟩
theorem E119_235 : aCode 119 235 = (Instr.iload_n 3, 236, [], 0) ∧ bMask 119 235 = [] := ⟨rfl, rfl⟩
theorem E119_236 : aCode 119 236 = (Instr.aload_n 0, 237, [], 0) ∧ bMask 119 236 = [] := ⟨rfl, rfl⟩
theorem E119_237 : aCode 119 237 = (Instr.getfield 230, 240, [95, 7, 26, 0], 0) ∧ bMask 119 237 = [] := ⟨rfl, rfl⟩
theorem E119_240 : aCode 119 240 = (Instr.if_icmp .ne 7, 243, [247], 0) ∧ bMask 119 240 = [] := ⟨rfl, rfl⟩
theorem E119_243 : aCode 119 243 = (Instr.iconst 1, 244, [], 1) ∧ bMask 119 243 = [] := ⟨rfl, rfl⟩
theorem E119_244 : aCode 119 244 = (Instr.goto 4, 248, [], 0) ∧ bMask 119 244 = [] := ⟨rfl, rfl⟩
theorem E119_247 : aCode 119 247 = (Instr.iconst 0, 248, [], 0) ∧ bMask 119 247 = [] := ⟨rfl, rfl⟩
theorem E119_248 : aCode 119 248 = (Instr.ireturn, 249, [1], 0) ∧ bMask 119 248 = [] := ⟨rfl, rfl⟩
theorem g_X7_isSum_0 {Q : bQ} {M : bM} {x1 : Int32} {x2 : Int32} (h : bGo 119 Q 2 [some (cR 26 0), some (cI x1), some (cI x2), some (cI (0 : Int32)), none, none] [] M) : bCall 119 [cR 26 0, cI x1, cI x2] M Q := s_iconst E119_0.1 (k_ E119_0) (s_istore_n E119_1.1 (k_ E119_1) (h))
theorem g_X7_isSum_2 {Q : bQ} {M : bM} {x1 : Int32} {x2 : Int32} {x3 : Int32} {o4 : Option bV} {o5 : Option bV} (h : (((M 26 0 26) ≤ x3) → bGo 119 Q 46 [some (cR 26 0), some (cI x1), some (cI x2), some (cI (0 : Int32)), none, none] [] M) ∧ (¬ ((M 26 0 26) ≤ x3) → (((x2 ≤ x3) → ((vp_in ((((32 : Int32) * x1) + x3) - x2) 128) ∧ ((vp_in x3 32) ∧ bGo 119 Q 2 [some (cR 26 0), some (cI x1), some (cI x2), some (cI (x3 + (1 : Int32))), none, none] [] (bU M 44 0 x3.toNatClampNeg (M 36 0 ((((32 : Int32) * x1) + x3) - x2).toNatClampNeg))))) ∧ (¬ (x2 ≤ x3) → ((vp_in x3 32) ∧ bGo 119 Q 2 [some (cR 26 0), some (cI x1), some (cI x2), some (cI (x3 + (1 : Int32))), none, none] [] (bU M 44 0 x3.toNatClampNeg (0 : Int32))))))) : bGo 119 Q 2 [some (cR 26 0), some (cI x1), some (cI x2), some (cI x3), o4, o5] [] M := s_iload_n E119_2 rfl rfl (s_aload_n E119_3.1 (k_ E119_3) rfl (s_getI0 E119_4.1 (k_ E119_4) rfl (s_icmp_ge E119_7.1 (k_ E119_7) ⟨fun c0 => s_iconst E119_44.1 (k_ E119_44) (s_istore_n E119_45.1 (k_ E119_45) (h.1 c0)), fun c0 => s_aload_n E119_10.1 (k_ E119_10) rfl (s_getR E119_11.1 (k_ E119_11) rfl rfl (s_iload_n E119_14.1 (k_ E119_14) rfl (s_iload_n E119_15.1 (k_ E119_15) rfl (s_iload_n E119_16.1 (k_ E119_16) rfl (s_icmp_ge E119_17.1 (k_ E119_17) ⟨fun c1 => s_aload_n E119_24.1 (k_ E119_24) rfl (s_getR E119_25.1 (k_ E119_25) rfl rfl (s_bipush E119_28.1 (k_ E119_28) (s_iload_n E119_30.1 (k_ E119_30) rfl (s_imul E119_31.1 (k_ E119_31) (s_iload_n E119_32.1 (k_ E119_32) rfl (s_iadd E119_33.1 (k_ E119_33) (s_iload_n E119_34.1 (k_ E119_34) rfl (s_isub E119_35.1 (k_ E119_35) (s_iaload E119_36.1 (k_ E119_36) rfl ⟨((h.2 c0).1 c1).1, s_iastore E119_37.1 (k_ E119_37) rfl ⟨(((h.2 c0).1 c1).2).1, s_iinc E119_38.1 (k_ E119_38) rfl (s_goto E119_41.1 (k_ E119_41) ((((h.2 c0).1 c1).2).2))⟩⟩))))))))), fun c1 => s_iconst E119_20.1 (k_ E119_20) (s_goto E119_21.1 (k_ E119_21) (s_iastore E119_37.1 (k_ E119_37) rfl ⟨((h.2 c0).2 c1).1, s_iinc E119_38.1 (k_ E119_38) rfl (s_goto E119_41.1 (k_ E119_41) (((h.2 c0).2 c1).2))⟩))⟩)))))⟩)))
theorem g_X7_isSum_46 {Q : bQ} {M : bM} {x1 : Int32} {x2 : Int32} {x3 : Int32} {o4 : Option bV} {o5 : Option bV} (h : (((33 : Int32) ≤ x3) → bGo 119 Q 67 [some (cR 26 0), some (cI x1), some (cI x2), some (cI (0 : Int32)), none, none] [] M) ∧ (¬ ((33 : Int32) ≤ x3) → ((vp_in x3 33) ∧ bGo 119 Q 46 [some (cR 26 0), some (cI x1), some (cI x2), some (cI (x3 + (1 : Int32))), none, none] [] (bU M 45 0 x3.toNatClampNeg (0 : Int32))))) : bGo 119 Q 46 [some (cR 26 0), some (cI x1), some (cI x2), some (cI x3), o4, o5] [] M := s_iload_n E119_46 rfl rfl (s_bipush E119_47.1 (k_ E119_47) (s_icmp_ge E119_49.1 (k_ E119_49) ⟨fun c2 => s_iconst E119_65.1 (k_ E119_65) (s_istore_n E119_66.1 (k_ E119_66) (h.1 c2)), fun c2 => s_aload_n E119_52.1 (k_ E119_52) rfl (s_getR E119_53.1 (k_ E119_53) rfl rfl (s_iload_n E119_56.1 (k_ E119_56) rfl (s_iconst E119_57.1 (k_ E119_57) (s_iastore E119_58.1 (k_ E119_58) rfl ⟨(h.2 c2).1, s_iinc E119_59.1 (k_ E119_59) rfl (s_goto E119_62.1 (k_ E119_62) ((h.2 c2).2))⟩))))⟩))
theorem g_X7_isSum_67 {Q : bQ} {M : bM} {x1 : Int32} {x2 : Int32} {x3 : Int32} {o4 : Option bV} {o5 : Option bV} (h : (((M 26 0 31) ≤ x3) → bGo 119 Q 212 [some (cR 26 0), some (cI x1), some (cI x2), some (cI (0 : Int32)), none, none] [] M) ∧ (¬ ((M 26 0 31) ≤ x3) → ((vp_in x3 32) ∧ ((vp_in (M 43 0 x3.toNatClampNeg) 32) ∧ bGo 119 Q 91 [some (cR 26 0), some (cI x1), some (cI x2), some (cI x3), some (cI (M 44 0 (M 43 0 x3.toNatClampNeg).toNatClampNeg)), some (cI (0 : Int32))] [] M)))) : bGo 119 Q 67 [some (cR 26 0), some (cI x1), some (cI x2), some (cI x3), o4, o5] [] M := s_iload_n E119_67 rfl rfl (s_aload_n E119_68.1 (k_ E119_68) rfl (s_getI0 E119_69.1 (k_ E119_69) rfl (s_icmp_ge E119_72.1 (k_ E119_72) ⟨fun c3 => s_iconst E119_210.1 (k_ E119_210) (s_istore_n E119_211.1 (k_ E119_211) (h.1 c3)), fun c3 => s_aload_n E119_75.1 (k_ E119_75) rfl (s_getR E119_76.1 (k_ E119_76) rfl rfl (s_aload_n E119_79.1 (k_ E119_79) rfl (s_getR E119_80.1 (k_ E119_80) rfl rfl (s_iload_n E119_83.1 (k_ E119_83) rfl (s_iaload E119_84.1 (k_ E119_84) rfl ⟨(h.2 c3).1, s_iaload E119_85.1 (k_ E119_85) rfl ⟨((h.2 c3).2).1, s_istore E119_86.1 (k_ E119_86) (s_iconst E119_88.1 (k_ E119_88) (s_istore E119_89.1 (k_ E119_89) (((h.2 c3).2).2)))⟩⟩)))))⟩)))
theorem g_X7_isSum_91 {Q : bQ} {M : bM} {x1 : Int32} {x2 : Int32} {x3 : Int32} {x4 : Int32} {x5 : Int32} (h : (((M 26 0 26) ≤ x5) → bGo 119 Q 149 [some (cR 26 0), some (cI x1), some (cI x2), some (cI x3), some (cI x4), some (cI (0 : Int32))] [] M) ∧ (¬ ((M 26 0 26) ≤ x5) → (((x4 = 0) → bGo 119 Q 149 [some (cR 26 0), some (cI x1), some (cI x2), some (cI x3), some (cI x4), some (cI (0 : Int32))] [] M) ∧ (¬ (x4 = 0) → ((vp_in x5 32) ∧ ((vp_in (((32 : Int32) * x3) + x5) 1024) ∧ (bCall 118 [cR 26 0, cL (((M 44 0 x5.toNatClampNeg) - (x4 * (M 41 0 (((32 : Int32) * x3) + x5).toNatClampNeg))).toInt64)] M (fun v1 M2 => bV1 v1 fun r3 => ((vp_in x5 32) ∧ bGo 119 Q 91 [some (cR 26 0), some (cI x1), some (cI x2), some (cI x3), some (cI x4), some (cI (x5 + (1 : Int32)))] [] (bU M2 44 0 x5.toNatClampNeg r3)))))))))) : bGo 119 Q 91 [some (cR 26 0), some (cI x1), some (cI x2), some (cI x3), some (cI x4), some (cI x5)] [] M := s_iload E119_91.1 (k_ E119_91) rfl (s_aload_n E119_93.1 (k_ E119_93) rfl (s_getI0 E119_94.1 (k_ E119_94) rfl (s_icmp_ge E119_97.1 (k_ E119_97) ⟨fun c4 => s_iconst E119_146.1 (k_ E119_146) (s_istore E119_147.1 (k_ E119_147) (h.1 c4)), fun c4 => s_iload E119_100.1 (k_ E119_100) rfl (s_if_eq E119_102.1 (k_ E119_102) ⟨fun c5 => s_iconst E119_146.1 (k_ E119_146) (s_istore E119_147.1 (k_ E119_147) ((h.2 c4).1 c5)), fun c5 => s_aload_n E119_105.1 (k_ E119_105) rfl (s_getR E119_106.1 (k_ E119_106) rfl rfl (s_iload E119_109.1 (k_ E119_109) rfl (s_aload_n E119_111.1 (k_ E119_111) rfl (s_aload_n E119_112.1 (k_ E119_112) rfl (s_getR E119_113.1 (k_ E119_113) rfl rfl (s_iload E119_116.1 (k_ E119_116) rfl (s_iaload E119_118.1 (k_ E119_118) rfl ⟨((h.2 c4).2 c5).1, s_iload E119_119.1 (k_ E119_119) rfl (s_aload_n E119_121.1 (k_ E119_121) rfl (s_getR E119_122.1 (k_ E119_122) rfl rfl (s_bipush E119_125.1 (k_ E119_125) (s_iload_n E119_127.1 (k_ E119_127) rfl (s_imul E119_128.1 (k_ E119_128) (s_iload E119_129.1 (k_ E119_129) rfl (s_iadd E119_131.1 (k_ E119_131) (s_iaload E119_132.1 (k_ E119_132) rfl ⟨(((h.2 c4).2 c5).2).1, s_imul E119_133.1 (k_ E119_133) (s_isub E119_134.1 (k_ E119_134) (s_i2l E119_135.1 (k_ E119_135) (s_vcall1 E119_136.1 (k_ E119_136) rfl rfl rfl ((((h.2 c4).2 c5).2).2) (fun M2 r3 z6 => s_iastore E119_139.1 (k_ E119_139) rfl ⟨z6.1, s_iinc E119_140.1 (k_ E119_140) rfl (s_goto E119_143.1 (k_ E119_143) (z6.2))⟩))))⟩))))))))⟩)))))))⟩)⟩)))
theorem g_X7_isSum_149 {Q : bQ} {M : bM} {x1 : Int32} {x2 : Int32} {x3 : Int32} {x4 : Int32} {x5 : Int32} (h : (((M 26 0 31) ≤ x5) → bGo 119 Q 67 [some (cR 26 0), some (cI x1), some (cI x2), some (cI (x3 + (1 : Int32))), some (cI x4), some (cI x5)] [] M) ∧ (¬ ((M 26 0 31) ≤ x5) → (((x4 = 0) → bGo 119 Q 67 [some (cR 26 0), some (cI x1), some (cI x2), some (cI (x3 + (1 : Int32))), some (cI x4), some (cI x5)] [] M) ∧ (¬ (x4 = 0) → ((vp_in x5 33) ∧ ((vp_in (((32 : Int32) * x3) + x5) 1024) ∧ (bCall 118 [cR 26 0, cL (((M 45 0 x5.toNatClampNeg) - (x4 * (M 42 0 (((32 : Int32) * x3) + x5).toNatClampNeg))).toInt64)] M (fun v1 M2 => bV1 v1 fun r3 => ((vp_in x5 33) ∧ bGo 119 Q 149 [some (cR 26 0), some (cI x1), some (cI x2), some (cI x3), some (cI x4), some (cI (x5 + (1 : Int32)))] [] (bU M2 45 0 x5.toNatClampNeg r3)))))))))) : bGo 119 Q 149 [some (cR 26 0), some (cI x1), some (cI x2), some (cI x3), some (cI x4), some (cI x5)] [] M := s_iload E119_149.1 (k_ E119_149) rfl (s_aload_n E119_151.1 (k_ E119_151) rfl (s_getI0 E119_152.1 (k_ E119_152) rfl (s_icmp_ge E119_155.1 (k_ E119_155) ⟨fun c7 => s_iinc E119_204.1 (k_ E119_204) rfl (s_goto E119_207.1 (k_ E119_207) (h.1 c7)), fun c7 => s_iload E119_158.1 (k_ E119_158) rfl (s_if_eq E119_160.1 (k_ E119_160) ⟨fun c8 => s_iinc E119_204.1 (k_ E119_204) rfl (s_goto E119_207.1 (k_ E119_207) ((h.2 c7).1 c8)), fun c8 => s_aload_n E119_163.1 (k_ E119_163) rfl (s_getR E119_164.1 (k_ E119_164) rfl rfl (s_iload E119_167.1 (k_ E119_167) rfl (s_aload_n E119_169.1 (k_ E119_169) rfl (s_aload_n E119_170.1 (k_ E119_170) rfl (s_getR E119_171.1 (k_ E119_171) rfl rfl (s_iload E119_174.1 (k_ E119_174) rfl (s_iaload E119_176.1 (k_ E119_176) rfl ⟨((h.2 c7).2 c8).1, s_iload E119_177.1 (k_ E119_177) rfl (s_aload_n E119_179.1 (k_ E119_179) rfl (s_getR E119_180.1 (k_ E119_180) rfl rfl (s_bipush E119_183.1 (k_ E119_183) (s_iload_n E119_185.1 (k_ E119_185) rfl (s_imul E119_186.1 (k_ E119_186) (s_iload E119_187.1 (k_ E119_187) rfl (s_iadd E119_189.1 (k_ E119_189) (s_iaload E119_190.1 (k_ E119_190) rfl ⟨(((h.2 c7).2 c8).2).1, s_imul E119_191.1 (k_ E119_191) (s_isub E119_192.1 (k_ E119_192) (s_i2l E119_193.1 (k_ E119_193) (s_vcall1 E119_194.1 (k_ E119_194) rfl rfl rfl ((((h.2 c7).2 c8).2).2) (fun M2 r3 z9 => s_iastore E119_197.1 (k_ E119_197) rfl ⟨z9.1, s_iinc E119_198.1 (k_ E119_198) rfl (s_goto E119_201.1 (k_ E119_201) (z9.2))⟩))))⟩))))))))⟩)))))))⟩)⟩)))
theorem g_X7_isSum_212 {Q : bQ} {M : bM} {x1 : Int32} {x2 : Int32} {x3 : Int32} {o4 : Option bV} {o5 : Option bV} (h : (((M 26 0 26) ≤ x3) → (((¬ x3 = (M 26 0 26)) → (((0 : Int32) = 0 ∨ (0 : Int32) = 1) ∧ Q (some (cI (0 : Int32))) M)) ∧ (¬ (¬ x3 = (M 26 0 26)) → (((1 : Int32) = 0 ∨ (1 : Int32) = 1) ∧ Q (some (cI (1 : Int32))) M)))) ∧ (¬ ((M 26 0 26) ≤ x3) → ((vp_in x3 32) ∧ (((¬ (M 44 0 x3.toNatClampNeg) = 0) → (((¬ x3 = (M 26 0 26)) → (((0 : Int32) = 0 ∨ (0 : Int32) = 1) ∧ Q (some (cI (0 : Int32))) M)) ∧ (¬ (¬ x3 = (M 26 0 26)) → (((1 : Int32) = 0 ∨ (1 : Int32) = 1) ∧ Q (some (cI (1 : Int32))) M)))) ∧ (¬ (¬ (M 44 0 x3.toNatClampNeg) = 0) → bGo 119 Q 212 [some (cR 26 0), some (cI x1), some (cI x2), some (cI (x3 + (1 : Int32))), none, none] [] M))))) : bGo 119 Q 212 [some (cR 26 0), some (cI x1), some (cI x2), some (cI x3), o4, o5] [] M := s_iload_n E119_212 rfl rfl (s_aload_n E119_213.1 (k_ E119_213) rfl (s_getI0 E119_214.1 (k_ E119_214) rfl (s_icmp_ge E119_217.1 (k_ E119_217) ⟨fun c10 => s_iload_n E119_235.1 (k_ E119_235) rfl (s_aload_n E119_236.1 (k_ E119_236) rfl (s_getI0 E119_237.1 (k_ E119_237) rfl (s_icmp_ne E119_240.1 (k_ E119_240) ⟨fun c11 => s_iconst E119_247.1 (k_ E119_247) (s_zret E119_248.1 (k_ E119_248) ((h.1 c10).1 c11)), fun c11 => s_iconst E119_243.1 (k_ E119_243) (s_goto E119_244.1 (k_ E119_244) (s_zret E119_248.1 (k_ E119_248) ((h.1 c10).2 c11)))⟩))), fun c10 => s_aload_n E119_220.1 (k_ E119_220) rfl (s_getR E119_221.1 (k_ E119_221) rfl rfl (s_iload_n E119_224.1 (k_ E119_224) rfl (s_iaload E119_225.1 (k_ E119_225) rfl ⟨(h.2 c10).1, s_if_ne E119_226.1 (k_ E119_226) ⟨fun c12 => s_iload_n E119_235.1 (k_ E119_235) rfl (s_aload_n E119_236.1 (k_ E119_236) rfl (s_getI0 E119_237.1 (k_ E119_237) rfl (s_icmp_ne E119_240.1 (k_ E119_240) ⟨fun c13 => s_iconst E119_247.1 (k_ E119_247) (s_zret E119_248.1 (k_ E119_248) ((((h.2 c10).2).1 c12).1 c13)), fun c13 => s_iconst E119_243.1 (k_ E119_243) (s_goto E119_244.1 (k_ E119_244) (s_zret E119_248.1 (k_ E119_248) ((((h.2 c10).2).1 c12).2 c13)))⟩))), fun c12 => s_iinc E119_229.1 (k_ E119_229) rfl (s_goto E119_232.1 (k_ E119_232) (((h.2 c10).2).2 c12))⟩⟩)))⟩)))
-- 120: X7_makesRow
theorem E120_0 : aCode 120 0 = (Instr.iconst 0, 1, [], 0) ∧ bMask 120 0 = [] := ⟨rfl, rfl⟩
theorem E120_1 : aCode 120 1 = (Instr.istore_n 3, 2, [], 0) ∧ bMask 120 1 = [] := ⟨rfl, rfl⟩
theorem E120_2 : aCode 120 2 = (Instr.iload_n 3, 3, [], 0) ∧ bMask 120 2 = [] := ⟨rfl, rfl⟩
theorem E120_3 : aCode 120 3 = (Instr.sipush 132, 6, [], 132) ∧ bMask 120 3 = [] := ⟨rfl, rfl⟩
theorem E120_6 : aCode 120 6 = (Instr.if_icmp .ge 22, 9, [28], 0) ∧ bMask 120 6 = [] := ⟨rfl, rfl⟩
theorem E120_9 : aCode 120 9 = (Instr.aload_n 0, 10, [], 0) ∧ bMask 120 9 = [] := ⟨rfl, rfl⟩
theorem E120_10 : aCode 120 10 = (Instr.getfield 60, 13, [105, 7, 29, 2], 0) ∧ bMask 120 10 = [] := ⟨rfl, rfl⟩
theorem E120_13 : aCode 120 13 = (Instr.sipush 132, 16, [], 132) ∧ bMask 120 13 = [] := ⟨rfl, rfl⟩
theorem E120_16 : aCode 120 16 = (Instr.iload_n 1, 17, [], 0) ∧ bMask 120 16 = [] := ⟨rfl, rfl⟩
theorem E120_17 : aCode 120 17 = (Instr.imul, 18, [], 0) ∧ bMask 120 17 = [] := ⟨rfl, rfl⟩
theorem E120_18 : aCode 120 18 = (Instr.iload_n 3, 19, [], 0) ∧ bMask 120 18 = [] := ⟨rfl, rfl⟩
theorem E120_19 : aCode 120 19 = (Instr.iadd, 20, [], 0) ∧ bMask 120 19 = [] := ⟨rfl, rfl⟩
theorem E120_20 : aCode 120 20 = (Instr.iconst 0, 21, [], 0) ∧ bMask 120 20 = [] := ⟨rfl, rfl⟩
theorem E120_21 : aCode 120 21 = (Instr.iastore, 22, [0], 0) ∧ bMask 120 21 = [] := ⟨rfl, rfl⟩
theorem E120_22 : aCode 120 22 = (Instr.iinc 3 1, 25, [], 1) ∧ bMask 120 22 = [] := ⟨rfl, rfl⟩
theorem E120_25 : aCode 120 25 = (Instr.goto (-23), 2, [], 0) ∧ bMask 120 25 = [] := ⟨rfl, rfl⟩
theorem E120_28 : aCode 120 28 = (Instr.iconst 0, 29, [], 0) ∧ bMask 120 28 = [] := ⟨rfl, rfl⟩
theorem E120_29 : aCode 120 29 = (Instr.istore_n 3, 30, [], 0) ∧ bMask 120 29 = [] := ⟨rfl, rfl⟩
theorem E120_30 : aCode 120 30 = (Instr.iload_n 3, 31, [], 0) ∧ bMask 120 30 = [] := ⟨rfl, rfl⟩
theorem E120_31 : aCode 120 31 = (Instr.aload_n 0, 32, [], 0) ∧ bMask 120 31 = [] := ⟨rfl, rfl⟩
theorem E120_32 : aCode 120 32 = (Instr.getfield 233, 35, [101, 7, 31, 0], 0) ∧ bMask 120 32 = [] := ⟨rfl, rfl⟩
theorem E120_35 : aCode 120 35 = (Instr.if_icmp .ge 32, 38, [67], 0) ∧ bMask 120 35 = [] := ⟨rfl, rfl⟩
theorem E120_38 : aCode 120 38 = (Instr.aload_n 0, 39, [], 0) ∧ bMask 120 38 = [] := ⟨rfl, rfl⟩
theorem E120_39 : aCode 120 39 = (Instr.getfield 60, 42, [105, 7, 29, 2], 0) ∧ bMask 120 39 = [] := ⟨rfl, rfl⟩
theorem E120_42 : aCode 120 42 = (Instr.sipush 132, 45, [], 132) ∧ bMask 120 42 = [] := ⟨rfl, rfl⟩
theorem E120_45 : aCode 120 45 = (Instr.iload_n 1, 46, [], 0) ∧ bMask 120 45 = [] := ⟨rfl, rfl⟩
theorem E120_46 : aCode 120 46 = (Instr.imul, 47, [], 0) ∧ bMask 120 46 = [] := ⟨rfl, rfl⟩
theorem E120_47 : aCode 120 47 = (Instr.aload_n 0, 48, [], 0) ∧ bMask 120 47 = [] := ⟨rfl, rfl⟩
theorem E120_48 : aCode 120 48 = (Instr.getfield 66, 51, [106, 7, 32, 2], 0) ∧ bMask 120 48 = [] := ⟨rfl, rfl⟩
theorem E120_51 : aCode 120 51 = (Instr.iload_n 3, 52, [], 0) ∧ bMask 120 51 = [] := ⟨rfl, rfl⟩
theorem E120_52 : aCode 120 52 = (Instr.iaload, 53, [0], 0) ∧ bMask 120 52 = [] := ⟨rfl, rfl⟩
theorem E120_53 : aCode 120 53 = (Instr.iadd, 54, [], 0) ∧ bMask 120 53 = [] := ⟨rfl, rfl⟩
theorem E120_54 : aCode 120 54 = (Instr.aload_n 0, 55, [], 0) ∧ bMask 120 54 = [] := ⟨rfl, rfl⟩
theorem E120_55 : aCode 120 55 = (Instr.getfield 81, 58, [100, 7, 37, 2], 0) ∧ bMask 120 55 = [] := ⟨rfl, rfl⟩
theorem E120_58 : aCode 120 58 = (Instr.iload_n 3, 59, [], 0) ∧ bMask 120 58 = [] := ⟨rfl, rfl⟩
theorem E120_59 : aCode 120 59 = (Instr.iaload, 60, [0], 0) ∧ bMask 120 59 = [] := ⟨rfl, rfl⟩
theorem E120_60 : aCode 120 60 = (Instr.iastore, 61, [0], 0) ∧ bMask 120 60 = [] := ⟨rfl, rfl⟩
theorem E120_61 : aCode 120 61 = (Instr.iinc 3 1, 64, [], 1) ∧ bMask 120 61 = [] := ⟨rfl, rfl⟩
theorem E120_64 : aCode 120 64 = (Instr.goto (-34), 30, [], 0) ∧ bMask 120 64 = [] := ⟨rfl, rfl⟩
theorem E120_67 : aCode 120 67 = (Instr.aload_n 0, 68, [], 0) ∧ bMask 120 67 = [] := ⟨rfl, rfl⟩
theorem E120_68 : aCode 120 68 = (Instr.getfield 60, 71, [105, 7, 29, 2], 0) ∧ bMask 120 68 = [] := ⟨rfl, rfl⟩
theorem E120_71 : aCode 120 71 = (Instr.sipush 132, 74, [], 132) ∧ bMask 120 71 = [] := ⟨rfl, rfl⟩
theorem E120_74 : aCode 120 74 = (Instr.iload_n 1, 75, [], 0) ∧ bMask 120 74 = [] := ⟨rfl, rfl⟩
theorem E120_75 : aCode 120 75 = (Instr.imul, 76, [], 0) ∧ bMask 120 75 = [] := ⟨rfl, rfl⟩
theorem E120_76 : aCode 120 76 = (Instr.bipush 33, 78, [], 33) ∧ bMask 120 76 = [] := ⟨rfl, rfl⟩
theorem E120_78 : aCode 120 78 = (Instr.iload_n 1, 79, [], 0) ∧ bMask 120 78 = [] := ⟨rfl, rfl⟩
theorem E120_79 : aCode 120 79 = (Instr.imul, 80, [], 0) ∧ bMask 120 79 = [] := ⟨rfl, rfl⟩
theorem E120_80 : aCode 120 80 = (Instr.iadd, 81, [], 0) ∧ bMask 120 80 = [] := ⟨rfl, rfl⟩
theorem E120_81 : aCode 120 81 = (Instr.iload_n 2, 82, [], 0) ∧ bMask 120 81 = [] := ⟨rfl, rfl⟩
theorem E120_82 : aCode 120 82 = (Instr.iadd, 83, [], 0) ∧ bMask 120 82 = [] := ⟨rfl, rfl⟩
theorem E120_83 : aCode 120 83 = (Instr.iconst 1, 84, [], 1) ∧ bMask 120 83 = [] := ⟨rfl, rfl⟩
theorem E120_84 : aCode 120 84 = (Instr.iastore, 85, [0], 0) ∧ bMask 120 84 = [] := ⟨rfl, rfl⟩
theorem E120_85 : aCode 120 85 = (Instr.aload_n 0, 86, [], 0) ∧ bMask 120 85 = [] := ⟨rfl, rfl⟩
theorem E120_86 : aCode 120 86 = (Instr.getfield 63, 89, [107, 7, 30, 2], 0) ∧ bMask 120 86 = [] := ⟨rfl, rfl⟩
theorem E120_89 : aCode 120 89 = (Instr.iload_n 1, 90, [], 0) ∧ bMask 120 89 = [] := ⟨rfl, rfl⟩
theorem E120_90 : aCode 120 90 = (Instr.iload_n 2, 91, [], 0) ∧ bMask 120 90 = [] := ⟨rfl, rfl⟩
theorem E120_91 : aCode 120 91 = (Instr.iastore, 92, [0], 0) ∧ bMask 120 91 = [] := ⟨rfl, rfl⟩
theorem E120_92 : aCode 120 92 = (Instr.return_, 93, [], 0) ∧ bMask 120 92 = [] := ⟨rfl, rfl⟩
theorem g_X7_makesRow_0 {Q : bQ} {M : bM} {x1 : Int32} {x2 : Int32} (h : bGo 120 Q 2 [some (cR 26 0), some (cI x1), some (cI x2), some (cI (0 : Int32))] [] M) : bCall 120 [cR 26 0, cI x1, cI x2] M Q := s_iconst E120_0.1 (k_ E120_0) (s_istore_n E120_1.1 (k_ E120_1) (h))
theorem g_X7_makesRow_2 {Q : bQ} {M : bM} {x1 : Int32} {x2 : Int32} {x3 : Int32} (h : (((132 : Int32) ≤ x3) → bGo 120 Q 30 [some (cR 26 0), some (cI x1), some (cI x2), some (cI (0 : Int32))] [] M) ∧ (¬ ((132 : Int32) ≤ x3) → ((vp_in (((132 : Int32) * x1) + x3) 528) ∧ bGo 120 Q 2 [some (cR 26 0), some (cI x1), some (cI x2), some (cI (x3 + (1 : Int32)))] [] (bU M 38 0 (((132 : Int32) * x1) + x3).toNatClampNeg (0 : Int32))))) : bGo 120 Q 2 [some (cR 26 0), some (cI x1), some (cI x2), some (cI x3)] [] M := s_iload_n E120_2.1 (k_ E120_2) rfl (s_sipush E120_3.1 (k_ E120_3) (s_icmp_ge E120_6.1 (k_ E120_6) ⟨fun c0 => s_iconst E120_28.1 (k_ E120_28) (s_istore_n E120_29.1 (k_ E120_29) (h.1 c0)), fun c0 => s_aload_n E120_9.1 (k_ E120_9) rfl (s_getR E120_10.1 (k_ E120_10) rfl rfl (s_sipush E120_13.1 (k_ E120_13) (s_iload_n E120_16.1 (k_ E120_16) rfl (s_imul E120_17.1 (k_ E120_17) (s_iload_n E120_18.1 (k_ E120_18) rfl (s_iadd E120_19.1 (k_ E120_19) (s_iconst E120_20.1 (k_ E120_20) (s_iastore E120_21.1 (k_ E120_21) rfl ⟨(h.2 c0).1, s_iinc E120_22.1 (k_ E120_22) rfl (s_goto E120_25.1 (k_ E120_25) ((h.2 c0).2))⟩))))))))⟩))
theorem g_X7_makesRow_30 {Q : bQ} {M : bM} {x1 : Int32} {x2 : Int32} {x3 : Int32} (h : (((M 26 0 31) ≤ x3) → ((vp_in ((((132 : Int32) * x1) + ((33 : Int32) * x1)) + x2) 528) ∧ ((vp_in x1 4) ∧ (Q none (bU (bU M 38 0 ((((132 : Int32) * x1) + ((33 : Int32) * x1)) + x2).toNatClampNeg (1 : Int32)) 39 0 x1.toNatClampNeg x2))))) ∧ (¬ ((M 26 0 31) ≤ x3) → ((vp_in x3 32) ∧ ((vp_in x3 33) ∧ ((vp_in (((132 : Int32) * x1) + (M 40 0 x3.toNatClampNeg)) 528) ∧ bGo 120 Q 30 [some (cR 26 0), some (cI x1), some (cI x2), some (cI (x3 + (1 : Int32)))] [] (bU M 38 0 (((132 : Int32) * x1) + (M 40 0 x3.toNatClampNeg)).toNatClampNeg (M 45 0 x3.toNatClampNeg))))))) : bGo 120 Q 30 [some (cR 26 0), some (cI x1), some (cI x2), some (cI x3)] [] M := s_iload_n E120_30.1 (k_ E120_30) rfl (s_aload_n E120_31.1 (k_ E120_31) rfl (s_getI0 E120_32.1 (k_ E120_32) rfl (s_icmp_ge E120_35.1 (k_ E120_35) ⟨fun c1 => s_aload_n E120_67.1 (k_ E120_67) rfl (s_getR E120_68.1 (k_ E120_68) rfl rfl (s_sipush E120_71.1 (k_ E120_71) (s_iload_n E120_74.1 (k_ E120_74) rfl (s_imul E120_75.1 (k_ E120_75) (s_bipush E120_76.1 (k_ E120_76) (s_iload_n E120_78.1 (k_ E120_78) rfl (s_imul E120_79.1 (k_ E120_79) (s_iadd E120_80.1 (k_ E120_80) (s_iload_n E120_81.1 (k_ E120_81) rfl (s_iadd E120_82.1 (k_ E120_82) (s_iconst E120_83.1 (k_ E120_83) (s_iastore E120_84.1 (k_ E120_84) rfl ⟨(h.1 c1).1, s_aload_n E120_85.1 (k_ E120_85) rfl (s_getR E120_86.1 (k_ E120_86) rfl rfl (s_iload_n E120_89.1 (k_ E120_89) rfl (s_iload_n E120_90.1 (k_ E120_90) rfl (s_iastore E120_91.1 (k_ E120_91) rfl ⟨((h.1 c1).2).1, s_ret E120_92.1 (k_ E120_92) (((h.1 c1).2).2)⟩))))⟩)))))))))))), fun c1 => s_aload_n E120_38.1 (k_ E120_38) rfl (s_getR E120_39.1 (k_ E120_39) rfl rfl (s_sipush E120_42.1 (k_ E120_42) (s_iload_n E120_45.1 (k_ E120_45) rfl (s_imul E120_46.1 (k_ E120_46) (s_aload_n E120_47.1 (k_ E120_47) rfl (s_getR E120_48.1 (k_ E120_48) rfl rfl (s_iload_n E120_51.1 (k_ E120_51) rfl (s_iaload E120_52.1 (k_ E120_52) rfl ⟨(h.2 c1).1, s_iadd E120_53.1 (k_ E120_53) (s_aload_n E120_54.1 (k_ E120_54) rfl (s_getR E120_55.1 (k_ E120_55) rfl rfl (s_iload_n E120_58.1 (k_ E120_58) rfl (s_iaload E120_59.1 (k_ E120_59) rfl ⟨((h.2 c1).2).1, s_iastore E120_60.1 (k_ E120_60) rfl ⟨(((h.2 c1).2).2).1, s_iinc E120_61.1 (k_ E120_61) rfl (s_goto E120_64.1 (k_ E120_64) ((((h.2 c1).2).2).2))⟩⟩))))⟩))))))))⟩)))
-- 121: X7_inverseOf
theorem E121_0 : aCode 121 0 = (Instr.iconst 1, 1, [], 1) ∧ bMask 121 0 = [] := ⟨rfl, rfl⟩
theorem E121_1 : aCode 121 1 = (Instr.istore_n 2, 2, [], 0) ∧ bMask 121 1 = [] := ⟨rfl, rfl⟩
theorem E121_2 : aCode 121 2 = (Instr.iconst 0, 3, [], 0) ∧ bMask 121 2 = [] := ⟨rfl, rfl⟩
theorem E121_3 : aCode 121 3 = (Instr.istore_n 3, 4, [], 0) ∧ bMask 121 3 = [] := ⟨rfl, rfl⟩
theorem E121_4 : aCode 121 4 = (Instr.iload_n 3, 5, [], 0) ∧ bMask 121 4 = [] := ⟨rfl, rfl⟩
theorem E121_5 : aCode 121 5 = (Instr.aload_n 0, 6, [], 0) ∧ bMask 121 5 = [] := ⟨rfl, rfl⟩
theorem E121_6 : aCode 121 6 = (Instr.getfield 7, 9, [82, 7, 0, 0], 0) ∧ bMask 121 6 = [] := ⟨rfl, rfl⟩
theorem E121_9 : aCode 121 9 = (Instr.iconst 2, 10, [], 2) ∧ bMask 121 9 = [] := ⟨rfl, rfl⟩
theorem E121_10 : aCode 121 10 = (Instr.isub, 11, [], 0) ∧ bMask 121 10 = [] := ⟨rfl, rfl⟩
theorem E121_11 : aCode 121 11 = (Instr.if_icmp .ge 18, 14, [29], 0) ∧ bMask 121 11 = [] := ⟨rfl, rfl⟩
theorem E121_14 : aCode 121 14 = (Instr.iload_n 2, 15, [], 0) ∧ bMask 121 14 = [] := ⟨rfl, rfl⟩
theorem E121_15 : aCode 121 15 = (Instr.iload_n 1, 16, [], 0) ∧ bMask 121 15 = [] := ⟨rfl, rfl⟩
theorem E121_16 : aCode 121 16 = (Instr.imul, 17, [], 0) ∧ bMask 121 16 = [] := ⟨rfl, rfl⟩
theorem E121_17 : aCode 121 17 = (Instr.aload_n 0, 18, [], 0) ∧ bMask 121 17 = [] := ⟨rfl, rfl⟩
theorem E121_18 : aCode 121 18 = (Instr.getfield 7, 21, [82, 7, 0, 0], 0) ∧ bMask 121 18 = [] := ⟨rfl, rfl⟩
theorem E121_21 : aCode 121 21 = (Instr.irem, 22, [], 0) ∧ bMask 121 21 = [] := ⟨rfl, rfl⟩
theorem E121_22 : aCode 121 22 = (Instr.istore_n 2, 23, [], 0) ∧ bMask 121 22 = [] := ⟨rfl, rfl⟩
theorem E121_23 : aCode 121 23 = (Instr.iinc 3 1, 26, [], 1) ∧ bMask 121 23 = [] := ⟨rfl, rfl⟩
theorem E121_26 : aCode 121 26 = (Instr.goto (-22), 4, [], 0) ∧ bMask 121 26 = [] := ⟨rfl, rfl⟩
theorem E121_29 : aCode 121 29 = (Instr.iload_n 2, 30, [], 0) ∧ bMask 121 29 = [] := ⟨rfl, rfl⟩
theorem E121_30 : aCode 121 30 = (Instr.ireturn, 31, [0], 0) ∧ bMask 121 30 = [] := ⟨rfl, rfl⟩
theorem g_X7_inverseOf_0 {Q : bQ} {M : bM} {x1 : Int32} (h : bGo 121 Q 4 [some (cR 26 0), some (cI x1), some (cI (1 : Int32)), some (cI (0 : Int32))] [] M) : bCall 121 [cR 26 0, cI x1] M Q := s_iconst E121_0.1 (k_ E121_0) (s_istore_n E121_1.1 (k_ E121_1) (s_iconst E121_2.1 (k_ E121_2) (s_istore_n E121_3.1 (k_ E121_3) (h))))
theorem g_X7_inverseOf_4 {Q : bQ} {M : bM} {x1 : Int32} {x2 : Int32} {x3 : Int32} (h : ((((M 26 0 0) - (2 : Int32)) ≤ x3) → (Q (some (cI x2)) M)) ∧ (¬ (((M 26 0 0) - (2 : Int32)) ≤ x3) → ((¬ (M 26 0 0) = 0) ∧ bGo 121 Q 4 [some (cR 26 0), some (cI x1), some (cI (aRem (x2 * x1) (M 26 0 0))), some (cI (x3 + (1 : Int32)))] [] M))) : bGo 121 Q 4 [some (cR 26 0), some (cI x1), some (cI x2), some (cI x3)] [] M := s_iload_n E121_4.1 (k_ E121_4) rfl (s_aload_n E121_5.1 (k_ E121_5) rfl (s_getI0 E121_6.1 (k_ E121_6) rfl (s_iconst E121_9.1 (k_ E121_9) (s_isub E121_10.1 (k_ E121_10) (s_icmp_ge E121_11.1 (k_ E121_11) ⟨fun c0 => s_iload_n E121_29.1 (k_ E121_29) rfl (s_iret E121_30.1 (k_ E121_30) (h.1 c0)), fun c0 => s_iload_n E121_14.1 (k_ E121_14) rfl (s_iload_n E121_15.1 (k_ E121_15) rfl (s_imul E121_16.1 (k_ E121_16) (s_aload_n E121_17.1 (k_ E121_17) rfl (s_getI0 E121_18.1 (k_ E121_18) rfl (s_irem E121_21.1 (k_ E121_21) ⟨(h.2 c0).1, s_istore_n E121_22.1 (k_ E121_22) (s_iinc E121_23.1 (k_ E121_23) rfl (s_goto E121_26.1 (k_ E121_26) ((h.2 c0).2)))⟩)))))⟩)))))
-- 122: X7_standsAhead
theorem E122_0 : aCode 122 0 = (Instr.iconst 0, 1, [], 0) ∧ bMask 122 0 = [] := ⟨rfl, rfl⟩
theorem E122_1 : aCode 122 1 = (Instr.istore_n 3, 2, [], 0) ∧ bMask 122 1 = [] := ⟨rfl, rfl⟩
theorem E122_2 : aCode 122 2 = (Instr.aload_n 0, 3, [], 0) := rfl
theorem E122_3 : aCode 122 3 = (Instr.getfield 78, 6, [99, 7, 36, 2], 0) ∧ bMask 122 3 = [] := ⟨rfl, rfl⟩
theorem E122_6 : aCode 122 6 = (Instr.iload_n 3, 7, [], 0) ∧ bMask 122 6 = [] := ⟨rfl, rfl⟩
theorem E122_7 : aCode 122 7 = (Instr.iaload, 8, [0], 0) ∧ bMask 122 7 = [] := ⟨rfl, rfl⟩
theorem E122_8 : aCode 122 8 = (Instr.ifCond .ne 9, 11, [17], 0) ∧ bMask 122 8 = [] := ⟨rfl, rfl⟩
theorem E122_11 : aCode 122 11 = (Instr.iinc 3 1, 14, [], 1) ∧ bMask 122 11 = [] := ⟨rfl, rfl⟩
theorem E122_14 : aCode 122 14 = (Instr.goto (-12), 2, [], 0) ∧ bMask 122 14 = [] := ⟨rfl, rfl⟩
theorem E122_17 : aCode 122 17 = (Instr.aload_n 0, 18, [], 0) ∧ bMask 122 17 = [] := ⟨rfl, rfl⟩
theorem E122_18 : aCode 122 18 = (Instr.aload_n 0, 19, [], 0) ∧ bMask 122 18 = [] := ⟨rfl, rfl⟩
theorem E122_19 : aCode 122 19 = (Instr.getfield 78, 22, [99, 7, 36, 2], 0) ∧ bMask 122 19 = [] := ⟨rfl, rfl⟩
theorem E122_22 : aCode 122 22 = (Instr.iload_n 3, 23, [], 0) ∧ bMask 122 22 = [] := ⟨rfl, rfl⟩
theorem E122_23 : aCode 122 23 = (Instr.iaload, 24, [0], 0) ∧ bMask 122 23 = [] := ⟨rfl, rfl⟩
theorem E122_24 : aCode 122 24 = (Instr.invokevirtual 141, 27, [121, 2, 1, 7, 0, 99], 0) ∧ bMask 122 24 = [] := ⟨rfl, rfl⟩
theorem E122_27 : aCode 122 27 = (Instr.istore 4, 29, [], 0) ∧ bMask 122 27 = [] := ⟨rfl, rfl⟩
theorem E122_29 : aCode 122 29 = (Instr.iconst 0, 30, [], 0) ∧ bMask 122 29 = [] := ⟨rfl, rfl⟩
theorem E122_30 : aCode 122 30 = (Instr.istore 5, 32, [], 0) ∧ bMask 122 30 = [] := ⟨rfl, rfl⟩
theorem E122_32 : aCode 122 32 = (Instr.iload 5, 34, [], 0) ∧ bMask 122 32 = [] := ⟨rfl, rfl⟩
theorem E122_34 : aCode 122 34 = (Instr.aload_n 0, 35, [], 0) ∧ bMask 122 34 = [] := ⟨rfl, rfl⟩
theorem E122_35 : aCode 122 35 = (Instr.getfield 230, 38, [95, 7, 26, 0], 0) ∧ bMask 122 35 = [] := ⟨rfl, rfl⟩
theorem E122_38 : aCode 122 38 = (Instr.if_icmp .ge 39, 41, [77], 0) ∧ bMask 122 38 = [] := ⟨rfl, rfl⟩
theorem E122_41 : aCode 122 41 = (Instr.aload_n 0, 42, [], 0) ∧ bMask 122 41 = [] := ⟨rfl, rfl⟩
theorem E122_42 : aCode 122 42 = (Instr.getfield 69, 45, [103, 7, 33, 2], 0) ∧ bMask 122 42 = [] := ⟨rfl, rfl⟩
theorem E122_45 : aCode 122 45 = (Instr.bipush 32, 47, [], 32) ∧ bMask 122 45 = [] := ⟨rfl, rfl⟩
theorem E122_47 : aCode 122 47 = (Instr.aload_n 0, 48, [], 0) ∧ bMask 122 47 = [] := ⟨rfl, rfl⟩
theorem E122_48 : aCode 122 48 = (Instr.getfield 233, 51, [101, 7, 31, 0], 0) ∧ bMask 122 48 = [] := ⟨rfl, rfl⟩
theorem E122_51 : aCode 122 51 = (Instr.imul, 52, [], 0) ∧ bMask 122 51 = [] := ⟨rfl, rfl⟩
theorem E122_52 : aCode 122 52 = (Instr.iload 5, 54, [], 0) ∧ bMask 122 52 = [] := ⟨rfl, rfl⟩
theorem E122_54 : aCode 122 54 = (Instr.iadd, 55, [], 0) ∧ bMask 122 54 = [] := ⟨rfl, rfl⟩
theorem E122_55 : aCode 122 55 = (Instr.aload_n 0, 56, [], 0) ∧ bMask 122 55 = [] := ⟨rfl, rfl⟩
theorem E122_56 : aCode 122 56 = (Instr.getfield 78, 59, [99, 7, 36, 2], 0) ∧ bMask 122 56 = [] := ⟨rfl, rfl⟩
theorem E122_59 : aCode 122 59 = (Instr.iload 5, 61, [], 0) ∧ bMask 122 59 = [] := ⟨rfl, rfl⟩
theorem E122_61 : aCode 122 61 = (Instr.iaload, 62, [0], 0) ∧ bMask 122 61 = [] := ⟨rfl, rfl⟩
theorem E122_62 : aCode 122 62 = (Instr.iload 4, 64, [], 0) ∧ bMask 122 62 = [] := ⟨rfl, rfl⟩
theorem E122_64 : aCode 122 64 = (Instr.imul, 65, [], 0) ∧ bMask 122 64 = [] := ⟨rfl, rfl⟩
theorem E122_65 : aCode 122 65 = (Instr.aload_n 0, 66, [], 0) ∧ bMask 122 65 = [] := ⟨rfl, rfl⟩
theorem E122_66 : aCode 122 66 = (Instr.getfield 7, 69, [82, 7, 0, 0], 0) ∧ bMask 122 66 = [] := ⟨rfl, rfl⟩
theorem E122_69 : aCode 122 69 = (Instr.irem, 70, [], 0) ∧ bMask 122 69 = [] := ⟨rfl, rfl⟩
theorem E122_70 : aCode 122 70 = (Instr.iastore, 71, [0], 0) ∧ bMask 122 70 = [] := ⟨rfl, rfl⟩
theorem E122_71 : aCode 122 71 = (Instr.iinc 5 1, 74, [], 1) ∧ bMask 122 71 = [] := ⟨rfl, rfl⟩
theorem E122_74 : aCode 122 74 = (Instr.goto (-42), 32, [], 0) ∧ bMask 122 74 = [] := ⟨rfl, rfl⟩
theorem E122_77 : aCode 122 77 = (Instr.iconst 0, 78, [], 0) ∧ bMask 122 77 = [] := ⟨rfl, rfl⟩
theorem E122_78 : aCode 122 78 = (Instr.istore 5, 80, [], 0) ∧ bMask 122 78 = [] := ⟨rfl, rfl⟩
theorem E122_80 : aCode 122 80 = (Instr.iload 5, 82, [], 0) ∧ bMask 122 80 = [] := ⟨rfl, rfl⟩
theorem E122_82 : aCode 122 82 = (Instr.bipush 32, 84, [], 32) ∧ bMask 122 82 = [] := ⟨rfl, rfl⟩
theorem E122_84 : aCode 122 84 = (Instr.if_icmp .ge 53, 87, [137], 0) ∧ bMask 122 84 = [] := ⟨rfl, rfl⟩
theorem E122_87 : aCode 122 87 = (Instr.aload_n 0, 88, [], 0) ∧ bMask 122 87 = [] := ⟨rfl, rfl⟩
theorem E122_88 : aCode 122 88 = (Instr.getfield 72, 91, [104, 7, 34, 2], 0) ∧ bMask 122 88 = [] := ⟨rfl, rfl⟩
theorem E122_91 : aCode 122 91 = (Instr.bipush 32, 93, [], 32) ∧ bMask 122 91 = [] := ⟨rfl, rfl⟩
theorem E122_93 : aCode 122 93 = (Instr.aload_n 0, 94, [], 0) ∧ bMask 122 93 = [] := ⟨rfl, rfl⟩
theorem E122_94 : aCode 122 94 = (Instr.getfield 233, 97, [101, 7, 31, 0], 0) ∧ bMask 122 94 = [] := ⟨rfl, rfl⟩
theorem E122_97 : aCode 122 97 = (Instr.imul, 98, [], 0) ∧ bMask 122 97 = [] := ⟨rfl, rfl⟩
theorem E122_98 : aCode 122 98 = (Instr.iload 5, 100, [], 0) ∧ bMask 122 98 = [] := ⟨rfl, rfl⟩
theorem E122_100 : aCode 122 100 = (Instr.iadd, 101, [], 0) ∧ bMask 122 100 = [] := ⟨rfl, rfl⟩
theorem E122_101 : aCode 122 101 = (Instr.iload 5, 103, [], 0) ∧ bMask 122 101 = [] := ⟨rfl, rfl⟩
theorem E122_103 : aCode 122 103 = (Instr.aload_n 0, 104, [], 0) ∧ bMask 122 103 = [] := ⟨rfl, rfl⟩
theorem E122_104 : aCode 122 104 = (Instr.getfield 233, 107, [101, 7, 31, 0], 0) ∧ bMask 122 104 = [] := ⟨rfl, rfl⟩
theorem E122_107 : aCode 122 107 = (Instr.if_icmp .ne 8, 110, [115], 0) ∧ bMask 122 107 = [] := ⟨rfl, rfl⟩
theorem E122_110 : aCode 122 110 = (Instr.iload 4, 112, [], 0) ∧ bMask 122 110 = [] := ⟨rfl, rfl⟩
theorem E122_112 : aCode 122 112 = (Instr.goto 18, 130, [], 0) ∧ bMask 122 112 = [] := ⟨rfl, rfl⟩
theorem E122_115 : aCode 122 115 = (Instr.aload_n 0, 116, [], 0) ∧ bMask 122 115 = [] := ⟨rfl, rfl⟩
theorem E122_116 : aCode 122 116 = (Instr.getfield 81, 119, [100, 7, 37, 2], 0) ∧ bMask 122 116 = [] := ⟨rfl, rfl⟩
theorem E122_119 : aCode 122 119 = (Instr.iload 5, 121, [], 0) ∧ bMask 122 119 = [] := ⟨rfl, rfl⟩
theorem E122_121 : aCode 122 121 = (Instr.iaload, 122, [0], 0) ∧ bMask 122 121 = [] := ⟨rfl, rfl⟩
theorem E122_122 : aCode 122 122 = (Instr.iload 4, 124, [], 0) ∧ bMask 122 122 = [] := ⟨rfl, rfl⟩
theorem E122_124 : aCode 122 124 = (Instr.imul, 125, [], 0) ∧ bMask 122 124 = [] := ⟨rfl, rfl⟩
theorem E122_125 : aCode 122 125 = (Instr.aload_n 0, 126, [], 0) ∧ bMask 122 125 = [] := ⟨rfl, rfl⟩
theorem E122_126 : aCode 122 126 = (Instr.getfield 7, 129, [82, 7, 0, 0], 0) ∧ bMask 122 126 = [] := ⟨rfl, rfl⟩
theorem E122_129 : aCode 122 129 = (Instr.irem, 130, [], 0) ∧ bMask 122 129 = [] := ⟨rfl, rfl⟩
theorem E122_130 : aCode 122 130 = (Instr.iastore, 131, [0], 0) ∧ bMask 122 130 = [] := ⟨rfl, rfl⟩
theorem E122_131 : aCode 122 131 = (Instr.iinc 5 1, 134, [], 1) ∧ bMask 122 131 = [] := ⟨rfl, rfl⟩
theorem E122_134 : aCode 122 134 = (Instr.goto (-54), 80, [], 0) ∧ bMask 122 134 = [] := ⟨rfl, rfl⟩
theorem E122_137 : aCode 122 137 = (Instr.aload_n 0, 138, [], 0) ∧ bMask 122 137 = [] := ⟨rfl, rfl⟩
theorem E122_138 : aCode 122 138 = (Instr.getfield 75, 141, [102, 7, 35, 2], 0) ∧ bMask 122 138 = [] := ⟨rfl, rfl⟩
theorem E122_141 : aCode 122 141 = (Instr.aload_n 0, 142, [], 0) ∧ bMask 122 141 = [] := ⟨rfl, rfl⟩
theorem E122_142 : aCode 122 142 = (Instr.getfield 233, 145, [101, 7, 31, 0], 0) ∧ bMask 122 142 = [] := ⟨rfl, rfl⟩
theorem E122_145 : aCode 122 145 = (Instr.iload_n 3, 146, [], 0) ∧ bMask 122 145 = [] := ⟨rfl, rfl⟩
theorem E122_146 : aCode 122 146 = (Instr.iastore, 147, [0], 0) ∧ bMask 122 146 = [] := ⟨rfl, rfl⟩
theorem E122_147 : aCode 122 147 = (Instr.aload_n 0, 148, [], 0) ∧ bMask 122 147 = [] := ⟨rfl, rfl⟩
theorem E122_148 : aCode 122 148 = (Instr.getfield 66, 151, [106, 7, 32, 2], 0) ∧ bMask 122 148 = [] := ⟨rfl, rfl⟩
theorem E122_151 : aCode 122 151 = (Instr.aload_n 0, 152, [], 0) ∧ bMask 122 151 = [] := ⟨rfl, rfl⟩
theorem E122_152 : aCode 122 152 = (Instr.getfield 233, 155, [101, 7, 31, 0], 0) ∧ bMask 122 152 = [] := ⟨rfl, rfl⟩
theorem E122_155 : aCode 122 155 = (Instr.bipush 33, 157, [], 33) ∧ bMask 122 155 = [] := ⟨rfl, rfl⟩
theorem E122_157 : aCode 122 157 = (Instr.iload_n 1, 158, [], 0) ∧ bMask 122 157 = [] := ⟨rfl, rfl⟩
theorem E122_158 : aCode 122 158 = (Instr.imul, 159, [], 0) ∧ bMask 122 158 = [] := ⟨rfl, rfl⟩
theorem E122_159 : aCode 122 159 = (Instr.iload_n 2, 160, [], 0) ∧ bMask 122 159 = [] := ⟨rfl, rfl⟩
theorem E122_160 : aCode 122 160 = (Instr.iadd, 161, [], 0) ∧ bMask 122 160 = [] := ⟨rfl, rfl⟩
theorem E122_161 : aCode 122 161 = (Instr.iastore, 162, [0], 0) ∧ bMask 122 161 = [] := ⟨rfl, rfl⟩
theorem E122_162 : aCode 122 162 = (Instr.aload_n 0, 163, [], 0) ∧ bMask 122 162 = [] := ⟨rfl, rfl⟩
theorem E122_163 : aCode 122 163 = (Instr.dup, 164, [], 0) ∧ bMask 122 163 = [] := ⟨rfl, rfl⟩
theorem E122_164 : aCode 122 164 = (Instr.getfield 233, 167, [101, 7, 31, 0], 0) ∧ bMask 122 164 = [] := ⟨rfl, rfl⟩
theorem E122_167 : aCode 122 167 = (Instr.iconst 1, 168, [], 1) ∧ bMask 122 167 = [] := ⟨rfl, rfl⟩
theorem E122_168 : aCode 122 168 = (Instr.iadd, 169, [], 0) ∧ bMask 122 168 = [] := ⟨rfl, rfl⟩
theorem E122_169 : aCode 122 169 = (Instr.putfield 233, 172, [101, 7, 31, 0], 0) ∧ bMask 122 169 = [] := ⟨rfl, rfl⟩
theorem E122_172 : aCode 122 172 = (Instr.return_, 173, [], 0) ∧ bMask 122 172 = [] := ⟨rfl, rfl⟩
theorem g_X7_standsAhead_0 {Q : bQ} {M : bM} {x1 : Int32} {x2 : Int32} (h : bGo 122 Q 2 [some (cR 26 0), some (cI x1), some (cI x2), some (cI (0 : Int32)), none, none] [] M) : bCall 122 [cR 26 0, cI x1, cI x2] M Q := s_iconst E122_0.1 (k_ E122_0) (s_istore_n E122_1.1 (k_ E122_1) (h))
theorem g_X7_standsAhead_2 {Q : bQ} {M : bM} {x1 : Int32} {x2 : Int32} {x3 : Int32} {o4 : Option bV} {o5 : Option bV} (h : (vp_in x3 32) ∧ (((¬ (M 44 0 x3.toNatClampNeg) = 0) → ((vp_in x3 32) ∧ (bCall 121 [cR 26 0, cI (M 44 0 x3.toNatClampNeg)] M (fun v1 M2 => bV1 v1 fun r3 => (bGo 122 Q 32 [some (cR 26 0), some (cI x1), some (cI x2), some (cI x3), some (cI r3), some (cI (0 : Int32))] [] M2))))) ∧ (¬ (¬ (M 44 0 x3.toNatClampNeg) = 0) → bGo 122 Q 2 [some (cR 26 0), some (cI x1), some (cI x2), some (cI (x3 + (1 : Int32))), none, none] [] M))) : bGo 122 Q 2 [some (cR 26 0), some (cI x1), some (cI x2), some (cI x3), o4, o5] [] M := s_aload_n E122_2 rfl rfl (s_getR E122_3.1 (k_ E122_3) rfl rfl (s_iload_n E122_6.1 (k_ E122_6) rfl (s_iaload E122_7.1 (k_ E122_7) rfl ⟨h.1, s_if_ne E122_8.1 (k_ E122_8) ⟨fun c0 => s_aload_n E122_17.1 (k_ E122_17) rfl (s_aload_n E122_18.1 (k_ E122_18) rfl (s_getR E122_19.1 (k_ E122_19) rfl rfl (s_iload_n E122_22.1 (k_ E122_22) rfl (s_iaload E122_23.1 (k_ E122_23) rfl ⟨(h.2.1 c0).1, s_vcall1 E122_24.1 (k_ E122_24) rfl rfl rfl ((h.2.1 c0).2) (fun M2 r3 z1 => s_istore E122_27.1 (k_ E122_27) (s_iconst E122_29.1 (k_ E122_29) (s_istore E122_30.1 (k_ E122_30) (z1))))⟩)))), fun c0 => s_iinc E122_11.1 (k_ E122_11) rfl (s_goto E122_14.1 (k_ E122_14) (h.2.2 c0))⟩⟩)))
theorem g_X7_standsAhead_32 {Q : bQ} {M : bM} {x1 : Int32} {x2 : Int32} {x3 : Int32} {x4 : Int32} {x5 : Int32} (h : (((M 26 0 26) ≤ x5) → bGo 122 Q 80 [some (cR 26 0), some (cI x1), some (cI x2), some (cI x3), some (cI x4), some (cI (0 : Int32))] [] M) ∧ (¬ ((M 26 0 26) ≤ x5) → ((vp_in x5 32) ∧ ((¬ (M 26 0 0) = 0) ∧ ((vp_in (((32 : Int32) * (M 26 0 31)) + x5) 1024) ∧ bGo 122 Q 32 [some (cR 26 0), some (cI x1), some (cI x2), some (cI x3), some (cI x4), some (cI (x5 + (1 : Int32)))] [] (bU M 41 0 (((32 : Int32) * (M 26 0 31)) + x5).toNatClampNeg (aRem ((M 44 0 x5.toNatClampNeg) * x4) (M 26 0 0)))))))) : bGo 122 Q 32 [some (cR 26 0), some (cI x1), some (cI x2), some (cI x3), some (cI x4), some (cI x5)] [] M := s_iload E122_32.1 (k_ E122_32) rfl (s_aload_n E122_34.1 (k_ E122_34) rfl (s_getI0 E122_35.1 (k_ E122_35) rfl (s_icmp_ge E122_38.1 (k_ E122_38) ⟨fun c2 => s_iconst E122_77.1 (k_ E122_77) (s_istore E122_78.1 (k_ E122_78) (h.1 c2)), fun c2 => s_aload_n E122_41.1 (k_ E122_41) rfl (s_getR E122_42.1 (k_ E122_42) rfl rfl (s_bipush E122_45.1 (k_ E122_45) (s_aload_n E122_47.1 (k_ E122_47) rfl (s_getI0 E122_48.1 (k_ E122_48) rfl (s_imul E122_51.1 (k_ E122_51) (s_iload E122_52.1 (k_ E122_52) rfl (s_iadd E122_54.1 (k_ E122_54) (s_aload_n E122_55.1 (k_ E122_55) rfl (s_getR E122_56.1 (k_ E122_56) rfl rfl (s_iload E122_59.1 (k_ E122_59) rfl (s_iaload E122_61.1 (k_ E122_61) rfl ⟨(h.2 c2).1, s_iload E122_62.1 (k_ E122_62) rfl (s_imul E122_64.1 (k_ E122_64) (s_aload_n E122_65.1 (k_ E122_65) rfl (s_getI0 E122_66.1 (k_ E122_66) rfl (s_irem E122_69.1 (k_ E122_69) ⟨((h.2 c2).2).1, s_iastore E122_70.1 (k_ E122_70) rfl ⟨(((h.2 c2).2).2).1, s_iinc E122_71.1 (k_ E122_71) rfl (s_goto E122_74.1 (k_ E122_74) ((((h.2 c2).2).2).2))⟩⟩))))⟩)))))))))))⟩)))
theorem g_X7_standsAhead_80 {Q : bQ} {M : bM} {x1 : Int32} {x2 : Int32} {x3 : Int32} {x4 : Int32} {x5 : Int32} (h : (((32 : Int32) ≤ x5) → ((vp_in (M 26 0 31) 32) ∧ ((vp_in ((bU M 43 0 (M 26 0 31).toNatClampNeg x3) 26 0 31) 32) ∧ (Q none (bU (bU (bU M 43 0 (M 26 0 31).toNatClampNeg x3) 40 0 ((bU M 43 0 (M 26 0 31).toNatClampNeg x3) 26 0 31).toNatClampNeg (((33 : Int32) * x1) + x2)) 26 0 31 (((bU (bU M 43 0 (M 26 0 31).toNatClampNeg x3) 40 0 ((bU M 43 0 (M 26 0 31).toNatClampNeg x3) 26 0 31).toNatClampNeg (((33 : Int32) * x1) + x2)) 26 0 31) + (1 : Int32))))))) ∧ (¬ ((32 : Int32) ≤ x5) → (((¬ x5 = (M 26 0 31)) → ((vp_in x5 33) ∧ ((¬ (M 26 0 0) = 0) ∧ ((vp_in (((32 : Int32) * (M 26 0 31)) + x5) 1024) ∧ bGo 122 Q 80 [some (cR 26 0), some (cI x1), some (cI x2), some (cI x3), some (cI x4), some (cI (x5 + (1 : Int32)))] [] (bU M 42 0 (((32 : Int32) * (M 26 0 31)) + x5).toNatClampNeg (aRem ((M 45 0 x5.toNatClampNeg) * x4) (M 26 0 0))))))) ∧ (¬ (¬ x5 = (M 26 0 31)) → ((vp_in (((32 : Int32) * (M 26 0 31)) + x5) 1024) ∧ bGo 122 Q 80 [some (cR 26 0), some (cI x1), some (cI x2), some (cI x3), some (cI x4), some (cI (x5 + (1 : Int32)))] [] (bU M 42 0 (((32 : Int32) * (M 26 0 31)) + x5).toNatClampNeg x4)))))) : bGo 122 Q 80 [some (cR 26 0), some (cI x1), some (cI x2), some (cI x3), some (cI x4), some (cI x5)] [] M := s_iload E122_80.1 (k_ E122_80) rfl (s_bipush E122_82.1 (k_ E122_82) (s_icmp_ge E122_84.1 (k_ E122_84) ⟨fun c3 => s_aload_n E122_137.1 (k_ E122_137) rfl (s_getR E122_138.1 (k_ E122_138) rfl rfl (s_aload_n E122_141.1 (k_ E122_141) rfl (s_getI0 E122_142.1 (k_ E122_142) rfl (s_iload_n E122_145.1 (k_ E122_145) rfl (s_iastore E122_146.1 (k_ E122_146) rfl ⟨(h.1 c3).1, s_aload_n E122_147.1 (k_ E122_147) rfl (s_getR E122_148.1 (k_ E122_148) rfl rfl (s_aload_n E122_151.1 (k_ E122_151) rfl (s_getI0 E122_152.1 (k_ E122_152) rfl (s_bipush E122_155.1 (k_ E122_155) (s_iload_n E122_157.1 (k_ E122_157) rfl (s_imul E122_158.1 (k_ E122_158) (s_iload_n E122_159.1 (k_ E122_159) rfl (s_iadd E122_160.1 (k_ E122_160) (s_iastore E122_161.1 (k_ E122_161) rfl ⟨((h.1 c3).2).1, s_aload_n E122_162.1 (k_ E122_162) rfl (s_dupR E122_163.1 (k_ E122_163) (s_getI0 E122_164.1 (k_ E122_164) rfl (s_iconst E122_167.1 (k_ E122_167) (s_iadd E122_168.1 (k_ E122_168) (s_putI E122_169.1 (k_ E122_169) rfl (s_ret E122_172.1 (k_ E122_172) (((h.1 c3).2).2)))))))⟩)))))))))⟩))))), fun c3 => s_aload_n E122_87.1 (k_ E122_87) rfl (s_getR E122_88.1 (k_ E122_88) rfl rfl (s_bipush E122_91.1 (k_ E122_91) (s_aload_n E122_93.1 (k_ E122_93) rfl (s_getI0 E122_94.1 (k_ E122_94) rfl (s_imul E122_97.1 (k_ E122_97) (s_iload E122_98.1 (k_ E122_98) rfl (s_iadd E122_100.1 (k_ E122_100) (s_iload E122_101.1 (k_ E122_101) rfl (s_aload_n E122_103.1 (k_ E122_103) rfl (s_getI0 E122_104.1 (k_ E122_104) rfl (s_icmp_ne E122_107.1 (k_ E122_107) ⟨fun c4 => s_aload_n E122_115.1 (k_ E122_115) rfl (s_getR E122_116.1 (k_ E122_116) rfl rfl (s_iload E122_119.1 (k_ E122_119) rfl (s_iaload E122_121.1 (k_ E122_121) rfl ⟨((h.2 c3).1 c4).1, s_iload E122_122.1 (k_ E122_122) rfl (s_imul E122_124.1 (k_ E122_124) (s_aload_n E122_125.1 (k_ E122_125) rfl (s_getI0 E122_126.1 (k_ E122_126) rfl (s_irem E122_129.1 (k_ E122_129) ⟨(((h.2 c3).1 c4).2).1, s_iastore E122_130.1 (k_ E122_130) rfl ⟨((((h.2 c3).1 c4).2).2).1, s_iinc E122_131.1 (k_ E122_131) rfl (s_goto E122_134.1 (k_ E122_134) (((((h.2 c3).1 c4).2).2).2))⟩⟩))))⟩))), fun c4 => s_iload E122_110.1 (k_ E122_110) rfl (s_goto E122_112.1 (k_ E122_112) (s_iastore E122_130.1 (k_ E122_130) rfl ⟨((h.2 c3).2 c4).1, s_iinc E122_131.1 (k_ E122_131) rfl (s_goto E122_134.1 (k_ E122_134) (((h.2 c3).2 c4).2))⟩))⟩)))))))))))⟩))
-- 123: X7_looksForBasis
theorem E123_0 : aCode 123 0 = (Instr.aload_n 0, 1, [], 0) ∧ bMask 123 0 = [] := ⟨rfl, rfl⟩
theorem E123_1 : aCode 123 1 = (Instr.iconst 0, 2, [], 0) ∧ bMask 123 1 = [] := ⟨rfl, rfl⟩
theorem E123_2 : aCode 123 2 = (Instr.putfield 233, 5, [101, 7, 31, 0], 0) ∧ bMask 123 2 = [] := ⟨rfl, rfl⟩
theorem E123_5 : aCode 123 5 = (Instr.iconst 0, 6, [], 0) ∧ bMask 123 5 = [] := ⟨rfl, rfl⟩
theorem E123_6 : aCode 123 6 = (Instr.istore_n 1, 7, [], 0) ∧ bMask 123 6 = [] := ⟨rfl, rfl⟩
theorem E123_7 : aCode 123 7 = (Instr.iconst 0, 8, [], 0) ∧ bMask 123 7 = [] := ⟨rfl, rfl⟩
theorem E123_8 : aCode 123 8 = (Instr.istore_n 2, 9, [], 0) ∧ bMask 123 8 = [] := ⟨rfl, rfl⟩
theorem E123_9 : aCode 123 9 = (Instr.iload_n 2, 10, [], 0) := rfl
theorem E123_10 : aCode 123 10 = (Instr.aload_n 0, 11, [], 0) ∧ bMask 123 10 = [] := ⟨rfl, rfl⟩
theorem E123_11 : aCode 123 11 = (Instr.getfield 227, 14, [93, 7, 25, 0], 0) ∧ bMask 123 11 = [] := ⟨rfl, rfl⟩
theorem E123_14 : aCode 123 14 = (Instr.if_icmp .ge 16, 17, [30], 0) ∧ bMask 123 14 = [] := ⟨rfl, rfl⟩
theorem E123_17 : aCode 123 17 = (Instr.aload_n 0, 18, [], 0) ∧ bMask 123 17 = [] := ⟨rfl, rfl⟩
theorem E123_18 : aCode 123 18 = (Instr.getfield 63, 21, [107, 7, 30, 2], 0) ∧ bMask 123 18 = [] := ⟨rfl, rfl⟩
theorem E123_21 : aCode 123 21 = (Instr.iload_n 2, 22, [], 0) ∧ bMask 123 21 = [] := ⟨rfl, rfl⟩
theorem E123_22 : aCode 123 22 = (Instr.iconst (-1), 23, [], (-1)) ∧ bMask 123 22 = [] := ⟨rfl, rfl⟩
theorem E123_23 : aCode 123 23 = (Instr.iastore, 24, [0], 0) ∧ bMask 123 23 = [] := ⟨rfl, rfl⟩
theorem E123_24 : aCode 123 24 = (Instr.iinc 2 1, 27, [], 1) ∧ bMask 123 24 = [] := ⟨rfl, rfl⟩
theorem E123_27 : aCode 123 27 = (Instr.goto (-18), 9, [], 0) ∧ bMask 123 27 = [] := ⟨rfl, rfl⟩
theorem E123_30 : aCode 123 30 = (Instr.iconst 0, 31, [], 0) ∧ bMask 123 30 = [] := ⟨rfl, rfl⟩
theorem E123_31 : aCode 123 31 = (Instr.istore_n 2, 32, [], 0) ∧ bMask 123 31 = [] := ⟨rfl, rfl⟩
theorem E123_32 : aCode 123 32 = (Instr.iload_n 1, 33, [], 0) := rfl
theorem E123_33 : aCode 123 33 = (Instr.aload_n 0, 34, [], 0) ∧ bMask 123 33 = [] := ⟨rfl, rfl⟩
theorem E123_34 : aCode 123 34 = (Instr.getfield 227, 37, [93, 7, 25, 0], 0) ∧ bMask 123 34 = [] := ⟨rfl, rfl⟩
theorem E123_37 : aCode 123 37 = (Instr.if_icmp .ge 79, 40, [116], 0) ∧ bMask 123 37 = [] := ⟨rfl, rfl⟩
theorem E123_40 : aCode 123 40 = (Instr.iconst 0, 41, [], 0) ∧ bMask 123 40 = [] := ⟨rfl, rfl⟩
theorem E123_41 : aCode 123 41 = (Instr.istore_n 3, 42, [], 0) ∧ bMask 123 41 = [] := ⟨rfl, rfl⟩
theorem E123_42 : aCode 123 42 = (Instr.iload_n 3, 43, [], 0) := rfl
theorem E123_43 : aCode 123 43 = (Instr.aload_n 0, 44, [], 0) ∧ bMask 123 43 = [] := ⟨rfl, rfl⟩
theorem E123_44 : aCode 123 44 = (Instr.getfield 227, 47, [93, 7, 25, 0], 0) ∧ bMask 123 44 = [] := ⟨rfl, rfl⟩
theorem E123_47 : aCode 123 47 = (Instr.if_icmp .ge 63, 50, [110], 0) ∧ bMask 123 47 = [] := ⟨rfl, rfl⟩
theorem E123_50 : aCode 123 50 = (Instr.iload_n 2, 51, [], 0) ∧ bMask 123 50 = [] := ⟨rfl, rfl⟩
theorem E123_51 : aCode 123 51 = (Instr.aload_n 0, 52, [], 0) ∧ bMask 123 51 = [] := ⟨rfl, rfl⟩
theorem E123_52 : aCode 123 52 = (Instr.getfield 57, 55, [97, 7, 28, 2], 0) ∧ bMask 123 52 = [] := ⟨rfl, rfl⟩
theorem E123_55 : aCode 123 55 = (Instr.iload_n 3, 56, [], 0) ∧ bMask 123 55 = [] := ⟨rfl, rfl⟩
theorem E123_56 : aCode 123 56 = (Instr.iaload, 57, [0], 0) ∧ bMask 123 56 = [] := ⟨rfl, rfl⟩
theorem E123_57 : aCode 123 57 = (Instr.isub, 58, [], 0) ∧ bMask 123 57 = [] := ⟨rfl, rfl⟩
theorem E123_58 : aCode 123 58 = (Instr.istore 4, 60, [], 0) ∧ bMask 123 58 = [] := ⟨rfl, rfl⟩
theorem E123_60 : aCode 123 60 = (Instr.iload 4, 62, [], 0) ∧ bMask 123 60 = [] := ⟨rfl, rfl⟩
theorem E123_62 : aCode 123 62 = (Instr.ifCond .lt 42, 65, [104], 0) ∧ bMask 123 62 = [] := ⟨rfl, rfl⟩
theorem E123_65 : aCode 123 65 = (Instr.aload_n 0, 66, [], 0) ∧ bMask 123 65 = [] := ⟨rfl, rfl⟩
theorem E123_66 : aCode 123 66 = (Instr.getfield 63, 69, [107, 7, 30, 2], 0) ∧ bMask 123 66 = [] := ⟨rfl, rfl⟩
theorem E123_69 : aCode 123 69 = (Instr.iload_n 3, 70, [], 0) ∧ bMask 123 69 = [] := ⟨rfl, rfl⟩
theorem E123_70 : aCode 123 70 = (Instr.iaload, 71, [0], 0) ∧ bMask 123 70 = [] := ⟨rfl, rfl⟩
theorem E123_71 : aCode 123 71 = (Instr.ifCond .ge 33, 74, [104], 0) ∧ bMask 123 71 = [] := ⟨rfl, rfl⟩
theorem E123_74 : aCode 123 74 = (Instr.aload_n 0, 75, [], 0) ∧ bMask 123 74 = [] := ⟨rfl, rfl⟩
theorem E123_75 : aCode 123 75 = (Instr.iload_n 3, 76, [], 0) ∧ bMask 123 75 = [] := ⟨rfl, rfl⟩
theorem E123_76 : aCode 123 76 = (Instr.iload 4, 78, [], 0) ∧ bMask 123 76 = [] := ⟨rfl, rfl⟩
theorem E123_78 : aCode 123 78 = (Instr.invokevirtual 236, 81, [119, 3, 1, 7, 0, 100], 0) ∧ bMask 123 78 = [] := ⟨rfl, rfl⟩
theorem E123_81 : aCode 123 81 = (Instr.ifCond .eq 16, 84, [97], 0) ∧ bMask 123 81 = [] := ⟨rfl, rfl⟩
theorem E123_84 : aCode 123 84 = (Instr.aload_n 0, 85, [], 0) ∧ bMask 123 84 = [] := ⟨rfl, rfl⟩
theorem E123_85 : aCode 123 85 = (Instr.iload_n 3, 86, [], 0) ∧ bMask 123 85 = [] := ⟨rfl, rfl⟩
theorem E123_86 : aCode 123 86 = (Instr.iload 4, 88, [], 0) ∧ bMask 123 86 = [] := ⟨rfl, rfl⟩
theorem E123_88 : aCode 123 88 = (Instr.invokevirtual 240, 91, [120, 3, 0, 7, 0, 101], 0) ∧ bMask 123 88 = [] := ⟨rfl, rfl⟩
theorem E123_91 : aCode 123 91 = (Instr.iinc 1 1, 94, [], 1) ∧ bMask 123 91 = [] := ⟨rfl, rfl⟩
theorem E123_94 : aCode 123 94 = (Instr.goto 10, 104, [], 0) ∧ bMask 123 94 = [] := ⟨rfl, rfl⟩
theorem E123_97 : aCode 123 97 = (Instr.aload_n 0, 98, [], 0) ∧ bMask 123 97 = [] := ⟨rfl, rfl⟩
theorem E123_98 : aCode 123 98 = (Instr.iload_n 3, 99, [], 0) ∧ bMask 123 98 = [] := ⟨rfl, rfl⟩
theorem E123_99 : aCode 123 99 = (Instr.iload 4, 101, [], 0) ∧ bMask 123 99 = [] := ⟨rfl, rfl⟩
theorem E123_101 : aCode 123 101 = (Instr.invokevirtual 244, 104, [122, 3, 0, 7, 0, 102], 0) ∧ bMask 123 101 = [] := ⟨rfl, rfl⟩
theorem E123_104 : aCode 123 104 = (Instr.iinc 3 1, 107, [], 1) ∧ bMask 123 104 = [] := ⟨rfl, rfl⟩
theorem E123_107 : aCode 123 107 = (Instr.goto (-65), 42, [], 0) ∧ bMask 123 107 = [] := ⟨rfl, rfl⟩
theorem E123_110 : aCode 123 110 = (Instr.iinc 2 1, 113, [], 1) ∧ bMask 123 110 = [] := ⟨rfl, rfl⟩
theorem E123_113 : aCode 123 113 = (Instr.goto (-81), 32, [], 0) ∧ bMask 123 113 = [] := ⟨rfl, rfl⟩
theorem E123_116 : aCode 123 116 = (Instr.return_, 117, [], 0) ∧ bMask 123 116 = [] := ⟨rfl, rfl⟩
theorem g_X7_looksForBasis_0 {Q : bQ} {M : bM}  (h : bGo 123 Q 9 [some (cR 26 0), some (cI (0 : Int32)), some (cI (0 : Int32)), none, none] [] (bU M 26 0 31 (0 : Int32))) : bCall 123 [cR 26 0] M Q := s_aload_n E123_0.1 (k_ E123_0) rfl (s_iconst E123_1.1 (k_ E123_1) (s_putI E123_2.1 (k_ E123_2) rfl (s_iconst E123_5.1 (k_ E123_5) (s_istore_n E123_6.1 (k_ E123_6) (s_iconst E123_7.1 (k_ E123_7) (s_istore_n E123_8.1 (k_ E123_8) (h)))))))
theorem g_X7_looksForBasis_9 {Q : bQ} {M : bM} {x1 : Int32} {x2 : Int32} {o3 : Option bV} {o4 : Option bV} (h : (((M 26 0 25) ≤ x2) → bGo 123 Q 32 [some (cR 26 0), some (cI x1), some (cI (0 : Int32)), none, none] [] M) ∧ (¬ ((M 26 0 25) ≤ x2) → ((vp_in x2 4) ∧ bGo 123 Q 9 [some (cR 26 0), some (cI x1), some (cI (x2 + (1 : Int32))), none, none] [] (bU M 39 0 x2.toNatClampNeg (-1 : Int32))))) : bGo 123 Q 9 [some (cR 26 0), some (cI x1), some (cI x2), o3, o4] [] M := s_iload_n E123_9 rfl rfl (s_aload_n E123_10.1 (k_ E123_10) rfl (s_getI0 E123_11.1 (k_ E123_11) rfl (s_icmp_ge E123_14.1 (k_ E123_14) ⟨fun c0 => s_iconst E123_30.1 (k_ E123_30) (s_istore_n E123_31.1 (k_ E123_31) (h.1 c0)), fun c0 => s_aload_n E123_17.1 (k_ E123_17) rfl (s_getR E123_18.1 (k_ E123_18) rfl rfl (s_iload_n E123_21.1 (k_ E123_21) rfl (s_iconst E123_22.1 (k_ E123_22) (s_iastore E123_23.1 (k_ E123_23) rfl ⟨(h.2 c0).1, s_iinc E123_24.1 (k_ E123_24) rfl (s_goto E123_27.1 (k_ E123_27) ((h.2 c0).2))⟩))))⟩)))
theorem g_X7_looksForBasis_32 {Q : bQ} {M : bM} {x1 : Int32} {x2 : Int32} {o3 : Option bV} {o4 : Option bV} (h : (((M 26 0 25) ≤ x1) → (Q none M)) ∧ (¬ ((M 26 0 25) ≤ x1) → bGo 123 Q 42 [some (cR 26 0), some (cI x1), some (cI x2), some (cI (0 : Int32)), none] [] M)) : bGo 123 Q 32 [some (cR 26 0), some (cI x1), some (cI x2), o3, o4] [] M := s_iload_n E123_32 rfl rfl (s_aload_n E123_33.1 (k_ E123_33) rfl (s_getI0 E123_34.1 (k_ E123_34) rfl (s_icmp_ge E123_37.1 (k_ E123_37) ⟨fun c1 => s_ret E123_116.1 (k_ E123_116) (h.1 c1), fun c1 => s_iconst E123_40.1 (k_ E123_40) (s_istore_n E123_41.1 (k_ E123_41) (h.2 c1))⟩)))
theorem g_X7_looksForBasis_42 {Q : bQ} {M : bM} {x1 : Int32} {x2 : Int32} {x3 : Int32} {o4 : Option bV} (h : (((M 26 0 25) ≤ x3) → bGo 123 Q 32 [some (cR 26 0), some (cI x1), some (cI (x2 + (1 : Int32))), some (cI x3), none] [] M) ∧ (¬ ((M 26 0 25) ≤ x3) → ((vp_in x3 4) ∧ ((((x2 - (M 37 0 x3.toNatClampNeg)) < 0) → bGo 123 Q 42 [some (cR 26 0), some (cI x1), some (cI x2), some (cI (x3 + (1 : Int32))), some (cI (x2 - (M 37 0 x3.toNatClampNeg)))] [] M) ∧ (¬ ((x2 - (M 37 0 x3.toNatClampNeg)) < 0) → ((vp_in x3 4) ∧ (((0 ≤ (M 39 0 x3.toNatClampNeg)) → bGo 123 Q 42 [some (cR 26 0), some (cI x1), some (cI x2), some (cI (x3 + (1 : Int32))), some (cI (x2 - (M 37 0 x3.toNatClampNeg)))] [] M) ∧ (¬ (0 ≤ (M 39 0 x3.toNatClampNeg)) → (bCall 119 [cR 26 0, cI x3, cI (x2 - (M 37 0 x3.toNatClampNeg))] M (fun v1 M2 => bV1 v1 fun r3 => (((r3 = 0) → (bCall 122 [cR 26 0, cI x3, cI (x2 - (M 37 0 x3.toNatClampNeg))] M2 (fun v4 M5 => bV0 v4 (bGo 123 Q 42 [some (cR 26 0), some (cI x1), some (cI x2), some (cI (x3 + (1 : Int32))), some (cI (x2 - (M 37 0 x3.toNatClampNeg)))] [] M5)))) ∧ (¬ (r3 = 0) → (bCall 120 [cR 26 0, cI x3, cI (x2 - (M 37 0 x3.toNatClampNeg))] M2 (fun v6 M7 => bV0 v6 (bGo 123 Q 42 [some (cR 26 0), some (cI (x1 + (1 : Int32))), some (cI x2), some (cI (x3 + (1 : Int32))), some (cI (x2 - (M 37 0 x3.toNatClampNeg)))] [] M7))))))))))))))) : bGo 123 Q 42 [some (cR 26 0), some (cI x1), some (cI x2), some (cI x3), o4] [] M := s_iload_n E123_42 rfl rfl (s_aload_n E123_43.1 (k_ E123_43) rfl (s_getI0 E123_44.1 (k_ E123_44) rfl (s_icmp_ge E123_47.1 (k_ E123_47) ⟨fun c2 => s_iinc E123_110.1 (k_ E123_110) rfl (s_goto E123_113.1 (k_ E123_113) (h.1 c2)), fun c2 => s_iload_n E123_50.1 (k_ E123_50) rfl (s_aload_n E123_51.1 (k_ E123_51) rfl (s_getR E123_52.1 (k_ E123_52) rfl rfl (s_iload_n E123_55.1 (k_ E123_55) rfl (s_iaload E123_56.1 (k_ E123_56) rfl ⟨(h.2 c2).1, s_isub E123_57.1 (k_ E123_57) (s_istore E123_58.1 (k_ E123_58) (s_iload E123_60.1 (k_ E123_60) rfl (s_if_lt E123_62.1 (k_ E123_62) ⟨fun c3 => s_iinc E123_104.1 (k_ E123_104) rfl (s_goto E123_107.1 (k_ E123_107) (((h.2 c2).2).1 c3)), fun c3 => s_aload_n E123_65.1 (k_ E123_65) rfl (s_getR E123_66.1 (k_ E123_66) rfl rfl (s_iload_n E123_69.1 (k_ E123_69) rfl (s_iaload E123_70.1 (k_ E123_70) rfl ⟨(((h.2 c2).2).2 c3).1, s_if_ge E123_71.1 (k_ E123_71) ⟨fun c4 => s_iinc E123_104.1 (k_ E123_104) rfl (s_goto E123_107.1 (k_ E123_107) (((((h.2 c2).2).2 c3).2).1 c4)), fun c4 => s_aload_n E123_74.1 (k_ E123_74) rfl (s_iload_n E123_75.1 (k_ E123_75) rfl (s_iload E123_76.1 (k_ E123_76) rfl (s_vcall1 E123_78.1 (k_ E123_78) rfl rfl rfl (((((h.2 c2).2).2 c3).2).2 c4) (fun M2 r3 z5 => s_if_eq E123_81.1 (k_ E123_81) ⟨fun c6 => s_aload_n E123_97.1 (k_ E123_97) rfl (s_iload_n E123_98.1 (k_ E123_98) rfl (s_iload E123_99.1 (k_ E123_99) rfl (s_vcall0 E123_101.1 (k_ E123_101) rfl rfl rfl (z5.1 c6) (fun M5 z7 => s_iinc E123_104.1 (k_ E123_104) rfl (s_goto E123_107.1 (k_ E123_107) (z7)))))), fun c6 => s_aload_n E123_84.1 (k_ E123_84) rfl (s_iload_n E123_85.1 (k_ E123_85) rfl (s_iload E123_86.1 (k_ E123_86) rfl (s_vcall0 E123_88.1 (k_ E123_88) rfl rfl rfl (z5.2 c6) (fun M7 z8 => s_iinc E123_91.1 (k_ E123_91) rfl (s_goto E123_94.1 (k_ E123_94) (s_iinc E123_104.1 (k_ E123_104) rfl (s_goto E123_107.1 (k_ E123_107) (z8))))))))⟩))))⟩⟩)))⟩)))⟩))))⟩)))
-- 124: X7_looks
theorem E124_0 : aCode 124 0 = (Instr.aload_n 0, 1, [], 0) ∧ bMask 124 0 = [] := ⟨rfl, rfl⟩
theorem E124_1 : aCode 124 1 = (Instr.invokevirtual 250, 4, [117, 1, 0, 7, 0, 103], 0) ∧ bMask 124 1 = [] := ⟨rfl, rfl⟩
theorem E124_4 : aCode 124 4 = (Instr.aload_n 0, 5, [], 0) ∧ bMask 124 4 = [] := ⟨rfl, rfl⟩
theorem E124_5 : aCode 124 5 = (Instr.invokevirtual 253, 8, [123, 1, 0, 7, 0, 104], 0) ∧ bMask 124 5 = [] := ⟨rfl, rfl⟩
theorem E124_8 : aCode 124 8 = (Instr.return_, 9, [], 0) ∧ bMask 124 8 = [] := ⟨rfl, rfl⟩
theorem g_X7_looks_0 {Q : bQ} {M : bM}  (h : bCall 117 [cR 26 0] M (fun v1 M2 => bV0 v1 (bCall 123 [cR 26 0] M2 (fun v3 M4 => bV0 v3 (Q none M4))))) : bCall 124 [cR 26 0] M Q := s_aload_n E124_0.1 (k_ E124_0) rfl (s_vcall0 E124_1.1 (k_ E124_1) rfl rfl rfl h (fun M2 z0 => s_aload_n E124_4.1 (k_ E124_4) rfl (s_vcall0 E124_5.1 (k_ E124_5) rfl rfl rfl z0 (fun M4 z1 => s_ret E124_8.1 (k_ E124_8) z1))))
-- 125: X7_isRowOfBasis
theorem E125_0 : aCode 125 0 = (Instr.aload_n 0, 1, [], 0) ∧ bMask 125 0 = [] := ⟨rfl, rfl⟩
theorem E125_1 : aCode 125 1 = (Instr.invokevirtual 256, 4, [124, 1, 0, 7, 0, 105], 0) ∧ bMask 125 1 = [] := ⟨rfl, rfl⟩
theorem E125_4 : aCode 125 4 = (Instr.iload_n 1, 5, [], 0) ∧ bMask 125 4 = [] := ⟨rfl, rfl⟩
theorem E125_5 : aCode 125 5 = (Instr.iconst 0, 6, [], 0) ∧ bMask 125 5 = [] := ⟨rfl, rfl⟩
theorem E125_6 : aCode 125 6 = (Instr.aload_n 0, 7, [], 0) ∧ bMask 125 6 = [] := ⟨rfl, rfl⟩
theorem E125_7 : aCode 125 7 = (Instr.getfield 227, 10, [93, 7, 25, 0], 0) ∧ bMask 125 7 = [] := ⟨rfl, rfl⟩
theorem E125_10 : aCode 125 10 = (Instr.iconst 1, 11, [], 1) ∧ bMask 125 10 = [] := ⟨rfl, rfl⟩
theorem E125_11 : aCode 125 11 = (Instr.isub, 12, [], 0) ∧ bMask 125 11 = [] := ⟨rfl, rfl⟩
theorem E125_12 : aCode 125 12 = (Instr.invokestatic 126, 15, [104, 3, 1, 0, 0, 89], 0) ∧ bMask 125 12 = [] := ⟨rfl, rfl⟩
theorem E125_15 : aCode 125 15 = (Instr.ireturn, 16, [1], 0) ∧ bMask 125 15 = [] := ⟨rfl, rfl⟩
theorem g_X7_isRowOfBasis_0 {Q : bQ} {M : bM} {x1 : Int32} (h : bCall 124 [cR 26 0] M (fun v1 M2 => bV0 v1 (bCall 104 [cI x1, cI (0 : Int32), cI ((M2 26 0 25) - (1 : Int32))] M2 (fun v3 M4 => bV1 v3 fun r5 => ((r5 = 0 ∨ r5 = 1) ∧ Q (some (cI r5)) M4))))) : bCall 125 [cR 26 0, cI x1] M Q := s_aload_n E125_0.1 (k_ E125_0) rfl (s_vcall0 E125_1.1 (k_ E125_1) rfl rfl rfl h (fun M2 z0 => s_iload_n E125_4.1 (k_ E125_4) rfl (s_iconst E125_5.1 (k_ E125_5) (s_aload_n E125_6.1 (k_ E125_6) rfl (s_getI0 E125_7.1 (k_ E125_7) rfl (s_iconst E125_10.1 (k_ E125_10) (s_isub E125_11.1 (k_ E125_11) (s_scall1 E125_12.1 (k_ E125_12) rfl rfl rfl z0 (fun M4 r5 z1 => s_zret E125_15.1 (k_ E125_15) z1)))))))))
-- 126: X7_worksOut
theorem E126_0 : aCode 126 0 = (Instr.iconst 0, 1, [], 0) ∧ bMask 126 0 = [] := ⟨rfl, rfl⟩
theorem E126_1 : aCode 126 1 = (Instr.istore_n 2, 2, [], 0) ∧ bMask 126 1 = [] := ⟨rfl, rfl⟩
theorem E126_2 : aCode 126 2 = (Instr.iload_n 2, 3, [], 0) := rfl
theorem E126_3 : aCode 126 3 = (Instr.bipush 32, 5, [], 32) ∧ bMask 126 3 = [] := ⟨rfl, rfl⟩
theorem E126_5 : aCode 126 5 = (Instr.if_icmp .ge 94, 8, [99], 0) ∧ bMask 126 5 = [] := ⟨rfl, rfl⟩
theorem E126_8 : aCode 126 8 = (Instr.iconst 0, 9, [], 0) ∧ bMask 126 8 = [] := ⟨rfl, rfl⟩
theorem E126_9 : aCode 126 9 = (Instr.istore_n 3, 10, [], 0) ∧ bMask 126 9 = [] := ⟨rfl, rfl⟩
theorem E126_10 : aCode 126 10 = (Instr.iconst 0, 11, [], 0) ∧ bMask 126 10 = [] := ⟨rfl, rfl⟩
theorem E126_11 : aCode 126 11 = (Instr.istore 4, 13, [], 0) ∧ bMask 126 11 = [] := ⟨rfl, rfl⟩
theorem E126_13 : aCode 126 13 = (Instr.iload 4, 15, [], 0) := rfl
theorem E126_15 : aCode 126 15 = (Instr.aload_n 0, 16, [], 0) ∧ bMask 126 15 = [] := ⟨rfl, rfl⟩
theorem E126_16 : aCode 126 16 = (Instr.getfield 227, 19, [93, 7, 25, 0], 0) ∧ bMask 126 16 = [] := ⟨rfl, rfl⟩
theorem E126_19 : aCode 126 19 = (Instr.if_icmp .ge 67, 22, [86], 0) ∧ bMask 126 19 = [] := ⟨rfl, rfl⟩
theorem E126_22 : aCode 126 22 = (Instr.iconst 0, 23, [], 0) ∧ bMask 126 22 = [] := ⟨rfl, rfl⟩
theorem E126_23 : aCode 126 23 = (Instr.istore 5, 25, [], 0) ∧ bMask 126 23 = [] := ⟨rfl, rfl⟩
theorem E126_25 : aCode 126 25 = (Instr.iload 5, 27, [], 0) ∧ bMask 126 25 = [] := ⟨rfl, rfl⟩
theorem E126_27 : aCode 126 27 = (Instr.iload_n 2, 28, [], 0) ∧ bMask 126 27 = [] := ⟨rfl, rfl⟩
theorem E126_28 : aCode 126 28 = (Instr.if_icmp .gt 52, 31, [80], 0) ∧ bMask 126 28 = [] := ⟨rfl, rfl⟩
theorem E126_31 : aCode 126 31 = (Instr.iload_n 3, 32, [], 0) ∧ bMask 126 31 = [] := ⟨rfl, rfl⟩
theorem E126_32 : aCode 126 32 = (Instr.aload_n 0, 33, [], 0) ∧ bMask 126 32 = [] := ⟨rfl, rfl⟩
theorem E126_33 : aCode 126 33 = (Instr.getfield 60, 36, [105, 7, 29, 2], 0) ∧ bMask 126 33 = [] := ⟨rfl, rfl⟩
theorem E126_36 : aCode 126 36 = (Instr.sipush 132, 39, [], 132) ∧ bMask 126 36 = [] := ⟨rfl, rfl⟩
theorem E126_39 : aCode 126 39 = (Instr.iload_n 1, 40, [], 0) ∧ bMask 126 39 = [] := ⟨rfl, rfl⟩
theorem E126_40 : aCode 126 40 = (Instr.imul, 41, [], 0) ∧ bMask 126 40 = [] := ⟨rfl, rfl⟩
theorem E126_41 : aCode 126 41 = (Instr.bipush 33, 43, [], 33) ∧ bMask 126 41 = [] := ⟨rfl, rfl⟩
theorem E126_43 : aCode 126 43 = (Instr.iload 4, 45, [], 0) ∧ bMask 126 43 = [] := ⟨rfl, rfl⟩
theorem E126_45 : aCode 126 45 = (Instr.imul, 46, [], 0) ∧ bMask 126 45 = [] := ⟨rfl, rfl⟩
theorem E126_46 : aCode 126 46 = (Instr.iadd, 47, [], 0) ∧ bMask 126 46 = [] := ⟨rfl, rfl⟩
theorem E126_47 : aCode 126 47 = (Instr.iload 5, 49, [], 0) ∧ bMask 126 47 = [] := ⟨rfl, rfl⟩
theorem E126_49 : aCode 126 49 = (Instr.iadd, 50, [], 0) ∧ bMask 126 49 = [] := ⟨rfl, rfl⟩
theorem E126_50 : aCode 126 50 = (Instr.iaload, 51, [0], 0) ∧ bMask 126 50 = [] := ⟨rfl, rfl⟩
theorem E126_51 : aCode 126 51 = (Instr.aload_n 0, 52, [], 0) ∧ bMask 126 51 = [] := ⟨rfl, rfl⟩
theorem E126_52 : aCode 126 52 = (Instr.getfield 54, 55, [96, 7, 27, 2], 0) ∧ bMask 126 52 = [] := ⟨rfl, rfl⟩
theorem E126_55 : aCode 126 55 = (Instr.bipush 32, 57, [], 32) ∧ bMask 126 55 = [] := ⟨rfl, rfl⟩
theorem E126_57 : aCode 126 57 = (Instr.iload 4, 59, [], 0) ∧ bMask 126 57 = [] := ⟨rfl, rfl⟩
theorem E126_59 : aCode 126 59 = (Instr.imul, 60, [], 0) ∧ bMask 126 59 = [] := ⟨rfl, rfl⟩
theorem E126_60 : aCode 126 60 = (Instr.iload_n 2, 61, [], 0) ∧ bMask 126 60 = [] := ⟨rfl, rfl⟩
theorem E126_61 : aCode 126 61 = (Instr.iadd, 62, [], 0) ∧ bMask 126 61 = [] := ⟨rfl, rfl⟩
theorem E126_62 : aCode 126 62 = (Instr.iload 5, 64, [], 0) ∧ bMask 126 62 = [] := ⟨rfl, rfl⟩
theorem E126_64 : aCode 126 64 = (Instr.isub, 65, [], 0) ∧ bMask 126 64 = [] := ⟨rfl, rfl⟩
theorem E126_65 : aCode 126 65 = (Instr.iaload, 66, [0], 0) ∧ bMask 126 65 = [] := ⟨rfl, rfl⟩
theorem E126_66 : aCode 126 66 = (Instr.imul, 67, [], 0) ∧ bMask 126 66 = [] := ⟨rfl, rfl⟩
theorem E126_67 : aCode 126 67 = (Instr.iadd, 68, [], 0) ∧ bMask 126 67 = [] := ⟨rfl, rfl⟩
theorem E126_68 : aCode 126 68 = (Instr.aload_n 0, 69, [], 0) ∧ bMask 126 68 = [] := ⟨rfl, rfl⟩
theorem E126_69 : aCode 126 69 = (Instr.getfield 7, 72, [82, 7, 0, 0], 0) ∧ bMask 126 69 = [] := ⟨rfl, rfl⟩
theorem E126_72 : aCode 126 72 = (Instr.irem, 73, [], 0) ∧ bMask 126 72 = [] := ⟨rfl, rfl⟩
theorem E126_73 : aCode 126 73 = (Instr.istore_n 3, 74, [], 0) ∧ bMask 126 73 = [] := ⟨rfl, rfl⟩
theorem E126_74 : aCode 126 74 = (Instr.iinc 5 1, 77, [], 1) ∧ bMask 126 74 = [] := ⟨rfl, rfl⟩
theorem E126_77 : aCode 126 77 = (Instr.goto (-52), 25, [], 0) ∧ bMask 126 77 = [] := ⟨rfl, rfl⟩
theorem E126_80 : aCode 126 80 = (Instr.iinc 4 1, 83, [], 1) ∧ bMask 126 80 = [] := ⟨rfl, rfl⟩
theorem E126_83 : aCode 126 83 = (Instr.goto (-70), 13, [], 0) ∧ bMask 126 83 = [] := ⟨rfl, rfl⟩
theorem E126_86 : aCode 126 86 = (Instr.aload_n 0, 87, [], 0) ∧ bMask 126 86 = [] := ⟨rfl, rfl⟩
theorem E126_87 : aCode 126 87 = (Instr.getfield 17, 90, [108, 7, 3, 2], 0) ∧ bMask 126 87 = [] := ⟨rfl, rfl⟩
theorem E126_90 : aCode 126 90 = (Instr.iload_n 2, 91, [], 0) ∧ bMask 126 90 = [] := ⟨rfl, rfl⟩
theorem E126_91 : aCode 126 91 = (Instr.iload_n 3, 92, [], 0) ∧ bMask 126 91 = [] := ⟨rfl, rfl⟩
theorem E126_92 : aCode 126 92 = (Instr.iastore, 93, [0], 0) ∧ bMask 126 92 = [] := ⟨rfl, rfl⟩
theorem E126_93 : aCode 126 93 = (Instr.iinc 2 1, 96, [], 1) ∧ bMask 126 93 = [] := ⟨rfl, rfl⟩
theorem E126_96 : aCode 126 96 = (Instr.goto (-94), 2, [], 0) ∧ bMask 126 96 = [] := ⟨rfl, rfl⟩
theorem E126_99 : aCode 126 99 = (Instr.return_, 100, [], 0) ∧ bMask 126 99 = [] := ⟨rfl, rfl⟩
theorem g_X7_worksOut_0 {Q : bQ} {M : bM} {x1 : Int32} (h : bGo 126 Q 2 [some (cR 26 0), some (cI x1), some (cI (0 : Int32)), none, none, none] [] M) : bCall 126 [cR 26 0, cI x1] M Q := s_iconst E126_0.1 (k_ E126_0) (s_istore_n E126_1.1 (k_ E126_1) (h))
theorem g_X7_worksOut_2 {Q : bQ} {M : bM} {x1 : Int32} {x2 : Int32} {o3 : Option bV} {o4 : Option bV} {o5 : Option bV} (h : (((32 : Int32) ≤ x2) → (Q none M)) ∧ (¬ ((32 : Int32) ≤ x2) → bGo 126 Q 13 [some (cR 26 0), some (cI x1), some (cI x2), some (cI (0 : Int32)), some (cI (0 : Int32)), none] [] M)) : bGo 126 Q 2 [some (cR 26 0), some (cI x1), some (cI x2), o3, o4, o5] [] M := s_iload_n E126_2 rfl rfl (s_bipush E126_3.1 (k_ E126_3) (s_icmp_ge E126_5.1 (k_ E126_5) ⟨fun c0 => s_ret E126_99.1 (k_ E126_99) (h.1 c0), fun c0 => s_iconst E126_8.1 (k_ E126_8) (s_istore_n E126_9.1 (k_ E126_9) (s_iconst E126_10.1 (k_ E126_10) (s_istore E126_11.1 (k_ E126_11) (h.2 c0))))⟩))
theorem g_X7_worksOut_13 {Q : bQ} {M : bM} {x1 : Int32} {x2 : Int32} {x3 : Int32} {x4 : Int32} {o5 : Option bV} (h : (((M 26 0 25) ≤ x4) → ((vp_in x2 32) ∧ bGo 126 Q 2 [some (cR 26 0), some (cI x1), some (cI (x2 + (1 : Int32))), some (cI x3), some (cI x4), none] [] (bU M 27 0 x2.toNatClampNeg x3))) ∧ (¬ ((M 26 0 25) ≤ x4) → bGo 126 Q 25 [some (cR 26 0), some (cI x1), some (cI x2), some (cI x3), some (cI x4), some (cI (0 : Int32))] [] M)) : bGo 126 Q 13 [some (cR 26 0), some (cI x1), some (cI x2), some (cI x3), some (cI x4), o5] [] M := s_iload E126_13 rfl rfl (s_aload_n E126_15.1 (k_ E126_15) rfl (s_getI0 E126_16.1 (k_ E126_16) rfl (s_icmp_ge E126_19.1 (k_ E126_19) ⟨fun c1 => s_aload_n E126_86.1 (k_ E126_86) rfl (s_getR E126_87.1 (k_ E126_87) rfl rfl (s_iload_n E126_90.1 (k_ E126_90) rfl (s_iload_n E126_91.1 (k_ E126_91) rfl (s_iastore E126_92.1 (k_ E126_92) rfl ⟨(h.1 c1).1, s_iinc E126_93.1 (k_ E126_93) rfl (s_goto E126_96.1 (k_ E126_96) ((h.1 c1).2))⟩)))), fun c1 => s_iconst E126_22.1 (k_ E126_22) (s_istore E126_23.1 (k_ E126_23) (h.2 c1))⟩)))
theorem g_X7_worksOut_25 {Q : bQ} {M : bM} {x1 : Int32} {x2 : Int32} {x3 : Int32} {x4 : Int32} {x5 : Int32} (h : ((x2 < x5) → bGo 126 Q 13 [some (cR 26 0), some (cI x1), some (cI x2), some (cI x3), some (cI (x4 + (1 : Int32))), some (cI x5)] [] M) ∧ (¬ (x2 < x5) → ((vp_in ((((132 : Int32) * x1) + ((33 : Int32) * x4)) + x5) 528) ∧ ((vp_in ((((32 : Int32) * x4) + x2) - x5) 128) ∧ ((¬ (M 26 0 0) = 0) ∧ bGo 126 Q 25 [some (cR 26 0), some (cI x1), some (cI x2), some (cI (aRem (x3 + ((M 38 0 ((((132 : Int32) * x1) + ((33 : Int32) * x4)) + x5).toNatClampNeg) * (M 36 0 ((((32 : Int32) * x4) + x2) - x5).toNatClampNeg))) (M 26 0 0))), some (cI x4), some (cI (x5 + (1 : Int32)))] [] M))))) : bGo 126 Q 25 [some (cR 26 0), some (cI x1), some (cI x2), some (cI x3), some (cI x4), some (cI x5)] [] M := s_iload E126_25.1 (k_ E126_25) rfl (s_iload_n E126_27.1 (k_ E126_27) rfl (s_icmp_gt E126_28.1 (k_ E126_28) ⟨fun c2 => s_iinc E126_80.1 (k_ E126_80) rfl (s_goto E126_83.1 (k_ E126_83) (h.1 c2)), fun c2 => s_iload_n E126_31.1 (k_ E126_31) rfl (s_aload_n E126_32.1 (k_ E126_32) rfl (s_getR E126_33.1 (k_ E126_33) rfl rfl (s_sipush E126_36.1 (k_ E126_36) (s_iload_n E126_39.1 (k_ E126_39) rfl (s_imul E126_40.1 (k_ E126_40) (s_bipush E126_41.1 (k_ E126_41) (s_iload E126_43.1 (k_ E126_43) rfl (s_imul E126_45.1 (k_ E126_45) (s_iadd E126_46.1 (k_ E126_46) (s_iload E126_47.1 (k_ E126_47) rfl (s_iadd E126_49.1 (k_ E126_49) (s_iaload E126_50.1 (k_ E126_50) rfl ⟨(h.2 c2).1, s_aload_n E126_51.1 (k_ E126_51) rfl (s_getR E126_52.1 (k_ E126_52) rfl rfl (s_bipush E126_55.1 (k_ E126_55) (s_iload E126_57.1 (k_ E126_57) rfl (s_imul E126_59.1 (k_ E126_59) (s_iload_n E126_60.1 (k_ E126_60) rfl (s_iadd E126_61.1 (k_ E126_61) (s_iload E126_62.1 (k_ E126_62) rfl (s_isub E126_64.1 (k_ E126_64) (s_iaload E126_65.1 (k_ E126_65) rfl ⟨((h.2 c2).2).1, s_imul E126_66.1 (k_ E126_66) (s_iadd E126_67.1 (k_ E126_67) (s_aload_n E126_68.1 (k_ E126_68) rfl (s_getI0 E126_69.1 (k_ E126_69) rfl (s_irem E126_72.1 (k_ E126_72) ⟨(((h.2 c2).2).2).1, s_istore_n E126_73.1 (k_ E126_73) (s_iinc E126_74.1 (k_ E126_74) rfl (s_goto E126_77.1 (k_ E126_77) ((((h.2 c2).2).2).2)))⟩))))⟩)))))))))⟩))))))))))))⟩))
-- 127: X7_puts
theorem E127_0 : aCode 127 0 = (Instr.iconst 0, 1, [], 0) ∧ bMask 127 0 = [] := ⟨rfl, rfl⟩
theorem E127_1 : aCode 127 1 = (Instr.istore_n 3, 2, [], 0) ∧ bMask 127 1 = [] := ⟨rfl, rfl⟩
theorem E127_2 : aCode 127 2 = (Instr.iload_n 3, 3, [], 0) ∧ bMask 127 2 = [] := ⟨rfl, rfl⟩
theorem E127_3 : aCode 127 3 = (Instr.bipush 32, 5, [], 32) ∧ bMask 127 3 = [] := ⟨rfl, rfl⟩
theorem E127_5 : aCode 127 5 = (Instr.if_icmp .ge 23, 8, [28], 0) ∧ bMask 127 5 = [] := ⟨rfl, rfl⟩
theorem E127_8 : aCode 127 8 = (Instr.aload_n 0, 9, [], 0) ∧ bMask 127 8 = [] := ⟨rfl, rfl⟩
theorem E127_9 : aCode 127 9 = (Instr.getfield 13, 12, [69, 7, 1, 2], 0) ∧ bMask 127 9 = [] := ⟨rfl, rfl⟩
theorem E127_12 : aCode 127 12 = (Instr.bipush 32, 14, [], 32) ∧ bMask 127 12 = [] := ⟨rfl, rfl⟩
theorem E127_14 : aCode 127 14 = (Instr.iload_n 2, 15, [], 0) ∧ bMask 127 14 = [] := ⟨rfl, rfl⟩
theorem E127_15 : aCode 127 15 = (Instr.imul, 16, [], 0) ∧ bMask 127 15 = [] := ⟨rfl, rfl⟩
theorem E127_16 : aCode 127 16 = (Instr.iload_n 3, 17, [], 0) ∧ bMask 127 16 = [] := ⟨rfl, rfl⟩
theorem E127_17 : aCode 127 17 = (Instr.iadd, 18, [], 0) ∧ bMask 127 17 = [] := ⟨rfl, rfl⟩
theorem E127_18 : aCode 127 18 = (Instr.aload_n 1, 19, [], 0) ∧ bMask 127 18 = [] := ⟨rfl, rfl⟩
theorem E127_19 : aCode 127 19 = (Instr.iload_n 3, 20, [], 0) ∧ bMask 127 19 = [] := ⟨rfl, rfl⟩
theorem E127_20 : aCode 127 20 = (Instr.iaload, 21, [0], 0) ∧ bMask 127 20 = [] := ⟨rfl, rfl⟩
theorem E127_21 : aCode 127 21 = (Instr.iastore, 22, [0], 0) ∧ bMask 127 21 = [] := ⟨rfl, rfl⟩
theorem E127_22 : aCode 127 22 = (Instr.iinc 3 1, 25, [], 1) ∧ bMask 127 22 = [] := ⟨rfl, rfl⟩
theorem E127_25 : aCode 127 25 = (Instr.goto (-23), 2, [], 0) ∧ bMask 127 25 = [] := ⟨rfl, rfl⟩
theorem E127_28 : aCode 127 28 = (Instr.iconst 1, 29, [], 1) ∧ bMask 127 28 = [] := ⟨rfl, rfl⟩
theorem E127_29 : aCode 127 29 = (Instr.ireturn, 30, [0], 0) ∧ bMask 127 29 = [] := ⟨rfl, rfl⟩
theorem g_X7_puts_0 {Q : bQ} {M : bM} {j1 : Nat} {x2 : Int32} (h : bGo 127 Q 2 [some (cR 26 0), some (cR 27 j1), some (cI x2), some (cI (0 : Int32))] [] M) : bCall 127 [cR 26 0, cR 27 j1, cI x2] M Q := s_iconst E127_0.1 (k_ E127_0) (s_istore_n E127_1.1 (k_ E127_1) (h))
theorem g_X7_puts_2 {Q : bQ} {M : bM} {j1 : Nat} {x2 : Int32} {x3 : Int32} (h : (((32 : Int32) ≤ x3) → (Q (some (cI (1 : Int32))) M)) ∧ (¬ ((32 : Int32) ≤ x3) → ((vp_in x3 32) ∧ ((vp_in (((32 : Int32) * x2) + x3) 192) ∧ bGo 127 Q 2 [some (cR 26 0), some (cR 27 j1), some (cI x2), some (cI (x3 + (1 : Int32)))] [] (bU M 28 0 (((32 : Int32) * x2) + x3).toNatClampNeg (M 27 j1 x3.toNatClampNeg)))))) : bGo 127 Q 2 [some (cR 26 0), some (cR 27 j1), some (cI x2), some (cI x3)] [] M := s_iload_n E127_2.1 (k_ E127_2) rfl (s_bipush E127_3.1 (k_ E127_3) (s_icmp_ge E127_5.1 (k_ E127_5) ⟨fun c0 => s_iconst E127_28.1 (k_ E127_28) (s_iret E127_29.1 (k_ E127_29) (h.1 c0)), fun c0 => s_aload_n E127_8.1 (k_ E127_8) rfl (s_getR E127_9.1 (k_ E127_9) rfl rfl (s_bipush E127_12.1 (k_ E127_12) (s_iload_n E127_14.1 (k_ E127_14) rfl (s_imul E127_15.1 (k_ E127_15) (s_iload_n E127_16.1 (k_ E127_16) rfl (s_iadd E127_17.1 (k_ E127_17) (s_aload_n E127_18.1 (k_ E127_18) rfl (s_iload_n E127_19.1 (k_ E127_19) rfl (s_iaload E127_20.1 (k_ E127_20) rfl ⟨(h.2 c0).1, s_iastore E127_21.1 (k_ E127_21) rfl ⟨((h.2 c0).2).1, s_iinc E127_22.1 (k_ E127_22) rfl (s_goto E127_25.1 (k_ E127_25) (((h.2 c0).2).2))⟩⟩)))))))))⟩))
