-- needs: 01 02 06 08 09 10 11
-- 60: X6_addProduct
theorem E60_0 : aCode 60 0 = (Instr.aload_n 0, 1, [], 0) ∧ bMask 60 0 = [] := ⟨rfl, rfl⟩
theorem E60_1 : aCode 60 1 = (Instr.getfield 10, 4, [39, 6, 0, 2], 0) ∧ bMask 60 1 = [] := ⟨rfl, rfl⟩
theorem E60_4 : aCode 60 4 = (Instr.aload_n 0, 5, [], 0) ∧ bMask 60 4 = [] := ⟨rfl, rfl⟩
theorem E60_5 : aCode 60 5 = (Instr.getfield 58, 8, [40, 6, 10, 2], 0) ∧ bMask 60 5 = [] := ⟨rfl, rfl⟩
theorem E60_8 : aCode 60 8 = (Instr.aload_n 1, 9, [], 0) ∧ bMask 60 8 = [] := ⟨rfl, rfl⟩
theorem E60_9 : aCode 60 9 = (Instr.aload_n 0, 10, [], 0) ∧ bMask 60 9 = [] := ⟨rfl, rfl⟩
theorem E60_10 : aCode 60 10 = (Instr.getfield 58, 13, [40, 6, 10, 2], 0) ∧ bMask 60 10 = [] := ⟨rfl, rfl⟩
theorem E60_13 : aCode 60 13 = (Instr.invokevirtual 105, 16, [34, 4, 0, 2, 0, 41], 0) ∧ bMask 60 13 = [] := ⟨rfl, rfl⟩
theorem E60_16 : aCode 60 16 = (Instr.aload_n 0, 17, [], 0) ∧ bMask 60 16 = [] := ⟨rfl, rfl⟩
theorem E60_17 : aCode 60 17 = (Instr.getfield 10, 20, [39, 6, 0, 2], 0) ∧ bMask 60 17 = [] := ⟨rfl, rfl⟩
theorem E60_20 : aCode 60 20 = (Instr.aload_n 0, 21, [], 0) ∧ bMask 60 20 = [] := ⟨rfl, rfl⟩
theorem E60_21 : aCode 60 21 = (Instr.getfield 61, 24, [41, 6, 11, 2], 0) ∧ bMask 60 21 = [] := ⟨rfl, rfl⟩
theorem E60_24 : aCode 60 24 = (Instr.iconst 1, 25, [], 1) ∧ bMask 60 24 = [] := ⟨rfl, rfl⟩
theorem E60_25 : aCode 60 25 = (Instr.aload_n 0, 26, [], 0) ∧ bMask 60 25 = [] := ⟨rfl, rfl⟩
theorem E60_26 : aCode 60 26 = (Instr.getfield 58, 29, [40, 6, 10, 2], 0) ∧ bMask 60 26 = [] := ⟨rfl, rfl⟩
theorem E60_29 : aCode 60 29 = (Instr.iconst 1, 30, [], 1) ∧ bMask 60 29 = [] := ⟨rfl, rfl⟩
theorem E60_30 : aCode 60 30 = (Instr.aload_n 0, 31, [], 0) ∧ bMask 60 30 = [] := ⟨rfl, rfl⟩
theorem E60_31 : aCode 60 31 = (Instr.getfield 61, 34, [41, 6, 11, 2], 0) ∧ bMask 60 31 = [] := ⟨rfl, rfl⟩
theorem E60_34 : aCode 60 34 = (Instr.invokevirtual 101, 37, [28, 6, 0, 2, 0, 42], 0) ∧ bMask 60 34 = [] := ⟨rfl, rfl⟩
theorem E60_37 : aCode 60 37 = (Instr.return_, 38, [], 0) ∧ bMask 60 37 = [] := ⟨rfl, rfl⟩
theorem g_X6_addProduct_0 {Q : bQ} {M : bM} {j1 : Nat} (h : bCall 34 [cR 1 0, cR 7 7, cR 7 j1, cR 7 7] M (fun v1 M2 => bV0 v1 (bCall 28 [cR 1 0, cR 7 6, cI (1 : Int32), cR 7 7, cI (1 : Int32), cR 7 6] M2 (fun v3 M4 => bV0 v3 (Q none M4))))) : bCall 60 [cR 0 0, cR 7 j1] M Q := s_aload_n E60_0.1 (k_ E60_0) rfl (s_getR E60_1.1 (k_ E60_1) rfl rfl (s_aload_n E60_4.1 (k_ E60_4) rfl (s_getR E60_5.1 (k_ E60_5) rfl rfl (s_aload_n E60_8.1 (k_ E60_8) rfl (s_aload_n E60_9.1 (k_ E60_9) rfl (s_getR E60_10.1 (k_ E60_10) rfl rfl (s_vcall0 E60_13.1 (k_ E60_13) rfl rfl rfl h (fun M2 z0 => s_aload_n E60_16.1 (k_ E60_16) rfl (s_getR E60_17.1 (k_ E60_17) rfl rfl (s_aload_n E60_20.1 (k_ E60_20) rfl (s_getR E60_21.1 (k_ E60_21) rfl rfl (s_iconst E60_24.1 (k_ E60_24) (s_aload_n E60_25.1 (k_ E60_25) rfl (s_getR E60_26.1 (k_ E60_26) rfl rfl (s_iconst E60_29.1 (k_ E60_29) (s_aload_n E60_30.1 (k_ E60_30) rfl (s_getR E60_31.1 (k_ E60_31) rfl rfl (s_vcall0 E60_34.1 (k_ E60_34) rfl rfl rfl z0 (fun M4 z1 => s_ret E60_37.1 (k_ E60_37) z1)))))))))))))))))))
-- 61: X6_isSeries
theorem E61_0 : aCode 61 0 = (Instr.iload_n 0, 1, [], 0) ∧ bMask 61 0 = [] := ⟨rfl, rfl⟩
theorem E61_1 : aCode 61 1 = (Instr.ifCond .lt 13, 4, [14], 0) ∧ bMask 61 1 = [] := ⟨rfl, rfl⟩
theorem E61_4 : aCode 61 4 = (Instr.iload_n 0, 5, [], 0) ∧ bMask 61 4 = [] := ⟨rfl, rfl⟩
theorem E61_5 : aCode 61 5 = (Instr.bipush 6, 7, [], 6) ∧ bMask 61 5 = [] := ⟨rfl, rfl⟩
theorem E61_7 : aCode 61 7 = (Instr.if_icmp .ge 7, 10, [14], 0) ∧ bMask 61 7 = [] := ⟨rfl, rfl⟩
theorem E61_10 : aCode 61 10 = (Instr.iconst 1, 11, [], 1) ∧ bMask 61 10 = [] := ⟨rfl, rfl⟩
theorem E61_11 : aCode 61 11 = (Instr.goto 4, 15, [], 0) ∧ bMask 61 11 = [] := ⟨rfl, rfl⟩
theorem E61_14 : aCode 61 14 = (Instr.iconst 0, 15, [], 0) ∧ bMask 61 14 = [] := ⟨rfl, rfl⟩
theorem E61_15 : aCode 61 15 = (Instr.ireturn, 16, [1], 0) ∧ bMask 61 15 = [] := ⟨rfl, rfl⟩
theorem g_X6_isSeries_0 {Q : bQ} {M : bM} {x0 : Int32} (h : ((x0 < 0) → (((0 : Int32) = 0 ∨ (0 : Int32) = 1) ∧ Q (some (cI (0 : Int32))) M)) ∧ (¬ (x0 < 0) → ((((6 : Int32) ≤ x0) → (((0 : Int32) = 0 ∨ (0 : Int32) = 1) ∧ Q (some (cI (0 : Int32))) M)) ∧ (¬ ((6 : Int32) ≤ x0) → (((1 : Int32) = 0 ∨ (1 : Int32) = 1) ∧ Q (some (cI (1 : Int32))) M))))) : bCall 61 [cI x0] M Q := s_iload_n E61_0.1 (k_ E61_0) rfl (s_if_lt E61_1.1 (k_ E61_1) ⟨fun c0 => s_iconst E61_14.1 (k_ E61_14) (s_zret E61_15.1 (k_ E61_15) (h.1 c0)), fun c0 => s_iload_n E61_4.1 (k_ E61_4) rfl (s_bipush E61_5.1 (k_ E61_5) (s_icmp_ge E61_7.1 (k_ E61_7) ⟨fun c1 => s_iconst E61_14.1 (k_ E61_14) (s_zret E61_15.1 (k_ E61_15) ((h.2 c0).1 c1)), fun c1 => s_iconst E61_10.1 (k_ E61_10) (s_goto E61_11.1 (k_ E61_11) (s_zret E61_15.1 (k_ E61_15) ((h.2 c0).2 c1)))⟩))⟩)
-- 62: X6_isTerm
theorem E62_0 : aCode 62 0 = (Instr.iload_n 0, 1, [], 0) ∧ bMask 62 0 = [] := ⟨rfl, rfl⟩
theorem E62_1 : aCode 62 1 = (Instr.ifCond .lt 13, 4, [14], 0) ∧ bMask 62 1 = [] := ⟨rfl, rfl⟩
theorem E62_4 : aCode 62 4 = (Instr.iload_n 0, 5, [], 0) ∧ bMask 62 4 = [] := ⟨rfl, rfl⟩
theorem E62_5 : aCode 62 5 = (Instr.bipush 32, 7, [], 32) ∧ bMask 62 5 = [] := ⟨rfl, rfl⟩
theorem E62_7 : aCode 62 7 = (Instr.if_icmp .ge 7, 10, [14], 0) ∧ bMask 62 7 = [] := ⟨rfl, rfl⟩
theorem E62_10 : aCode 62 10 = (Instr.iconst 1, 11, [], 1) ∧ bMask 62 10 = [] := ⟨rfl, rfl⟩
theorem E62_11 : aCode 62 11 = (Instr.goto 4, 15, [], 0) ∧ bMask 62 11 = [] := ⟨rfl, rfl⟩
theorem E62_14 : aCode 62 14 = (Instr.iconst 0, 15, [], 0) ∧ bMask 62 14 = [] := ⟨rfl, rfl⟩
theorem E62_15 : aCode 62 15 = (Instr.ireturn, 16, [1], 0) ∧ bMask 62 15 = [] := ⟨rfl, rfl⟩
theorem g_X6_isTerm_0 {Q : bQ} {M : bM} {x0 : Int32} (h : ((x0 < 0) → (((0 : Int32) = 0 ∨ (0 : Int32) = 1) ∧ Q (some (cI (0 : Int32))) M)) ∧ (¬ (x0 < 0) → ((((32 : Int32) ≤ x0) → (((0 : Int32) = 0 ∨ (0 : Int32) = 1) ∧ Q (some (cI (0 : Int32))) M)) ∧ (¬ ((32 : Int32) ≤ x0) → (((1 : Int32) = 0 ∨ (1 : Int32) = 1) ∧ Q (some (cI (1 : Int32))) M))))) : bCall 62 [cI x0] M Q := s_iload_n E62_0.1 (k_ E62_0) rfl (s_if_lt E62_1.1 (k_ E62_1) ⟨fun c0 => s_iconst E62_14.1 (k_ E62_14) (s_zret E62_15.1 (k_ E62_15) (h.1 c0)), fun c0 => s_iload_n E62_4.1 (k_ E62_4) rfl (s_bipush E62_5.1 (k_ E62_5) (s_icmp_ge E62_7.1 (k_ E62_7) ⟨fun c1 => s_iconst E62_14.1 (k_ E62_14) (s_zret E62_15.1 (k_ E62_15) ((h.2 c0).1 c1)), fun c1 => s_iconst E62_10.1 (k_ E62_10) (s_goto E62_11.1 (k_ E62_11) (s_zret E62_15.1 (k_ E62_15) ((h.2 c0).2 c1)))⟩))⟩)
-- 63: X6_at
theorem E63_0 : aCode 63 0 = (Instr.iload_n 1, 1, [], 0) ∧ bMask 63 0 = [] := ⟨rfl, rfl⟩
theorem E63_1 : aCode 63 1 = (Instr.invokestatic 91, 4, [61, 1, 1, 0, 0, 43], 0) ∧ bMask 63 1 = [] := ⟨rfl, rfl⟩
theorem E63_4 : aCode 63 4 = (Instr.ifCond .eq 21, 7, [25], 0) ∧ bMask 63 4 = [] := ⟨rfl, rfl⟩
theorem E63_7 : aCode 63 7 = (Instr.iload_n 2, 8, [], 0) ∧ bMask 63 7 = [] := ⟨rfl, rfl⟩
theorem E63_8 : aCode 63 8 = (Instr.invokestatic 94, 11, [62, 1, 1, 0, 0, 44], 0) ∧ bMask 63 8 = [] := ⟨rfl, rfl⟩
theorem E63_11 : aCode 63 11 = (Instr.ifCond .eq 14, 14, [25], 0) ∧ bMask 63 11 = [] := ⟨rfl, rfl⟩
theorem E63_14 : aCode 63 14 = (Instr.aload_n 0, 15, [], 0) ∧ bMask 63 14 = [] := ⟨rfl, rfl⟩
theorem E63_15 : aCode 63 15 = (Instr.getfield 18, 18, [42, 6, 1, 2], 0) ∧ bMask 63 15 = [] := ⟨rfl, rfl⟩
theorem E63_18 : aCode 63 18 = (Instr.iload_n 1, 19, [], 0) ∧ bMask 63 18 = [] := ⟨rfl, rfl⟩
theorem E63_19 : aCode 63 19 = (Instr.aaload, 20, [2], 0) ∧ bMask 63 19 = [] := ⟨rfl, rfl⟩
theorem E63_20 : aCode 63 20 = (Instr.iload_n 2, 21, [], 0) ∧ bMask 63 20 = [] := ⟨rfl, rfl⟩
theorem E63_21 : aCode 63 21 = (Instr.iaload, 22, [0], 0) ∧ bMask 63 21 = [] := ⟨rfl, rfl⟩
theorem E63_22 : aCode 63 22 = (Instr.goto 4, 26, [], 0) ∧ bMask 63 22 = [] := ⟨rfl, rfl⟩
theorem E63_25 : aCode 63 25 = (Instr.iconst (-1), 26, [], (-1)) ∧ bMask 63 25 = [] := ⟨rfl, rfl⟩
theorem E63_26 : aCode 63 26 = (Instr.ireturn, 27, [0], 0) ∧ bMask 63 26 = [] := ⟨rfl, rfl⟩
theorem g_X6_at_0 {Q : bQ} {M : bM} {x1 : Int32} {x2 : Int32} (h : bCall 61 [cI x1] M (fun v1 M2 => bV1 v1 fun r3 => (((r3 = 0) → (Q (some (cI (-1 : Int32))) M2)) ∧ (¬ (r3 = 0) → (bCall 62 [cI x2] M2 (fun v4 M5 => bV1 v4 fun r6 => (((r6 = 0) → (Q (some (cI (-1 : Int32))) M5)) ∧ (¬ (r6 = 0) → ((vp_in x1 6) ∧ ((vp_in x2 32) ∧ (Q (some (cI (M5 7 x1.toNatClampNeg x2.toNatClampNeg))) M5))))))))))) : bCall 63 [cR 0 0, cI x1, cI x2] M Q := s_iload_n E63_0.1 (k_ E63_0) rfl (s_scall1 E63_1.1 (k_ E63_1) rfl rfl rfl h (fun M2 r3 z0 => s_if_eq E63_4.1 (k_ E63_4) ⟨fun c1 => s_iconst E63_25.1 (k_ E63_25) (s_iret E63_26.1 (k_ E63_26) (z0.1 c1)), fun c1 => s_iload_n E63_7.1 (k_ E63_7) rfl (s_scall1 E63_8.1 (k_ E63_8) rfl rfl rfl (z0.2 c1) (fun M5 r6 z2 => s_if_eq E63_11.1 (k_ E63_11) ⟨fun c3 => s_iconst E63_25.1 (k_ E63_25) (s_iret E63_26.1 (k_ E63_26) (z2.1 c3)), fun c3 => s_aload_n E63_14.1 (k_ E63_14) rfl (s_getR E63_15.1 (k_ E63_15) rfl rfl (s_iload_n E63_18.1 (k_ E63_18) rfl (s_aaload E63_19.1 (k_ E63_19) rfl ⟨(z2.2 c3).1, s_iload_n E63_20.1 (k_ E63_20) rfl (s_iaload E63_21.1 (k_ E63_21) rfl ⟨((z2.2 c3).2).1, s_goto E63_22.1 (k_ E63_22) (s_iret E63_26.1 (k_ E63_26) (((z2.2 c3).2).2))⟩)⟩)))⟩))⟩))
-- 64: X6_certificate
theorem E64_0 : aCode 64 0 = (Instr.iload_n 2, 1, [], 0) ∧ bMask 64 0 = [] := ⟨rfl, rfl⟩
theorem E64_1 : aCode 64 1 = (Instr.ifCond .lt 8, 4, [9], 0) ∧ bMask 64 1 = [] := ⟨rfl, rfl⟩
theorem E64_4 : aCode 64 4 = (Instr.iload_n 2, 5, [], 0) ∧ bMask 64 4 = [] := ⟨rfl, rfl⟩
theorem E64_5 : aCode 64 5 = (Instr.iconst 5, 6, [], 5) ∧ bMask 64 5 = [] := ⟨rfl, rfl⟩
theorem E64_6 : aCode 64 6 = (Instr.if_icmp .le 5, 9, [11], 0) ∧ bMask 64 6 = [] := ⟨rfl, rfl⟩
theorem E64_9 : aCode 64 9 = (Instr.iconst (-1), 10, [], (-1)) ∧ bMask 64 9 = [] := ⟨rfl, rfl⟩
theorem E64_10 : aCode 64 10 = (Instr.ireturn, 11, [0], 0) ∧ bMask 64 10 = [] := ⟨rfl, rfl⟩
theorem E64_11 : aCode 64 11 = (Instr.aload_n 0, 12, [], 0) ∧ bMask 64 11 = [] := ⟨rfl, rfl⟩
theorem E64_12 : aCode 64 12 = (Instr.getfield 67, 15, [43, 6, 12, 2], 0) ∧ bMask 64 12 = [] := ⟨rfl, rfl⟩
theorem E64_15 : aCode 64 15 = (Instr.iload_n 1, 16, [], 0) ∧ bMask 64 15 = [] := ⟨rfl, rfl⟩
theorem E64_16 : aCode 64 16 = (Instr.invokevirtual 225, 19, [20, 2, 205, 1, 0, 45], 0) ∧ bMask 64 16 = [] := ⟨rfl, rfl⟩
theorem E64_19 : aCode 64 19 = (Instr.astore_n 3, 20, [], 0) ∧ bMask 64 19 = [] := ⟨rfl, rfl⟩
theorem E64_20 : aCode 64 20 = (Instr.aload_n 3, 21, [], 0) ∧ bMask 64 20 = [] := ⟨rfl, rfl⟩
theorem E64_21 : aCode 64 21 = (Instr.ifnonnull 6, 24, [27], 0) ∧ bMask 64 21 = [] := ⟨rfl, rfl⟩
theorem E64_24 : aCode 64 24 = (Instr.bipush (-3), 26, [], (-3)) ∧ bMask 64 24 = [] := ⟨rfl, rfl⟩
theorem E64_26 : aCode 64 26 = (Instr.ireturn, 27, [0], 0) ∧ bMask 64 26 = [] := ⟨rfl, rfl⟩
theorem E64_27 : aCode 64 27 = (Instr.iload_n 2, 28, [], 0) ∧ bMask 64 27 = [] := ⟨rfl, rfl⟩
theorem E64_28 : aCode 64 28 = (Instr.tableswitch 61 0 4 #[36, 41, 46, 51, 56], 64, [89, 64, 69, 74, 79, 84], 0) ∧ bMask 64 28 = [] := ⟨rfl, rfl⟩
theorem E64_64 : aCode 64 64 = (Instr.aload_n 3, 65, [], 0) ∧ bMask 64 64 = [] := ⟨rfl, rfl⟩
theorem E64_65 : aCode 64 65 = (Instr.getfield 208, 68, [44, 3, 3, 0], 0) ∧ bMask 64 65 = [] := ⟨rfl, rfl⟩
theorem E64_68 : aCode 64 68 = (Instr.ireturn, 69, [0], 0) ∧ bMask 64 68 = [] := ⟨rfl, rfl⟩
theorem E64_69 : aCode 64 69 = (Instr.aload_n 3, 70, [], 0) ∧ bMask 64 69 = [] := ⟨rfl, rfl⟩
theorem E64_70 : aCode 64 70 = (Instr.getfield 229, 73, [45, 3, 4, 0], 0) ∧ bMask 64 70 = [] := ⟨rfl, rfl⟩
theorem E64_73 : aCode 64 73 = (Instr.ireturn, 74, [0], 0) ∧ bMask 64 73 = [] := ⟨rfl, rfl⟩
theorem E64_74 : aCode 64 74 = (Instr.aload_n 3, 75, [], 0) ∧ bMask 64 74 = [] := ⟨rfl, rfl⟩
theorem E64_75 : aCode 64 75 = (Instr.getfield 213, 78, [46, 3, 5, 0], 0) ∧ bMask 64 75 = [] := ⟨rfl, rfl⟩
theorem E64_78 : aCode 64 78 = (Instr.ireturn, 79, [0], 0) ∧ bMask 64 78 = [] := ⟨rfl, rfl⟩
theorem E64_79 : aCode 64 79 = (Instr.aload_n 3, 80, [], 0) ∧ bMask 64 79 = [] := ⟨rfl, rfl⟩
theorem E64_80 : aCode 64 80 = (Instr.getfield 232, 83, [47, 3, 6, 0], 0) ∧ bMask 64 80 = [] := ⟨rfl, rfl⟩
theorem E64_83 : aCode 64 83 = (Instr.ireturn, 84, [0], 0) ∧ bMask 64 83 = [] := ⟨rfl, rfl⟩
theorem E64_84 : aCode 64 84 = (Instr.aload_n 3, 85, [], 0) ∧ bMask 64 84 = [] := ⟨rfl, rfl⟩
theorem E64_85 : aCode 64 85 = (Instr.getfield 234, 88, [48, 3, 7, 0], 0) ∧ bMask 64 85 = [] := ⟨rfl, rfl⟩
theorem E64_88 : aCode 64 88 = (Instr.ireturn, 89, [0], 0) ∧ bMask 64 88 = [] := ⟨rfl, rfl⟩
theorem E64_89 : aCode 64 89 = (Instr.aload_n 3, 90, [], 0) ∧ bMask 64 89 = [] := ⟨rfl, rfl⟩
theorem E64_90 : aCode 64 90 = (Instr.getfield 216, 93, [49, 3, 8, 0], 0) ∧ bMask 64 90 = [] := ⟨rfl, rfl⟩
theorem E64_93 : aCode 64 93 = (Instr.ireturn, 94, [0], 0) ∧ bMask 64 93 = [] := ⟨rfl, rfl⟩
theorem g_X6_certificate_0 {Q : bQ} {M : bM} {x1 : Int32} {x2 : Int32} (h : ((x2 < 0) → (Q (some (cI (-1 : Int32))) M)) ∧ (¬ (x2 < 0) → (((x2 ≤ (5 : Int32)) → (bCall 20 [cR 4 0, cI x1] M (fun v1 M2 => bV5 v1 5 (Q (some (cI (-3 : Int32))) M2) (fun q3 => ((x2 = Int32.ofInt 0) → (Q (some (cI (M2 5 q3 3))) M2)) ∧ (¬ (x2 = Int32.ofInt 0) → (((x2 = Int32.ofInt 1) → (Q (some (cI (M2 5 q3 4))) M2)) ∧ (¬ (x2 = Int32.ofInt 1) → (((x2 = Int32.ofInt 2) → (Q (some (cI (M2 5 q3 5))) M2)) ∧ (¬ (x2 = Int32.ofInt 2) → (((x2 = Int32.ofInt 3) → (Q (some (cI (M2 5 q3 6))) M2)) ∧ (¬ (x2 = Int32.ofInt 3) → (((x2 = Int32.ofInt 4) → (Q (some (cI (M2 5 q3 7))) M2)) ∧ (¬ (x2 = Int32.ofInt 4) → (Q (some (cI (M2 5 q3 8))) M2)))))))))))))) ∧ (¬ (x2 ≤ (5 : Int32)) → (Q (some (cI (-1 : Int32))) M))))) : bCall 64 [cR 0 0, cI x1, cI x2] M Q := s_iload_n E64_0.1 (k_ E64_0) rfl (s_if_lt E64_1.1 (k_ E64_1) ⟨fun c0 => s_iconst E64_9.1 (k_ E64_9) (s_iret E64_10.1 (k_ E64_10) (h.1 c0)), fun c0 => s_iload_n E64_4.1 (k_ E64_4) rfl (s_iconst E64_5.1 (k_ E64_5) (s_icmp_le E64_6.1 (k_ E64_6) ⟨fun c1 => s_aload_n E64_11.1 (k_ E64_11) rfl (s_getR E64_12.1 (k_ E64_12) rfl rfl (s_iload_n E64_15.1 (k_ E64_15) rfl (s_vcall205 E64_16.1 (k_ E64_16) rfl rfl rfl ((h.2 c0).1 c1) (fun M2 z2 => s_astore_nN E64_19.1 (k_ E64_19) (s_aload_nN E64_20.1 (k_ E64_20) rfl (s_ifnonnullN E64_21.1 (k_ E64_21) (s_bipush E64_24.1 (k_ E64_24) (s_iret E64_26.1 (k_ E64_26) z2))))) (fun M2 q3 z2 => s_astore_n E64_19.1 (k_ E64_19) (s_aload_n E64_20.1 (k_ E64_20) rfl (s_ifnonnull E64_21.1 (k_ E64_21) (s_iload_n E64_27.1 (k_ E64_27) rfl (s_tsw E64_28.1 (k_ E64_28) (And.intro (fun c3 => s_aload_n E64_64.1 (k_ E64_64) rfl (s_getI0 E64_65.1 (k_ E64_65) rfl (s_iret E64_68.1 (k_ E64_68) (z2.1 c3)))) (fun c3 => And.intro (fun c4 => s_aload_n E64_69.1 (k_ E64_69) rfl (s_getI0 E64_70.1 (k_ E64_70) rfl (s_iret E64_73.1 (k_ E64_73) ((z2.2 c3).1 c4)))) (fun c4 => And.intro (fun c5 => s_aload_n E64_74.1 (k_ E64_74) rfl (s_getI0 E64_75.1 (k_ E64_75) rfl (s_iret E64_78.1 (k_ E64_78) (((z2.2 c3).2 c4).1 c5)))) (fun c5 => And.intro (fun c6 => s_aload_n E64_79.1 (k_ E64_79) rfl (s_getI0 E64_80.1 (k_ E64_80) rfl (s_iret E64_83.1 (k_ E64_83) ((((z2.2 c3).2 c4).2 c5).1 c6)))) (fun c6 => And.intro (fun c7 => s_aload_n E64_84.1 (k_ E64_84) rfl (s_getI0 E64_85.1 (k_ E64_85) rfl (s_iret E64_88.1 (k_ E64_88) (((((z2.2 c3).2 c4).2 c5).2 c6).1 c7)))) (fun c7 => s_aload_n E64_89.1 (k_ E64_89) rfl (s_getI0 E64_90.1 (k_ E64_90) rfl (s_iret E64_93.1 (k_ E64_93) (((((z2.2 c3).2 c4).2 c5).2 c6).2 c7))))))))))))))))), fun c1 => s_iconst E64_9.1 (k_ E64_9) (s_iret E64_10.1 (k_ E64_10) ((h.2 c0).2 c1))⟩))⟩)
-- 65: X6_choose
theorem E65_0 : aCode 65 0 = (Instr.iload_n 1, 1, [], 0) ∧ bMask 65 0 = [] := ⟨rfl, rfl⟩
theorem E65_1 : aCode 65 1 = (Instr.invokestatic 143, 4, [0, 1, 1, 0, 0, 46], 0) ∧ bMask 65 1 = [] := ⟨rfl, rfl⟩
theorem E65_4 : aCode 65 4 = (Instr.istore_n 2, 5, [], 0) ∧ bMask 65 4 = [] := ⟨rfl, rfl⟩
theorem E65_5 : aCode 65 5 = (Instr.iload_n 1, 6, [], 0) ∧ bMask 65 5 = [] := ⟨rfl, rfl⟩
theorem E65_6 : aCode 65 6 = (Instr.ifCond .lt 19, 9, [25], 0) ∧ bMask 65 6 = [] := ⟨rfl, rfl⟩
theorem E65_9 : aCode 65 9 = (Instr.iload_n 1, 10, [], 0) ∧ bMask 65 9 = [] := ⟨rfl, rfl⟩
theorem E65_10 : aCode 65 10 = (Instr.bipush 64, 12, [], 64) ∧ bMask 65 10 = [] := ⟨rfl, rfl⟩
theorem E65_12 : aCode 65 12 = (Instr.if_icmp .ge 13, 15, [25], 0) ∧ bMask 65 12 = [] := ⟨rfl, rfl⟩
theorem E65_15 : aCode 65 15 = (Instr.iload_n 2, 16, [], 0) ∧ bMask 65 15 = [] := ⟨rfl, rfl⟩
theorem E65_16 : aCode 65 16 = (Instr.iconst 1, 17, [], 1) ∧ bMask 65 16 = [] := ⟨rfl, rfl⟩
theorem E65_17 : aCode 65 17 = (Instr.if_icmp .lt 8, 20, [25], 0) ∧ bMask 65 17 = [] := ⟨rfl, rfl⟩
theorem E65_20 : aCode 65 20 = (Instr.iload_n 2, 21, [], 0) ∧ bMask 65 20 = [] := ⟨rfl, rfl⟩
theorem E65_21 : aCode 65 21 = (Instr.iconst 4, 22, [], 4) ∧ bMask 65 21 = [] := ⟨rfl, rfl⟩
theorem E65_22 : aCode 65 22 = (Instr.if_icmp .le 5, 25, [27], 0) ∧ bMask 65 22 = [] := ⟨rfl, rfl⟩
theorem E65_25 : aCode 65 25 = (Instr.iconst (-1), 26, [], (-1)) ∧ bMask 65 25 = [] := ⟨rfl, rfl⟩
theorem E65_26 : aCode 65 26 = (Instr.ireturn, 27, [0], 0) ∧ bMask 65 26 = [] := ⟨rfl, rfl⟩
theorem E65_27 : aCode 65 27 = (Instr.aload_n 0, 28, [], 0) ∧ bMask 65 27 = [] := ⟨rfl, rfl⟩
theorem E65_28 : aCode 65 28 = (Instr.iload_n 1, 29, [], 0) ∧ bMask 65 28 = [] := ⟨rfl, rfl⟩
theorem E65_29 : aCode 65 29 = (Instr.putfield 30, 32, [50, 6, 3, 0], 0) ∧ bMask 65 29 = [] := ⟨rfl, rfl⟩
theorem E65_32 : aCode 65 32 = (Instr.aload_n 0, 33, [], 0) ∧ bMask 65 32 = [] := ⟨rfl, rfl⟩
theorem E65_33 : aCode 65 33 = (Instr.iconst 1, 34, [], 1) ∧ bMask 65 33 = [] := ⟨rfl, rfl⟩
theorem E65_34 : aCode 65 34 = (Instr.putfield 48, 37, [51, 6, 7, 1], 0) ∧ bMask 65 34 = [] := ⟨rfl, rfl⟩
theorem E65_37 : aCode 65 37 = (Instr.iload_n 2, 38, [], 0) ∧ bMask 65 37 = [] := ⟨rfl, rfl⟩
theorem E65_38 : aCode 65 38 = (Instr.ireturn, 39, [0], 0) ∧ bMask 65 38 = [] := ⟨rfl, rfl⟩
theorem g_X6_choose_0 {Q : bQ} {M : bM} {x1 : Int32} (h : bCall 0 [cI x1] M (fun v1 M2 => bV1 v1 fun r3 => (((x1 < 0) → (Q (some (cI (-1 : Int32))) M2)) ∧ (¬ (x1 < 0) → ((((64 : Int32) ≤ x1) → (Q (some (cI (-1 : Int32))) M2)) ∧ (¬ ((64 : Int32) ≤ x1) → (((r3 < (1 : Int32)) → (Q (some (cI (-1 : Int32))) M2)) ∧ (¬ (r3 < (1 : Int32)) → (((r3 ≤ (4 : Int32)) → (((1 : Int32) = 0 ∨ (1 : Int32) = 1) ∧ (Q (some (cI r3)) (bU (bU M2 0 0 3 x1) 0 0 7 (1 : Int32))))) ∧ (¬ (r3 ≤ (4 : Int32)) → (Q (some (cI (-1 : Int32))) M2))))))))))) : bCall 65 [cR 0 0, cI x1] M Q := s_iload_n E65_0.1 (k_ E65_0) rfl (s_scall1 E65_1.1 (k_ E65_1) rfl rfl rfl h (fun M2 r3 z0 => s_istore_n E65_4.1 (k_ E65_4) (s_iload_n E65_5.1 (k_ E65_5) rfl (s_if_lt E65_6.1 (k_ E65_6) ⟨fun c1 => s_iconst E65_25.1 (k_ E65_25) (s_iret E65_26.1 (k_ E65_26) (z0.1 c1)), fun c1 => s_iload_n E65_9.1 (k_ E65_9) rfl (s_bipush E65_10.1 (k_ E65_10) (s_icmp_ge E65_12.1 (k_ E65_12) ⟨fun c2 => s_iconst E65_25.1 (k_ E65_25) (s_iret E65_26.1 (k_ E65_26) ((z0.2 c1).1 c2)), fun c2 => s_iload_n E65_15.1 (k_ E65_15) rfl (s_iconst E65_16.1 (k_ E65_16) (s_icmp_lt E65_17.1 (k_ E65_17) ⟨fun c3 => s_iconst E65_25.1 (k_ E65_25) (s_iret E65_26.1 (k_ E65_26) (((z0.2 c1).2 c2).1 c3)), fun c3 => s_iload_n E65_20.1 (k_ E65_20) rfl (s_iconst E65_21.1 (k_ E65_21) (s_icmp_le E65_22.1 (k_ E65_22) ⟨fun c4 => s_aload_n E65_27.1 (k_ E65_27) rfl (s_iload_n E65_28.1 (k_ E65_28) rfl (s_putI E65_29.1 (k_ E65_29) rfl (s_aload_n E65_32.1 (k_ E65_32) rfl (s_iconst E65_33.1 (k_ E65_33) (s_putZ E65_34.1 (k_ E65_34) rfl ⟨((((z0.2 c1).2 c2).2 c3).1 c4).1, s_iload_n E65_37.1 (k_ E65_37) rfl (s_iret E65_38.1 (k_ E65_38) (((((z0.2 c1).2 c2).2 c3).1 c4).2))⟩))))), fun c4 => s_iconst E65_25.1 (k_ E65_25) (s_iret E65_26.1 (k_ E65_26) ((((z0.2 c1).2 c2).2 c3).2 c4))⟩))⟩))⟩))⟩))))
-- 66: X6_isChosen
theorem E66_0 : aCode 66 0 = (Instr.iload_n 1, 1, [], 0) ∧ bMask 66 0 = [] := ⟨rfl, rfl⟩
theorem E66_1 : aCode 66 1 = (Instr.ifCond .lt 18, 4, [19], 0) ∧ bMask 66 1 = [] := ⟨rfl, rfl⟩
theorem E66_4 : aCode 66 4 = (Instr.iload_n 1, 5, [], 0) ∧ bMask 66 4 = [] := ⟨rfl, rfl⟩
theorem E66_5 : aCode 66 5 = (Instr.aload_n 0, 6, [], 0) ∧ bMask 66 5 = [] := ⟨rfl, rfl⟩
theorem E66_6 : aCode 66 6 = (Instr.getfield 30, 9, [50, 6, 3, 0], 0) ∧ bMask 66 6 = [] := ⟨rfl, rfl⟩
theorem E66_9 : aCode 66 9 = (Instr.invokestatic 143, 12, [0, 1, 1, 0, 0, 46], 0) ∧ bMask 66 9 = [] := ⟨rfl, rfl⟩
theorem E66_12 : aCode 66 12 = (Instr.if_icmp .ge 7, 15, [19], 0) ∧ bMask 66 12 = [] := ⟨rfl, rfl⟩
theorem E66_15 : aCode 66 15 = (Instr.iconst 1, 16, [], 1) ∧ bMask 66 15 = [] := ⟨rfl, rfl⟩
theorem E66_16 : aCode 66 16 = (Instr.goto 4, 20, [], 0) ∧ bMask 66 16 = [] := ⟨rfl, rfl⟩
theorem E66_19 : aCode 66 19 = (Instr.iconst 0, 20, [], 0) ∧ bMask 66 19 = [] := ⟨rfl, rfl⟩
theorem E66_20 : aCode 66 20 = (Instr.ireturn, 21, [1], 0) ∧ bMask 66 20 = [] := ⟨rfl, rfl⟩
theorem g_X6_isChosen_0 {Q : bQ} {M : bM} {x1 : Int32} (h : ((x1 < 0) → (((0 : Int32) = 0 ∨ (0 : Int32) = 1) ∧ Q (some (cI (0 : Int32))) M)) ∧ (¬ (x1 < 0) → (bCall 0 [cI (M 0 0 3)] M (fun v1 M2 => bV1 v1 fun r3 => (((r3 ≤ x1) → (((0 : Int32) = 0 ∨ (0 : Int32) = 1) ∧ Q (some (cI (0 : Int32))) M2)) ∧ (¬ (r3 ≤ x1) → (((1 : Int32) = 0 ∨ (1 : Int32) = 1) ∧ Q (some (cI (1 : Int32))) M2))))))) : bCall 66 [cR 0 0, cI x1] M Q := s_iload_n E66_0.1 (k_ E66_0) rfl (s_if_lt E66_1.1 (k_ E66_1) ⟨fun c0 => s_iconst E66_19.1 (k_ E66_19) (s_zret E66_20.1 (k_ E66_20) (h.1 c0)), fun c0 => s_iload_n E66_4.1 (k_ E66_4) rfl (s_aload_n E66_5.1 (k_ E66_5) rfl (s_getI0 E66_6.1 (k_ E66_6) rfl (s_scall1 E66_9.1 (k_ E66_9) rfl rfl rfl (h.2 c0) (fun M2 r3 z1 => s_icmp_ge E66_12.1 (k_ E66_12) ⟨fun c2 => s_iconst E66_19.1 (k_ E66_19) (s_zret E66_20.1 (k_ E66_20) (z1.1 c2)), fun c2 => s_iconst E66_15.1 (k_ E66_15) (s_goto E66_16.1 (k_ E66_16) (s_zret E66_20.1 (k_ E66_20) (z1.2 c2)))⟩))))⟩)
-- 67: X6_gatherChosen
theorem E67_0 : aCode 67 0 = (Instr.iconst 0, 1, [], 0) ∧ bMask 67 0 = [] := ⟨rfl, rfl⟩
theorem E67_1 : aCode 67 1 = (Instr.istore_n 1, 2, [], 0) ∧ bMask 67 1 = [] := ⟨rfl, rfl⟩
theorem E67_2 : aCode 67 2 = (Instr.iconst 0, 3, [], 0) ∧ bMask 67 2 = [] := ⟨rfl, rfl⟩
theorem E67_3 : aCode 67 3 = (Instr.istore_n 2, 4, [], 0) ∧ bMask 67 3 = [] := ⟨rfl, rfl⟩
theorem E67_4 : aCode 67 4 = (Instr.iload_n 2, 5, [], 0) ∧ bMask 67 4 = [] := ⟨rfl, rfl⟩
theorem E67_5 : aCode 67 5 = (Instr.bipush 6, 7, [], 6) ∧ bMask 67 5 = [] := ⟨rfl, rfl⟩
theorem E67_7 : aCode 67 7 = (Instr.if_icmp .ge 59, 10, [66], 0) ∧ bMask 67 7 = [] := ⟨rfl, rfl⟩
theorem E67_10 : aCode 67 10 = (Instr.iload_n 1, 11, [], 0) ∧ bMask 67 10 = [] := ⟨rfl, rfl⟩
theorem E67_11 : aCode 67 11 = (Instr.iconst 4, 12, [], 4) ∧ bMask 67 11 = [] := ⟨rfl, rfl⟩
theorem E67_12 : aCode 67 12 = (Instr.if_icmp .ge 54, 15, [66], 0) ∧ bMask 67 12 = [] := ⟨rfl, rfl⟩
theorem E67_15 : aCode 67 15 = (Instr.aload_n 0, 16, [], 0) ∧ bMask 67 15 = [] := ⟨rfl, rfl⟩
theorem E67_16 : aCode 67 16 = (Instr.getfield 30, 19, [50, 6, 3, 0], 0) ∧ bMask 67 16 = [] := ⟨rfl, rfl⟩
theorem E67_19 : aCode 67 19 = (Instr.iload_n 2, 20, [], 0) ∧ bMask 67 19 = [] := ⟨rfl, rfl⟩
theorem E67_20 : aCode 67 20 = (Instr.ishr, 21, [], 0) ∧ bMask 67 20 = [] := ⟨rfl, rfl⟩
theorem E67_21 : aCode 67 21 = (Instr.iconst 1, 22, [], 1) ∧ bMask 67 21 = [] := ⟨rfl, rfl⟩
theorem E67_22 : aCode 67 22 = (Instr.iand, 23, [], 0) ∧ bMask 67 22 = [] := ⟨rfl, rfl⟩
theorem E67_23 : aCode 67 23 = (Instr.ifCond .eq 37, 26, [60], 0) ∧ bMask 67 23 = [] := ⟨rfl, rfl⟩
theorem E67_26 : aCode 67 26 = (Instr.aload_n 0, 27, [], 0) ∧ bMask 67 26 = [] := ⟨rfl, rfl⟩
theorem E67_27 : aCode 67 27 = (Instr.getfield 18, 30, [42, 6, 1, 2], 0) ∧ bMask 67 27 = [] := ⟨rfl, rfl⟩
theorem E67_30 : aCode 67 30 = (Instr.iload_n 2, 31, [], 0) ∧ bMask 67 30 = [] := ⟨rfl, rfl⟩
theorem E67_31 : aCode 67 31 = (Instr.aaload, 32, [2], 0) ∧ bMask 67 31 = [] := ⟨rfl, rfl⟩
theorem E67_32 : aCode 67 32 = (Instr.iconst 0, 33, [], 0) ∧ bMask 67 32 = [] := ⟨rfl, rfl⟩
theorem E67_33 : aCode 67 33 = (Instr.aload_n 0, 34, [], 0) ∧ bMask 67 33 = [] := ⟨rfl, rfl⟩
theorem E67_34 : aCode 67 34 = (Instr.getfield 52, 37, [52, 6, 8, 2], 0) ∧ bMask 67 34 = [] := ⟨rfl, rfl⟩
theorem E67_37 : aCode 67 37 = (Instr.iload_n 1, 38, [], 0) ∧ bMask 67 37 = [] := ⟨rfl, rfl⟩
theorem E67_38 : aCode 67 38 = (Instr.aaload, 39, [2], 0) ∧ bMask 67 38 = [] := ⟨rfl, rfl⟩
theorem E67_39 : aCode 67 39 = (Instr.iconst 0, 40, [], 0) ∧ bMask 67 39 = [] := ⟨rfl, rfl⟩
theorem E67_40 : aCode 67 40 = (Instr.bipush 32, 42, [], 32) ∧ bMask 67 40 = [] := ⟨rfl, rfl⟩
theorem E67_42 : aCode 67 42 = (Instr.invokestatic 120, 45, [1000, 120], 0) ∧ bMask 67 42 = [] := ⟨rfl, rfl⟩
theorem E67_45 : aCode 67 45 = (Instr.aload_n 0, 46, [], 0) ∧ bMask 67 45 = [] := ⟨rfl, rfl⟩
theorem E67_46 : aCode 67 46 = (Instr.getfield 55, 49, [53, 6, 9, 2], 0) ∧ bMask 67 46 = [] := ⟨rfl, rfl⟩
theorem E67_49 : aCode 67 49 = (Instr.iload_n 1, 50, [], 0) ∧ bMask 67 49 = [] := ⟨rfl, rfl⟩
theorem E67_50 : aCode 67 50 = (Instr.aload_n 0, 51, [], 0) ∧ bMask 67 50 = [] := ⟨rfl, rfl⟩
theorem E67_51 : aCode 67 51 = (Instr.getfield 37, 54, [54, 6, 5, 2], 0) ∧ bMask 67 51 = [] := ⟨rfl, rfl⟩
theorem E67_54 : aCode 67 54 = (Instr.iload_n 2, 55, [], 0) ∧ bMask 67 54 = [] := ⟨rfl, rfl⟩
theorem E67_55 : aCode 67 55 = (Instr.iaload, 56, [0], 0) ∧ bMask 67 55 = [] := ⟨rfl, rfl⟩
theorem E67_56 : aCode 67 56 = (Instr.iastore, 57, [0], 0) ∧ bMask 67 56 = [] := ⟨rfl, rfl⟩
theorem E67_57 : aCode 67 57 = (Instr.iinc 1 1, 60, [], 1) ∧ bMask 67 57 = [] := ⟨rfl, rfl⟩
theorem E67_60 : aCode 67 60 = (Instr.iinc 2 1, 63, [], 1) ∧ bMask 67 60 = [] := ⟨rfl, rfl⟩
theorem E67_63 : aCode 67 63 = (Instr.goto (-59), 4, [], 0) ∧ bMask 67 63 = [] := ⟨rfl, rfl⟩
theorem E67_66 : aCode 67 66 = (Instr.iload_n 1, 67, [], 0) ∧ bMask 67 66 = [] := ⟨rfl, rfl⟩
theorem E67_67 : aCode 67 67 = (Instr.ireturn, 68, [0], 0) ∧ bMask 67 67 = [] := ⟨rfl, rfl⟩
theorem g_X6_gatherChosen_0 {Q : bQ} {M : bM}  (h : bGo 67 Q 4 [some (cR 0 0), some (cI (0 : Int32)), some (cI (0 : Int32))] [] M) : bCall 67 [cR 0 0] M Q := s_iconst E67_0.1 (k_ E67_0) (s_istore_n E67_1.1 (k_ E67_1) (s_iconst E67_2.1 (k_ E67_2) (s_istore_n E67_3.1 (k_ E67_3) (h))))
theorem g_X6_gatherChosen_4 {Q : bQ} {M : bM} {x1 : Int32} {x2 : Int32} (h : (((6 : Int32) ≤ x2) → (Q (some (cI x1)) M)) ∧ (¬ ((6 : Int32) ≤ x2) → ((((4 : Int32) ≤ x1) → (Q (some (cI x1)) M)) ∧ (¬ ((4 : Int32) ≤ x1) → ((((((M 0 0 3) >>> (x2 &&& 31)) &&& (1 : Int32)) = 0) → bGo 67 Q 4 [some (cR 0 0), some (cI x1), some (cI (x2 + (1 : Int32)))] [] M) ∧ (¬ ((((M 0 0 3) >>> (x2 &&& 31)) &&& (1 : Int32)) = 0) → ((vp_in x2 6) ∧ ((vp_in x1 4) ∧ ((¬ (0 : Int32) < 0 ∧ ¬ (0 : Int32) < 0 ∧ ¬ (32 : Int32) < 0 ∧ (0 : Int32).toNatClampNeg + (32 : Int32).toNatClampNeg ≤ 32 ∧ (0 : Int32).toNatClampNeg + (32 : Int32).toNatClampNeg ≤ 32) ∧ ((vp_in x2 6) ∧ ((vp_in x1 4) ∧ bGo 67 Q 4 [some (cR 0 0), some (cI (x1 + (1 : Int32))), some (cI (x2 + (1 : Int32)))] [] (bU (bCp M 7 x2.toNatClampNeg 7 (8 + x1.toNatClampNeg) (0 : Int32) (0 : Int32) (32 : Int32)) 9 0 x1.toNatClampNeg ((bCp M 7 x2.toNatClampNeg 7 (8 + x1.toNatClampNeg) (0 : Int32) (0 : Int32) (32 : Int32)) 11 0 x2.toNatClampNeg))))))))))))) : bGo 67 Q 4 [some (cR 0 0), some (cI x1), some (cI x2)] [] M := s_iload_n E67_4.1 (k_ E67_4) rfl (s_bipush E67_5.1 (k_ E67_5) (s_icmp_ge E67_7.1 (k_ E67_7) ⟨fun c0 => s_iload_n E67_66.1 (k_ E67_66) rfl (s_iret E67_67.1 (k_ E67_67) (h.1 c0)), fun c0 => s_iload_n E67_10.1 (k_ E67_10) rfl (s_iconst E67_11.1 (k_ E67_11) (s_icmp_ge E67_12.1 (k_ E67_12) ⟨fun c1 => s_iload_n E67_66.1 (k_ E67_66) rfl (s_iret E67_67.1 (k_ E67_67) ((h.2 c0).1 c1)), fun c1 => s_aload_n E67_15.1 (k_ E67_15) rfl (s_getI0 E67_16.1 (k_ E67_16) rfl (s_iload_n E67_19.1 (k_ E67_19) rfl (s_ishr E67_20.1 (k_ E67_20) (s_iconst E67_21.1 (k_ E67_21) (s_iand E67_22.1 (k_ E67_22) (s_if_eq E67_23.1 (k_ E67_23) ⟨fun c2 => s_iinc E67_60.1 (k_ E67_60) rfl (s_goto E67_63.1 (k_ E67_63) (((h.2 c0).2 c1).1 c2)), fun c2 => s_aload_n E67_26.1 (k_ E67_26) rfl (s_getR E67_27.1 (k_ E67_27) rfl rfl (s_iload_n E67_30.1 (k_ E67_30) rfl (s_aaload E67_31.1 (k_ E67_31) rfl ⟨(((h.2 c0).2 c1).2 c2).1, s_iconst E67_32.1 (k_ E67_32) (s_aload_n E67_33.1 (k_ E67_33) rfl (s_getR E67_34.1 (k_ E67_34) rfl rfl (s_iload_n E67_37.1 (k_ E67_37) rfl (s_aaload E67_38.1 (k_ E67_38) rfl ⟨((((h.2 c0).2 c1).2 c2).2).1, s_iconst E67_39.1 (k_ E67_39) (s_bipush E67_40.1 (k_ E67_40) (s_acopy E67_42.1 (k_ E67_42) rfl ⟨(((((h.2 c0).2 c1).2 c2).2).2).1, s_aload_n E67_45.1 (k_ E67_45) rfl (s_getR E67_46.1 (k_ E67_46) rfl rfl (s_iload_n E67_49.1 (k_ E67_49) rfl (s_aload_n E67_50.1 (k_ E67_50) rfl (s_getR E67_51.1 (k_ E67_51) rfl rfl (s_iload_n E67_54.1 (k_ E67_54) rfl (s_iaload E67_55.1 (k_ E67_55) rfl ⟨((((((h.2 c0).2 c1).2 c2).2).2).2).1, s_iastore E67_56.1 (k_ E67_56) rfl ⟨(((((((h.2 c0).2 c1).2 c2).2).2).2).2).1, s_iinc E67_57.1 (k_ E67_57) rfl (s_iinc E67_60.1 (k_ E67_60) rfl (s_goto E67_63.1 (k_ E67_63) ((((((((h.2 c0).2 c1).2 c2).2).2).2).2).2)))⟩⟩))))))⟩))⟩))))⟩)))⟩))))))⟩))⟩))
-- 68: X6_currentBasis
theorem E68_0 : aCode 68 0 = (Instr.aload_n 0, 1, [], 0) ∧ bMask 68 0 = [] := ⟨rfl, rfl⟩
theorem E68_1 : aCode 68 1 = (Instr.getfield 48, 4, [51, 6, 7, 1], 0) ∧ bMask 68 1 = [] := ⟨rfl, rfl⟩
theorem E68_4 : aCode 68 4 = (Instr.ifCond .eq 33, 7, [37], 0) ∧ bMask 68 4 = [] := ⟨rfl, rfl⟩
theorem E68_7 : aCode 68 7 = (Instr.aload_n 0, 8, [], 0) ∧ bMask 68 7 = [] := ⟨rfl, rfl⟩
theorem E68_8 : aCode 68 8 = (Instr.invokevirtual 186, 11, [67, 1, 1, 6, 0, 47], 0) ∧ bMask 68 8 = [] := ⟨rfl, rfl⟩
theorem E68_11 : aCode 68 11 = (Instr.istore_n 1, 12, [], 0) ∧ bMask 68 11 = [] := ⟨rfl, rfl⟩
theorem E68_12 : aCode 68 12 = (Instr.aload_n 0, 13, [], 0) ∧ bMask 68 12 = [] := ⟨rfl, rfl⟩
theorem E68_13 : aCode 68 13 = (Instr.getfield 44, 16, [55, 6, 6, 2], 0) ∧ bMask 68 13 = [] := ⟨rfl, rfl⟩
theorem E68_16 : aCode 68 16 = (Instr.aload_n 0, 17, [], 0) ∧ bMask 68 16 = [] := ⟨rfl, rfl⟩
theorem E68_17 : aCode 68 17 = (Instr.getfield 52, 20, [52, 6, 8, 2], 0) ∧ bMask 68 17 = [] := ⟨rfl, rfl⟩
theorem E68_20 : aCode 68 20 = (Instr.aload_n 0, 21, [], 0) ∧ bMask 68 20 = [] := ⟨rfl, rfl⟩
theorem E68_21 : aCode 68 21 = (Instr.getfield 55, 24, [53, 6, 9, 2], 0) ∧ bMask 68 21 = [] := ⟨rfl, rfl⟩
theorem E68_24 : aCode 68 24 = (Instr.iload_n 1, 25, [], 0) ∧ bMask 68 24 = [] := ⟨rfl, rfl⟩
theorem E68_25 : aCode 68 25 = (Instr.aload_n 0, 26, [], 0) ∧ bMask 68 25 = [] := ⟨rfl, rfl⟩
theorem E68_26 : aCode 68 26 = (Instr.getfield 34, 29, [56, 6, 4, 0], 0) ∧ bMask 68 26 = [] := ⟨rfl, rfl⟩
theorem E68_29 : aCode 68 29 = (Instr.invokevirtual 204, 32, [16, 5, 0, 0, 0, 48], 0) ∧ bMask 68 29 = [] := ⟨rfl, rfl⟩
theorem E68_32 : aCode 68 32 = (Instr.aload_n 0, 33, [], 0) ∧ bMask 68 32 = [] := ⟨rfl, rfl⟩
theorem E68_33 : aCode 68 33 = (Instr.iconst 0, 34, [], 0) ∧ bMask 68 33 = [] := ⟨rfl, rfl⟩
theorem E68_34 : aCode 68 34 = (Instr.putfield 48, 37, [51, 6, 7, 1], 0) ∧ bMask 68 34 = [] := ⟨rfl, rfl⟩
theorem E68_37 : aCode 68 37 = (Instr.aload_n 0, 38, [], 0) ∧ bMask 68 37 = [] := ⟨rfl, rfl⟩
theorem E68_38 : aCode 68 38 = (Instr.getfield 44, 41, [55, 6, 6, 2], 0) ∧ bMask 68 38 = [] := ⟨rfl, rfl⟩
theorem E68_41 : aCode 68 41 = (Instr.areturn, 42, [], 0) ∧ bMask 68 41 = [] := ⟨rfl, rfl⟩
theorem g_X6_currentBasis_0 {Q : bQ} {M : bM}  (h : (((M 0 0 7) = 0) → (Q (some (cR 3 0)) M)) ∧ (¬ ((M 0 0 7) = 0) → (bCall 67 [cR 0 0] M (fun v1 M2 => bV1 v1 fun r3 => (bCall 16 [cR 3 0, cR 17 0, cR 9 0, cI r3, cI (M2 0 0 4)] M2 (fun v4 M5 => bV0 v4 (((0 : Int32) = 0 ∨ (0 : Int32) = 1) ∧ (Q (some (cR 3 0)) (bU M5 0 0 7 (0 : Int32)))))))))) : bCall 68 [cR 0 0] M Q := s_aload_n E68_0.1 (k_ E68_0) rfl (s_getI1 E68_1.1 (k_ E68_1) rfl (s_if_eq E68_4.1 (k_ E68_4) ⟨fun c0 => s_aload_n E68_37.1 (k_ E68_37) rfl (s_getR E68_38.1 (k_ E68_38) rfl rfl (s_aret E68_41.1 (k_ E68_41) (h.1 c0))), fun c0 => s_aload_n E68_7.1 (k_ E68_7) rfl (s_vcall1 E68_8.1 (k_ E68_8) rfl rfl rfl (h.2 c0) (fun M2 r3 z1 => s_istore_n E68_11.1 (k_ E68_11) (s_aload_n E68_12.1 (k_ E68_12) rfl (s_getR E68_13.1 (k_ E68_13) rfl rfl (s_aload_n E68_16.1 (k_ E68_16) rfl (s_getR E68_17.1 (k_ E68_17) rfl rfl (s_aload_n E68_20.1 (k_ E68_20) rfl (s_getR E68_21.1 (k_ E68_21) rfl rfl (s_iload_n E68_24.1 (k_ E68_24) rfl (s_aload_n E68_25.1 (k_ E68_25) rfl (s_getI0 E68_26.1 (k_ E68_26) rfl (s_vcall0 E68_29.1 (k_ E68_29) rfl rfl rfl z1 (fun M5 z2 => s_aload_n E68_32.1 (k_ E68_32) rfl (s_iconst E68_33.1 (k_ E68_33) (s_putZ E68_34.1 (k_ E68_34) rfl ⟨z2.1, s_aload_n E68_37.1 (k_ E68_37) rfl (s_getR E68_38.1 (k_ E68_38) rfl rfl (s_aret E68_41.1 (k_ E68_41) z2.2))⟩)))))))))))))))⟩))
-- 69: X6_comes
theorem E69_0 : aCode 69 0 = (Instr.aload_n 0, 1, [], 0) ∧ bMask 69 0 = [] := ⟨rfl, rfl⟩
theorem E69_1 : aCode 69 1 = (Instr.iload_n 1, 2, [], 0) ∧ bMask 69 1 = [] := ⟨rfl, rfl⟩
theorem E69_2 : aCode 69 2 = (Instr.invokevirtual 166, 5, [66, 2, 1, 6, 0, 49], 0) ∧ bMask 69 2 = [] := ⟨rfl, rfl⟩
theorem E69_5 : aCode 69 5 = (Instr.ifCond .eq 10, 8, [15], 0) ∧ bMask 69 5 = [] := ⟨rfl, rfl⟩
theorem E69_8 : aCode 69 8 = (Instr.iload_n 2, 9, [], 0) ∧ bMask 69 8 = [] := ⟨rfl, rfl⟩
theorem E69_9 : aCode 69 9 = (Instr.invokestatic 91, 12, [61, 1, 1, 0, 0, 43], 0) ∧ bMask 69 9 = [] := ⟨rfl, rfl⟩
theorem E69_12 : aCode 69 12 = (Instr.ifCond .ne 5, 15, [17], 0) ∧ bMask 69 12 = [] := ⟨rfl, rfl⟩
theorem E69_15 : aCode 69 15 = (Instr.iconst (-1), 16, [], (-1)) ∧ bMask 69 15 = [] := ⟨rfl, rfl⟩
theorem E69_16 : aCode 69 16 = (Instr.ireturn, 17, [0], 0) ∧ bMask 69 16 = [] := ⟨rfl, rfl⟩
theorem E69_17 : aCode 69 17 = (Instr.aload_n 0, 18, [], 0) ∧ bMask 69 17 = [] := ⟨rfl, rfl⟩
theorem E69_18 : aCode 69 18 = (Instr.invokevirtual 148, 21, [68, 1, 103, 6, 0, 50], 0) ∧ bMask 69 18 = [] := ⟨rfl, rfl⟩
theorem E69_21 : aCode 69 21 = (Instr.getfield 172, 24, [57, 0, 2, 2], 0) ∧ bMask 69 21 = [] := ⟨rfl, rfl⟩
theorem E69_24 : aCode 69 24 = (Instr.iload_n 1, 25, [], 0) ∧ bMask 69 24 = [] := ⟨rfl, rfl⟩
theorem E69_25 : aCode 69 25 = (Instr.aaload, 26, [2], 0) ∧ bMask 69 25 = [] := ⟨rfl, rfl⟩
theorem E69_26 : aCode 69 26 = (Instr.iconst 0, 27, [], 0) ∧ bMask 69 26 = [] := ⟨rfl, rfl⟩
theorem E69_27 : aCode 69 27 = (Instr.aload_n 0, 28, [], 0) ∧ bMask 69 27 = [] := ⟨rfl, rfl⟩
theorem E69_28 : aCode 69 28 = (Instr.getfield 18, 31, [42, 6, 1, 2], 0) ∧ bMask 69 28 = [] := ⟨rfl, rfl⟩
theorem E69_31 : aCode 69 31 = (Instr.iload_n 2, 32, [], 0) ∧ bMask 69 31 = [] := ⟨rfl, rfl⟩
theorem E69_32 : aCode 69 32 = (Instr.aaload, 33, [2], 0) ∧ bMask 69 32 = [] := ⟨rfl, rfl⟩
theorem E69_33 : aCode 69 33 = (Instr.iconst 0, 34, [], 0) ∧ bMask 69 33 = [] := ⟨rfl, rfl⟩
theorem E69_34 : aCode 69 34 = (Instr.bipush 32, 36, [], 32) ∧ bMask 69 34 = [] := ⟨rfl, rfl⟩
theorem E69_36 : aCode 69 36 = (Instr.invokestatic 120, 39, [1000, 120], 0) ∧ bMask 69 36 = [] := ⟨rfl, rfl⟩
theorem E69_39 : aCode 69 39 = (Instr.aload_n 0, 40, [], 0) ∧ bMask 69 39 = [] := ⟨rfl, rfl⟩
theorem E69_40 : aCode 69 40 = (Instr.iconst 1, 41, [], 1) ∧ bMask 69 40 = [] := ⟨rfl, rfl⟩
theorem E69_41 : aCode 69 41 = (Instr.putfield 48, 44, [51, 6, 7, 1], 0) ∧ bMask 69 41 = [] := ⟨rfl, rfl⟩
theorem E69_44 : aCode 69 44 = (Instr.iconst 1, 45, [], 1) ∧ bMask 69 44 = [] := ⟨rfl, rfl⟩
theorem E69_45 : aCode 69 45 = (Instr.ireturn, 46, [0], 0) ∧ bMask 69 45 = [] := ⟨rfl, rfl⟩
theorem g_X6_comes_0 {Q : bQ} {M : bM} {x1 : Int32} {x2 : Int32} (h : bCall 66 [cR 0 0, cI x1] M (fun v1 M2 => bV1 v1 fun r3 => (((r3 = 0) → (Q (some (cI (-1 : Int32))) M2)) ∧ (¬ (r3 = 0) → (bCall 61 [cI x2] M2 (fun v4 M5 => bV1 v4 fun r6 => (((¬ r6 = 0) → (bCall 68 [cR 0 0] M5 (fun v7 M8 => bV4 v7 3 fun q9 => ((vp_in x1 4) ∧ ((vp_in x2 6) ∧ ((¬ (0 : Int32) < 0 ∧ ¬ (0 : Int32) < 0 ∧ ¬ (32 : Int32) < 0 ∧ (0 : Int32).toNatClampNeg + (32 : Int32).toNatClampNeg ≤ 32 ∧ (0 : Int32).toNatClampNeg + (32 : Int32).toNatClampNeg ≤ 32) ∧ (((1 : Int32) = 0 ∨ (1 : Int32) = 1) ∧ (Q (some (cI (1 : Int32))) (bU (bCp M8 7 (29 + x1.toNatClampNeg) 7 x2.toNatClampNeg (0 : Int32) (0 : Int32) (32 : Int32)) 0 0 7 (1 : Int32)))))))))) ∧ (¬ (¬ r6 = 0) → (Q (some (cI (-1 : Int32))) M5))))))))) : bCall 69 [cR 0 0, cI x1, cI x2] M Q := s_aload_n E69_0.1 (k_ E69_0) rfl (s_iload_n E69_1.1 (k_ E69_1) rfl (s_vcall1 E69_2.1 (k_ E69_2) rfl rfl rfl h (fun M2 r3 z0 => s_if_eq E69_5.1 (k_ E69_5) ⟨fun c1 => s_iconst E69_15.1 (k_ E69_15) (s_iret E69_16.1 (k_ E69_16) (z0.1 c1)), fun c1 => s_iload_n E69_8.1 (k_ E69_8) rfl (s_scall1 E69_9.1 (k_ E69_9) rfl rfl rfl (z0.2 c1) (fun M5 r6 z2 => s_if_ne E69_12.1 (k_ E69_12) ⟨fun c3 => s_aload_n E69_17.1 (k_ E69_17) rfl (s_vcall103 E69_18.1 (k_ E69_18) rfl rfl rfl (z2.1 c3) (fun M8 q9 z4 => s_getR E69_21.1 (k_ E69_21) rfl rfl (s_iload_n E69_24.1 (k_ E69_24) rfl (s_aaload E69_25.1 (k_ E69_25) rfl ⟨z4.1, s_iconst E69_26.1 (k_ E69_26) (s_aload_n E69_27.1 (k_ E69_27) rfl (s_getR E69_28.1 (k_ E69_28) rfl rfl (s_iload_n E69_31.1 (k_ E69_31) rfl (s_aaload E69_32.1 (k_ E69_32) rfl ⟨z4.2.1, s_iconst E69_33.1 (k_ E69_33) (s_bipush E69_34.1 (k_ E69_34) (s_acopy E69_36.1 (k_ E69_36) rfl ⟨z4.2.2.1, s_aload_n E69_39.1 (k_ E69_39) rfl (s_iconst E69_40.1 (k_ E69_40) (s_putZ E69_41.1 (k_ E69_41) rfl ⟨z4.2.2.2.1, s_iconst E69_44.1 (k_ E69_44) (s_iret E69_45.1 (k_ E69_45) z4.2.2.2.2)⟩))⟩))⟩))))⟩)))), fun c3 => s_iconst E69_15.1 (k_ E69_15) (s_iret E69_16.1 (k_ E69_16) (z2.2 c3))⟩))⟩)))
-- 70: X6_sheetsThere
theorem E70_0 : aCode 70 0 = (Instr.iconst 0, 1, [], 0) ∧ bMask 70 0 = [] := ⟨rfl, rfl⟩
theorem E70_1 : aCode 70 1 = (Instr.istore_n 1, 2, [], 0) ∧ bMask 70 1 = [] := ⟨rfl, rfl⟩
theorem E70_2 : aCode 70 2 = (Instr.iconst 0, 3, [], 0) ∧ bMask 70 2 = [] := ⟨rfl, rfl⟩
theorem E70_3 : aCode 70 3 = (Instr.istore_n 2, 4, [], 0) ∧ bMask 70 3 = [] := ⟨rfl, rfl⟩
theorem E70_4 : aCode 70 4 = (Instr.iload_n 2, 5, [], 0) ∧ bMask 70 4 = [] := ⟨rfl, rfl⟩
theorem E70_5 : aCode 70 5 = (Instr.iconst 3, 6, [], 3) ∧ bMask 70 5 = [] := ⟨rfl, rfl⟩
theorem E70_6 : aCode 70 6 = (Instr.if_icmp .ge 29, 9, [35], 0) ∧ bMask 70 6 = [] := ⟨rfl, rfl⟩
theorem E70_9 : aCode 70 9 = (Instr.iload_n 1, 10, [], 0) ∧ bMask 70 9 = [] := ⟨rfl, rfl⟩
theorem E70_10 : aCode 70 10 = (Instr.aload_n 0, 11, [], 0) ∧ bMask 70 10 = [] := ⟨rfl, rfl⟩
theorem E70_11 : aCode 70 11 = (Instr.getfield 73, 14, [58, 6, 13, 2], 0) ∧ bMask 70 11 = [] := ⟨rfl, rfl⟩
theorem E70_14 : aCode 70 14 = (Instr.iload_n 2, 15, [], 0) ∧ bMask 70 14 = [] := ⟨rfl, rfl⟩
theorem E70_15 : aCode 70 15 = (Instr.aaload, 16, [4], 0) ∧ bMask 70 15 = [] := ⟨rfl, rfl⟩
theorem E70_16 : aCode 70 16 = (Instr.invokevirtual 182, 19, [57, 1, 1, 5, 0, 51], 0) ∧ bMask 70 16 = [] := ⟨rfl, rfl⟩
theorem E70_19 : aCode 70 19 = (Instr.ifCond .eq 7, 22, [26], 0) ∧ bMask 70 19 = [] := ⟨rfl, rfl⟩
theorem E70_22 : aCode 70 22 = (Instr.iconst 0, 23, [], 0) ∧ bMask 70 22 = [] := ⟨rfl, rfl⟩
theorem E70_23 : aCode 70 23 = (Instr.goto 4, 27, [], 0) ∧ bMask 70 23 = [] := ⟨rfl, rfl⟩
theorem E70_26 : aCode 70 26 = (Instr.iconst 1, 27, [], 1) ∧ bMask 70 26 = [] := ⟨rfl, rfl⟩
theorem E70_27 : aCode 70 27 = (Instr.iadd, 28, [], 0) ∧ bMask 70 27 = [] := ⟨rfl, rfl⟩
theorem E70_28 : aCode 70 28 = (Instr.istore_n 1, 29, [], 0) ∧ bMask 70 28 = [] := ⟨rfl, rfl⟩
theorem E70_29 : aCode 70 29 = (Instr.iinc 2 1, 32, [], 1) ∧ bMask 70 29 = [] := ⟨rfl, rfl⟩
theorem E70_32 : aCode 70 32 = (Instr.goto (-28), 4, [], 0) ∧ bMask 70 32 = [] := ⟨rfl, rfl⟩
theorem E70_35 : aCode 70 35 = (Instr.iload_n 1, 36, [], 0) ∧ bMask 70 35 = [] := ⟨rfl, rfl⟩
theorem E70_36 : aCode 70 36 = (Instr.ireturn, 37, [0], 0) ∧ bMask 70 36 = [] := ⟨rfl, rfl⟩
theorem g_X6_sheetsThere_0 {Q : bQ} {M : bM}  (h : bGo 70 Q 4 [some (cR 0 0), some (cI (0 : Int32)), some (cI (0 : Int32))] [] M) : bCall 70 [cR 0 0] M Q := s_iconst E70_0.1 (k_ E70_0) (s_istore_n E70_1.1 (k_ E70_1) (s_iconst E70_2.1 (k_ E70_2) (s_istore_n E70_3.1 (k_ E70_3) (h))))
theorem g_X6_sheetsThere_4 {Q : bQ} {M : bM} {x1 : Int32} {x2 : Int32} (h : (((3 : Int32) ≤ x2) → (Q (some (cI x1)) M)) ∧ (¬ ((3 : Int32) ≤ x2) → ((vp_in x2 3) ∧ (bCall 57 [cR 6 x2.toNatClampNeg] M (fun v1 M2 => bV1 v1 fun r3 => (((r3 = 0) → bGo 70 Q 4 [some (cR 0 0), some (cI (x1 + (1 : Int32))), some (cI (x2 + (1 : Int32)))] [] M2) ∧ (¬ (r3 = 0) → bGo 70 Q 4 [some (cR 0 0), some (cI (x1 + (0 : Int32))), some (cI (x2 + (1 : Int32)))] [] M2))))))) : bGo 70 Q 4 [some (cR 0 0), some (cI x1), some (cI x2)] [] M := s_iload_n E70_4.1 (k_ E70_4) rfl (s_iconst E70_5.1 (k_ E70_5) (s_icmp_ge E70_6.1 (k_ E70_6) ⟨fun c0 => s_iload_n E70_35.1 (k_ E70_35) rfl (s_iret E70_36.1 (k_ E70_36) (h.1 c0)), fun c0 => s_iload_n E70_9.1 (k_ E70_9) rfl (s_aload_n E70_10.1 (k_ E70_10) rfl (s_getR E70_11.1 (k_ E70_11) rfl rfl (s_iload_n E70_14.1 (k_ E70_14) rfl (s_aaload E70_15.1 (k_ E70_15) rfl ⟨(h.2 c0).1, s_vcall1 E70_16.1 (k_ E70_16) rfl rfl rfl ((h.2 c0).2) (fun M2 r3 z1 => s_if_eq E70_19.1 (k_ E70_19) ⟨fun c2 => s_iconst E70_26.1 (k_ E70_26) (s_iadd E70_27.1 (k_ E70_27) (s_istore_n E70_28.1 (k_ E70_28) (s_iinc E70_29.1 (k_ E70_29) rfl (s_goto E70_32.1 (k_ E70_32) (z1.1 c2))))), fun c2 => s_iconst E70_22.1 (k_ E70_22) (s_goto E70_23.1 (k_ E70_23) (s_iadd E70_27.1 (k_ E70_27) (s_istore_n E70_28.1 (k_ E70_28) (s_iinc E70_29.1 (k_ E70_29) rfl (s_goto E70_32.1 (k_ E70_32) (z1.2 c2))))))⟩)⟩))))⟩))
-- 71: X6_seriesNotZero
theorem E71_0 : aCode 71 0 = (Instr.iconst 0, 1, [], 0) ∧ bMask 71 0 = [] := ⟨rfl, rfl⟩
theorem E71_1 : aCode 71 1 = (Instr.istore_n 1, 2, [], 0) ∧ bMask 71 1 = [] := ⟨rfl, rfl⟩
theorem E71_2 : aCode 71 2 = (Instr.iconst 0, 3, [], 0) ∧ bMask 71 2 = [] := ⟨rfl, rfl⟩
theorem E71_3 : aCode 71 3 = (Instr.istore_n 2, 4, [], 0) ∧ bMask 71 3 = [] := ⟨rfl, rfl⟩
theorem E71_4 : aCode 71 4 = (Instr.iload_n 2, 5, [], 0) ∧ bMask 71 4 = [] := ⟨rfl, rfl⟩
theorem E71_5 : aCode 71 5 = (Instr.bipush 6, 7, [], 6) ∧ bMask 71 5 = [] := ⟨rfl, rfl⟩
theorem E71_7 : aCode 71 7 = (Instr.if_icmp .ge 29, 10, [36], 0) ∧ bMask 71 7 = [] := ⟨rfl, rfl⟩
theorem E71_10 : aCode 71 10 = (Instr.aload_n 0, 11, [], 0) ∧ bMask 71 10 = [] := ⟨rfl, rfl⟩
theorem E71_11 : aCode 71 11 = (Instr.getfield 18, 14, [42, 6, 1, 2], 0) ∧ bMask 71 11 = [] := ⟨rfl, rfl⟩
theorem E71_14 : aCode 71 14 = (Instr.iload_n 2, 15, [], 0) ∧ bMask 71 14 = [] := ⟨rfl, rfl⟩
theorem E71_15 : aCode 71 15 = (Instr.aaload, 16, [2], 0) ∧ bMask 71 15 = [] := ⟨rfl, rfl⟩
theorem E71_16 : aCode 71 16 = (Instr.invokestatic 140, 19, [33, 1, 1, 0, 0, 52], 0) ∧ bMask 71 16 = [] := ⟨rfl, rfl⟩
theorem E71_19 : aCode 71 19 = (Instr.bipush 32, 21, [], 32) ∧ bMask 71 19 = [] := ⟨rfl, rfl⟩
theorem E71_21 : aCode 71 21 = (Instr.if_icmp .ge 9, 24, [30], 0) ∧ bMask 71 21 = [] := ⟨rfl, rfl⟩
theorem E71_24 : aCode 71 24 = (Instr.iload_n 1, 25, [], 0) ∧ bMask 71 24 = [] := ⟨rfl, rfl⟩
theorem E71_25 : aCode 71 25 = (Instr.iconst 1, 26, [], 1) ∧ bMask 71 25 = [] := ⟨rfl, rfl⟩
theorem E71_26 : aCode 71 26 = (Instr.iload_n 2, 27, [], 0) ∧ bMask 71 26 = [] := ⟨rfl, rfl⟩
theorem E71_27 : aCode 71 27 = (Instr.ishl, 28, [], 0) ∧ bMask 71 27 = [] := ⟨rfl, rfl⟩
theorem E71_28 : aCode 71 28 = (Instr.ior, 29, [], 0) ∧ bMask 71 28 = [] := ⟨rfl, rfl⟩
theorem E71_29 : aCode 71 29 = (Instr.istore_n 1, 30, [], 0) ∧ bMask 71 29 = [] := ⟨rfl, rfl⟩
theorem E71_30 : aCode 71 30 = (Instr.iinc 2 1, 33, [], 1) ∧ bMask 71 30 = [] := ⟨rfl, rfl⟩
theorem E71_33 : aCode 71 33 = (Instr.goto (-29), 4, [], 0) ∧ bMask 71 33 = [] := ⟨rfl, rfl⟩
theorem E71_36 : aCode 71 36 = (Instr.iload_n 1, 37, [], 0) ∧ bMask 71 36 = [] := ⟨rfl, rfl⟩
theorem E71_37 : aCode 71 37 = (Instr.ireturn, 38, [0], 0) ∧ bMask 71 37 = [] := ⟨rfl, rfl⟩
theorem g_X6_seriesNotZero_0 {Q : bQ} {M : bM}  (h : bGo 71 Q 4 [some (cR 0 0), some (cI (0 : Int32)), some (cI (0 : Int32))] [] M) : bCall 71 [cR 0 0] M Q := s_iconst E71_0.1 (k_ E71_0) (s_istore_n E71_1.1 (k_ E71_1) (s_iconst E71_2.1 (k_ E71_2) (s_istore_n E71_3.1 (k_ E71_3) (h))))
theorem g_X6_seriesNotZero_4 {Q : bQ} {M : bM} {x1 : Int32} {x2 : Int32} (h : (((6 : Int32) ≤ x2) → (Q (some (cI x1)) M)) ∧ (¬ ((6 : Int32) ≤ x2) → ((vp_in x2 6) ∧ (bCall 33 [cR 7 x2.toNatClampNeg] M (fun v1 M2 => bV1 v1 fun r3 => ((((32 : Int32) ≤ r3) → bGo 71 Q 4 [some (cR 0 0), some (cI x1), some (cI (x2 + (1 : Int32)))] [] M2) ∧ (¬ ((32 : Int32) ≤ r3) → bGo 71 Q 4 [some (cR 0 0), some (cI (x1 ||| ((1 : Int32) <<< (x2 &&& 31)))), some (cI (x2 + (1 : Int32)))] [] M2))))))) : bGo 71 Q 4 [some (cR 0 0), some (cI x1), some (cI x2)] [] M := s_iload_n E71_4.1 (k_ E71_4) rfl (s_bipush E71_5.1 (k_ E71_5) (s_icmp_ge E71_7.1 (k_ E71_7) ⟨fun c0 => s_iload_n E71_36.1 (k_ E71_36) rfl (s_iret E71_37.1 (k_ E71_37) (h.1 c0)), fun c0 => s_aload_n E71_10.1 (k_ E71_10) rfl (s_getR E71_11.1 (k_ E71_11) rfl rfl (s_iload_n E71_14.1 (k_ E71_14) rfl (s_aaload E71_15.1 (k_ E71_15) rfl ⟨(h.2 c0).1, s_scall1 E71_16.1 (k_ E71_16) rfl rfl rfl ((h.2 c0).2) (fun M2 r3 z1 => s_bipush E71_19.1 (k_ E71_19) (s_icmp_ge E71_21.1 (k_ E71_21) ⟨fun c2 => s_iinc E71_30.1 (k_ E71_30) rfl (s_goto E71_33.1 (k_ E71_33) (z1.1 c2)), fun c2 => s_iload_n E71_24.1 (k_ E71_24) rfl (s_iconst E71_25.1 (k_ E71_25) (s_iload_n E71_26.1 (k_ E71_26) rfl (s_ishl E71_27.1 (k_ E71_27) (s_ior E71_28.1 (k_ E71_28) (s_istore_n E71_29.1 (k_ E71_29) (s_iinc E71_30.1 (k_ E71_30) rfl (s_goto E71_33.1 (k_ E71_33) (z1.2 c2))))))))⟩))⟩)))⟩))
-- 72: X6_count
theorem E72_0 : aCode 72 0 = (Instr.iload_n 1, 1, [], 0) ∧ bMask 72 0 = [] := ⟨rfl, rfl⟩
theorem E72_1 : aCode 72 1 = (Instr.tableswitch 90 0 6 #[43, 51, 59, 67, 72, 80, 85], 44, [91, 44, 52, 60, 68, 73, 81, 86], 0) ∧ bMask 72 1 = [] := ⟨rfl, rfl⟩
theorem E72_44 : aCode 72 44 = (Instr.aload_n 0, 45, [], 0) ∧ bMask 72 44 = [] := ⟨rfl, rfl⟩
theorem E72_45 : aCode 72 45 = (Instr.getfield 10, 48, [39, 6, 0, 2], 0) ∧ bMask 72 45 = [] := ⟨rfl, rfl⟩
theorem E72_48 : aCode 72 48 = (Instr.getfield 82, 51, [59, 2, 0, 0], 0) ∧ bMask 72 48 = [] := ⟨rfl, rfl⟩
theorem E72_51 : aCode 72 51 = (Instr.ireturn, 52, [0], 0) ∧ bMask 72 51 = [] := ⟨rfl, rfl⟩
theorem E72_52 : aCode 72 52 = (Instr.aload_n 0, 53, [], 0) ∧ bMask 72 52 = [] := ⟨rfl, rfl⟩
theorem E72_53 : aCode 72 53 = (Instr.getfield 26, 56, [60, 6, 2, 2], 0) ∧ bMask 72 53 = [] := ⟨rfl, rfl⟩
theorem E72_56 : aCode 72 56 = (Instr.getfield 133, 59, [61, 4, 2, 0], 0) ∧ bMask 72 56 = [] := ⟨rfl, rfl⟩
theorem E72_59 : aCode 72 59 = (Instr.ireturn, 60, [0], 0) ∧ bMask 72 59 = [] := ⟨rfl, rfl⟩
theorem E72_60 : aCode 72 60 = (Instr.aload_n 0, 61, [], 0) ∧ bMask 72 60 = [] := ⟨rfl, rfl⟩
theorem E72_61 : aCode 72 61 = (Instr.getfield 67, 64, [43, 6, 12, 2], 0) ∧ bMask 72 61 = [] := ⟨rfl, rfl⟩
theorem E72_64 : aCode 72 64 = (Instr.invokevirtual 246, 67, [27, 1, 1, 1, 0, 53], 0) ∧ bMask 72 64 = [] := ⟨rfl, rfl⟩
theorem E72_67 : aCode 72 67 = (Instr.ireturn, 68, [0], 0) ∧ bMask 72 67 = [] := ⟨rfl, rfl⟩
theorem E72_68 : aCode 72 68 = (Instr.aload_n 0, 69, [], 0) ∧ bMask 72 68 = [] := ⟨rfl, rfl⟩
theorem E72_69 : aCode 72 69 = (Instr.invokevirtual 289, 72, [70, 1, 1, 6, 0, 54], 0) ∧ bMask 72 69 = [] := ⟨rfl, rfl⟩
theorem E72_72 : aCode 72 72 = (Instr.ireturn, 73, [0], 0) ∧ bMask 72 72 = [] := ⟨rfl, rfl⟩
theorem E72_73 : aCode 72 73 = (Instr.aload_n 0, 74, [], 0) ∧ bMask 72 73 = [] := ⟨rfl, rfl⟩
theorem E72_74 : aCode 72 74 = (Instr.getfield 67, 77, [43, 6, 12, 2], 0) ∧ bMask 72 74 = [] := ⟨rfl, rfl⟩
theorem E72_77 : aCode 72 77 = (Instr.getfield 292, 80, [62, 1, 1, 0], 0) ∧ bMask 72 77 = [] := ⟨rfl, rfl⟩
theorem E72_80 : aCode 72 80 = (Instr.ireturn, 81, [0], 0) ∧ bMask 72 80 = [] := ⟨rfl, rfl⟩
theorem E72_81 : aCode 72 81 = (Instr.aload_n 0, 82, [], 0) ∧ bMask 72 81 = [] := ⟨rfl, rfl⟩
theorem E72_82 : aCode 72 82 = (Instr.getfield 30, 85, [50, 6, 3, 0], 0) ∧ bMask 72 82 = [] := ⟨rfl, rfl⟩
theorem E72_85 : aCode 72 85 = (Instr.ireturn, 86, [0], 0) ∧ bMask 72 85 = [] := ⟨rfl, rfl⟩
theorem E72_86 : aCode 72 86 = (Instr.aload_n 0, 87, [], 0) ∧ bMask 72 86 = [] := ⟨rfl, rfl⟩
theorem E72_87 : aCode 72 87 = (Instr.invokevirtual 295, 90, [71, 1, 1, 6, 0, 55], 0) ∧ bMask 72 87 = [] := ⟨rfl, rfl⟩
theorem E72_90 : aCode 72 90 = (Instr.ireturn, 91, [0], 0) ∧ bMask 72 90 = [] := ⟨rfl, rfl⟩
theorem E72_91 : aCode 72 91 = (Instr.iconst (-1), 92, [], (-1)) ∧ bMask 72 91 = [] := ⟨rfl, rfl⟩
theorem E72_92 : aCode 72 92 = (Instr.ireturn, 93, [0], 0) ∧ bMask 72 92 = [] := ⟨rfl, rfl⟩
theorem g_X6_count_0 {Q : bQ} {M : bM} {x1 : Int32} (h : ((x1 = Int32.ofInt 0) → (Q (some (cI (M 1 0 0))) M)) ∧ (¬ (x1 = Int32.ofInt 0) → (((x1 = Int32.ofInt 1) → (Q (some (cI (M 2 0 2))) M)) ∧ (¬ (x1 = Int32.ofInt 1) → (((x1 = Int32.ofInt 2) → (bCall 27 [cR 4 0] M (fun v7 M8 => bV1 v7 fun r9 => (Q (some (cI r9)) M8)))) ∧ (¬ (x1 = Int32.ofInt 2) → (((x1 = Int32.ofInt 3) → (bCall 70 [cR 0 0] M (fun v4 M5 => bV1 v4 fun r6 => (Q (some (cI r6)) M5)))) ∧ (¬ (x1 = Int32.ofInt 3) → (((x1 = Int32.ofInt 4) → (Q (some (cI (M 4 0 1))) M)) ∧ (¬ (x1 = Int32.ofInt 4) → (((x1 = Int32.ofInt 5) → (Q (some (cI (M 0 0 3))) M)) ∧ (¬ (x1 = Int32.ofInt 5) → (((x1 = Int32.ofInt 6) → (bCall 71 [cR 0 0] M (fun v1 M2 => bV1 v1 fun r3 => (Q (some (cI r3)) M2)))) ∧ (¬ (x1 = Int32.ofInt 6) → (Q (some (cI (-1 : Int32))) M))))))))))))))) : bCall 72 [cR 0 0, cI x1] M Q := s_iload_n E72_0.1 (k_ E72_0) rfl (s_tsw E72_1.1 (k_ E72_1) (And.intro (fun c0 => s_aload_n E72_44.1 (k_ E72_44) rfl (s_getR E72_45.1 (k_ E72_45) rfl rfl (s_getI0 E72_48.1 (k_ E72_48) rfl (s_iret E72_51.1 (k_ E72_51) (h.1 c0))))) (fun c0 => And.intro (fun c1 => s_aload_n E72_52.1 (k_ E72_52) rfl (s_getR E72_53.1 (k_ E72_53) rfl rfl (s_getI0 E72_56.1 (k_ E72_56) rfl (s_iret E72_59.1 (k_ E72_59) ((h.2 c0).1 c1))))) (fun c1 => And.intro (fun c2 => s_aload_n E72_60.1 (k_ E72_60) rfl (s_getR E72_61.1 (k_ E72_61) rfl rfl (s_vcall1 E72_64.1 (k_ E72_64) rfl rfl rfl (((h.2 c0).2 c1).1 c2) (fun M8 r9 z3 => s_iret E72_67.1 (k_ E72_67) z3)))) (fun c2 => And.intro (fun c4 => s_aload_n E72_68.1 (k_ E72_68) rfl (s_vcall1 E72_69.1 (k_ E72_69) rfl rfl rfl ((((h.2 c0).2 c1).2 c2).1 c4) (fun M5 r6 z5 => s_iret E72_72.1 (k_ E72_72) z5))) (fun c4 => And.intro (fun c6 => s_aload_n E72_73.1 (k_ E72_73) rfl (s_getR E72_74.1 (k_ E72_74) rfl rfl (s_getI0 E72_77.1 (k_ E72_77) rfl (s_iret E72_80.1 (k_ E72_80) (((((h.2 c0).2 c1).2 c2).2 c4).1 c6))))) (fun c6 => And.intro (fun c7 => s_aload_n E72_81.1 (k_ E72_81) rfl (s_getI0 E72_82.1 (k_ E72_82) rfl (s_iret E72_85.1 (k_ E72_85) ((((((h.2 c0).2 c1).2 c2).2 c4).2 c6).1 c7)))) (fun c7 => And.intro (fun c8 => s_aload_n E72_86.1 (k_ E72_86) rfl (s_vcall1 E72_87.1 (k_ E72_87) rfl rfl rfl (((((((h.2 c0).2 c1).2 c2).2 c4).2 c6).2 c7).1 c8) (fun M2 r3 z9 => s_iret E72_90.1 (k_ E72_90) z9))) (fun c8 => s_iconst E72_91.1 (k_ E72_91) (s_iret E72_92.1 (k_ E72_92) (((((((h.2 c0).2 c1).2 c2).2 c4).2 c6).2 c7).2 c8)))))))))))
-- 73: X6_entry
theorem E73_0 : aCode 73 0 = (Instr.aload_n 0, 1, [], 0) ∧ bMask 73 0 = [] := ⟨rfl, rfl⟩
theorem E73_1 : aCode 73 1 = (Instr.iload_n 1, 2, [], 0) ∧ bMask 73 1 = [] := ⟨rfl, rfl⟩
theorem E73_2 : aCode 73 2 = (Instr.invokevirtual 166, 5, [66, 2, 1, 6, 0, 49], 0) ∧ bMask 73 2 = [] := ⟨rfl, rfl⟩
theorem E73_5 : aCode 73 5 = (Instr.ifCond .eq 21, 8, [26], 0) ∧ bMask 73 5 = [] := ⟨rfl, rfl⟩
theorem E73_8 : aCode 73 8 = (Instr.aload_n 0, 9, [], 0) ∧ bMask 73 8 = [] := ⟨rfl, rfl⟩
theorem E73_9 : aCode 73 9 = (Instr.iload_n 2, 10, [], 0) ∧ bMask 73 9 = [] := ⟨rfl, rfl⟩
theorem E73_10 : aCode 73 10 = (Instr.invokevirtual 166, 13, [66, 2, 1, 6, 0, 49], 0) ∧ bMask 73 10 = [] := ⟨rfl, rfl⟩
theorem E73_13 : aCode 73 13 = (Instr.ifCond .eq 13, 16, [26], 0) ∧ bMask 73 13 = [] := ⟨rfl, rfl⟩
theorem E73_16 : aCode 73 16 = (Instr.iload_n 3, 17, [], 0) ∧ bMask 73 16 = [] := ⟨rfl, rfl⟩
theorem E73_17 : aCode 73 17 = (Instr.ifCond .lt 9, 20, [26], 0) ∧ bMask 73 17 = [] := ⟨rfl, rfl⟩
theorem E73_20 : aCode 73 20 = (Instr.iload_n 3, 21, [], 0) ∧ bMask 73 20 = [] := ⟨rfl, rfl⟩
theorem E73_21 : aCode 73 21 = (Instr.bipush 32, 23, [], 32) ∧ bMask 73 21 = [] := ⟨rfl, rfl⟩
theorem E73_23 : aCode 73 23 = (Instr.if_icmp .le 5, 26, [28], 0) ∧ bMask 73 23 = [] := ⟨rfl, rfl⟩
theorem E73_26 : aCode 73 26 = (Instr.iconst (-1), 27, [], (-1)) ∧ bMask 73 26 = [] := ⟨rfl, rfl⟩
theorem E73_27 : aCode 73 27 = (Instr.ireturn, 28, [0], 0) ∧ bMask 73 27 = [] := ⟨rfl, rfl⟩
theorem E73_28 : aCode 73 28 = (Instr.aload_n 0, 29, [], 0) ∧ bMask 73 28 = [] := ⟨rfl, rfl⟩
theorem E73_29 : aCode 73 29 = (Instr.invokevirtual 148, 32, [68, 1, 103, 6, 0, 50], 0) ∧ bMask 73 29 = [] := ⟨rfl, rfl⟩
theorem E73_32 : aCode 73 32 = (Instr.iload_n 1, 33, [], 0) ∧ bMask 73 32 = [] := ⟨rfl, rfl⟩
theorem E73_33 : aCode 73 33 = (Instr.iload_n 2, 34, [], 0) ∧ bMask 73 33 = [] := ⟨rfl, rfl⟩
theorem E73_34 : aCode 73 34 = (Instr.iload_n 3, 35, [], 0) ∧ bMask 73 34 = [] := ⟨rfl, rfl⟩
theorem E73_35 : aCode 73 35 = (Instr.invokevirtual 175, 38, [14, 4, 1, 0, 0, 56], 0) ∧ bMask 73 35 = [] := ⟨rfl, rfl⟩
theorem E73_38 : aCode 73 38 = (Instr.ireturn, 39, [0], 0) ∧ bMask 73 38 = [] := ⟨rfl, rfl⟩
theorem g_X6_entry_0 {Q : bQ} {M : bM} {x1 : Int32} {x2 : Int32} {x3 : Int32} (h : bCall 66 [cR 0 0, cI x1] M (fun v1 M2 => bV1 v1 fun r3 => (((r3 = 0) → (Q (some (cI (-1 : Int32))) M2)) ∧ (¬ (r3 = 0) → (bCall 66 [cR 0 0, cI x2] M2 (fun v4 M5 => bV1 v4 fun r6 => (((r6 = 0) → (Q (some (cI (-1 : Int32))) M5)) ∧ (¬ (r6 = 0) → (((x3 < 0) → (Q (some (cI (-1 : Int32))) M5)) ∧ (¬ (x3 < 0) → (((x3 ≤ (32 : Int32)) → (bCall 68 [cR 0 0] M5 (fun v7 M8 => bV4 v7 3 fun q9 => (bCall 14 [cR 3 q9, cI x1, cI x2, cI x3] M8 (fun v10 M11 => bV1 v10 fun r12 => (Q (some (cI r12)) M11)))))) ∧ (¬ (x3 ≤ (32 : Int32)) → (Q (some (cI (-1 : Int32))) M5))))))))))))) : bCall 73 [cR 0 0, cI x1, cI x2, cI x3] M Q := s_aload_n E73_0.1 (k_ E73_0) rfl (s_iload_n E73_1.1 (k_ E73_1) rfl (s_vcall1 E73_2.1 (k_ E73_2) rfl rfl rfl h (fun M2 r3 z0 => s_if_eq E73_5.1 (k_ E73_5) ⟨fun c1 => s_iconst E73_26.1 (k_ E73_26) (s_iret E73_27.1 (k_ E73_27) (z0.1 c1)), fun c1 => s_aload_n E73_8.1 (k_ E73_8) rfl (s_iload_n E73_9.1 (k_ E73_9) rfl (s_vcall1 E73_10.1 (k_ E73_10) rfl rfl rfl (z0.2 c1) (fun M5 r6 z2 => s_if_eq E73_13.1 (k_ E73_13) ⟨fun c3 => s_iconst E73_26.1 (k_ E73_26) (s_iret E73_27.1 (k_ E73_27) (z2.1 c3)), fun c3 => s_iload_n E73_16.1 (k_ E73_16) rfl (s_if_lt E73_17.1 (k_ E73_17) ⟨fun c4 => s_iconst E73_26.1 (k_ E73_26) (s_iret E73_27.1 (k_ E73_27) ((z2.2 c3).1 c4)), fun c4 => s_iload_n E73_20.1 (k_ E73_20) rfl (s_bipush E73_21.1 (k_ E73_21) (s_icmp_le E73_23.1 (k_ E73_23) ⟨fun c5 => s_aload_n E73_28.1 (k_ E73_28) rfl (s_vcall103 E73_29.1 (k_ E73_29) rfl rfl rfl (((z2.2 c3).2 c4).1 c5) (fun M8 q9 z6 => s_iload_n E73_32.1 (k_ E73_32) rfl (s_iload_n E73_33.1 (k_ E73_33) rfl (s_iload_n E73_34.1 (k_ E73_34) rfl (s_vcall1 E73_35.1 (k_ E73_35) rfl rfl rfl z6 (fun M11 r12 z7 => s_iret E73_38.1 (k_ E73_38) z7)))))), fun c5 => s_iconst E73_26.1 (k_ E73_26) (s_iret E73_27.1 (k_ E73_27) (((z2.2 c3).2 c4).2 c5))⟩))⟩)⟩)))⟩)))
-- 74: X6_feed
theorem E74_0 : aCode 74 0 = (Instr.iload_n 1, 1, [], 0) ∧ bMask 74 0 = [] := ⟨rfl, rfl⟩
theorem E74_1 : aCode 74 1 = (Instr.iconst 1, 2, [], 1) ∧ bMask 74 1 = [] := ⟨rfl, rfl⟩
theorem E74_2 : aCode 74 2 = (Instr.if_icmp .lt 8, 5, [10], 0) ∧ bMask 74 2 = [] := ⟨rfl, rfl⟩
theorem E74_5 : aCode 74 5 = (Instr.iload_n 1, 6, [], 0) ∧ bMask 74 5 = [] := ⟨rfl, rfl⟩
theorem E74_6 : aCode 74 6 = (Instr.iconst 4, 7, [], 4) ∧ bMask 74 6 = [] := ⟨rfl, rfl⟩
theorem E74_7 : aCode 74 7 = (Instr.if_icmp .le 5, 10, [12], 0) ∧ bMask 74 7 = [] := ⟨rfl, rfl⟩
theorem E74_10 : aCode 74 10 = (Instr.iconst (-1), 11, [], (-1)) ∧ bMask 74 10 = [] := ⟨rfl, rfl⟩
theorem E74_11 : aCode 74 11 = (Instr.ireturn, 12, [0], 0) ∧ bMask 74 11 = [] := ⟨rfl, rfl⟩
theorem E74_12 : aCode 74 12 = (Instr.aload_n 0, 13, [], 0) ∧ bMask 74 12 = [] := ⟨rfl, rfl⟩
theorem E74_13 : aCode 74 13 = (Instr.getfield 26, 16, [60, 6, 2, 2], 0) ∧ bMask 74 13 = [] := ⟨rfl, rfl⟩
theorem E74_16 : aCode 74 16 = (Instr.iload_n 1, 17, [], 0) ∧ bMask 74 16 = [] := ⟨rfl, rfl⟩
theorem E74_17 : aCode 74 17 = (Instr.iload_n 2, 18, [], 0) ∧ bMask 74 17 = [] := ⟨rfl, rfl⟩
theorem E74_18 : aCode 74 18 = (Instr.invokevirtual 129, 21, [47, 3, 1, 4, 0, 57], 0) ∧ bMask 74 18 = [] := ⟨rfl, rfl⟩
theorem E74_21 : aCode 74 21 = (Instr.ifCond .eq 13, 24, [34], 0) ∧ bMask 74 21 = [] := ⟨rfl, rfl⟩
theorem E74_24 : aCode 74 24 = (Instr.aload_n 0, 25, [], 0) ∧ bMask 74 24 = [] := ⟨rfl, rfl⟩
theorem E74_25 : aCode 74 25 = (Instr.getfield 26, 28, [60, 6, 2, 2], 0) ∧ bMask 74 25 = [] := ⟨rfl, rfl⟩
theorem E74_28 : aCode 74 28 = (Instr.getfield 133, 31, [61, 4, 2, 0], 0) ∧ bMask 74 28 = [] := ⟨rfl, rfl⟩
theorem E74_31 : aCode 74 31 = (Instr.goto 5, 36, [], 0) ∧ bMask 74 31 = [] := ⟨rfl, rfl⟩
theorem E74_34 : aCode 74 34 = (Instr.bipush (-4), 36, [], (-4)) ∧ bMask 74 34 = [] := ⟨rfl, rfl⟩
theorem E74_36 : aCode 74 36 = (Instr.ireturn, 37, [0], 0) ∧ bMask 74 36 = [] := ⟨rfl, rfl⟩
theorem g_X6_feed_0 {Q : bQ} {M : bM} {x1 : Int32} {x2 : Int32} (h : ((x1 < (1 : Int32)) → (Q (some (cI (-1 : Int32))) M)) ∧ (¬ (x1 < (1 : Int32)) → (((x1 ≤ (4 : Int32)) → (bCall 47 [cR 2 0, cI x1, cI x2] M (fun v1 M2 => bV1 v1 fun r3 => (((r3 = 0) → (Q (some (cI (-4 : Int32))) M2)) ∧ (¬ (r3 = 0) → (Q (some (cI (M2 2 0 2))) M2)))))) ∧ (¬ (x1 ≤ (4 : Int32)) → (Q (some (cI (-1 : Int32))) M))))) : bCall 74 [cR 0 0, cI x1, cI x2] M Q := s_iload_n E74_0.1 (k_ E74_0) rfl (s_iconst E74_1.1 (k_ E74_1) (s_icmp_lt E74_2.1 (k_ E74_2) ⟨fun c0 => s_iconst E74_10.1 (k_ E74_10) (s_iret E74_11.1 (k_ E74_11) (h.1 c0)), fun c0 => s_iload_n E74_5.1 (k_ E74_5) rfl (s_iconst E74_6.1 (k_ E74_6) (s_icmp_le E74_7.1 (k_ E74_7) ⟨fun c1 => s_aload_n E74_12.1 (k_ E74_12) rfl (s_getR E74_13.1 (k_ E74_13) rfl rfl (s_iload_n E74_16.1 (k_ E74_16) rfl (s_iload_n E74_17.1 (k_ E74_17) rfl (s_vcall1 E74_18.1 (k_ E74_18) rfl rfl rfl ((h.2 c0).1 c1) (fun M2 r3 z2 => s_if_eq E74_21.1 (k_ E74_21) ⟨fun c3 => s_bipush E74_34.1 (k_ E74_34) (s_iret E74_36.1 (k_ E74_36) (z2.1 c3)), fun c3 => s_aload_n E74_24.1 (k_ E74_24) rfl (s_getR E74_25.1 (k_ E74_25) rfl rfl (s_getI0 E74_28.1 (k_ E74_28) rfl (s_goto E74_31.1 (k_ E74_31) (s_iret E74_36.1 (k_ E74_36) (z2.2 c3)))))⟩))))), fun c1 => s_iconst E74_10.1 (k_ E74_10) (s_iret E74_11.1 (k_ E74_11) ((h.2 c0).2 c1))⟩))⟩))
-- 75: X6_field
theorem E75_0 : aCode 75 0 = (Instr.iload_n 1, 1, [], 0) ∧ bMask 75 0 = [] := ⟨rfl, rfl⟩
theorem E75_1 : aCode 75 1 = (Instr.iconst 2, 2, [], 2) ∧ bMask 75 1 = [] := ⟨rfl, rfl⟩
theorem E75_2 : aCode 75 2 = (Instr.if_icmp .lt 17, 5, [19], 0) ∧ bMask 75 2 = [] := ⟨rfl, rfl⟩
theorem E75_5 : aCode 75 5 = (Instr.iload_n 1, 6, [], 0) ∧ bMask 75 5 = [] := ⟨rfl, rfl⟩
theorem E75_6 : aCode 75 6 = (Instr.sipush 997, 9, [], 997) ∧ bMask 75 6 = [] := ⟨rfl, rfl⟩
theorem E75_9 : aCode 75 9 = (Instr.if_icmp .gt 10, 12, [19], 0) ∧ bMask 75 9 = [] := ⟨rfl, rfl⟩
theorem E75_12 : aCode 75 12 = (Instr.iload_n 1, 13, [], 0) ∧ bMask 75 12 = [] := ⟨rfl, rfl⟩
theorem E75_13 : aCode 75 13 = (Instr.invokestatic 78, 16, [32, 1, 1, 0, 0, 58], 0) ∧ bMask 75 13 = [] := ⟨rfl, rfl⟩
theorem E75_16 : aCode 75 16 = (Instr.ifCond .ne 5, 19, [21], 0) ∧ bMask 75 16 = [] := ⟨rfl, rfl⟩
theorem E75_19 : aCode 75 19 = (Instr.iconst (-1), 20, [], (-1)) ∧ bMask 75 19 = [] := ⟨rfl, rfl⟩
theorem E75_20 : aCode 75 20 = (Instr.ireturn, 21, [0], 0) ∧ bMask 75 20 = [] := ⟨rfl, rfl⟩
theorem E75_21 : aCode 75 21 = (Instr.aload_n 0, 22, [], 0) ∧ bMask 75 21 = [] := ⟨rfl, rfl⟩
theorem E75_22 : aCode 75 22 = (Instr.getfield 10, 25, [39, 6, 0, 2], 0) ∧ bMask 75 22 = [] := ⟨rfl, rfl⟩
theorem E75_25 : aCode 75 25 = (Instr.getfield 82, 28, [59, 2, 0, 0], 0) ∧ bMask 75 25 = [] := ⟨rfl, rfl⟩
theorem E75_28 : aCode 75 28 = (Instr.istore_n 2, 29, [], 0) ∧ bMask 75 28 = [] := ⟨rfl, rfl⟩
theorem E75_29 : aCode 75 29 = (Instr.aload_n 0, 30, [], 0) ∧ bMask 75 29 = [] := ⟨rfl, rfl⟩
theorem E75_30 : aCode 75 30 = (Instr.getfield 10, 33, [39, 6, 0, 2], 0) ∧ bMask 75 30 = [] := ⟨rfl, rfl⟩
theorem E75_33 : aCode 75 33 = (Instr.iload_n 1, 34, [], 0) ∧ bMask 75 33 = [] := ⟨rfl, rfl⟩
theorem E75_34 : aCode 75 34 = (Instr.putfield 82, 37, [59, 2, 0, 0], 0) ∧ bMask 75 34 = [] := ⟨rfl, rfl⟩
theorem E75_37 : aCode 75 37 = (Instr.iconst 0, 38, [], 0) ∧ bMask 75 37 = [] := ⟨rfl, rfl⟩
theorem E75_38 : aCode 75 38 = (Instr.istore_n 3, 39, [], 0) ∧ bMask 75 38 = [] := ⟨rfl, rfl⟩
theorem E75_39 : aCode 75 39 = (Instr.iload_n 3, 40, [], 0) ∧ bMask 75 39 = [] := ⟨rfl, rfl⟩
theorem E75_40 : aCode 75 40 = (Instr.bipush 6, 42, [], 6) ∧ bMask 75 40 = [] := ⟨rfl, rfl⟩
theorem E75_42 : aCode 75 42 = (Instr.if_icmp .ge 19, 45, [61], 0) ∧ bMask 75 42 = [] := ⟨rfl, rfl⟩
theorem E75_45 : aCode 75 45 = (Instr.aload_n 0, 46, [], 0) ∧ bMask 75 45 = [] := ⟨rfl, rfl⟩
theorem E75_46 : aCode 75 46 = (Instr.getfield 18, 49, [42, 6, 1, 2], 0) ∧ bMask 75 46 = [] := ⟨rfl, rfl⟩
theorem E75_49 : aCode 75 49 = (Instr.iload_n 3, 50, [], 0) ∧ bMask 75 49 = [] := ⟨rfl, rfl⟩
theorem E75_50 : aCode 75 50 = (Instr.aaload, 51, [2], 0) ∧ bMask 75 50 = [] := ⟨rfl, rfl⟩
theorem E75_51 : aCode 75 51 = (Instr.iconst 0, 52, [], 0) ∧ bMask 75 51 = [] := ⟨rfl, rfl⟩
theorem E75_52 : aCode 75 52 = (Instr.invokestatic 85, 55, [1, 2, 0, 0, 0, 59], 0) ∧ bMask 75 52 = [] := ⟨rfl, rfl⟩
theorem E75_55 : aCode 75 55 = (Instr.iinc 3 1, 58, [], 1) ∧ bMask 75 55 = [] := ⟨rfl, rfl⟩
theorem E75_58 : aCode 75 58 = (Instr.goto (-19), 39, [], 0) ∧ bMask 75 58 = [] := ⟨rfl, rfl⟩
theorem E75_61 : aCode 75 61 = (Instr.aload_n 0, 62, [], 0) ∧ bMask 75 61 = [] := ⟨rfl, rfl⟩
theorem E75_62 : aCode 75 62 = (Instr.iconst 1, 63, [], 1) ∧ bMask 75 62 = [] := ⟨rfl, rfl⟩
theorem E75_63 : aCode 75 63 = (Instr.putfield 48, 66, [51, 6, 7, 1], 0) ∧ bMask 75 63 = [] := ⟨rfl, rfl⟩
theorem E75_66 : aCode 75 66 = (Instr.iload_n 2, 67, [], 0) ∧ bMask 75 66 = [] := ⟨rfl, rfl⟩
theorem E75_67 : aCode 75 67 = (Instr.ireturn, 68, [0], 0) ∧ bMask 75 67 = [] := ⟨rfl, rfl⟩
theorem g_X6_field_0 {Q : bQ} {M : bM} {x1 : Int32} (h : ((x1 < (2 : Int32)) → (Q (some (cI (-1 : Int32))) M)) ∧ (¬ (x1 < (2 : Int32)) → ((((997 : Int32) < x1) → (Q (some (cI (-1 : Int32))) M)) ∧ (¬ ((997 : Int32) < x1) → (bCall 32 [cI x1] M (fun v1 M2 => bV1 v1 fun r3 => (((¬ r3 = 0) → bGo 75 Q 39 [some (cR 0 0), some (cI x1), some (cI (M2 1 0 0)), some (cI (0 : Int32))] [] (bU M2 1 0 0 x1)) ∧ (¬ (¬ r3 = 0) → (Q (some (cI (-1 : Int32))) M2))))))))) : bCall 75 [cR 0 0, cI x1] M Q := s_iload_n E75_0.1 (k_ E75_0) rfl (s_iconst E75_1.1 (k_ E75_1) (s_icmp_lt E75_2.1 (k_ E75_2) ⟨fun c0 => s_iconst E75_19.1 (k_ E75_19) (s_iret E75_20.1 (k_ E75_20) (h.1 c0)), fun c0 => s_iload_n E75_5.1 (k_ E75_5) rfl (s_sipush E75_6.1 (k_ E75_6) (s_icmp_gt E75_9.1 (k_ E75_9) ⟨fun c1 => s_iconst E75_19.1 (k_ E75_19) (s_iret E75_20.1 (k_ E75_20) ((h.2 c0).1 c1)), fun c1 => s_iload_n E75_12.1 (k_ E75_12) rfl (s_scall1 E75_13.1 (k_ E75_13) rfl rfl rfl ((h.2 c0).2 c1) (fun M2 r3 z2 => s_if_ne E75_16.1 (k_ E75_16) ⟨fun c3 => s_aload_n E75_21.1 (k_ E75_21) rfl (s_getR E75_22.1 (k_ E75_22) rfl rfl (s_getI0 E75_25.1 (k_ E75_25) rfl (s_istore_n E75_28.1 (k_ E75_28) (s_aload_n E75_29.1 (k_ E75_29) rfl (s_getR E75_30.1 (k_ E75_30) rfl rfl (s_iload_n E75_33.1 (k_ E75_33) rfl (s_putI E75_34.1 (k_ E75_34) rfl (s_iconst E75_37.1 (k_ E75_37) (s_istore_n E75_38.1 (k_ E75_38) (z2.1 c3)))))))))), fun c3 => s_iconst E75_19.1 (k_ E75_19) (s_iret E75_20.1 (k_ E75_20) (z2.2 c3))⟩))⟩))⟩))
theorem g_X6_field_39 {Q : bQ} {M : bM} {x1 : Int32} {x2 : Int32} {x3 : Int32} (h : (((6 : Int32) ≤ x3) → (((1 : Int32) = 0 ∨ (1 : Int32) = 1) ∧ (Q (some (cI x2)) (bU M 0 0 7 (1 : Int32))))) ∧ (¬ ((6 : Int32) ≤ x3) → ((vp_in x3 6) ∧ (bCall 1 [cR 7 x3.toNatClampNeg, cI (0 : Int32)] M (fun v1 M2 => bV0 v1 (bGo 75 Q 39 [some (cR 0 0), some (cI x1), some (cI x2), some (cI (x3 + (1 : Int32)))] [] M2)))))) : bGo 75 Q 39 [some (cR 0 0), some (cI x1), some (cI x2), some (cI x3)] [] M := s_iload_n E75_39.1 (k_ E75_39) rfl (s_bipush E75_40.1 (k_ E75_40) (s_icmp_ge E75_42.1 (k_ E75_42) ⟨fun c4 => s_aload_n E75_61.1 (k_ E75_61) rfl (s_iconst E75_62.1 (k_ E75_62) (s_putZ E75_63.1 (k_ E75_63) rfl ⟨(h.1 c4).1, s_iload_n E75_66.1 (k_ E75_66) rfl (s_iret E75_67.1 (k_ E75_67) ((h.1 c4).2))⟩)), fun c4 => s_aload_n E75_45.1 (k_ E75_45) rfl (s_getR E75_46.1 (k_ E75_46) rfl rfl (s_iload_n E75_49.1 (k_ E75_49) rfl (s_aaload E75_50.1 (k_ E75_50) rfl ⟨(h.2 c4).1, s_iconst E75_51.1 (k_ E75_51) (s_scall0 E75_52.1 (k_ E75_52) rfl rfl rfl ((h.2 c4).2) (fun M2 z5 => s_iinc E75_55.1 (k_ E75_55) rfl (s_goto E75_58.1 (k_ E75_58) (z5))))⟩)))⟩))
-- 76: X6_gatherKind
theorem E76_0 : aCode 76 0 = (Instr.iload_n 1, 1, [], 0) ∧ bMask 76 0 = [] := ⟨rfl, rfl⟩
theorem E76_1 : aCode 76 1 = (Instr.iconst 2, 2, [], 2) ∧ bMask 76 1 = [] := ⟨rfl, rfl⟩
theorem E76_2 : aCode 76 2 = (Instr.if_icmp .ne 20, 5, [22], 0) ∧ bMask 76 2 = [] := ⟨rfl, rfl⟩
theorem E76_5 : aCode 76 5 = (Instr.aload_n 3, 6, [], 0) ∧ bMask 76 5 = [] := ⟨rfl, rfl⟩
theorem E76_6 : aCode 76 6 = (Instr.iconst 0, 7, [], 0) ∧ bMask 76 6 = [] := ⟨rfl, rfl⟩
theorem E76_7 : aCode 76 7 = (Instr.aload_n 0, 8, [], 0) ∧ bMask 76 7 = [] := ⟨rfl, rfl⟩
theorem E76_8 : aCode 76 8 = (Instr.getfield 52, 11, [52, 6, 8, 2], 0) ∧ bMask 76 8 = [] := ⟨rfl, rfl⟩
theorem E76_11 : aCode 76 11 = (Instr.iconst 0, 12, [], 0) ∧ bMask 76 11 = [] := ⟨rfl, rfl⟩
theorem E76_12 : aCode 76 12 = (Instr.aaload, 13, [2], 0) ∧ bMask 76 12 = [] := ⟨rfl, rfl⟩
theorem E76_13 : aCode 76 13 = (Instr.iconst 0, 14, [], 0) ∧ bMask 76 13 = [] := ⟨rfl, rfl⟩
theorem E76_14 : aCode 76 14 = (Instr.bipush 32, 16, [], 32) ∧ bMask 76 14 = [] := ⟨rfl, rfl⟩
theorem E76_16 : aCode 76 16 = (Instr.invokestatic 120, 19, [1000, 120], 0) ∧ bMask 76 16 = [] := ⟨rfl, rfl⟩
theorem E76_19 : aCode 76 19 = (Instr.goto 17, 36, [], 0) ∧ bMask 76 19 = [] := ⟨rfl, rfl⟩
theorem E76_22 : aCode 76 22 = (Instr.aload_n 0, 23, [], 0) ∧ bMask 76 22 = [] := ⟨rfl, rfl⟩
theorem E76_23 : aCode 76 23 = (Instr.getfield 10, 26, [39, 6, 0, 2], 0) ∧ bMask 76 23 = [] := ⟨rfl, rfl⟩
theorem E76_26 : aCode 76 26 = (Instr.iconst 1, 27, [], 1) ∧ bMask 76 26 = [] := ⟨rfl, rfl⟩
theorem E76_27 : aCode 76 27 = (Instr.aload_n 0, 28, [], 0) ∧ bMask 76 27 = [] := ⟨rfl, rfl⟩
theorem E76_28 : aCode 76 28 = (Instr.getfield 52, 31, [52, 6, 8, 2], 0) ∧ bMask 76 28 = [] := ⟨rfl, rfl⟩
theorem E76_31 : aCode 76 31 = (Instr.iconst 0, 32, [], 0) ∧ bMask 76 31 = [] := ⟨rfl, rfl⟩
theorem E76_32 : aCode 76 32 = (Instr.aaload, 33, [2], 0) ∧ bMask 76 32 = [] := ⟨rfl, rfl⟩
theorem E76_33 : aCode 76 33 = (Instr.invokevirtual 109, 36, [29, 3, 0, 2, 0, 60], 0) ∧ bMask 76 33 = [] := ⟨rfl, rfl⟩
theorem E76_36 : aCode 76 36 = (Instr.iconst 1, 37, [], 1) ∧ bMask 76 36 = [] := ⟨rfl, rfl⟩
theorem E76_37 : aCode 76 37 = (Instr.istore 4, 39, [], 0) ∧ bMask 76 37 = [] := ⟨rfl, rfl⟩
theorem E76_39 : aCode 76 39 = (Instr.iload 4, 41, [], 0) ∧ bMask 76 39 = [] := ⟨rfl, rfl⟩
theorem E76_41 : aCode 76 41 = (Instr.iload_n 2, 42, [], 0) ∧ bMask 76 41 = [] := ⟨rfl, rfl⟩
theorem E76_42 : aCode 76 42 = (Instr.if_icmp .ge 70, 45, [112], 0) ∧ bMask 76 42 = [] := ⟨rfl, rfl⟩
theorem E76_45 : aCode 76 45 = (Instr.iload 4, 47, [], 0) ∧ bMask 76 45 = [] := ⟨rfl, rfl⟩
theorem E76_47 : aCode 76 47 = (Instr.iconst 4, 48, [], 4) ∧ bMask 76 47 = [] := ⟨rfl, rfl⟩
theorem E76_48 : aCode 76 48 = (Instr.if_icmp .ge 64, 51, [112], 0) ∧ bMask 76 48 = [] := ⟨rfl, rfl⟩
theorem E76_51 : aCode 76 51 = (Instr.iload_n 1, 52, [], 0) ∧ bMask 76 51 = [] := ⟨rfl, rfl⟩
theorem E76_52 : aCode 76 52 = (Instr.iconst 2, 53, [], 2) ∧ bMask 76 52 = [] := ⟨rfl, rfl⟩
theorem E76_53 : aCode 76 53 = (Instr.if_icmp .ne 29, 56, [82], 0) ∧ bMask 76 53 = [] := ⟨rfl, rfl⟩
theorem E76_56 : aCode 76 56 = (Instr.aload_n 0, 57, [], 0) ∧ bMask 76 56 = [] := ⟨rfl, rfl⟩
theorem E76_57 : aCode 76 57 = (Instr.getfield 10, 60, [39, 6, 0, 2], 0) ∧ bMask 76 57 = [] := ⟨rfl, rfl⟩
theorem E76_60 : aCode 76 60 = (Instr.aload_n 0, 61, [], 0) ∧ bMask 76 60 = [] := ⟨rfl, rfl⟩
theorem E76_61 : aCode 76 61 = (Instr.getfield 52, 64, [52, 6, 8, 2], 0) ∧ bMask 76 61 = [] := ⟨rfl, rfl⟩
theorem E76_64 : aCode 76 64 = (Instr.iload 4, 66, [], 0) ∧ bMask 76 64 = [] := ⟨rfl, rfl⟩
theorem E76_66 : aCode 76 66 = (Instr.iconst 1, 67, [], 1) ∧ bMask 76 66 = [] := ⟨rfl, rfl⟩
theorem E76_67 : aCode 76 67 = (Instr.isub, 68, [], 0) ∧ bMask 76 67 = [] := ⟨rfl, rfl⟩
theorem E76_68 : aCode 76 68 = (Instr.aaload, 69, [2], 0) ∧ bMask 76 68 = [] := ⟨rfl, rfl⟩
theorem E76_69 : aCode 76 69 = (Instr.aload_n 0, 70, [], 0) ∧ bMask 76 69 = [] := ⟨rfl, rfl⟩
theorem E76_70 : aCode 76 70 = (Instr.getfield 52, 73, [52, 6, 8, 2], 0) ∧ bMask 76 70 = [] := ⟨rfl, rfl⟩
theorem E76_73 : aCode 76 73 = (Instr.iload 4, 75, [], 0) ∧ bMask 76 73 = [] := ⟨rfl, rfl⟩
theorem E76_75 : aCode 76 75 = (Instr.aaload, 76, [2], 0) ∧ bMask 76 75 = [] := ⟨rfl, rfl⟩
theorem E76_76 : aCode 76 76 = (Instr.invokevirtual 116, 79, [35, 3, 0, 2, 0, 61], 0) ∧ bMask 76 76 = [] := ⟨rfl, rfl⟩
theorem E76_79 : aCode 76 79 = (Instr.goto 27, 106, [], 0) ∧ bMask 76 79 = [] := ⟨rfl, rfl⟩
theorem E76_82 : aCode 76 82 = (Instr.aload_n 0, 83, [], 0) ∧ bMask 76 82 = [] := ⟨rfl, rfl⟩
theorem E76_83 : aCode 76 83 = (Instr.getfield 10, 86, [39, 6, 0, 2], 0) ∧ bMask 76 83 = [] := ⟨rfl, rfl⟩
theorem E76_86 : aCode 76 86 = (Instr.aload_n 0, 87, [], 0) ∧ bMask 76 86 = [] := ⟨rfl, rfl⟩
theorem E76_87 : aCode 76 87 = (Instr.getfield 52, 90, [52, 6, 8, 2], 0) ∧ bMask 76 87 = [] := ⟨rfl, rfl⟩
theorem E76_90 : aCode 76 90 = (Instr.iload 4, 92, [], 0) ∧ bMask 76 90 = [] := ⟨rfl, rfl⟩
theorem E76_92 : aCode 76 92 = (Instr.iconst 1, 93, [], 1) ∧ bMask 76 92 = [] := ⟨rfl, rfl⟩
theorem E76_93 : aCode 76 93 = (Instr.isub, 94, [], 0) ∧ bMask 76 93 = [] := ⟨rfl, rfl⟩
theorem E76_94 : aCode 76 94 = (Instr.aaload, 95, [2], 0) ∧ bMask 76 94 = [] := ⟨rfl, rfl⟩
theorem E76_95 : aCode 76 95 = (Instr.aload_n 3, 96, [], 0) ∧ bMask 76 95 = [] := ⟨rfl, rfl⟩
theorem E76_96 : aCode 76 96 = (Instr.aload_n 0, 97, [], 0) ∧ bMask 76 96 = [] := ⟨rfl, rfl⟩
theorem E76_97 : aCode 76 97 = (Instr.getfield 52, 100, [52, 6, 8, 2], 0) ∧ bMask 76 97 = [] := ⟨rfl, rfl⟩
theorem E76_100 : aCode 76 100 = (Instr.iload 4, 102, [], 0) ∧ bMask 76 100 = [] := ⟨rfl, rfl⟩
theorem E76_102 : aCode 76 102 = (Instr.aaload, 103, [2], 0) ∧ bMask 76 102 = [] := ⟨rfl, rfl⟩
theorem E76_103 : aCode 76 103 = (Instr.invokevirtual 105, 106, [34, 4, 0, 2, 0, 41], 0) ∧ bMask 76 103 = [] := ⟨rfl, rfl⟩
theorem E76_106 : aCode 76 106 = (Instr.iinc 4 1, 109, [], 1) ∧ bMask 76 106 = [] := ⟨rfl, rfl⟩
theorem E76_109 : aCode 76 109 = (Instr.goto (-70), 39, [], 0) ∧ bMask 76 109 = [] := ⟨rfl, rfl⟩
theorem E76_112 : aCode 76 112 = (Instr.return_, 113, [], 0) ∧ bMask 76 112 = [] := ⟨rfl, rfl⟩
theorem g_X6_gatherKind_0 {Q : bQ} {M : bM} {x1 : Int32} {x2 : Int32} {j3 : Nat} (h : ((¬ x1 = (2 : Int32)) → ((vp_in (0 : Int32) 4) ∧ (bCall 29 [cR 1 0, cI (1 : Int32), cR 7 (8 + (0 : Int32).toNatClampNeg)] M (fun v1 M2 => bV0 v1 (bGo 76 Q 39 [some (cR 0 0), some (cI x1), some (cI x2), some (cR 7 j3), some (cI (1 : Int32))] [] M2))))) ∧ (¬ (¬ x1 = (2 : Int32)) → ((vp_in (0 : Int32) 4) ∧ ((¬ (0 : Int32) < 0 ∧ ¬ (0 : Int32) < 0 ∧ ¬ (32 : Int32) < 0 ∧ (0 : Int32).toNatClampNeg + (32 : Int32).toNatClampNeg ≤ 32 ∧ (0 : Int32).toNatClampNeg + (32 : Int32).toNatClampNeg ≤ 32) ∧ bGo 76 Q 39 [some (cR 0 0), some (cI x1), some (cI x2), some (cR 7 j3), some (cI (1 : Int32))] [] (bCp M 7 j3 7 (8 + (0 : Int32).toNatClampNeg) (0 : Int32) (0 : Int32) (32 : Int32)))))) : bCall 76 [cR 0 0, cI x1, cI x2, cR 7 j3] M Q := s_iload_n E76_0.1 (k_ E76_0) rfl (s_iconst E76_1.1 (k_ E76_1) (s_icmp_ne E76_2.1 (k_ E76_2) ⟨fun c0 => s_aload_n E76_22.1 (k_ E76_22) rfl (s_getR E76_23.1 (k_ E76_23) rfl rfl (s_iconst E76_26.1 (k_ E76_26) (s_aload_n E76_27.1 (k_ E76_27) rfl (s_getR E76_28.1 (k_ E76_28) rfl rfl (s_iconst E76_31.1 (k_ E76_31) (s_aaload E76_32.1 (k_ E76_32) rfl ⟨(h.1 c0).1, s_vcall0 E76_33.1 (k_ E76_33) rfl rfl rfl ((h.1 c0).2) (fun M2 z1 => s_iconst E76_36.1 (k_ E76_36) (s_istore E76_37.1 (k_ E76_37) (z1)))⟩)))))), fun c0 => s_aload_n E76_5.1 (k_ E76_5) rfl (s_iconst E76_6.1 (k_ E76_6) (s_aload_n E76_7.1 (k_ E76_7) rfl (s_getR E76_8.1 (k_ E76_8) rfl rfl (s_iconst E76_11.1 (k_ E76_11) (s_aaload E76_12.1 (k_ E76_12) rfl ⟨(h.2 c0).1, s_iconst E76_13.1 (k_ E76_13) (s_bipush E76_14.1 (k_ E76_14) (s_acopy E76_16.1 (k_ E76_16) rfl ⟨((h.2 c0).2).1, s_goto E76_19.1 (k_ E76_19) (s_iconst E76_36.1 (k_ E76_36) (s_istore E76_37.1 (k_ E76_37) (((h.2 c0).2).2)))⟩))⟩)))))⟩))
theorem g_X6_gatherKind_39 {Q : bQ} {M : bM} {x1 : Int32} {x2 : Int32} {j3 : Nat} {x4 : Int32} (h : ((x2 ≤ x4) → (Q none M)) ∧ (¬ (x2 ≤ x4) → ((((4 : Int32) ≤ x4) → (Q none M)) ∧ (¬ ((4 : Int32) ≤ x4) → (((¬ x1 = (2 : Int32)) → ((vp_in (x4 - (1 : Int32)) 4) ∧ ((vp_in x4 4) ∧ (bCall 34 [cR 1 0, cR 7 (8 + (x4 - (1 : Int32)).toNatClampNeg), cR 7 j3, cR 7 (8 + x4.toNatClampNeg)] M (fun v1 M2 => bV0 v1 (bGo 76 Q 39 [some (cR 0 0), some (cI x1), some (cI x2), some (cR 7 j3), some (cI (x4 + (1 : Int32)))] [] M2)))))) ∧ (¬ (¬ x1 = (2 : Int32)) → ((vp_in (x4 - (1 : Int32)) 4) ∧ ((vp_in x4 4) ∧ (bCall 35 [cR 1 0, cR 7 (8 + (x4 - (1 : Int32)).toNatClampNeg), cR 7 (8 + x4.toNatClampNeg)] M (fun v3 M4 => bV0 v3 (bGo 76 Q 39 [some (cR 0 0), some (cI x1), some (cI x2), some (cR 7 j3), some (cI (x4 + (1 : Int32)))] [] M4))))))))))) : bGo 76 Q 39 [some (cR 0 0), some (cI x1), some (cI x2), some (cR 7 j3), some (cI x4)] [] M := s_iload E76_39.1 (k_ E76_39) rfl (s_iload_n E76_41.1 (k_ E76_41) rfl (s_icmp_ge E76_42.1 (k_ E76_42) ⟨fun c2 => s_ret E76_112.1 (k_ E76_112) (h.1 c2), fun c2 => s_iload E76_45.1 (k_ E76_45) rfl (s_iconst E76_47.1 (k_ E76_47) (s_icmp_ge E76_48.1 (k_ E76_48) ⟨fun c3 => s_ret E76_112.1 (k_ E76_112) ((h.2 c2).1 c3), fun c3 => s_iload_n E76_51.1 (k_ E76_51) rfl (s_iconst E76_52.1 (k_ E76_52) (s_icmp_ne E76_53.1 (k_ E76_53) ⟨fun c4 => s_aload_n E76_82.1 (k_ E76_82) rfl (s_getR E76_83.1 (k_ E76_83) rfl rfl (s_aload_n E76_86.1 (k_ E76_86) rfl (s_getR E76_87.1 (k_ E76_87) rfl rfl (s_iload E76_90.1 (k_ E76_90) rfl (s_iconst E76_92.1 (k_ E76_92) (s_isub E76_93.1 (k_ E76_93) (s_aaload E76_94.1 (k_ E76_94) rfl ⟨(((h.2 c2).2 c3).1 c4).1, s_aload_n E76_95.1 (k_ E76_95) rfl (s_aload_n E76_96.1 (k_ E76_96) rfl (s_getR E76_97.1 (k_ E76_97) rfl rfl (s_iload E76_100.1 (k_ E76_100) rfl (s_aaload E76_102.1 (k_ E76_102) rfl ⟨((((h.2 c2).2 c3).1 c4).2).1, s_vcall0 E76_103.1 (k_ E76_103) rfl rfl rfl (((((h.2 c2).2 c3).1 c4).2).2) (fun M2 z5 => s_iinc E76_106.1 (k_ E76_106) rfl (s_goto E76_109.1 (k_ E76_109) (z5)))⟩))))⟩))))))), fun c4 => s_aload_n E76_56.1 (k_ E76_56) rfl (s_getR E76_57.1 (k_ E76_57) rfl rfl (s_aload_n E76_60.1 (k_ E76_60) rfl (s_getR E76_61.1 (k_ E76_61) rfl rfl (s_iload E76_64.1 (k_ E76_64) rfl (s_iconst E76_66.1 (k_ E76_66) (s_isub E76_67.1 (k_ E76_67) (s_aaload E76_68.1 (k_ E76_68) rfl ⟨(((h.2 c2).2 c3).2 c4).1, s_aload_n E76_69.1 (k_ E76_69) rfl (s_getR E76_70.1 (k_ E76_70) rfl rfl (s_iload E76_73.1 (k_ E76_73) rfl (s_aaload E76_75.1 (k_ E76_75) rfl ⟨((((h.2 c2).2 c3).2 c4).2).1, s_vcall0 E76_76.1 (k_ E76_76) rfl rfl rfl (((((h.2 c2).2 c3).2 c4).2).2) (fun M4 z6 => s_goto E76_79.1 (k_ E76_79) (s_iinc E76_106.1 (k_ E76_106) rfl (s_goto E76_109.1 (k_ E76_109) (z6))))⟩)))⟩)))))))⟩))⟩))⟩))
-- 77: X6_guess
theorem E77_0 : aCode 77 0 = (Instr.iload_n 1, 1, [], 0) ∧ bMask 77 0 = [] := ⟨rfl, rfl⟩
theorem E77_1 : aCode 77 1 = (Instr.invokestatic 91, 4, [61, 1, 1, 0, 0, 43], 0) ∧ bMask 77 1 = [] := ⟨rfl, rfl⟩
theorem E77_4 : aCode 77 4 = (Instr.ifCond .eq 12, 7, [16], 0) ∧ bMask 77 4 = [] := ⟨rfl, rfl⟩
theorem E77_7 : aCode 77 7 = (Instr.iload_n 2, 8, [], 0) ∧ bMask 77 7 = [] := ⟨rfl, rfl⟩
theorem E77_8 : aCode 77 8 = (Instr.ifCond .lt 8, 11, [16], 0) ∧ bMask 77 8 = [] := ⟨rfl, rfl⟩
theorem E77_11 : aCode 77 11 = (Instr.iload_n 2, 12, [], 0) ∧ bMask 77 11 = [] := ⟨rfl, rfl⟩
theorem E77_12 : aCode 77 12 = (Instr.iconst 2, 13, [], 2) ∧ bMask 77 12 = [] := ⟨rfl, rfl⟩
theorem E77_13 : aCode 77 13 = (Instr.if_icmp .le 5, 16, [18], 0) ∧ bMask 77 13 = [] := ⟨rfl, rfl⟩
theorem E77_16 : aCode 77 16 = (Instr.iconst (-1), 17, [], (-1)) ∧ bMask 77 16 = [] := ⟨rfl, rfl⟩
theorem E77_17 : aCode 77 17 = (Instr.ireturn, 18, [0], 0) ∧ bMask 77 17 = [] := ⟨rfl, rfl⟩
theorem E77_18 : aCode 77 18 = (Instr.iload_n 2, 19, [], 0) ∧ bMask 77 18 = [] := ⟨rfl, rfl⟩
theorem E77_19 : aCode 77 19 = (Instr.ifCond .eq 15, 22, [34], 0) ∧ bMask 77 19 = [] := ⟨rfl, rfl⟩
theorem E77_22 : aCode 77 22 = (Instr.iload_n 3, 23, [], 0) ∧ bMask 77 22 = [] := ⟨rfl, rfl⟩
theorem E77_23 : aCode 77 23 = (Instr.iconst 1, 24, [], 1) ∧ bMask 77 23 = [] := ⟨rfl, rfl⟩
theorem E77_24 : aCode 77 24 = (Instr.if_icmp .lt 8, 27, [32], 0) ∧ bMask 77 24 = [] := ⟨rfl, rfl⟩
theorem E77_27 : aCode 77 27 = (Instr.iload_n 3, 28, [], 0) ∧ bMask 77 27 = [] := ⟨rfl, rfl⟩
theorem E77_28 : aCode 77 28 = (Instr.iconst 3, 29, [], 3) ∧ bMask 77 28 = [] := ⟨rfl, rfl⟩
theorem E77_29 : aCode 77 29 = (Instr.if_icmp .le 5, 32, [34], 0) ∧ bMask 77 29 = [] := ⟨rfl, rfl⟩
theorem E77_32 : aCode 77 32 = (Instr.iconst (-1), 33, [], (-1)) ∧ bMask 77 32 = [] := ⟨rfl, rfl⟩
theorem E77_33 : aCode 77 33 = (Instr.ireturn, 34, [0], 0) ∧ bMask 77 33 = [] := ⟨rfl, rfl⟩
theorem E77_34 : aCode 77 34 = (Instr.iload 4, 36, [], 0) ∧ bMask 77 34 = [] := ⟨rfl, rfl⟩
theorem E77_36 : aCode 77 36 = (Instr.iconst 1, 37, [], 1) ∧ bMask 77 36 = [] := ⟨rfl, rfl⟩
theorem E77_37 : aCode 77 37 = (Instr.if_icmp .lt 22, 40, [59], 0) ∧ bMask 77 37 = [] := ⟨rfl, rfl⟩
theorem E77_40 : aCode 77 40 = (Instr.iload 4, 42, [], 0) ∧ bMask 77 40 = [] := ⟨rfl, rfl⟩
theorem E77_42 : aCode 77 42 = (Instr.bipush 32, 44, [], 32) ∧ bMask 77 42 = [] := ⟨rfl, rfl⟩
theorem E77_44 : aCode 77 44 = (Instr.if_icmp .gt 15, 47, [59], 0) ∧ bMask 77 44 = [] := ⟨rfl, rfl⟩
theorem E77_47 : aCode 77 47 = (Instr.iload 5, 49, [], 0) ∧ bMask 77 47 = [] := ⟨rfl, rfl⟩
theorem E77_49 : aCode 77 49 = (Instr.ifCond .lt 10, 52, [59], 0) ∧ bMask 77 49 = [] := ⟨rfl, rfl⟩
theorem E77_52 : aCode 77 52 = (Instr.iload 5, 54, [], 0) ∧ bMask 77 52 = [] := ⟨rfl, rfl⟩
theorem E77_54 : aCode 77 54 = (Instr.bipush 9, 56, [], 9) ∧ bMask 77 54 = [] := ⟨rfl, rfl⟩
theorem E77_56 : aCode 77 56 = (Instr.if_icmp .le 5, 59, [61], 0) ∧ bMask 77 56 = [] := ⟨rfl, rfl⟩
theorem E77_59 : aCode 77 59 = (Instr.iconst (-1), 60, [], (-1)) ∧ bMask 77 59 = [] := ⟨rfl, rfl⟩
theorem E77_60 : aCode 77 60 = (Instr.ireturn, 61, [0], 0) ∧ bMask 77 60 = [] := ⟨rfl, rfl⟩
theorem E77_61 : aCode 77 61 = (Instr.aload_n 0, 62, [], 0) ∧ bMask 77 61 = [] := ⟨rfl, rfl⟩
theorem E77_62 : aCode 77 62 = (Instr.getfield 67, 65, [43, 6, 12, 2], 0) ∧ bMask 77 62 = [] := ⟨rfl, rfl⟩
theorem E77_65 : aCode 77 65 = (Instr.invokevirtual 196, 68, [21, 1, 205, 1, 0, 62], 0) ∧ bMask 77 65 = [] := ⟨rfl, rfl⟩
theorem E77_68 : aCode 77 68 = (Instr.astore 6, 70, [], 0) ∧ bMask 77 68 = [] := ⟨rfl, rfl⟩
theorem E77_70 : aCode 77 70 = (Instr.aload 6, 72, [], 0) ∧ bMask 77 70 = [] := ⟨rfl, rfl⟩
theorem E77_72 : aCode 77 72 = (Instr.ifnonnull 6, 75, [78], 0) ∧ bMask 77 72 = [] := ⟨rfl, rfl⟩
theorem E77_75 : aCode 77 75 = (Instr.bipush (-4), 77, [], (-4)) ∧ bMask 77 75 = [] := ⟨rfl, rfl⟩
theorem E77_77 : aCode 77 77 = (Instr.ireturn, 78, [0], 0) ∧ bMask 77 77 = [] := ⟨rfl, rfl⟩
theorem E77_78 : aCode 77 78 = (Instr.iload_n 2, 79, [], 0) ∧ bMask 77 78 = [] := ⟨rfl, rfl⟩
theorem E77_79 : aCode 77 79 = (Instr.ifCond .ne 7, 82, [86], 0) ∧ bMask 77 79 = [] := ⟨rfl, rfl⟩
theorem E77_82 : aCode 77 82 = (Instr.iconst 2, 83, [], 2) ∧ bMask 77 82 = [] := ⟨rfl, rfl⟩
theorem E77_83 : aCode 77 83 = (Instr.goto 6, 89, [], 0) ∧ bMask 77 83 = [] := ⟨rfl, rfl⟩
theorem E77_86 : aCode 77 86 = (Instr.iload_n 3, 87, [], 0) ∧ bMask 77 86 = [] := ⟨rfl, rfl⟩
theorem E77_87 : aCode 77 87 = (Instr.iconst 1, 88, [], 1) ∧ bMask 77 87 = [] := ⟨rfl, rfl⟩
theorem E77_88 : aCode 77 88 = (Instr.iadd, 89, [], 0) ∧ bMask 77 88 = [] := ⟨rfl, rfl⟩
theorem E77_89 : aCode 77 89 = (Instr.istore 7, 91, [], 0) ∧ bMask 77 89 = [] := ⟨rfl, rfl⟩
theorem E77_91 : aCode 77 91 = (Instr.aload_n 0, 92, [], 0) := rfl
theorem E77_92 : aCode 77 92 = (Instr.iload_n 2, 93, [], 0) ∧ bMask 77 92 = [] := ⟨rfl, rfl⟩
theorem E77_93 : aCode 77 93 = (Instr.iload 7, 95, [], 0) ∧ bMask 77 93 = [] := ⟨rfl, rfl⟩
theorem E77_95 : aCode 77 95 = (Instr.aload_n 0, 96, [], 0) ∧ bMask 77 95 = [] := ⟨rfl, rfl⟩
theorem E77_96 : aCode 77 96 = (Instr.getfield 18, 99, [42, 6, 1, 2], 0) ∧ bMask 77 96 = [] := ⟨rfl, rfl⟩
theorem E77_99 : aCode 77 99 = (Instr.iload_n 1, 100, [], 0) ∧ bMask 77 99 = [] := ⟨rfl, rfl⟩
theorem E77_100 : aCode 77 100 = (Instr.aaload, 101, [2], 0) ∧ bMask 77 100 = [] := ⟨rfl, rfl⟩
theorem E77_101 : aCode 77 101 = (Instr.invokevirtual 200, 104, [76, 4, 0, 6, 0, 63], 0) ∧ bMask 77 101 = [] := ⟨rfl, rfl⟩
theorem E77_104 : aCode 77 104 = (Instr.aload_n 0, 105, [], 0) ∧ bMask 77 104 = [] := ⟨rfl, rfl⟩
theorem E77_105 : aCode 77 105 = (Instr.getfield 55, 108, [53, 6, 9, 2], 0) ∧ bMask 77 105 = [] := ⟨rfl, rfl⟩
theorem E77_108 : aCode 77 108 = (Instr.iconst 0, 109, [], 0) ∧ bMask 77 108 = [] := ⟨rfl, rfl⟩
theorem E77_109 : aCode 77 109 = (Instr.invokestatic 85, 112, [1, 2, 0, 0, 0, 59], 0) ∧ bMask 77 109 = [] := ⟨rfl, rfl⟩
theorem E77_112 : aCode 77 112 = (Instr.aload_n 0, 113, [], 0) ∧ bMask 77 112 = [] := ⟨rfl, rfl⟩
theorem E77_113 : aCode 77 113 = (Instr.iconst 1, 114, [], 1) ∧ bMask 77 113 = [] := ⟨rfl, rfl⟩
theorem E77_114 : aCode 77 114 = (Instr.putfield 48, 117, [51, 6, 7, 1], 0) ∧ bMask 77 114 = [] := ⟨rfl, rfl⟩
theorem E77_117 : aCode 77 117 = (Instr.aload_n 0, 118, [], 0) ∧ bMask 77 117 = [] := ⟨rfl, rfl⟩
theorem E77_118 : aCode 77 118 = (Instr.getfield 44, 121, [55, 6, 6, 2], 0) ∧ bMask 77 118 = [] := ⟨rfl, rfl⟩
theorem E77_121 : aCode 77 121 = (Instr.aload_n 0, 122, [], 0) ∧ bMask 77 121 = [] := ⟨rfl, rfl⟩
theorem E77_122 : aCode 77 122 = (Instr.getfield 52, 125, [52, 6, 8, 2], 0) ∧ bMask 77 122 = [] := ⟨rfl, rfl⟩
theorem E77_125 : aCode 77 125 = (Instr.aload_n 0, 126, [], 0) ∧ bMask 77 125 = [] := ⟨rfl, rfl⟩
theorem E77_126 : aCode 77 126 = (Instr.getfield 55, 129, [53, 6, 9, 2], 0) ∧ bMask 77 126 = [] := ⟨rfl, rfl⟩
theorem E77_129 : aCode 77 129 = (Instr.iload 7, 131, [], 0) ∧ bMask 77 129 = [] := ⟨rfl, rfl⟩
theorem E77_131 : aCode 77 131 = (Instr.iload 4, 133, [], 0) ∧ bMask 77 131 = [] := ⟨rfl, rfl⟩
theorem E77_133 : aCode 77 133 = (Instr.invokevirtual 204, 136, [16, 5, 0, 0, 0, 48], 0) ∧ bMask 77 133 = [] := ⟨rfl, rfl⟩
theorem E77_136 : aCode 77 136 = (Instr.aload_n 0, 137, [], 0) ∧ bMask 77 136 = [] := ⟨rfl, rfl⟩
theorem E77_137 : aCode 77 137 = (Instr.getfield 44, 140, [55, 6, 6, 2], 0) ∧ bMask 77 137 = [] := ⟨rfl, rfl⟩
theorem E77_140 : aCode 77 140 = (Instr.invokevirtual 157, 143, [19, 1, 1, 0, 0, 64], 0) ∧ bMask 77 140 = [] := ⟨rfl, rfl⟩
theorem E77_143 : aCode 77 143 = (Instr.istore 8, 145, [], 0) ∧ bMask 77 143 = [] := ⟨rfl, rfl⟩
theorem E77_145 : aCode 77 145 = (Instr.aload_n 0, 146, [], 0) ∧ bMask 77 145 = [] := ⟨rfl, rfl⟩
theorem E77_146 : aCode 77 146 = (Instr.getfield 44, 149, [55, 6, 6, 2], 0) ∧ bMask 77 146 = [] := ⟨rfl, rfl⟩
theorem E77_149 : aCode 77 149 = (Instr.iload 8, 151, [], 0) ∧ bMask 77 149 = [] := ⟨rfl, rfl⟩
theorem E77_151 : aCode 77 151 = (Instr.invokevirtual 160, 154, [8, 2, 1, 0, 0, 65], 0) ∧ bMask 77 151 = [] := ⟨rfl, rfl⟩
theorem E77_154 : aCode 77 154 = (Instr.iload 5, 156, [], 0) ∧ bMask 77 154 = [] := ⟨rfl, rfl⟩
theorem E77_156 : aCode 77 156 = (Instr.if_icmp .le 6, 159, [162], 0) ∧ bMask 77 156 = [] := ⟨rfl, rfl⟩
theorem E77_159 : aCode 77 159 = (Instr.bipush (-3), 161, [], (-3)) ∧ bMask 77 159 = [] := ⟨rfl, rfl⟩
theorem E77_161 : aCode 77 161 = (Instr.ireturn, 162, [0], 0) ∧ bMask 77 161 = [] := ⟨rfl, rfl⟩
theorem E77_162 : aCode 77 162 = (Instr.aload 6, 164, [], 0) ∧ bMask 77 162 = [] := ⟨rfl, rfl⟩
theorem E77_164 : aCode 77 164 = (Instr.iload_n 2, 165, [], 0) ∧ bMask 77 164 = [] := ⟨rfl, rfl⟩
theorem E77_165 : aCode 77 165 = (Instr.putfield 208, 168, [44, 3, 3, 0], 0) ∧ bMask 77 165 = [] := ⟨rfl, rfl⟩
theorem E77_168 : aCode 77 168 = (Instr.aload 6, 170, [], 0) ∧ bMask 77 168 = [] := ⟨rfl, rfl⟩
theorem E77_170 : aCode 77 170 = (Instr.iload 4, 172, [], 0) ∧ bMask 77 170 = [] := ⟨rfl, rfl⟩
theorem E77_172 : aCode 77 172 = (Instr.putfield 213, 175, [46, 3, 5, 0], 0) ∧ bMask 77 172 = [] := ⟨rfl, rfl⟩
theorem E77_175 : aCode 77 175 = (Instr.aload 6, 177, [], 0) ∧ bMask 77 175 = [] := ⟨rfl, rfl⟩
theorem E77_177 : aCode 77 177 = (Instr.aload_n 0, 178, [], 0) ∧ bMask 77 177 = [] := ⟨rfl, rfl⟩
theorem E77_178 : aCode 77 178 = (Instr.getfield 10, 181, [39, 6, 0, 2], 0) ∧ bMask 77 178 = [] := ⟨rfl, rfl⟩
theorem E77_181 : aCode 77 181 = (Instr.getfield 82, 184, [59, 2, 0, 0], 0) ∧ bMask 77 181 = [] := ⟨rfl, rfl⟩
theorem E77_184 : aCode 77 184 = (Instr.putfield 216, 187, [49, 3, 8, 0], 0) ∧ bMask 77 184 = [] := ⟨rfl, rfl⟩
theorem E77_187 : aCode 77 187 = (Instr.aload 6, 189, [], 0) ∧ bMask 77 187 = [] := ⟨rfl, rfl⟩
theorem E77_189 : aCode 77 189 = (Instr.aload_n 0, 190, [], 0) ∧ bMask 77 189 = [] := ⟨rfl, rfl⟩
theorem E77_190 : aCode 77 190 = (Instr.getfield 44, 193, [55, 6, 6, 2], 0) ∧ bMask 77 190 = [] := ⟨rfl, rfl⟩
theorem E77_193 : aCode 77 193 = (Instr.iload 8, 195, [], 0) ∧ bMask 77 193 = [] := ⟨rfl, rfl⟩
theorem E77_195 : aCode 77 195 = (Instr.invokevirtual 217, 198, [38, 3, 0, 3, 0, 66], 0) ∧ bMask 77 195 = [] := ⟨rfl, rfl⟩
theorem E77_198 : aCode 77 198 = (Instr.aload_n 0, 199, [], 0) ∧ bMask 77 198 = [] := ⟨rfl, rfl⟩
theorem E77_199 : aCode 77 199 = (Instr.getfield 67, 202, [43, 6, 12, 2], 0) ∧ bMask 77 199 = [] := ⟨rfl, rfl⟩
theorem E77_202 : aCode 77 202 = (Instr.aload 6, 204, [], 0) ∧ bMask 77 202 = [] := ⟨rfl, rfl⟩
theorem E77_204 : aCode 77 204 = (Instr.invokevirtual 221, 207, [22, 2, 1, 1, 0, 67], 0) ∧ bMask 77 204 = [] := ⟨rfl, rfl⟩
theorem E77_207 : aCode 77 207 = (Instr.ireturn, 208, [0], 0) ∧ bMask 77 207 = [] := ⟨rfl, rfl⟩
theorem g_X6_guess_0 {Q : bQ} {M : bM} {x1 : Int32} {x2 : Int32} {x3 : Int32} {x4 : Int32} {x5 : Int32} (h : bCall 61 [cI x1] M (fun v1 M2 => bV1 v1 fun r3 => (((r3 = 0) → (Q (some (cI (-1 : Int32))) M2)) ∧ (¬ (r3 = 0) → (((x2 < 0) → (Q (some (cI (-1 : Int32))) M2)) ∧ (¬ (x2 < 0) → (((x2 ≤ (2 : Int32)) → (((x2 = 0) → (((x4 < (1 : Int32)) → (Q (some (cI (-1 : Int32))) M2)) ∧ (¬ (x4 < (1 : Int32)) → ((((32 : Int32) < x4) → (Q (some (cI (-1 : Int32))) M2)) ∧ (¬ ((32 : Int32) < x4) → (((x5 < 0) → (Q (some (cI (-1 : Int32))) M2)) ∧ (¬ (x5 < 0) → (((x5 ≤ (9 : Int32)) → (bCall 21 [cR 4 0] M2 (fun v4 M5 => bV5 v4 5 (Q (some (cI (-4 : Int32))) M5) (fun q6 => ((¬ x2 = 0) → bGo 77 Q 91 [some (cR 0 0), some (cI x1), some (cI x2), some (cI x3), some (cI x4), some (cI x5), some (cR 5 q6), some (cI (x3 + (1 : Int32))), none] [] M5) ∧ (¬ (¬ x2 = 0) → bGo 77 Q 91 [some (cR 0 0), some (cI x1), some (cI x2), some (cI x3), some (cI x4), some (cI x5), some (cR 5 q6), some (cI (2 : Int32)), none] [] M5))))) ∧ (¬ (x5 ≤ (9 : Int32)) → (Q (some (cI (-1 : Int32))) M2)))))))))) ∧ (¬ (x2 = 0) → (((x3 < (1 : Int32)) → (Q (some (cI (-1 : Int32))) M2)) ∧ (¬ (x3 < (1 : Int32)) → (((x3 ≤ (3 : Int32)) → (((x4 < (1 : Int32)) → (Q (some (cI (-1 : Int32))) M2)) ∧ (¬ (x4 < (1 : Int32)) → ((((32 : Int32) < x4) → (Q (some (cI (-1 : Int32))) M2)) ∧ (¬ ((32 : Int32) < x4) → (((x5 < 0) → (Q (some (cI (-1 : Int32))) M2)) ∧ (¬ (x5 < 0) → (((x5 ≤ (9 : Int32)) → (bCall 21 [cR 4 0] M2 (fun v7 M8 => bV5 v7 5 (Q (some (cI (-4 : Int32))) M8) (fun q9 => ((¬ x2 = 0) → bGo 77 Q 91 [some (cR 0 0), some (cI x1), some (cI x2), some (cI x3), some (cI x4), some (cI x5), some (cR 5 q9), some (cI (x3 + (1 : Int32))), none] [] M8) ∧ (¬ (¬ x2 = 0) → bGo 77 Q 91 [some (cR 0 0), some (cI x1), some (cI x2), some (cI x3), some (cI x4), some (cI x5), some (cR 5 q9), some (cI (2 : Int32)), none] [] M8))))) ∧ (¬ (x5 ≤ (9 : Int32)) → (Q (some (cI (-1 : Int32))) M2)))))))))) ∧ (¬ (x3 ≤ (3 : Int32)) → (Q (some (cI (-1 : Int32))) M2)))))))) ∧ (¬ (x2 ≤ (2 : Int32)) → (Q (some (cI (-1 : Int32))) M2))))))))) : bCall 77 [cR 0 0, cI x1, cI x2, cI x3, cI x4, cI x5] M Q := s_iload_n E77_0.1 (k_ E77_0) rfl (s_scall1 E77_1.1 (k_ E77_1) rfl rfl rfl h (fun M2 r3 z0 => s_if_eq E77_4.1 (k_ E77_4) ⟨fun c1 => s_iconst E77_16.1 (k_ E77_16) (s_iret E77_17.1 (k_ E77_17) (z0.1 c1)), fun c1 => s_iload_n E77_7.1 (k_ E77_7) rfl (s_if_lt E77_8.1 (k_ E77_8) ⟨fun c2 => s_iconst E77_16.1 (k_ E77_16) (s_iret E77_17.1 (k_ E77_17) ((z0.2 c1).1 c2)), fun c2 => s_iload_n E77_11.1 (k_ E77_11) rfl (s_iconst E77_12.1 (k_ E77_12) (s_icmp_le E77_13.1 (k_ E77_13) ⟨fun c3 => s_iload_n E77_18.1 (k_ E77_18) rfl (s_if_eq E77_19.1 (k_ E77_19) ⟨fun c4 => s_iload E77_34.1 (k_ E77_34) rfl (s_iconst E77_36.1 (k_ E77_36) (s_icmp_lt E77_37.1 (k_ E77_37) ⟨fun c5 => s_iconst E77_59.1 (k_ E77_59) (s_iret E77_60.1 (k_ E77_60) (((((z0.2 c1).2 c2).1 c3).1 c4).1 c5)), fun c5 => s_iload E77_40.1 (k_ E77_40) rfl (s_bipush E77_42.1 (k_ E77_42) (s_icmp_gt E77_44.1 (k_ E77_44) ⟨fun c6 => s_iconst E77_59.1 (k_ E77_59) (s_iret E77_60.1 (k_ E77_60) ((((((z0.2 c1).2 c2).1 c3).1 c4).2 c5).1 c6)), fun c6 => s_iload E77_47.1 (k_ E77_47) rfl (s_if_lt E77_49.1 (k_ E77_49) ⟨fun c7 => s_iconst E77_59.1 (k_ E77_59) (s_iret E77_60.1 (k_ E77_60) (((((((z0.2 c1).2 c2).1 c3).1 c4).2 c5).2 c6).1 c7)), fun c7 => s_iload E77_52.1 (k_ E77_52) rfl (s_bipush E77_54.1 (k_ E77_54) (s_icmp_le E77_56.1 (k_ E77_56) ⟨fun c8 => s_aload_n E77_61.1 (k_ E77_61) rfl (s_getR E77_62.1 (k_ E77_62) rfl rfl (s_vcall205 E77_65.1 (k_ E77_65) rfl rfl rfl ((((((((z0.2 c1).2 c2).1 c3).1 c4).2 c5).2 c6).2 c7).1 c8) (fun M5 z9 => s_astoreN E77_68.1 (k_ E77_68) (s_aloadN E77_70.1 (k_ E77_70) rfl (s_ifnonnullN E77_72.1 (k_ E77_72) (s_bipush E77_75.1 (k_ E77_75) (s_iret E77_77.1 (k_ E77_77) z9))))) (fun M5 q6 z9 => s_astore E77_68.1 (k_ E77_68) (s_aload E77_70.1 (k_ E77_70) rfl (s_ifnonnull E77_72.1 (k_ E77_72) (s_iload_n E77_78.1 (k_ E77_78) rfl (s_if_ne E77_79.1 (k_ E77_79) ⟨fun c10 => s_iload_n E77_86.1 (k_ E77_86) rfl (s_iconst E77_87.1 (k_ E77_87) (s_iadd E77_88.1 (k_ E77_88) (s_istore E77_89.1 (k_ E77_89) (z9.1 c10)))), fun c10 => s_iconst E77_82.1 (k_ E77_82) (s_goto E77_83.1 (k_ E77_83) (s_istore E77_89.1 (k_ E77_89) (z9.2 c10)))⟩))))))), fun c8 => s_iconst E77_59.1 (k_ E77_59) (s_iret E77_60.1 (k_ E77_60) ((((((((z0.2 c1).2 c2).1 c3).1 c4).2 c5).2 c6).2 c7).2 c8))⟩))⟩)⟩))⟩)), fun c4 => s_iload_n E77_22.1 (k_ E77_22) rfl (s_iconst E77_23.1 (k_ E77_23) (s_icmp_lt E77_24.1 (k_ E77_24) ⟨fun c11 => s_iconst E77_32.1 (k_ E77_32) (s_iret E77_33.1 (k_ E77_33) (((((z0.2 c1).2 c2).1 c3).2 c4).1 c11)), fun c11 => s_iload_n E77_27.1 (k_ E77_27) rfl (s_iconst E77_28.1 (k_ E77_28) (s_icmp_le E77_29.1 (k_ E77_29) ⟨fun c12 => s_iload E77_34.1 (k_ E77_34) rfl (s_iconst E77_36.1 (k_ E77_36) (s_icmp_lt E77_37.1 (k_ E77_37) ⟨fun c13 => s_iconst E77_59.1 (k_ E77_59) (s_iret E77_60.1 (k_ E77_60) (((((((z0.2 c1).2 c2).1 c3).2 c4).2 c11).1 c12).1 c13)), fun c13 => s_iload E77_40.1 (k_ E77_40) rfl (s_bipush E77_42.1 (k_ E77_42) (s_icmp_gt E77_44.1 (k_ E77_44) ⟨fun c14 => s_iconst E77_59.1 (k_ E77_59) (s_iret E77_60.1 (k_ E77_60) ((((((((z0.2 c1).2 c2).1 c3).2 c4).2 c11).1 c12).2 c13).1 c14)), fun c14 => s_iload E77_47.1 (k_ E77_47) rfl (s_if_lt E77_49.1 (k_ E77_49) ⟨fun c15 => s_iconst E77_59.1 (k_ E77_59) (s_iret E77_60.1 (k_ E77_60) (((((((((z0.2 c1).2 c2).1 c3).2 c4).2 c11).1 c12).2 c13).2 c14).1 c15)), fun c15 => s_iload E77_52.1 (k_ E77_52) rfl (s_bipush E77_54.1 (k_ E77_54) (s_icmp_le E77_56.1 (k_ E77_56) ⟨fun c16 => s_aload_n E77_61.1 (k_ E77_61) rfl (s_getR E77_62.1 (k_ E77_62) rfl rfl (s_vcall205 E77_65.1 (k_ E77_65) rfl rfl rfl ((((((((((z0.2 c1).2 c2).1 c3).2 c4).2 c11).1 c12).2 c13).2 c14).2 c15).1 c16) (fun M8 z17 => s_astoreN E77_68.1 (k_ E77_68) (s_aloadN E77_70.1 (k_ E77_70) rfl (s_ifnonnullN E77_72.1 (k_ E77_72) (s_bipush E77_75.1 (k_ E77_75) (s_iret E77_77.1 (k_ E77_77) z17))))) (fun M8 q9 z17 => s_astore E77_68.1 (k_ E77_68) (s_aload E77_70.1 (k_ E77_70) rfl (s_ifnonnull E77_72.1 (k_ E77_72) (s_iload_n E77_78.1 (k_ E77_78) rfl (s_if_ne E77_79.1 (k_ E77_79) ⟨fun c18 => s_iload_n E77_86.1 (k_ E77_86) rfl (s_iconst E77_87.1 (k_ E77_87) (s_iadd E77_88.1 (k_ E77_88) (s_istore E77_89.1 (k_ E77_89) (z17.1 c18)))), fun c18 => s_iconst E77_82.1 (k_ E77_82) (s_goto E77_83.1 (k_ E77_83) (s_istore E77_89.1 (k_ E77_89) (z17.2 c18)))⟩))))))), fun c16 => s_iconst E77_59.1 (k_ E77_59) (s_iret E77_60.1 (k_ E77_60) ((((((((((z0.2 c1).2 c2).1 c3).2 c4).2 c11).1 c12).2 c13).2 c14).2 c15).2 c16))⟩))⟩)⟩))⟩)), fun c12 => s_iconst E77_32.1 (k_ E77_32) (s_iret E77_33.1 (k_ E77_33) ((((((z0.2 c1).2 c2).1 c3).2 c4).2 c11).2 c12))⟩))⟩))⟩), fun c3 => s_iconst E77_16.1 (k_ E77_16) (s_iret E77_17.1 (k_ E77_17) (((z0.2 c1).2 c2).2 c3))⟩))⟩)⟩))
theorem g_X6_guess_91 {Q : bQ} {M : bM} {x1 : Int32} {x2 : Int32} {x3 : Int32} {x4 : Int32} {x5 : Int32} {j6 : Nat} {x7 : Int32} {o8 : Option bV} (h : (vp_in x1 6) ∧ (bCall 76 [cR 0 0, cI x2, cI x7, cR 7 x1.toNatClampNeg] M (fun v1 M2 => bV0 v1 (bCall 1 [cR 9 0, cI (0 : Int32)] M2 (fun v3 M4 => bV0 v3 (((1 : Int32) = 0 ∨ (1 : Int32) = 1) ∧ (bCall 16 [cR 3 0, cR 17 0, cR 9 0, cI x7, cI x4] (bU M4 0 0 7 (1 : Int32)) (fun v5 M6 => bV0 v5 (bCall 19 [cR 3 0] M6 (fun v7 M8 => bV1 v7 fun r9 => (bCall 8 [cR 3 0, cI r9] M8 (fun v10 M11 => bV1 v10 fun r12 => (((r12 ≤ x5) → (bCall 38 [cR 5 j6, cR 3 0, cI r9] (bU (bU (bU M11 5 j6 3 x2) 5 j6 5 x4) 5 j6 8 ((bU (bU M11 5 j6 3 x2) 5 j6 5 x4) 1 0 0)) (fun v13 M14 => bV0 v13 (bCall 22 [cR 4 0, cR 5 j6] M14 (fun v15 M16 => bV1 v15 fun r17 => (Q (some (cI r17)) M16)))))) ∧ (¬ (r12 ≤ x5) → (Q (some (cI (-3 : Int32))) M11))))))))))))))) : bGo 77 Q 91 [some (cR 0 0), some (cI x1), some (cI x2), some (cI x3), some (cI x4), some (cI x5), some (cR 5 j6), some (cI x7), o8] [] M := s_aload_n E77_91 rfl rfl (s_iload_n E77_92.1 (k_ E77_92) rfl (s_iload E77_93.1 (k_ E77_93) rfl (s_aload_n E77_95.1 (k_ E77_95) rfl (s_getR E77_96.1 (k_ E77_96) rfl rfl (s_iload_n E77_99.1 (k_ E77_99) rfl (s_aaload E77_100.1 (k_ E77_100) rfl ⟨h.1, s_vcall0 E77_101.1 (k_ E77_101) rfl rfl rfl h.2 (fun M2 z19 => s_aload_n E77_104.1 (k_ E77_104) rfl (s_getR E77_105.1 (k_ E77_105) rfl rfl (s_iconst E77_108.1 (k_ E77_108) (s_scall0 E77_109.1 (k_ E77_109) rfl rfl rfl z19 (fun M4 z20 => s_aload_n E77_112.1 (k_ E77_112) rfl (s_iconst E77_113.1 (k_ E77_113) (s_putZ E77_114.1 (k_ E77_114) rfl ⟨z20.1, s_aload_n E77_117.1 (k_ E77_117) rfl (s_getR E77_118.1 (k_ E77_118) rfl rfl (s_aload_n E77_121.1 (k_ E77_121) rfl (s_getR E77_122.1 (k_ E77_122) rfl rfl (s_aload_n E77_125.1 (k_ E77_125) rfl (s_getR E77_126.1 (k_ E77_126) rfl rfl (s_iload E77_129.1 (k_ E77_129) rfl (s_iload E77_131.1 (k_ E77_131) rfl (s_vcall0 E77_133.1 (k_ E77_133) rfl rfl rfl z20.2 (fun M6 z21 => s_aload_n E77_136.1 (k_ E77_136) rfl (s_getR E77_137.1 (k_ E77_137) rfl rfl (s_vcall1 E77_140.1 (k_ E77_140) rfl rfl rfl z21 (fun M8 r9 z22 => s_istore E77_143.1 (k_ E77_143) (s_aload_n E77_145.1 (k_ E77_145) rfl (s_getR E77_146.1 (k_ E77_146) rfl rfl (s_iload E77_149.1 (k_ E77_149) rfl (s_vcall1 E77_151.1 (k_ E77_151) rfl rfl rfl z22 (fun M11 r12 z23 => s_iload E77_154.1 (k_ E77_154) rfl (s_icmp_le E77_156.1 (k_ E77_156) ⟨fun c24 => s_aload E77_162.1 (k_ E77_162) rfl (s_iload_n E77_164.1 (k_ E77_164) rfl (s_putI E77_165.1 (k_ E77_165) rfl (s_aload E77_168.1 (k_ E77_168) rfl (s_iload E77_170.1 (k_ E77_170) rfl (s_putI E77_172.1 (k_ E77_172) rfl (s_aload E77_175.1 (k_ E77_175) rfl (s_aload_n E77_177.1 (k_ E77_177) rfl (s_getR E77_178.1 (k_ E77_178) rfl rfl (s_getI0 E77_181.1 (k_ E77_181) rfl (s_putI E77_184.1 (k_ E77_184) rfl (s_aload E77_187.1 (k_ E77_187) rfl (s_aload_n E77_189.1 (k_ E77_189) rfl (s_getR E77_190.1 (k_ E77_190) rfl rfl (s_iload E77_193.1 (k_ E77_193) rfl (s_vcall0 E77_195.1 (k_ E77_195) rfl rfl rfl (z23.1 c24) (fun M14 z25 => s_aload_n E77_198.1 (k_ E77_198) rfl (s_getR E77_199.1 (k_ E77_199) rfl rfl (s_aload E77_202.1 (k_ E77_202) rfl (s_vcall1 E77_204.1 (k_ E77_204) rfl rfl rfl z25 (fun M16 r17 z26 => s_iret E77_207.1 (k_ E77_207) z26)))))))))))))))))))), fun c24 => s_bipush E77_159.1 (k_ E77_159) (s_iret E77_161.1 (k_ E77_161) (z23.2 c24))⟩))))))))))))))))))⟩)))))))⟩))))))
-- 79: X6_inverse
theorem E79_0 : aCode 79 0 = (Instr.iload_n 1, 1, [], 0) ∧ bMask 79 0 = [] := ⟨rfl, rfl⟩
theorem E79_1 : aCode 79 1 = (Instr.invokestatic 91, 4, [61, 1, 1, 0, 0, 43], 0) ∧ bMask 79 1 = [] := ⟨rfl, rfl⟩
theorem E79_4 : aCode 79 4 = (Instr.ifCond .eq 10, 7, [14], 0) ∧ bMask 79 4 = [] := ⟨rfl, rfl⟩
theorem E79_7 : aCode 79 7 = (Instr.iload_n 2, 8, [], 0) ∧ bMask 79 7 = [] := ⟨rfl, rfl⟩
theorem E79_8 : aCode 79 8 = (Instr.invokestatic 91, 11, [61, 1, 1, 0, 0, 43], 0) ∧ bMask 79 8 = [] := ⟨rfl, rfl⟩
theorem E79_11 : aCode 79 11 = (Instr.ifCond .ne 5, 14, [16], 0) ∧ bMask 79 11 = [] := ⟨rfl, rfl⟩
theorem E79_14 : aCode 79 14 = (Instr.iconst (-1), 15, [], (-1)) ∧ bMask 79 14 = [] := ⟨rfl, rfl⟩
theorem E79_15 : aCode 79 15 = (Instr.ireturn, 16, [0], 0) ∧ bMask 79 15 = [] := ⟨rfl, rfl⟩
theorem E79_16 : aCode 79 16 = (Instr.aload_n 0, 17, [], 0) ∧ bMask 79 16 = [] := ⟨rfl, rfl⟩
theorem E79_17 : aCode 79 17 = (Instr.getfield 18, 20, [42, 6, 1, 2], 0) ∧ bMask 79 17 = [] := ⟨rfl, rfl⟩
theorem E79_20 : aCode 79 20 = (Instr.iload_n 1, 21, [], 0) ∧ bMask 79 20 = [] := ⟨rfl, rfl⟩
theorem E79_21 : aCode 79 21 = (Instr.aaload, 22, [2], 0) ∧ bMask 79 21 = [] := ⟨rfl, rfl⟩
theorem E79_22 : aCode 79 22 = (Instr.iconst 0, 23, [], 0) ∧ bMask 79 22 = [] := ⟨rfl, rfl⟩
theorem E79_23 : aCode 79 23 = (Instr.iaload, 24, [0], 0) ∧ bMask 79 23 = [] := ⟨rfl, rfl⟩
theorem E79_24 : aCode 79 24 = (Instr.ifCond .ne 6, 27, [30], 0) ∧ bMask 79 24 = [] := ⟨rfl, rfl⟩
theorem E79_27 : aCode 79 27 = (Instr.bipush (-2), 29, [], (-2)) ∧ bMask 79 27 = [] := ⟨rfl, rfl⟩
theorem E79_29 : aCode 79 29 = (Instr.ireturn, 30, [0], 0) ∧ bMask 79 29 = [] := ⟨rfl, rfl⟩
theorem E79_30 : aCode 79 30 = (Instr.aload_n 0, 31, [], 0) ∧ bMask 79 30 = [] := ⟨rfl, rfl⟩
theorem E79_31 : aCode 79 31 = (Instr.getfield 10, 34, [39, 6, 0, 2], 0) ∧ bMask 79 31 = [] := ⟨rfl, rfl⟩
theorem E79_34 : aCode 79 34 = (Instr.iconst 1, 35, [], 1) ∧ bMask 79 34 = [] := ⟨rfl, rfl⟩
theorem E79_35 : aCode 79 35 = (Instr.aload_n 0, 36, [], 0) ∧ bMask 79 35 = [] := ⟨rfl, rfl⟩
theorem E79_36 : aCode 79 36 = (Instr.getfield 61, 39, [41, 6, 11, 2], 0) ∧ bMask 79 36 = [] := ⟨rfl, rfl⟩
theorem E79_39 : aCode 79 39 = (Instr.invokevirtual 109, 42, [29, 3, 0, 2, 0, 60], 0) ∧ bMask 79 39 = [] := ⟨rfl, rfl⟩
theorem E79_42 : aCode 79 42 = (Instr.aload_n 0, 43, [], 0) ∧ bMask 79 42 = [] := ⟨rfl, rfl⟩
theorem E79_43 : aCode 79 43 = (Instr.getfield 10, 46, [39, 6, 0, 2], 0) ∧ bMask 79 43 = [] := ⟨rfl, rfl⟩
theorem E79_46 : aCode 79 46 = (Instr.aload_n 0, 47, [], 0) ∧ bMask 79 46 = [] := ⟨rfl, rfl⟩
theorem E79_47 : aCode 79 47 = (Instr.getfield 61, 50, [41, 6, 11, 2], 0) ∧ bMask 79 47 = [] := ⟨rfl, rfl⟩
theorem E79_50 : aCode 79 50 = (Instr.aload_n 0, 51, [], 0) ∧ bMask 79 50 = [] := ⟨rfl, rfl⟩
theorem E79_51 : aCode 79 51 = (Instr.getfield 18, 54, [42, 6, 1, 2], 0) ∧ bMask 79 51 = [] := ⟨rfl, rfl⟩
theorem E79_54 : aCode 79 54 = (Instr.iload_n 1, 55, [], 0) ∧ bMask 79 54 = [] := ⟨rfl, rfl⟩
theorem E79_55 : aCode 79 55 = (Instr.aaload, 56, [2], 0) ∧ bMask 79 55 = [] := ⟨rfl, rfl⟩
theorem E79_56 : aCode 79 56 = (Instr.aload_n 0, 57, [], 0) ∧ bMask 79 56 = [] := ⟨rfl, rfl⟩
theorem E79_57 : aCode 79 57 = (Instr.getfield 18, 60, [42, 6, 1, 2], 0) ∧ bMask 79 57 = [] := ⟨rfl, rfl⟩
theorem E79_60 : aCode 79 60 = (Instr.iload_n 2, 61, [], 0) ∧ bMask 79 60 = [] := ⟨rfl, rfl⟩
theorem E79_61 : aCode 79 61 = (Instr.aaload, 62, [2], 0) ∧ bMask 79 61 = [] := ⟨rfl, rfl⟩
theorem E79_62 : aCode 79 62 = (Instr.invokevirtual 113, 65, [30, 4, 0, 2, 0, 73], 0) ∧ bMask 79 62 = [] := ⟨rfl, rfl⟩
theorem E79_65 : aCode 79 65 = (Instr.aload_n 0, 66, [], 0) ∧ bMask 79 65 = [] := ⟨rfl, rfl⟩
theorem E79_66 : aCode 79 66 = (Instr.iconst 1, 67, [], 1) ∧ bMask 79 66 = [] := ⟨rfl, rfl⟩
theorem E79_67 : aCode 79 67 = (Instr.putfield 48, 70, [51, 6, 7, 1], 0) ∧ bMask 79 67 = [] := ⟨rfl, rfl⟩
theorem E79_70 : aCode 79 70 = (Instr.iconst 1, 71, [], 1) ∧ bMask 79 70 = [] := ⟨rfl, rfl⟩
theorem E79_71 : aCode 79 71 = (Instr.ireturn, 72, [0], 0) ∧ bMask 79 71 = [] := ⟨rfl, rfl⟩
theorem g_X6_inverse_0 {Q : bQ} {M : bM} {x1 : Int32} {x2 : Int32} (h : bCall 61 [cI x1] M (fun v1 M2 => bV1 v1 fun r3 => (((r3 = 0) → (Q (some (cI (-1 : Int32))) M2)) ∧ (¬ (r3 = 0) → (bCall 61 [cI x2] M2 (fun v4 M5 => bV1 v4 fun r6 => (((¬ r6 = 0) → ((vp_in x1 6) ∧ ((vp_in (0 : Int32) 32) ∧ (((¬ (M5 7 x1.toNatClampNeg (0 : Int32).toNatClampNeg) = 0) → (bCall 29 [cR 1 0, cI (1 : Int32), cR 7 6] M5 (fun v7 M8 => bV0 v7 ((vp_in x1 6) ∧ ((vp_in x2 6) ∧ (bCall 30 [cR 1 0, cR 7 6, cR 7 x1.toNatClampNeg, cR 7 x2.toNatClampNeg] M8 (fun v9 M10 => bV0 v9 (((1 : Int32) = 0 ∨ (1 : Int32) = 1) ∧ (Q (some (cI (1 : Int32))) (bU M10 0 0 7 (1 : Int32))))))))))) ∧ (¬ (¬ (M5 7 x1.toNatClampNeg (0 : Int32).toNatClampNeg) = 0) → (Q (some (cI (-2 : Int32))) M5)))))) ∧ (¬ (¬ r6 = 0) → (Q (some (cI (-1 : Int32))) M5))))))))) : bCall 79 [cR 0 0, cI x1, cI x2] M Q := s_iload_n E79_0.1 (k_ E79_0) rfl (s_scall1 E79_1.1 (k_ E79_1) rfl rfl rfl h (fun M2 r3 z0 => s_if_eq E79_4.1 (k_ E79_4) ⟨fun c1 => s_iconst E79_14.1 (k_ E79_14) (s_iret E79_15.1 (k_ E79_15) (z0.1 c1)), fun c1 => s_iload_n E79_7.1 (k_ E79_7) rfl (s_scall1 E79_8.1 (k_ E79_8) rfl rfl rfl (z0.2 c1) (fun M5 r6 z2 => s_if_ne E79_11.1 (k_ E79_11) ⟨fun c3 => s_aload_n E79_16.1 (k_ E79_16) rfl (s_getR E79_17.1 (k_ E79_17) rfl rfl (s_iload_n E79_20.1 (k_ E79_20) rfl (s_aaload E79_21.1 (k_ E79_21) rfl ⟨(z2.1 c3).1, s_iconst E79_22.1 (k_ E79_22) (s_iaload E79_23.1 (k_ E79_23) rfl ⟨((z2.1 c3).2).1, s_if_ne E79_24.1 (k_ E79_24) ⟨fun c4 => s_aload_n E79_30.1 (k_ E79_30) rfl (s_getR E79_31.1 (k_ E79_31) rfl rfl (s_iconst E79_34.1 (k_ E79_34) (s_aload_n E79_35.1 (k_ E79_35) rfl (s_getR E79_36.1 (k_ E79_36) rfl rfl (s_vcall0 E79_39.1 (k_ E79_39) rfl rfl rfl ((((z2.1 c3).2).2).1 c4) (fun M8 z5 => s_aload_n E79_42.1 (k_ E79_42) rfl (s_getR E79_43.1 (k_ E79_43) rfl rfl (s_aload_n E79_46.1 (k_ E79_46) rfl (s_getR E79_47.1 (k_ E79_47) rfl rfl (s_aload_n E79_50.1 (k_ E79_50) rfl (s_getR E79_51.1 (k_ E79_51) rfl rfl (s_iload_n E79_54.1 (k_ E79_54) rfl (s_aaload E79_55.1 (k_ E79_55) rfl ⟨z5.1, s_aload_n E79_56.1 (k_ E79_56) rfl (s_getR E79_57.1 (k_ E79_57) rfl rfl (s_iload_n E79_60.1 (k_ E79_60) rfl (s_aaload E79_61.1 (k_ E79_61) rfl ⟨z5.2.1, s_vcall0 E79_62.1 (k_ E79_62) rfl rfl rfl z5.2.2 (fun M10 z6 => s_aload_n E79_65.1 (k_ E79_65) rfl (s_iconst E79_66.1 (k_ E79_66) (s_putZ E79_67.1 (k_ E79_67) rfl ⟨z6.1, s_iconst E79_70.1 (k_ E79_70) (s_iret E79_71.1 (k_ E79_71) z6.2)⟩)))⟩)))⟩))))))))))))), fun c4 => s_bipush E79_27.1 (k_ E79_27) (s_iret E79_29.1 (k_ E79_29) ((((z2.1 c3).2).2).2 c4))⟩⟩)⟩))), fun c3 => s_iconst E79_14.1 (k_ E79_14) (s_iret E79_15.1 (k_ E79_15) (z2.2 c3))⟩))⟩))
-- 80: X6_isSheet
theorem E80_0 : aCode 80 0 = (Instr.iload_n 0, 1, [], 0) ∧ bMask 80 0 = [] := ⟨rfl, rfl⟩
theorem E80_1 : aCode 80 1 = (Instr.ifCond .lt 12, 4, [13], 0) ∧ bMask 80 1 = [] := ⟨rfl, rfl⟩
theorem E80_4 : aCode 80 4 = (Instr.iload_n 0, 5, [], 0) ∧ bMask 80 4 = [] := ⟨rfl, rfl⟩
theorem E80_5 : aCode 80 5 = (Instr.iconst 3, 6, [], 3) ∧ bMask 80 5 = [] := ⟨rfl, rfl⟩
theorem E80_6 : aCode 80 6 = (Instr.if_icmp .ge 7, 9, [13], 0) ∧ bMask 80 6 = [] := ⟨rfl, rfl⟩
theorem E80_9 : aCode 80 9 = (Instr.iconst 1, 10, [], 1) ∧ bMask 80 9 = [] := ⟨rfl, rfl⟩
theorem E80_10 : aCode 80 10 = (Instr.goto 4, 14, [], 0) ∧ bMask 80 10 = [] := ⟨rfl, rfl⟩
theorem E80_13 : aCode 80 13 = (Instr.iconst 0, 14, [], 0) ∧ bMask 80 13 = [] := ⟨rfl, rfl⟩
theorem E80_14 : aCode 80 14 = (Instr.ireturn, 15, [1], 0) ∧ bMask 80 14 = [] := ⟨rfl, rfl⟩
theorem g_X6_isSheet_0 {Q : bQ} {M : bM} {x0 : Int32} (h : ((x0 < 0) → (((0 : Int32) = 0 ∨ (0 : Int32) = 1) ∧ Q (some (cI (0 : Int32))) M)) ∧ (¬ (x0 < 0) → ((((3 : Int32) ≤ x0) → (((0 : Int32) = 0 ∨ (0 : Int32) = 1) ∧ Q (some (cI (0 : Int32))) M)) ∧ (¬ ((3 : Int32) ≤ x0) → (((1 : Int32) = 0 ∨ (1 : Int32) = 1) ∧ Q (some (cI (1 : Int32))) M))))) : bCall 80 [cI x0] M Q := s_iload_n E80_0.1 (k_ E80_0) rfl (s_if_lt E80_1.1 (k_ E80_1) ⟨fun c0 => s_iconst E80_13.1 (k_ E80_13) (s_zret E80_14.1 (k_ E80_14) (h.1 c0)), fun c0 => s_iload_n E80_4.1 (k_ E80_4) rfl (s_iconst E80_5.1 (k_ E80_5) (s_icmp_ge E80_6.1 (k_ E80_6) ⟨fun c1 => s_iconst E80_13.1 (k_ E80_13) (s_zret E80_14.1 (k_ E80_14) ((h.2 c0).1 c1)), fun c1 => s_iconst E80_9.1 (k_ E80_9) (s_goto E80_10.1 (k_ E80_10) (s_zret E80_14.1 (k_ E80_14) ((h.2 c0).2 c1)))⟩))⟩)
-- 81: X6_lift
theorem E81_0 : aCode 81 0 = (Instr.iload_n 1, 1, [], 0) ∧ bMask 81 0 = [] := ⟨rfl, rfl⟩
theorem E81_1 : aCode 81 1 = (Instr.invokestatic 91, 4, [61, 1, 1, 0, 0, 43], 0) ∧ bMask 81 1 = [] := ⟨rfl, rfl⟩
theorem E81_4 : aCode 81 4 = (Instr.ifCond .eq 13, 7, [17], 0) ∧ bMask 81 4 = [] := ⟨rfl, rfl⟩
theorem E81_7 : aCode 81 7 = (Instr.iload_n 2, 8, [], 0) ∧ bMask 81 7 = [] := ⟨rfl, rfl⟩
theorem E81_8 : aCode 81 8 = (Instr.ifCond .lt 9, 11, [17], 0) ∧ bMask 81 8 = [] := ⟨rfl, rfl⟩
theorem E81_11 : aCode 81 11 = (Instr.iload_n 2, 12, [], 0) ∧ bMask 81 11 = [] := ⟨rfl, rfl⟩
theorem E81_12 : aCode 81 12 = (Instr.bipush 9, 14, [], 9) ∧ bMask 81 12 = [] := ⟨rfl, rfl⟩
theorem E81_14 : aCode 81 14 = (Instr.if_icmp .le 5, 17, [19], 0) ∧ bMask 81 14 = [] := ⟨rfl, rfl⟩
theorem E81_17 : aCode 81 17 = (Instr.iconst (-1), 18, [], (-1)) ∧ bMask 81 17 = [] := ⟨rfl, rfl⟩
theorem E81_18 : aCode 81 18 = (Instr.ireturn, 19, [0], 0) ∧ bMask 81 18 = [] := ⟨rfl, rfl⟩
theorem E81_19 : aCode 81 19 = (Instr.aload_n 0, 20, [], 0) ∧ bMask 81 19 = [] := ⟨rfl, rfl⟩
theorem E81_20 : aCode 81 20 = (Instr.getfield 37, 23, [54, 6, 5, 2], 0) ∧ bMask 81 20 = [] := ⟨rfl, rfl⟩
theorem E81_23 : aCode 81 23 = (Instr.iload_n 1, 24, [], 0) ∧ bMask 81 23 = [] := ⟨rfl, rfl⟩
theorem E81_24 : aCode 81 24 = (Instr.iaload, 25, [0], 0) ∧ bMask 81 24 = [] := ⟨rfl, rfl⟩
theorem E81_25 : aCode 81 25 = (Instr.istore_n 3, 26, [], 0) ∧ bMask 81 25 = [] := ⟨rfl, rfl⟩
theorem E81_26 : aCode 81 26 = (Instr.aload_n 0, 27, [], 0) ∧ bMask 81 26 = [] := ⟨rfl, rfl⟩
theorem E81_27 : aCode 81 27 = (Instr.getfield 37, 30, [54, 6, 5, 2], 0) ∧ bMask 81 27 = [] := ⟨rfl, rfl⟩
theorem E81_30 : aCode 81 30 = (Instr.iload_n 1, 31, [], 0) ∧ bMask 81 30 = [] := ⟨rfl, rfl⟩
theorem E81_31 : aCode 81 31 = (Instr.iload_n 2, 32, [], 0) ∧ bMask 81 31 = [] := ⟨rfl, rfl⟩
theorem E81_32 : aCode 81 32 = (Instr.iastore, 33, [0], 0) ∧ bMask 81 32 = [] := ⟨rfl, rfl⟩
theorem E81_33 : aCode 81 33 = (Instr.aload_n 0, 34, [], 0) ∧ bMask 81 33 = [] := ⟨rfl, rfl⟩
theorem E81_34 : aCode 81 34 = (Instr.iconst 1, 35, [], 1) ∧ bMask 81 34 = [] := ⟨rfl, rfl⟩
theorem E81_35 : aCode 81 35 = (Instr.putfield 48, 38, [51, 6, 7, 1], 0) ∧ bMask 81 35 = [] := ⟨rfl, rfl⟩
theorem E81_38 : aCode 81 38 = (Instr.iload_n 3, 39, [], 0) ∧ bMask 81 38 = [] := ⟨rfl, rfl⟩
theorem E81_39 : aCode 81 39 = (Instr.ireturn, 40, [0], 0) ∧ bMask 81 39 = [] := ⟨rfl, rfl⟩
theorem g_X6_lift_0 {Q : bQ} {M : bM} {x1 : Int32} {x2 : Int32} (h : bCall 61 [cI x1] M (fun v1 M2 => bV1 v1 fun r3 => (((r3 = 0) → (Q (some (cI (-1 : Int32))) M2)) ∧ (¬ (r3 = 0) → (((x2 < 0) → (Q (some (cI (-1 : Int32))) M2)) ∧ (¬ (x2 < 0) → (((x2 ≤ (9 : Int32)) → ((vp_in x1 6) ∧ ((vp_in x1 6) ∧ (((1 : Int32) = 0 ∨ (1 : Int32) = 1) ∧ (Q (some (cI (M2 11 0 x1.toNatClampNeg))) (bU (bU M2 11 0 x1.toNatClampNeg x2) 0 0 7 (1 : Int32))))))) ∧ (¬ (x2 ≤ (9 : Int32)) → (Q (some (cI (-1 : Int32))) M2))))))))) : bCall 81 [cR 0 0, cI x1, cI x2] M Q := s_iload_n E81_0.1 (k_ E81_0) rfl (s_scall1 E81_1.1 (k_ E81_1) rfl rfl rfl h (fun M2 r3 z0 => s_if_eq E81_4.1 (k_ E81_4) ⟨fun c1 => s_iconst E81_17.1 (k_ E81_17) (s_iret E81_18.1 (k_ E81_18) (z0.1 c1)), fun c1 => s_iload_n E81_7.1 (k_ E81_7) rfl (s_if_lt E81_8.1 (k_ E81_8) ⟨fun c2 => s_iconst E81_17.1 (k_ E81_17) (s_iret E81_18.1 (k_ E81_18) ((z0.2 c1).1 c2)), fun c2 => s_iload_n E81_11.1 (k_ E81_11) rfl (s_bipush E81_12.1 (k_ E81_12) (s_icmp_le E81_14.1 (k_ E81_14) ⟨fun c3 => s_aload_n E81_19.1 (k_ E81_19) rfl (s_getR E81_20.1 (k_ E81_20) rfl rfl (s_iload_n E81_23.1 (k_ E81_23) rfl (s_iaload E81_24.1 (k_ E81_24) rfl ⟨(((z0.2 c1).2 c2).1 c3).1, s_istore_n E81_25.1 (k_ E81_25) (s_aload_n E81_26.1 (k_ E81_26) rfl (s_getR E81_27.1 (k_ E81_27) rfl rfl (s_iload_n E81_30.1 (k_ E81_30) rfl (s_iload_n E81_31.1 (k_ E81_31) rfl (s_iastore E81_32.1 (k_ E81_32) rfl ⟨((((z0.2 c1).2 c2).1 c3).2).1, s_aload_n E81_33.1 (k_ E81_33) rfl (s_iconst E81_34.1 (k_ E81_34) (s_putZ E81_35.1 (k_ E81_35) rfl ⟨(((((z0.2 c1).2 c2).1 c3).2).2).1, s_iload_n E81_38.1 (k_ E81_38) rfl (s_iret E81_39.1 (k_ E81_39) ((((((z0.2 c1).2 c2).1 c3).2).2).2))⟩))⟩)))))⟩))), fun c3 => s_iconst E81_17.1 (k_ E81_17) (s_iret E81_18.1 (k_ E81_18) (((z0.2 c1).2 c2).2 c3))⟩))⟩)⟩))
-- 82: X6_listed
theorem E82_0 : aCode 82 0 = (Instr.aload_n 0, 1, [], 0) ∧ bMask 82 0 = [] := ⟨rfl, rfl⟩
theorem E82_1 : aCode 82 1 = (Instr.getfield 67, 4, [43, 6, 12, 2], 0) ∧ bMask 82 1 = [] := ⟨rfl, rfl⟩
theorem E82_4 : aCode 82 4 = (Instr.iload_n 1, 5, [], 0) ∧ bMask 82 4 = [] := ⟨rfl, rfl⟩
theorem E82_5 : aCode 82 5 = (Instr.invokevirtual 248, 8, [26, 2, 1, 1, 0, 74], 0) ∧ bMask 82 5 = [] := ⟨rfl, rfl⟩
theorem E82_8 : aCode 82 8 = (Instr.ireturn, 9, [0], 0) ∧ bMask 82 8 = [] := ⟨rfl, rfl⟩
theorem g_X6_listed_0 {Q : bQ} {M : bM} {x1 : Int32} (h : bCall 26 [cR 4 0, cI x1] M (fun v1 M2 => bV1 v1 fun r3 => (Q (some (cI r3)) M2))) : bCall 82 [cR 0 0, cI x1] M Q := s_aload_n E82_0.1 (k_ E82_0) rfl (s_getR E82_1.1 (k_ E82_1) rfl rfl (s_iload_n E82_4.1 (k_ E82_4) rfl (s_vcall1 E82_5.1 (k_ E82_5) rfl rfl rfl h (fun M2 r3 z0 => s_iret E82_8.1 (k_ E82_8) z0))))
-- 83: X6_loads
theorem E83_0 : aCode 83 0 = (Instr.iload_n 1, 1, [], 0) ∧ bMask 83 0 = [] := ⟨rfl, rfl⟩
theorem E83_1 : aCode 83 1 = (Instr.invokestatic 91, 4, [61, 1, 1, 0, 0, 43], 0) ∧ bMask 83 1 = [] := ⟨rfl, rfl⟩
theorem E83_4 : aCode 83 4 = (Instr.ifCond .eq 10, 7, [14], 0) ∧ bMask 83 4 = [] := ⟨rfl, rfl⟩
theorem E83_7 : aCode 83 7 = (Instr.iload_n 2, 8, [], 0) ∧ bMask 83 7 = [] := ⟨rfl, rfl⟩
theorem E83_8 : aCode 83 8 = (Instr.invokestatic 179, 11, [80, 1, 1, 0, 0, 75], 0) ∧ bMask 83 8 = [] := ⟨rfl, rfl⟩
theorem E83_11 : aCode 83 11 = (Instr.ifCond .ne 5, 14, [16], 0) ∧ bMask 83 11 = [] := ⟨rfl, rfl⟩
theorem E83_14 : aCode 83 14 = (Instr.iconst (-1), 15, [], (-1)) ∧ bMask 83 14 = [] := ⟨rfl, rfl⟩
theorem E83_15 : aCode 83 15 = (Instr.ireturn, 16, [0], 0) ∧ bMask 83 15 = [] := ⟨rfl, rfl⟩
theorem E83_16 : aCode 83 16 = (Instr.aload_n 0, 17, [], 0) ∧ bMask 83 16 = [] := ⟨rfl, rfl⟩
theorem E83_17 : aCode 83 17 = (Instr.getfield 73, 20, [58, 6, 13, 2], 0) ∧ bMask 83 17 = [] := ⟨rfl, rfl⟩
theorem E83_20 : aCode 83 20 = (Instr.iload_n 2, 21, [], 0) ∧ bMask 83 20 = [] := ⟨rfl, rfl⟩
theorem E83_21 : aCode 83 21 = (Instr.aaload, 22, [4], 0) ∧ bMask 83 21 = [] := ⟨rfl, rfl⟩
theorem E83_22 : aCode 83 22 = (Instr.invokevirtual 182, 25, [57, 1, 1, 5, 0, 51], 0) ∧ bMask 83 22 = [] := ⟨rfl, rfl⟩
theorem E83_25 : aCode 83 25 = (Instr.ifCond .eq 6, 28, [31], 0) ∧ bMask 83 25 = [] := ⟨rfl, rfl⟩
theorem E83_28 : aCode 83 28 = (Instr.bipush (-11), 30, [], (-11)) ∧ bMask 83 28 = [] := ⟨rfl, rfl⟩
theorem E83_30 : aCode 83 30 = (Instr.ireturn, 31, [0], 0) ∧ bMask 83 30 = [] := ⟨rfl, rfl⟩
theorem E83_31 : aCode 83 31 = (Instr.iconst 0, 32, [], 0) ∧ bMask 83 31 = [] := ⟨rfl, rfl⟩
theorem E83_32 : aCode 83 32 = (Instr.istore_n 3, 33, [], 0) ∧ bMask 83 32 = [] := ⟨rfl, rfl⟩
theorem E83_33 : aCode 83 33 = (Instr.iload_n 3, 34, [], 0) ∧ bMask 83 33 = [] := ⟨rfl, rfl⟩
theorem E83_34 : aCode 83 34 = (Instr.bipush 32, 36, [], 32) ∧ bMask 83 34 = [] := ⟨rfl, rfl⟩
theorem E83_36 : aCode 83 36 = (Instr.if_icmp .ge 34, 39, [70], 0) ∧ bMask 83 36 = [] := ⟨rfl, rfl⟩
theorem E83_39 : aCode 83 39 = (Instr.aload_n 0, 40, [], 0) ∧ bMask 83 39 = [] := ⟨rfl, rfl⟩
theorem E83_40 : aCode 83 40 = (Instr.getfield 18, 43, [42, 6, 1, 2], 0) ∧ bMask 83 40 = [] := ⟨rfl, rfl⟩
theorem E83_43 : aCode 83 43 = (Instr.iload_n 1, 44, [], 0) ∧ bMask 83 43 = [] := ⟨rfl, rfl⟩
theorem E83_44 : aCode 83 44 = (Instr.aaload, 45, [2], 0) ∧ bMask 83 44 = [] := ⟨rfl, rfl⟩
theorem E83_45 : aCode 83 45 = (Instr.iload_n 3, 46, [], 0) ∧ bMask 83 45 = [] := ⟨rfl, rfl⟩
theorem E83_46 : aCode 83 46 = (Instr.aload_n 0, 47, [], 0) ∧ bMask 83 46 = [] := ⟨rfl, rfl⟩
theorem E83_47 : aCode 83 47 = (Instr.getfield 10, 50, [39, 6, 0, 2], 0) ∧ bMask 83 47 = [] := ⟨rfl, rfl⟩
theorem E83_50 : aCode 83 50 = (Instr.aload_n 0, 51, [], 0) ∧ bMask 83 50 = [] := ⟨rfl, rfl⟩
theorem E83_51 : aCode 83 51 = (Instr.getfield 73, 54, [58, 6, 13, 2], 0) ∧ bMask 83 51 = [] := ⟨rfl, rfl⟩
theorem E83_54 : aCode 83 54 = (Instr.iload_n 2, 55, [], 0) ∧ bMask 83 54 = [] := ⟨rfl, rfl⟩
theorem E83_55 : aCode 83 55 = (Instr.aaload, 56, [4], 0) ∧ bMask 83 55 = [] := ⟨rfl, rfl⟩
theorem E83_56 : aCode 83 56 = (Instr.iload_n 3, 57, [], 0) ∧ bMask 83 56 = [] := ⟨rfl, rfl⟩
theorem E83_57 : aCode 83 57 = (Instr.invokevirtual 189, 60, [59, 2, 1, 5, 0, 76], 0) ∧ bMask 83 57 = [] := ⟨rfl, rfl⟩
theorem E83_60 : aCode 83 60 = (Instr.invokevirtual 97, 63, [10, 2, 1, 2, 0, 77], 0) ∧ bMask 83 60 = [] := ⟨rfl, rfl⟩
theorem E83_63 : aCode 83 63 = (Instr.iastore, 64, [0], 0) ∧ bMask 83 63 = [] := ⟨rfl, rfl⟩
theorem E83_64 : aCode 83 64 = (Instr.iinc 3 1, 67, [], 1) ∧ bMask 83 64 = [] := ⟨rfl, rfl⟩
theorem E83_67 : aCode 83 67 = (Instr.goto (-34), 33, [], 0) ∧ bMask 83 67 = [] := ⟨rfl, rfl⟩
theorem E83_70 : aCode 83 70 = (Instr.aload_n 0, 71, [], 0) ∧ bMask 83 70 = [] := ⟨rfl, rfl⟩
theorem E83_71 : aCode 83 71 = (Instr.iconst 1, 72, [], 1) ∧ bMask 83 71 = [] := ⟨rfl, rfl⟩
theorem E83_72 : aCode 83 72 = (Instr.putfield 48, 75, [51, 6, 7, 1], 0) ∧ bMask 83 72 = [] := ⟨rfl, rfl⟩
theorem E83_75 : aCode 83 75 = (Instr.aload_n 0, 76, [], 0) ∧ bMask 83 75 = [] := ⟨rfl, rfl⟩
theorem E83_76 : aCode 83 76 = (Instr.getfield 73, 79, [58, 6, 13, 2], 0) ∧ bMask 83 76 = [] := ⟨rfl, rfl⟩
theorem E83_79 : aCode 83 79 = (Instr.iload_n 2, 80, [], 0) ∧ bMask 83 79 = [] := ⟨rfl, rfl⟩
theorem E83_80 : aCode 83 80 = (Instr.aaload, 81, [4], 0) ∧ bMask 83 80 = [] := ⟨rfl, rfl⟩
theorem E83_81 : aCode 83 81 = (Instr.getfield 283, 84, [63, 5, 2, 0], 0) ∧ bMask 83 81 = [] := ⟨rfl, rfl⟩
theorem E83_84 : aCode 83 84 = (Instr.bipush 32, 86, [], 32) ∧ bMask 83 84 = [] := ⟨rfl, rfl⟩
theorem E83_86 : aCode 83 86 = (Instr.invokestatic 284, 89, [6, 2, 1, 0, 0, 78], 0) ∧ bMask 83 86 = [] := ⟨rfl, rfl⟩
theorem E83_89 : aCode 83 89 = (Instr.ireturn, 90, [0], 0) ∧ bMask 83 89 = [] := ⟨rfl, rfl⟩
theorem g_X6_loads_0 {Q : bQ} {M : bM} {x1 : Int32} {x2 : Int32} (h : bCall 61 [cI x1] M (fun v1 M2 => bV1 v1 fun r3 => (((r3 = 0) → (Q (some (cI (-1 : Int32))) M2)) ∧ (¬ (r3 = 0) → (bCall 80 [cI x2] M2 (fun v4 M5 => bV1 v4 fun r6 => (((¬ r6 = 0) → ((vp_in x2 3) ∧ (bCall 57 [cR 6 x2.toNatClampNeg] M5 (fun v7 M8 => bV1 v7 fun r9 => (((r9 = 0) → bGo 83 Q 33 [some (cR 0 0), some (cI x1), some (cI x2), some (cI (0 : Int32))] [] M8) ∧ (¬ (r9 = 0) → (Q (some (cI (-11 : Int32))) M8))))))) ∧ (¬ (¬ r6 = 0) → (Q (some (cI (-1 : Int32))) M5))))))))) : bCall 83 [cR 0 0, cI x1, cI x2] M Q := s_iload_n E83_0.1 (k_ E83_0) rfl (s_scall1 E83_1.1 (k_ E83_1) rfl rfl rfl h (fun M2 r3 z0 => s_if_eq E83_4.1 (k_ E83_4) ⟨fun c1 => s_iconst E83_14.1 (k_ E83_14) (s_iret E83_15.1 (k_ E83_15) (z0.1 c1)), fun c1 => s_iload_n E83_7.1 (k_ E83_7) rfl (s_scall1 E83_8.1 (k_ E83_8) rfl rfl rfl (z0.2 c1) (fun M5 r6 z2 => s_if_ne E83_11.1 (k_ E83_11) ⟨fun c3 => s_aload_n E83_16.1 (k_ E83_16) rfl (s_getR E83_17.1 (k_ E83_17) rfl rfl (s_iload_n E83_20.1 (k_ E83_20) rfl (s_aaload E83_21.1 (k_ E83_21) rfl ⟨(z2.1 c3).1, s_vcall1 E83_22.1 (k_ E83_22) rfl rfl rfl ((z2.1 c3).2) (fun M8 r9 z4 => s_if_eq E83_25.1 (k_ E83_25) ⟨fun c5 => s_iconst E83_31.1 (k_ E83_31) (s_istore_n E83_32.1 (k_ E83_32) (z4.1 c5)), fun c5 => s_bipush E83_28.1 (k_ E83_28) (s_iret E83_30.1 (k_ E83_30) (z4.2 c5))⟩)⟩))), fun c3 => s_iconst E83_14.1 (k_ E83_14) (s_iret E83_15.1 (k_ E83_15) (z2.2 c3))⟩))⟩))
theorem g_X6_loads_33 {Q : bQ} {M : bM} {x1 : Int32} {x2 : Int32} {x3 : Int32} (h : (((32 : Int32) ≤ x3) → (((1 : Int32) = 0 ∨ (1 : Int32) = 1) ∧ ((vp_in x2 3) ∧ (bCall 6 [cI ((bU M 0 0 7 (1 : Int32)) 6 x2.toNatClampNeg 2), cI (32 : Int32)] (bU M 0 0 7 (1 : Int32)) (fun v1 M2 => bV1 v1 fun r3 => (Q (some (cI r3)) M2)))))) ∧ (¬ ((32 : Int32) ≤ x3) → ((vp_in x1 6) ∧ ((vp_in x2 3) ∧ (bCall 59 [cR 6 x2.toNatClampNeg, cI x3] M (fun v4 M5 => bV1 v4 fun r6 => (bCall 10 [cR 1 0, cI r6] M5 (fun v7 M8 => bV1 v7 fun r9 => ((vp_in x3 32) ∧ bGo 83 Q 33 [some (cR 0 0), some (cI x1), some (cI x2), some (cI (x3 + (1 : Int32)))] [] (bU M8 7 x1.toNatClampNeg x3.toNatClampNeg r9)))))))))) : bGo 83 Q 33 [some (cR 0 0), some (cI x1), some (cI x2), some (cI x3)] [] M := s_iload_n E83_33.1 (k_ E83_33) rfl (s_bipush E83_34.1 (k_ E83_34) (s_icmp_ge E83_36.1 (k_ E83_36) ⟨fun c6 => s_aload_n E83_70.1 (k_ E83_70) rfl (s_iconst E83_71.1 (k_ E83_71) (s_putZ E83_72.1 (k_ E83_72) rfl ⟨(h.1 c6).1, s_aload_n E83_75.1 (k_ E83_75) rfl (s_getR E83_76.1 (k_ E83_76) rfl rfl (s_iload_n E83_79.1 (k_ E83_79) rfl (s_aaload E83_80.1 (k_ E83_80) rfl ⟨((h.1 c6).2).1, s_getI0 E83_81.1 (k_ E83_81) rfl (s_bipush E83_84.1 (k_ E83_84) (s_scall1 E83_86.1 (k_ E83_86) rfl rfl rfl (((h.1 c6).2).2) (fun M2 r3 z7 => s_iret E83_89.1 (k_ E83_89) z7)))⟩)))⟩)), fun c6 => s_aload_n E83_39.1 (k_ E83_39) rfl (s_getR E83_40.1 (k_ E83_40) rfl rfl (s_iload_n E83_43.1 (k_ E83_43) rfl (s_aaload E83_44.1 (k_ E83_44) rfl ⟨(h.2 c6).1, s_iload_n E83_45.1 (k_ E83_45) rfl (s_aload_n E83_46.1 (k_ E83_46) rfl (s_getR E83_47.1 (k_ E83_47) rfl rfl (s_aload_n E83_50.1 (k_ E83_50) rfl (s_getR E83_51.1 (k_ E83_51) rfl rfl (s_iload_n E83_54.1 (k_ E83_54) rfl (s_aaload E83_55.1 (k_ E83_55) rfl ⟨((h.2 c6).2).1, s_iload_n E83_56.1 (k_ E83_56) rfl (s_vcall1 E83_57.1 (k_ E83_57) rfl rfl rfl (((h.2 c6).2).2) (fun M5 r6 z8 => s_vcall1 E83_60.1 (k_ E83_60) rfl rfl rfl z8 (fun M8 r9 z9 => s_iastore E83_63.1 (k_ E83_63) rfl ⟨z9.1, s_iinc E83_64.1 (k_ E83_64) rfl (s_goto E83_67.1 (k_ E83_67) (z9.2))⟩)))⟩))))))⟩)))⟩))
-- 84: X6_mix
theorem E84_0 : aCode 84 0 = (Instr.iload_n 1, 1, [], 0) ∧ bMask 84 0 = [] := ⟨rfl, rfl⟩
theorem E84_1 : aCode 84 1 = (Instr.invokestatic 91, 4, [61, 1, 1, 0, 0, 43], 0) ∧ bMask 84 1 = [] := ⟨rfl, rfl⟩
theorem E84_4 : aCode 84 4 = (Instr.ifCond .eq 18, 7, [22], 0) ∧ bMask 84 4 = [] := ⟨rfl, rfl⟩
theorem E84_7 : aCode 84 7 = (Instr.iload_n 3, 8, [], 0) ∧ bMask 84 7 = [] := ⟨rfl, rfl⟩
theorem E84_8 : aCode 84 8 = (Instr.invokestatic 91, 11, [61, 1, 1, 0, 0, 43], 0) ∧ bMask 84 8 = [] := ⟨rfl, rfl⟩
theorem E84_11 : aCode 84 11 = (Instr.ifCond .eq 11, 14, [22], 0) ∧ bMask 84 11 = [] := ⟨rfl, rfl⟩
theorem E84_14 : aCode 84 14 = (Instr.iload 5, 16, [], 0) ∧ bMask 84 14 = [] := ⟨rfl, rfl⟩
theorem E84_16 : aCode 84 16 = (Instr.invokestatic 91, 19, [61, 1, 1, 0, 0, 43], 0) ∧ bMask 84 16 = [] := ⟨rfl, rfl⟩
theorem E84_19 : aCode 84 19 = (Instr.ifCond .ne 5, 22, [24], 0) ∧ bMask 84 19 = [] := ⟨rfl, rfl⟩
theorem E84_22 : aCode 84 22 = (Instr.iconst (-1), 23, [], (-1)) ∧ bMask 84 22 = [] := ⟨rfl, rfl⟩
theorem E84_23 : aCode 84 23 = (Instr.ireturn, 24, [0], 0) ∧ bMask 84 23 = [] := ⟨rfl, rfl⟩
theorem E84_24 : aCode 84 24 = (Instr.aload_n 0, 25, [], 0) ∧ bMask 84 24 = [] := ⟨rfl, rfl⟩
theorem E84_25 : aCode 84 25 = (Instr.getfield 10, 28, [39, 6, 0, 2], 0) ∧ bMask 84 25 = [] := ⟨rfl, rfl⟩
theorem E84_28 : aCode 84 28 = (Instr.aload_n 0, 29, [], 0) ∧ bMask 84 28 = [] := ⟨rfl, rfl⟩
theorem E84_29 : aCode 84 29 = (Instr.getfield 18, 32, [42, 6, 1, 2], 0) ∧ bMask 84 29 = [] := ⟨rfl, rfl⟩
theorem E84_32 : aCode 84 32 = (Instr.iload_n 1, 33, [], 0) ∧ bMask 84 32 = [] := ⟨rfl, rfl⟩
theorem E84_33 : aCode 84 33 = (Instr.aaload, 34, [2], 0) ∧ bMask 84 33 = [] := ⟨rfl, rfl⟩
theorem E84_34 : aCode 84 34 = (Instr.iload_n 2, 35, [], 0) ∧ bMask 84 34 = [] := ⟨rfl, rfl⟩
theorem E84_35 : aCode 84 35 = (Instr.aload_n 0, 36, [], 0) ∧ bMask 84 35 = [] := ⟨rfl, rfl⟩
theorem E84_36 : aCode 84 36 = (Instr.getfield 18, 39, [42, 6, 1, 2], 0) ∧ bMask 84 36 = [] := ⟨rfl, rfl⟩
theorem E84_39 : aCode 84 39 = (Instr.iload_n 3, 40, [], 0) ∧ bMask 84 39 = [] := ⟨rfl, rfl⟩
theorem E84_40 : aCode 84 40 = (Instr.aaload, 41, [2], 0) ∧ bMask 84 40 = [] := ⟨rfl, rfl⟩
theorem E84_41 : aCode 84 41 = (Instr.iload 4, 43, [], 0) ∧ bMask 84 41 = [] := ⟨rfl, rfl⟩
theorem E84_43 : aCode 84 43 = (Instr.aload_n 0, 44, [], 0) ∧ bMask 84 43 = [] := ⟨rfl, rfl⟩
theorem E84_44 : aCode 84 44 = (Instr.getfield 18, 47, [42, 6, 1, 2], 0) ∧ bMask 84 44 = [] := ⟨rfl, rfl⟩
theorem E84_47 : aCode 84 47 = (Instr.iload 5, 49, [], 0) ∧ bMask 84 47 = [] := ⟨rfl, rfl⟩
theorem E84_49 : aCode 84 49 = (Instr.aaload, 50, [2], 0) ∧ bMask 84 49 = [] := ⟨rfl, rfl⟩
theorem E84_50 : aCode 84 50 = (Instr.invokevirtual 101, 53, [28, 6, 0, 2, 0, 42], 0) ∧ bMask 84 50 = [] := ⟨rfl, rfl⟩
theorem E84_53 : aCode 84 53 = (Instr.aload_n 0, 54, [], 0) ∧ bMask 84 53 = [] := ⟨rfl, rfl⟩
theorem E84_54 : aCode 84 54 = (Instr.iconst 1, 55, [], 1) ∧ bMask 84 54 = [] := ⟨rfl, rfl⟩
theorem E84_55 : aCode 84 55 = (Instr.putfield 48, 58, [51, 6, 7, 1], 0) ∧ bMask 84 55 = [] := ⟨rfl, rfl⟩
theorem E84_58 : aCode 84 58 = (Instr.iconst 1, 59, [], 1) ∧ bMask 84 58 = [] := ⟨rfl, rfl⟩
theorem E84_59 : aCode 84 59 = (Instr.ireturn, 60, [0], 0) ∧ bMask 84 59 = [] := ⟨rfl, rfl⟩
theorem g_X6_mix_0 {Q : bQ} {M : bM} {x1 : Int32} {x2 : Int32} {x3 : Int32} {x4 : Int32} {x5 : Int32} (h : bCall 61 [cI x1] M (fun v1 M2 => bV1 v1 fun r3 => (((r3 = 0) → (Q (some (cI (-1 : Int32))) M2)) ∧ (¬ (r3 = 0) → (bCall 61 [cI x3] M2 (fun v4 M5 => bV1 v4 fun r6 => (((r6 = 0) → (Q (some (cI (-1 : Int32))) M5)) ∧ (¬ (r6 = 0) → (bCall 61 [cI x5] M5 (fun v7 M8 => bV1 v7 fun r9 => (((¬ r9 = 0) → ((vp_in x1 6) ∧ ((vp_in x3 6) ∧ ((vp_in x5 6) ∧ (bCall 28 [cR 1 0, cR 7 x1.toNatClampNeg, cI x2, cR 7 x3.toNatClampNeg, cI x4, cR 7 x5.toNatClampNeg] M8 (fun v10 M11 => bV0 v10 (((1 : Int32) = 0 ∨ (1 : Int32) = 1) ∧ (Q (some (cI (1 : Int32))) (bU M11 0 0 7 (1 : Int32)))))))))) ∧ (¬ (¬ r9 = 0) → (Q (some (cI (-1 : Int32))) M8))))))))))))) : bCall 84 [cR 0 0, cI x1, cI x2, cI x3, cI x4, cI x5] M Q := s_iload_n E84_0.1 (k_ E84_0) rfl (s_scall1 E84_1.1 (k_ E84_1) rfl rfl rfl h (fun M2 r3 z0 => s_if_eq E84_4.1 (k_ E84_4) ⟨fun c1 => s_iconst E84_22.1 (k_ E84_22) (s_iret E84_23.1 (k_ E84_23) (z0.1 c1)), fun c1 => s_iload_n E84_7.1 (k_ E84_7) rfl (s_scall1 E84_8.1 (k_ E84_8) rfl rfl rfl (z0.2 c1) (fun M5 r6 z2 => s_if_eq E84_11.1 (k_ E84_11) ⟨fun c3 => s_iconst E84_22.1 (k_ E84_22) (s_iret E84_23.1 (k_ E84_23) (z2.1 c3)), fun c3 => s_iload E84_14.1 (k_ E84_14) rfl (s_scall1 E84_16.1 (k_ E84_16) rfl rfl rfl (z2.2 c3) (fun M8 r9 z4 => s_if_ne E84_19.1 (k_ E84_19) ⟨fun c5 => s_aload_n E84_24.1 (k_ E84_24) rfl (s_getR E84_25.1 (k_ E84_25) rfl rfl (s_aload_n E84_28.1 (k_ E84_28) rfl (s_getR E84_29.1 (k_ E84_29) rfl rfl (s_iload_n E84_32.1 (k_ E84_32) rfl (s_aaload E84_33.1 (k_ E84_33) rfl ⟨(z4.1 c5).1, s_iload_n E84_34.1 (k_ E84_34) rfl (s_aload_n E84_35.1 (k_ E84_35) rfl (s_getR E84_36.1 (k_ E84_36) rfl rfl (s_iload_n E84_39.1 (k_ E84_39) rfl (s_aaload E84_40.1 (k_ E84_40) rfl ⟨((z4.1 c5).2).1, s_iload E84_41.1 (k_ E84_41) rfl (s_aload_n E84_43.1 (k_ E84_43) rfl (s_getR E84_44.1 (k_ E84_44) rfl rfl (s_iload E84_47.1 (k_ E84_47) rfl (s_aaload E84_49.1 (k_ E84_49) rfl ⟨(((z4.1 c5).2).2).1, s_vcall0 E84_50.1 (k_ E84_50) rfl rfl rfl ((((z4.1 c5).2).2).2) (fun M11 z6 => s_aload_n E84_53.1 (k_ E84_53) rfl (s_iconst E84_54.1 (k_ E84_54) (s_putZ E84_55.1 (k_ E84_55) rfl ⟨z6.1, s_iconst E84_58.1 (k_ E84_58) (s_iret E84_59.1 (k_ E84_59) z6.2)⟩)))⟩))))⟩))))⟩))))), fun c5 => s_iconst E84_22.1 (k_ E84_22) (s_iret E84_23.1 (k_ E84_23) (z4.2 c5))⟩))⟩))⟩))
-- 85: X6_move
theorem E85_0 : aCode 85 0 = (Instr.iload_n 1, 1, [], 0) ∧ bMask 85 0 = [] := ⟨rfl, rfl⟩
theorem E85_1 : aCode 85 1 = (Instr.invokestatic 179, 4, [80, 1, 1, 0, 0, 75], 0) ∧ bMask 85 1 = [] := ⟨rfl, rfl⟩
theorem E85_4 : aCode 85 4 = (Instr.ifCond .eq 10, 7, [14], 0) ∧ bMask 85 4 = [] := ⟨rfl, rfl⟩
theorem E85_7 : aCode 85 7 = (Instr.iload_n 3, 8, [], 0) ∧ bMask 85 7 = [] := ⟨rfl, rfl⟩
theorem E85_8 : aCode 85 8 = (Instr.invokestatic 179, 11, [80, 1, 1, 0, 0, 75], 0) ∧ bMask 85 8 = [] := ⟨rfl, rfl⟩
theorem E85_11 : aCode 85 11 = (Instr.ifCond .ne 5, 14, [16], 0) ∧ bMask 85 11 = [] := ⟨rfl, rfl⟩
theorem E85_14 : aCode 85 14 = (Instr.iconst (-1), 15, [], (-1)) ∧ bMask 85 14 = [] := ⟨rfl, rfl⟩
theorem E85_15 : aCode 85 15 = (Instr.ireturn, 16, [0], 0) ∧ bMask 85 15 = [] := ⟨rfl, rfl⟩
theorem E85_16 : aCode 85 16 = (Instr.aload_n 0, 17, [], 0) ∧ bMask 85 16 = [] := ⟨rfl, rfl⟩
theorem E85_17 : aCode 85 17 = (Instr.getfield 73, 20, [58, 6, 13, 2], 0) ∧ bMask 85 17 = [] := ⟨rfl, rfl⟩
theorem E85_20 : aCode 85 20 = (Instr.iload_n 1, 21, [], 0) ∧ bMask 85 20 = [] := ⟨rfl, rfl⟩
theorem E85_21 : aCode 85 21 = (Instr.aaload, 22, [4], 0) ∧ bMask 85 21 = [] := ⟨rfl, rfl⟩
theorem E85_22 : aCode 85 22 = (Instr.astore 6, 24, [], 0) ∧ bMask 85 22 = [] := ⟨rfl, rfl⟩
theorem E85_24 : aCode 85 24 = (Instr.aload_n 0, 25, [], 0) ∧ bMask 85 24 = [] := ⟨rfl, rfl⟩
theorem E85_25 : aCode 85 25 = (Instr.getfield 73, 28, [58, 6, 13, 2], 0) ∧ bMask 85 25 = [] := ⟨rfl, rfl⟩
theorem E85_28 : aCode 85 28 = (Instr.iload_n 3, 29, [], 0) ∧ bMask 85 28 = [] := ⟨rfl, rfl⟩
theorem E85_29 : aCode 85 29 = (Instr.aaload, 30, [4], 0) ∧ bMask 85 29 = [] := ⟨rfl, rfl⟩
theorem E85_30 : aCode 85 30 = (Instr.astore 7, 32, [], 0) ∧ bMask 85 30 = [] := ⟨rfl, rfl⟩
theorem E85_32 : aCode 85 32 = (Instr.aload 6, 34, [], 0) ∧ bMask 85 32 = [] := ⟨rfl, rfl⟩
theorem E85_34 : aCode 85 34 = (Instr.invokevirtual 182, 37, [57, 1, 1, 5, 0, 51], 0) ∧ bMask 85 34 = [] := ⟨rfl, rfl⟩
theorem E85_37 : aCode 85 37 = (Instr.ifCond .ne 11, 40, [48], 0) ∧ bMask 85 37 = [] := ⟨rfl, rfl⟩
theorem E85_40 : aCode 85 40 = (Instr.aload 7, 42, [], 0) ∧ bMask 85 40 = [] := ⟨rfl, rfl⟩
theorem E85_42 : aCode 85 42 = (Instr.invokevirtual 182, 45, [57, 1, 1, 5, 0, 51], 0) ∧ bMask 85 42 = [] := ⟨rfl, rfl⟩
theorem E85_45 : aCode 85 45 = (Instr.ifCond .eq 6, 48, [51], 0) ∧ bMask 85 45 = [] := ⟨rfl, rfl⟩
theorem E85_48 : aCode 85 48 = (Instr.bipush (-11), 50, [], (-11)) ∧ bMask 85 48 = [] := ⟨rfl, rfl⟩
theorem E85_50 : aCode 85 50 = (Instr.ireturn, 51, [0], 0) ∧ bMask 85 50 = [] := ⟨rfl, rfl⟩
theorem E85_51 : aCode 85 51 = (Instr.aload 6, 53, [], 0) ∧ bMask 85 51 = [] := ⟨rfl, rfl⟩
theorem E85_53 : aCode 85 53 = (Instr.getfield 278, 56, [64, 5, 1, 0], 0) ∧ bMask 85 53 = [] := ⟨rfl, rfl⟩
theorem E85_56 : aCode 85 56 = (Instr.aload 7, 58, [], 0) ∧ bMask 85 56 = [] := ⟨rfl, rfl⟩
theorem E85_58 : aCode 85 58 = (Instr.getfield 278, 61, [64, 5, 1, 0], 0) ∧ bMask 85 58 = [] := ⟨rfl, rfl⟩
theorem E85_61 : aCode 85 61 = (Instr.if_icmp .eq 6, 64, [67], 0) ∧ bMask 85 61 = [] := ⟨rfl, rfl⟩
theorem E85_64 : aCode 85 64 = (Instr.bipush (-13), 66, [], (-13)) ∧ bMask 85 64 = [] := ⟨rfl, rfl⟩
theorem E85_66 : aCode 85 66 = (Instr.ireturn, 67, [0], 0) ∧ bMask 85 66 = [] := ⟨rfl, rfl⟩
theorem E85_67 : aCode 85 67 = (Instr.aload 6, 69, [], 0) ∧ bMask 85 67 = [] := ⟨rfl, rfl⟩
theorem E85_69 : aCode 85 69 = (Instr.iload_n 2, 70, [], 0) ∧ bMask 85 69 = [] := ⟨rfl, rfl⟩
theorem E85_70 : aCode 85 70 = (Instr.iload 5, 72, [], 0) ∧ bMask 85 70 = [] := ⟨rfl, rfl⟩
theorem E85_72 : aCode 85 72 = (Instr.invokevirtual 255, 75, [55, 3, 1, 5, 0, 79], 0) ∧ bMask 85 72 = [] := ⟨rfl, rfl⟩
theorem E85_75 : aCode 85 75 = (Instr.ifCond .eq 15, 78, [90], 0) ∧ bMask 85 75 = [] := ⟨rfl, rfl⟩
theorem E85_78 : aCode 85 78 = (Instr.aload 7, 80, [], 0) ∧ bMask 85 78 = [] := ⟨rfl, rfl⟩
theorem E85_80 : aCode 85 80 = (Instr.iload 4, 82, [], 0) ∧ bMask 85 80 = [] := ⟨rfl, rfl⟩
theorem E85_82 : aCode 85 82 = (Instr.iload 5, 84, [], 0) ∧ bMask 85 82 = [] := ⟨rfl, rfl⟩
theorem E85_84 : aCode 85 84 = (Instr.invokevirtual 255, 87, [55, 3, 1, 5, 0, 79], 0) ∧ bMask 85 84 = [] := ⟨rfl, rfl⟩
theorem E85_87 : aCode 85 87 = (Instr.ifCond .ne 6, 90, [93], 0) ∧ bMask 85 87 = [] := ⟨rfl, rfl⟩
theorem E85_90 : aCode 85 90 = (Instr.bipush (-12), 92, [], (-12)) ∧ bMask 85 90 = [] := ⟨rfl, rfl⟩
theorem E85_92 : aCode 85 92 = (Instr.ireturn, 93, [0], 0) ∧ bMask 85 92 = [] := ⟨rfl, rfl⟩
theorem E85_93 : aCode 85 93 = (Instr.aload 6, 95, [], 0) ∧ bMask 85 93 = [] := ⟨rfl, rfl⟩
theorem E85_95 : aCode 85 95 = (Instr.getfield 281, 98, [65, 5, 0, 2], 0) ∧ bMask 85 95 = [] := ⟨rfl, rfl⟩
theorem E85_98 : aCode 85 98 = (Instr.iload_n 2, 99, [], 0) ∧ bMask 85 98 = [] := ⟨rfl, rfl⟩
theorem E85_99 : aCode 85 99 = (Instr.aload 7, 101, [], 0) ∧ bMask 85 99 = [] := ⟨rfl, rfl⟩
theorem E85_101 : aCode 85 101 = (Instr.getfield 281, 104, [65, 5, 0, 2], 0) ∧ bMask 85 101 = [] := ⟨rfl, rfl⟩
theorem E85_104 : aCode 85 104 = (Instr.iload 4, 106, [], 0) ∧ bMask 85 104 = [] := ⟨rfl, rfl⟩
theorem E85_106 : aCode 85 106 = (Instr.iload 5, 108, [], 0) ∧ bMask 85 106 = [] := ⟨rfl, rfl⟩
theorem E85_108 : aCode 85 108 = (Instr.invokestatic 120, 111, [1000, 120], 0) ∧ bMask 85 108 = [] := ⟨rfl, rfl⟩
theorem E85_111 : aCode 85 111 = (Instr.iload 5, 113, [], 0) ∧ bMask 85 111 = [] := ⟨rfl, rfl⟩
theorem E85_113 : aCode 85 113 = (Instr.ireturn, 114, [0], 0) ∧ bMask 85 113 = [] := ⟨rfl, rfl⟩
theorem g_X6_move_0 {Q : bQ} {M : bM} {x1 : Int32} {x2 : Int32} {x3 : Int32} {x4 : Int32} {x5 : Int32} (h : bCall 80 [cI x1] M (fun v1 M2 => bV1 v1 fun r3 => (((r3 = 0) → (Q (some (cI (-1 : Int32))) M2)) ∧ (¬ (r3 = 0) → (bCall 80 [cI x3] M2 (fun v4 M5 => bV1 v4 fun r6 => (((¬ r6 = 0) → ((vp_in x1 3) ∧ ((vp_in x3 3) ∧ (bCall 57 [cR 6 x1.toNatClampNeg] M5 (fun v7 M8 => bV1 v7 fun r9 => (((¬ r9 = 0) → (Q (some (cI (-11 : Int32))) M8)) ∧ (¬ (¬ r9 = 0) → (bCall 57 [cR 6 x3.toNatClampNeg] M8 (fun v10 M11 => bV1 v10 fun r12 => (((r12 = 0) → ((((M11 6 x1.toNatClampNeg 1) = (M11 6 x3.toNatClampNeg 1)) → (bCall 55 [cR 6 x1.toNatClampNeg, cI x2, cI x5] M11 (fun v13 M14 => bV1 v13 fun r15 => (((r15 = 0) → (Q (some (cI (-12 : Int32))) M14)) ∧ (¬ (r15 = 0) → (bCall 55 [cR 6 x3.toNatClampNeg, cI x4, cI x5] M14 (fun v16 M17 => bV1 v16 fun r18 => (((¬ r18 = 0) → ((¬ x2 < 0 ∧ ¬ x4 < 0 ∧ ¬ x5 < 0 ∧ x2.toNatClampNeg + x5.toNatClampNeg ≤ 40 ∧ x4.toNatClampNeg + x5.toNatClampNeg ≤ 40) ∧ (Q (some (cI x5)) (bCp M17 12 x1.toNatClampNeg 12 x3.toNatClampNeg x2 x4 x5)))) ∧ (¬ (¬ r18 = 0) → (Q (some (cI (-12 : Int32))) M17)))))))))) ∧ (¬ ((M11 6 x1.toNatClampNeg 1) = (M11 6 x3.toNatClampNeg 1)) → (Q (some (cI (-13 : Int32))) M11)))) ∧ (¬ (r12 = 0) → (Q (some (cI (-11 : Int32))) M11)))))))))))) ∧ (¬ (¬ r6 = 0) → (Q (some (cI (-1 : Int32))) M5))))))))) : bCall 85 [cR 0 0, cI x1, cI x2, cI x3, cI x4, cI x5] M Q := s_iload_n E85_0.1 (k_ E85_0) rfl (s_scall1 E85_1.1 (k_ E85_1) rfl rfl rfl h (fun M2 r3 z0 => s_if_eq E85_4.1 (k_ E85_4) ⟨fun c1 => s_iconst E85_14.1 (k_ E85_14) (s_iret E85_15.1 (k_ E85_15) (z0.1 c1)), fun c1 => s_iload_n E85_7.1 (k_ E85_7) rfl (s_scall1 E85_8.1 (k_ E85_8) rfl rfl rfl (z0.2 c1) (fun M5 r6 z2 => s_if_ne E85_11.1 (k_ E85_11) ⟨fun c3 => s_aload_n E85_16.1 (k_ E85_16) rfl (s_getR E85_17.1 (k_ E85_17) rfl rfl (s_iload_n E85_20.1 (k_ E85_20) rfl (s_aaload E85_21.1 (k_ E85_21) rfl ⟨(z2.1 c3).1, s_astore E85_22.1 (k_ E85_22) (s_aload_n E85_24.1 (k_ E85_24) rfl (s_getR E85_25.1 (k_ E85_25) rfl rfl (s_iload_n E85_28.1 (k_ E85_28) rfl (s_aaload E85_29.1 (k_ E85_29) rfl ⟨((z2.1 c3).2).1, s_astore E85_30.1 (k_ E85_30) (s_aload E85_32.1 (k_ E85_32) rfl (s_vcall1 E85_34.1 (k_ E85_34) rfl rfl rfl (((z2.1 c3).2).2) (fun M8 r9 z4 => s_if_ne E85_37.1 (k_ E85_37) ⟨fun c5 => s_bipush E85_48.1 (k_ E85_48) (s_iret E85_50.1 (k_ E85_50) (z4.1 c5)), fun c5 => s_aload E85_40.1 (k_ E85_40) rfl (s_vcall1 E85_42.1 (k_ E85_42) rfl rfl rfl (z4.2 c5) (fun M11 r12 z6 => s_if_eq E85_45.1 (k_ E85_45) ⟨fun c7 => s_aload E85_51.1 (k_ E85_51) rfl (s_getI0 E85_53.1 (k_ E85_53) rfl (s_aload E85_56.1 (k_ E85_56) rfl (s_getI0 E85_58.1 (k_ E85_58) rfl (s_icmp_eq E85_61.1 (k_ E85_61) ⟨fun c8 => s_aload E85_67.1 (k_ E85_67) rfl (s_iload_n E85_69.1 (k_ E85_69) rfl (s_iload E85_70.1 (k_ E85_70) rfl (s_vcall1 E85_72.1 (k_ E85_72) rfl rfl rfl ((z6.1 c7).1 c8) (fun M14 r15 z9 => s_if_eq E85_75.1 (k_ E85_75) ⟨fun c10 => s_bipush E85_90.1 (k_ E85_90) (s_iret E85_92.1 (k_ E85_92) (z9.1 c10)), fun c10 => s_aload E85_78.1 (k_ E85_78) rfl (s_iload E85_80.1 (k_ E85_80) rfl (s_iload E85_82.1 (k_ E85_82) rfl (s_vcall1 E85_84.1 (k_ E85_84) rfl rfl rfl (z9.2 c10) (fun M17 r18 z11 => s_if_ne E85_87.1 (k_ E85_87) ⟨fun c12 => s_aload E85_93.1 (k_ E85_93) rfl (s_getR E85_95.1 (k_ E85_95) rfl rfl (s_iload_n E85_98.1 (k_ E85_98) rfl (s_aload E85_99.1 (k_ E85_99) rfl (s_getR E85_101.1 (k_ E85_101) rfl rfl (s_iload E85_104.1 (k_ E85_104) rfl (s_iload E85_106.1 (k_ E85_106) rfl (s_acopy E85_108.1 (k_ E85_108) rfl ⟨(z11.1 c12).1, s_iload E85_111.1 (k_ E85_111) rfl (s_iret E85_113.1 (k_ E85_113) ((z11.1 c12).2))⟩))))))), fun c12 => s_bipush E85_90.1 (k_ E85_90) (s_iret E85_92.1 (k_ E85_92) (z11.2 c12))⟩))))⟩)))), fun c8 => s_bipush E85_64.1 (k_ E85_64) (s_iret E85_66.1 (k_ E85_66) ((z6.1 c7).2 c8))⟩)))), fun c7 => s_bipush E85_48.1 (k_ E85_48) (s_iret E85_50.1 (k_ E85_50) (z6.2 c7))⟩))⟩)))⟩))))⟩))), fun c3 => s_iconst E85_14.1 (k_ E85_14) (s_iret E85_15.1 (k_ E85_15) (z2.2 c3))⟩))⟩))
-- 86: X6_order
theorem E86_0 : aCode 86 0 = (Instr.iload_n 1, 1, [], 0) ∧ bMask 86 0 = [] := ⟨rfl, rfl⟩
theorem E86_1 : aCode 86 1 = (Instr.iconst 1, 2, [], 1) ∧ bMask 86 1 = [] := ⟨rfl, rfl⟩
theorem E86_2 : aCode 86 2 = (Instr.if_icmp .lt 9, 5, [11], 0) ∧ bMask 86 2 = [] := ⟨rfl, rfl⟩
theorem E86_5 : aCode 86 5 = (Instr.iload_n 1, 6, [], 0) ∧ bMask 86 5 = [] := ⟨rfl, rfl⟩
theorem E86_6 : aCode 86 6 = (Instr.bipush 32, 8, [], 32) ∧ bMask 86 6 = [] := ⟨rfl, rfl⟩
theorem E86_8 : aCode 86 8 = (Instr.if_icmp .le 5, 11, [13], 0) ∧ bMask 86 8 = [] := ⟨rfl, rfl⟩
theorem E86_11 : aCode 86 11 = (Instr.iconst (-1), 12, [], (-1)) ∧ bMask 86 11 = [] := ⟨rfl, rfl⟩
theorem E86_12 : aCode 86 12 = (Instr.ireturn, 13, [0], 0) ∧ bMask 86 12 = [] := ⟨rfl, rfl⟩
theorem E86_13 : aCode 86 13 = (Instr.aload_n 0, 14, [], 0) ∧ bMask 86 13 = [] := ⟨rfl, rfl⟩
theorem E86_14 : aCode 86 14 = (Instr.getfield 34, 17, [56, 6, 4, 0], 0) ∧ bMask 86 14 = [] := ⟨rfl, rfl⟩
theorem E86_17 : aCode 86 17 = (Instr.istore_n 2, 18, [], 0) ∧ bMask 86 17 = [] := ⟨rfl, rfl⟩
theorem E86_18 : aCode 86 18 = (Instr.aload_n 0, 19, [], 0) ∧ bMask 86 18 = [] := ⟨rfl, rfl⟩
theorem E86_19 : aCode 86 19 = (Instr.iload_n 1, 20, [], 0) ∧ bMask 86 19 = [] := ⟨rfl, rfl⟩
theorem E86_20 : aCode 86 20 = (Instr.putfield 34, 23, [56, 6, 4, 0], 0) ∧ bMask 86 20 = [] := ⟨rfl, rfl⟩
theorem E86_23 : aCode 86 23 = (Instr.aload_n 0, 24, [], 0) ∧ bMask 86 23 = [] := ⟨rfl, rfl⟩
theorem E86_24 : aCode 86 24 = (Instr.iconst 1, 25, [], 1) ∧ bMask 86 24 = [] := ⟨rfl, rfl⟩
theorem E86_25 : aCode 86 25 = (Instr.putfield 48, 28, [51, 6, 7, 1], 0) ∧ bMask 86 25 = [] := ⟨rfl, rfl⟩
theorem E86_28 : aCode 86 28 = (Instr.iload_n 2, 29, [], 0) ∧ bMask 86 28 = [] := ⟨rfl, rfl⟩
theorem E86_29 : aCode 86 29 = (Instr.ireturn, 30, [0], 0) ∧ bMask 86 29 = [] := ⟨rfl, rfl⟩
theorem g_X6_order_0 {Q : bQ} {M : bM} {x1 : Int32} (h : ((x1 < (1 : Int32)) → (Q (some (cI (-1 : Int32))) M)) ∧ (¬ (x1 < (1 : Int32)) → (((x1 ≤ (32 : Int32)) → (((1 : Int32) = 0 ∨ (1 : Int32) = 1) ∧ (Q (some (cI (M 0 0 4))) (bU (bU M 0 0 4 x1) 0 0 7 (1 : Int32))))) ∧ (¬ (x1 ≤ (32 : Int32)) → (Q (some (cI (-1 : Int32))) M))))) : bCall 86 [cR 0 0, cI x1] M Q := s_iload_n E86_0.1 (k_ E86_0) rfl (s_iconst E86_1.1 (k_ E86_1) (s_icmp_lt E86_2.1 (k_ E86_2) ⟨fun c0 => s_iconst E86_11.1 (k_ E86_11) (s_iret E86_12.1 (k_ E86_12) (h.1 c0)), fun c0 => s_iload_n E86_5.1 (k_ E86_5) rfl (s_bipush E86_6.1 (k_ E86_6) (s_icmp_le E86_8.1 (k_ E86_8) ⟨fun c1 => s_aload_n E86_13.1 (k_ E86_13) rfl (s_getI0 E86_14.1 (k_ E86_14) rfl (s_istore_n E86_17.1 (k_ E86_17) (s_aload_n E86_18.1 (k_ E86_18) rfl (s_iload_n E86_19.1 (k_ E86_19) rfl (s_putI E86_20.1 (k_ E86_20) rfl (s_aload_n E86_23.1 (k_ E86_23) rfl (s_iconst E86_24.1 (k_ E86_24) (s_putZ E86_25.1 (k_ E86_25) rfl ⟨((h.2 c0).1 c1).1, s_iload_n E86_28.1 (k_ E86_28) rfl (s_iret E86_29.1 (k_ E86_29) (((h.2 c0).1 c1).2))⟩)))))))), fun c1 => s_iconst E86_11.1 (k_ E86_11) (s_iret E86_12.1 (k_ E86_12) ((h.2 c0).2 c1))⟩))⟩))
-- 87: X6_proof
theorem E87_0 : aCode 87 0 = (Instr.aload_n 0, 1, [], 0) ∧ bMask 87 0 = [] := ⟨rfl, rfl⟩
theorem E87_1 : aCode 87 1 = (Instr.getfield 67, 4, [43, 6, 12, 2], 0) ∧ bMask 87 1 = [] := ⟨rfl, rfl⟩
theorem E87_4 : aCode 87 4 = (Instr.iload_n 1, 5, [], 0) ∧ bMask 87 4 = [] := ⟨rfl, rfl⟩
theorem E87_5 : aCode 87 5 = (Instr.invokevirtual 225, 8, [20, 2, 205, 1, 0, 45], 0) ∧ bMask 87 5 = [] := ⟨rfl, rfl⟩
theorem E87_8 : aCode 87 8 = (Instr.astore 4, 10, [], 0) ∧ bMask 87 8 = [] := ⟨rfl, rfl⟩
theorem E87_10 : aCode 87 10 = (Instr.aload 4, 12, [], 0) ∧ bMask 87 10 = [] := ⟨rfl, rfl⟩
theorem E87_12 : aCode 87 12 = (Instr.ifnonnull 6, 15, [18], 0) ∧ bMask 87 12 = [] := ⟨rfl, rfl⟩
theorem E87_15 : aCode 87 15 = (Instr.bipush (-3), 17, [], (-3)) ∧ bMask 87 15 = [] := ⟨rfl, rfl⟩
theorem E87_17 : aCode 87 17 = (Instr.ireturn, 18, [0], 0) ∧ bMask 87 17 = [] := ⟨rfl, rfl⟩
theorem E87_18 : aCode 87 18 = (Instr.iload_n 2, 19, [], 0) ∧ bMask 87 18 = [] := ⟨rfl, rfl⟩
theorem E87_19 : aCode 87 19 = (Instr.ifCond .lt 22, 22, [41], 0) ∧ bMask 87 19 = [] := ⟨rfl, rfl⟩
theorem E87_22 : aCode 87 22 = (Instr.iload_n 2, 23, [], 0) ∧ bMask 87 22 = [] := ⟨rfl, rfl⟩
theorem E87_23 : aCode 87 23 = (Instr.aload 4, 25, [], 0) ∧ bMask 87 23 = [] := ⟨rfl, rfl⟩
theorem E87_25 : aCode 87 25 = (Instr.getfield 229, 28, [45, 3, 4, 0], 0) ∧ bMask 87 25 = [] := ⟨rfl, rfl⟩
theorem E87_28 : aCode 87 28 = (Instr.if_icmp .ge 13, 31, [41], 0) ∧ bMask 87 28 = [] := ⟨rfl, rfl⟩
theorem E87_31 : aCode 87 31 = (Instr.iload_n 3, 32, [], 0) ∧ bMask 87 31 = [] := ⟨rfl, rfl⟩
theorem E87_32 : aCode 87 32 = (Instr.ifCond .lt 9, 35, [41], 0) ∧ bMask 87 32 = [] := ⟨rfl, rfl⟩
theorem E87_35 : aCode 87 35 = (Instr.iload_n 3, 36, [], 0) ∧ bMask 87 35 = [] := ⟨rfl, rfl⟩
theorem E87_36 : aCode 87 36 = (Instr.bipush 9, 38, [], 9) ∧ bMask 87 36 = [] := ⟨rfl, rfl⟩
theorem E87_38 : aCode 87 38 = (Instr.if_icmp .le 5, 41, [43], 0) ∧ bMask 87 38 = [] := ⟨rfl, rfl⟩
theorem E87_41 : aCode 87 41 = (Instr.iconst (-1), 42, [], (-1)) ∧ bMask 87 41 = [] := ⟨rfl, rfl⟩
theorem E87_42 : aCode 87 42 = (Instr.ireturn, 43, [0], 0) ∧ bMask 87 42 = [] := ⟨rfl, rfl⟩
theorem E87_43 : aCode 87 43 = (Instr.aload 4, 45, [], 0) ∧ bMask 87 43 = [] := ⟨rfl, rfl⟩
theorem E87_45 : aCode 87 45 = (Instr.iload_n 2, 46, [], 0) ∧ bMask 87 45 = [] := ⟨rfl, rfl⟩
theorem E87_46 : aCode 87 46 = (Instr.iload_n 3, 47, [], 0) ∧ bMask 87 46 = [] := ⟨rfl, rfl⟩
theorem E87_47 : aCode 87 47 = (Instr.invokevirtual 237, 50, [36, 3, 1, 3, 0, 80], 0) ∧ bMask 87 47 = [] := ⟨rfl, rfl⟩
theorem E87_50 : aCode 87 50 = (Instr.ireturn, 51, [0], 0) ∧ bMask 87 50 = [] := ⟨rfl, rfl⟩
theorem g_X6_proof_0 {Q : bQ} {M : bM} {x1 : Int32} {x2 : Int32} {x3 : Int32} (h : bCall 20 [cR 4 0, cI x1] M (fun v1 M2 => bV5 v1 5 (Q (some (cI (-3 : Int32))) M2) (fun q3 => ((x2 < 0) → (Q (some (cI (-1 : Int32))) M2)) ∧ (¬ (x2 < 0) → ((((M2 5 q3 4) ≤ x2) → (Q (some (cI (-1 : Int32))) M2)) ∧ (¬ ((M2 5 q3 4) ≤ x2) → (((x3 < 0) → (Q (some (cI (-1 : Int32))) M2)) ∧ (¬ (x3 < 0) → (((x3 ≤ (9 : Int32)) → (bCall 36 [cR 5 q3, cI x2, cI x3] M2 (fun v4 M5 => bV1 v4 fun r6 => (Q (some (cI r6)) M5)))) ∧ (¬ (x3 ≤ (9 : Int32)) → (Q (some (cI (-1 : Int32))) M2))))))))))) : bCall 87 [cR 0 0, cI x1, cI x2, cI x3] M Q := s_aload_n E87_0.1 (k_ E87_0) rfl (s_getR E87_1.1 (k_ E87_1) rfl rfl (s_iload_n E87_4.1 (k_ E87_4) rfl (s_vcall205 E87_5.1 (k_ E87_5) rfl rfl rfl h (fun M2 z0 => s_astoreN E87_8.1 (k_ E87_8) (s_aloadN E87_10.1 (k_ E87_10) rfl (s_ifnonnullN E87_12.1 (k_ E87_12) (s_bipush E87_15.1 (k_ E87_15) (s_iret E87_17.1 (k_ E87_17) z0))))) (fun M2 q3 z0 => s_astore E87_8.1 (k_ E87_8) (s_aload E87_10.1 (k_ E87_10) rfl (s_ifnonnull E87_12.1 (k_ E87_12) (s_iload_n E87_18.1 (k_ E87_18) rfl (s_if_lt E87_19.1 (k_ E87_19) ⟨fun c1 => s_iconst E87_41.1 (k_ E87_41) (s_iret E87_42.1 (k_ E87_42) (z0.1 c1)), fun c1 => s_iload_n E87_22.1 (k_ E87_22) rfl (s_aload E87_23.1 (k_ E87_23) rfl (s_getI0 E87_25.1 (k_ E87_25) rfl (s_icmp_ge E87_28.1 (k_ E87_28) ⟨fun c2 => s_iconst E87_41.1 (k_ E87_41) (s_iret E87_42.1 (k_ E87_42) ((z0.2 c1).1 c2)), fun c2 => s_iload_n E87_31.1 (k_ E87_31) rfl (s_if_lt E87_32.1 (k_ E87_32) ⟨fun c3 => s_iconst E87_41.1 (k_ E87_41) (s_iret E87_42.1 (k_ E87_42) (((z0.2 c1).2 c2).1 c3)), fun c3 => s_iload_n E87_35.1 (k_ E87_35) rfl (s_bipush E87_36.1 (k_ E87_36) (s_icmp_le E87_38.1 (k_ E87_38) ⟨fun c4 => s_aload E87_43.1 (k_ E87_43) rfl (s_iload_n E87_45.1 (k_ E87_45) rfl (s_iload_n E87_46.1 (k_ E87_46) rfl (s_vcall1 E87_47.1 (k_ E87_47) rfl rfl rfl ((((z0.2 c1).2 c2).2 c3).1 c4) (fun M5 r6 z5 => s_iret E87_50.1 (k_ E87_50) z5)))), fun c4 => s_iconst E87_41.1 (k_ E87_41) (s_iret E87_42.1 (k_ E87_42) ((((z0.2 c1).2 c2).2 c3).2 c4))⟩))⟩)⟩)))⟩))))))))
-- 88: X6_put
theorem E88_0 : aCode 88 0 = (Instr.iload_n 1, 1, [], 0) ∧ bMask 88 0 = [] := ⟨rfl, rfl⟩
theorem E88_1 : aCode 88 1 = (Instr.invokestatic 179, 4, [80, 1, 1, 0, 0, 75], 0) ∧ bMask 88 1 = [] := ⟨rfl, rfl⟩
theorem E88_4 : aCode 88 4 = (Instr.ifCond .ne 5, 7, [9], 0) ∧ bMask 88 4 = [] := ⟨rfl, rfl⟩
theorem E88_7 : aCode 88 7 = (Instr.iconst (-1), 8, [], (-1)) ∧ bMask 88 7 = [] := ⟨rfl, rfl⟩
theorem E88_8 : aCode 88 8 = (Instr.ireturn, 9, [0], 0) ∧ bMask 88 8 = [] := ⟨rfl, rfl⟩
theorem E88_9 : aCode 88 9 = (Instr.aload_n 0, 10, [], 0) ∧ bMask 88 9 = [] := ⟨rfl, rfl⟩
theorem E88_10 : aCode 88 10 = (Instr.getfield 73, 13, [58, 6, 13, 2], 0) ∧ bMask 88 10 = [] := ⟨rfl, rfl⟩
theorem E88_13 : aCode 88 13 = (Instr.iload_n 1, 14, [], 0) ∧ bMask 88 13 = [] := ⟨rfl, rfl⟩
theorem E88_14 : aCode 88 14 = (Instr.aaload, 15, [4], 0) ∧ bMask 88 14 = [] := ⟨rfl, rfl⟩
theorem E88_15 : aCode 88 15 = (Instr.invokevirtual 182, 18, [57, 1, 1, 5, 0, 51], 0) ∧ bMask 88 15 = [] := ⟨rfl, rfl⟩
theorem E88_18 : aCode 88 18 = (Instr.ifCond .eq 6, 21, [24], 0) ∧ bMask 88 18 = [] := ⟨rfl, rfl⟩
theorem E88_21 : aCode 88 21 = (Instr.bipush (-11), 23, [], (-11)) ∧ bMask 88 21 = [] := ⟨rfl, rfl⟩
theorem E88_23 : aCode 88 23 = (Instr.ireturn, 24, [0], 0) ∧ bMask 88 23 = [] := ⟨rfl, rfl⟩
theorem E88_24 : aCode 88 24 = (Instr.aload_n 0, 25, [], 0) ∧ bMask 88 24 = [] := ⟨rfl, rfl⟩
theorem E88_25 : aCode 88 25 = (Instr.getfield 73, 28, [58, 6, 13, 2], 0) ∧ bMask 88 25 = [] := ⟨rfl, rfl⟩
theorem E88_28 : aCode 88 28 = (Instr.iload_n 1, 29, [], 0) ∧ bMask 88 28 = [] := ⟨rfl, rfl⟩
theorem E88_29 : aCode 88 29 = (Instr.aaload, 30, [4], 0) ∧ bMask 88 29 = [] := ⟨rfl, rfl⟩
theorem E88_30 : aCode 88 30 = (Instr.iload_n 2, 31, [], 0) ∧ bMask 88 30 = [] := ⟨rfl, rfl⟩
theorem E88_31 : aCode 88 31 = (Instr.iconst 1, 32, [], 1) ∧ bMask 88 31 = [] := ⟨rfl, rfl⟩
theorem E88_32 : aCode 88 32 = (Instr.invokevirtual 255, 35, [55, 3, 1, 5, 0, 79], 0) ∧ bMask 88 32 = [] := ⟨rfl, rfl⟩
theorem E88_35 : aCode 88 35 = (Instr.ifCond .ne 6, 38, [41], 0) ∧ bMask 88 35 = [] := ⟨rfl, rfl⟩
theorem E88_38 : aCode 88 38 = (Instr.bipush (-12), 40, [], (-12)) ∧ bMask 88 38 = [] := ⟨rfl, rfl⟩
theorem E88_40 : aCode 88 40 = (Instr.ireturn, 41, [0], 0) ∧ bMask 88 40 = [] := ⟨rfl, rfl⟩
theorem E88_41 : aCode 88 41 = (Instr.aload_n 0, 42, [], 0) ∧ bMask 88 41 = [] := ⟨rfl, rfl⟩
theorem E88_42 : aCode 88 42 = (Instr.getfield 73, 45, [58, 6, 13, 2], 0) ∧ bMask 88 42 = [] := ⟨rfl, rfl⟩
theorem E88_45 : aCode 88 45 = (Instr.iload_n 1, 46, [], 0) ∧ bMask 88 45 = [] := ⟨rfl, rfl⟩
theorem E88_46 : aCode 88 46 = (Instr.aaload, 47, [4], 0) ∧ bMask 88 46 = [] := ⟨rfl, rfl⟩
theorem E88_47 : aCode 88 47 = (Instr.iload_n 2, 48, [], 0) ∧ bMask 88 47 = [] := ⟨rfl, rfl⟩
theorem E88_48 : aCode 88 48 = (Instr.iload_n 3, 49, [], 0) ∧ bMask 88 48 = [] := ⟨rfl, rfl⟩
theorem E88_49 : aCode 88 49 = (Instr.invokevirtual 258, 52, [58, 3, 0, 5, 0, 81], 0) ∧ bMask 88 49 = [] := ⟨rfl, rfl⟩
theorem E88_52 : aCode 88 52 = (Instr.iconst 1, 53, [], 1) ∧ bMask 88 52 = [] := ⟨rfl, rfl⟩
theorem E88_53 : aCode 88 53 = (Instr.ireturn, 54, [0], 0) ∧ bMask 88 53 = [] := ⟨rfl, rfl⟩
theorem g_X6_put_0 {Q : bQ} {M : bM} {x1 : Int32} {x2 : Int32} {x3 : Int32} (h : bCall 80 [cI x1] M (fun v1 M2 => bV1 v1 fun r3 => (((¬ r3 = 0) → ((vp_in x1 3) ∧ (bCall 57 [cR 6 x1.toNatClampNeg] M2 (fun v4 M5 => bV1 v4 fun r6 => (((r6 = 0) → ((vp_in x1 3) ∧ (bCall 55 [cR 6 x1.toNatClampNeg, cI x2, cI (1 : Int32)] M5 (fun v7 M8 => bV1 v7 fun r9 => (((¬ r9 = 0) → ((vp_in x1 3) ∧ (bCall 58 [cR 6 x1.toNatClampNeg, cI x2, cI x3] M8 (fun v10 M11 => bV0 v10 (Q (some (cI (1 : Int32))) M11))))) ∧ (¬ (¬ r9 = 0) → (Q (some (cI (-12 : Int32))) M8))))))) ∧ (¬ (r6 = 0) → (Q (some (cI (-11 : Int32))) M5))))))) ∧ (¬ (¬ r3 = 0) → (Q (some (cI (-1 : Int32))) M2))))) : bCall 88 [cR 0 0, cI x1, cI x2, cI x3] M Q := s_iload_n E88_0.1 (k_ E88_0) rfl (s_scall1 E88_1.1 (k_ E88_1) rfl rfl rfl h (fun M2 r3 z0 => s_if_ne E88_4.1 (k_ E88_4) ⟨fun c1 => s_aload_n E88_9.1 (k_ E88_9) rfl (s_getR E88_10.1 (k_ E88_10) rfl rfl (s_iload_n E88_13.1 (k_ E88_13) rfl (s_aaload E88_14.1 (k_ E88_14) rfl ⟨(z0.1 c1).1, s_vcall1 E88_15.1 (k_ E88_15) rfl rfl rfl ((z0.1 c1).2) (fun M5 r6 z2 => s_if_eq E88_18.1 (k_ E88_18) ⟨fun c3 => s_aload_n E88_24.1 (k_ E88_24) rfl (s_getR E88_25.1 (k_ E88_25) rfl rfl (s_iload_n E88_28.1 (k_ E88_28) rfl (s_aaload E88_29.1 (k_ E88_29) rfl ⟨(z2.1 c3).1, s_iload_n E88_30.1 (k_ E88_30) rfl (s_iconst E88_31.1 (k_ E88_31) (s_vcall1 E88_32.1 (k_ E88_32) rfl rfl rfl ((z2.1 c3).2) (fun M8 r9 z4 => s_if_ne E88_35.1 (k_ E88_35) ⟨fun c5 => s_aload_n E88_41.1 (k_ E88_41) rfl (s_getR E88_42.1 (k_ E88_42) rfl rfl (s_iload_n E88_45.1 (k_ E88_45) rfl (s_aaload E88_46.1 (k_ E88_46) rfl ⟨(z4.1 c5).1, s_iload_n E88_47.1 (k_ E88_47) rfl (s_iload_n E88_48.1 (k_ E88_48) rfl (s_vcall0 E88_49.1 (k_ E88_49) rfl rfl rfl ((z4.1 c5).2) (fun M11 z6 => s_iconst E88_52.1 (k_ E88_52) (s_iret E88_53.1 (k_ E88_53) z6))))⟩))), fun c5 => s_bipush E88_38.1 (k_ E88_38) (s_iret E88_40.1 (k_ E88_40) (z4.2 c5))⟩)))⟩))), fun c3 => s_bipush E88_21.1 (k_ E88_21) (s_iret E88_23.1 (k_ E88_23) (z2.2 c3))⟩)⟩))), fun c1 => s_iconst E88_7.1 (k_ E88_7) (s_iret E88_8.1 (k_ E88_8) (z0.2 c1))⟩))
-- 89: X6_relates
theorem E89_0 : aCode 89 0 = (Instr.iload_n 1, 1, [], 0) ∧ bMask 89 0 = [] := ⟨rfl, rfl⟩
theorem E89_1 : aCode 89 1 = (Instr.invokestatic 179, 4, [80, 1, 1, 0, 0, 75], 0) ∧ bMask 89 1 = [] := ⟨rfl, rfl⟩
theorem E89_4 : aCode 89 4 = (Instr.ifCond .ne 5, 7, [9], 0) ∧ bMask 89 4 = [] := ⟨rfl, rfl⟩
theorem E89_7 : aCode 89 7 = (Instr.iconst (-1), 8, [], (-1)) ∧ bMask 89 7 = [] := ⟨rfl, rfl⟩
theorem E89_8 : aCode 89 8 = (Instr.ireturn, 9, [0], 0) ∧ bMask 89 8 = [] := ⟨rfl, rfl⟩
theorem E89_9 : aCode 89 9 = (Instr.aload_n 0, 10, [], 0) ∧ bMask 89 9 = [] := ⟨rfl, rfl⟩
theorem E89_10 : aCode 89 10 = (Instr.getfield 73, 13, [58, 6, 13, 2], 0) ∧ bMask 89 10 = [] := ⟨rfl, rfl⟩
theorem E89_13 : aCode 89 13 = (Instr.iload_n 1, 14, [], 0) ∧ bMask 89 13 = [] := ⟨rfl, rfl⟩
theorem E89_14 : aCode 89 14 = (Instr.aaload, 15, [4], 0) ∧ bMask 89 14 = [] := ⟨rfl, rfl⟩
theorem E89_15 : aCode 89 15 = (Instr.invokevirtual 182, 18, [57, 1, 1, 5, 0, 51], 0) ∧ bMask 89 15 = [] := ⟨rfl, rfl⟩
theorem E89_18 : aCode 89 18 = (Instr.ifCond .eq 6, 21, [24], 0) ∧ bMask 89 18 = [] := ⟨rfl, rfl⟩
theorem E89_21 : aCode 89 21 = (Instr.bipush (-11), 23, [], (-11)) ∧ bMask 89 21 = [] := ⟨rfl, rfl⟩
theorem E89_23 : aCode 89 23 = (Instr.ireturn, 24, [0], 0) ∧ bMask 89 23 = [] := ⟨rfl, rfl⟩
theorem E89_24 : aCode 89 24 = (Instr.aload_n 0, 25, [], 0) ∧ bMask 89 24 = [] := ⟨rfl, rfl⟩
theorem E89_25 : aCode 89 25 = (Instr.invokevirtual 186, 28, [67, 1, 1, 6, 0, 47], 0) ∧ bMask 89 25 = [] := ⟨rfl, rfl⟩
theorem E89_28 : aCode 89 28 = (Instr.istore_n 2, 29, [], 0) ∧ bMask 89 28 = [] := ⟨rfl, rfl⟩
theorem E89_29 : aCode 89 29 = (Instr.iconst 1, 30, [], 1) ∧ bMask 89 29 = [] := ⟨rfl, rfl⟩
theorem E89_30 : aCode 89 30 = (Instr.istore_n 3, 31, [], 0) ∧ bMask 89 30 = [] := ⟨rfl, rfl⟩
theorem E89_31 : aCode 89 31 = (Instr.aload_n 0, 32, [], 0) ∧ bMask 89 31 = [] := ⟨rfl, rfl⟩
theorem E89_32 : aCode 89 32 = (Instr.getfield 61, 35, [41, 6, 11, 2], 0) ∧ bMask 89 32 = [] := ⟨rfl, rfl⟩
theorem E89_35 : aCode 89 35 = (Instr.iconst 0, 36, [], 0) ∧ bMask 89 35 = [] := ⟨rfl, rfl⟩
theorem E89_36 : aCode 89 36 = (Instr.invokestatic 85, 39, [1, 2, 0, 0, 0, 59], 0) ∧ bMask 89 36 = [] := ⟨rfl, rfl⟩
theorem E89_39 : aCode 89 39 = (Instr.iconst 0, 40, [], 0) ∧ bMask 89 39 = [] := ⟨rfl, rfl⟩
theorem E89_40 : aCode 89 40 = (Instr.istore 4, 42, [], 0) ∧ bMask 89 40 = [] := ⟨rfl, rfl⟩
theorem E89_42 : aCode 89 42 = (Instr.iload 4, 44, [], 0) := rfl
theorem E89_44 : aCode 89 44 = (Instr.iload_n 2, 45, [], 0) ∧ bMask 89 44 = [] := ⟨rfl, rfl⟩
theorem E89_45 : aCode 89 45 = (Instr.if_icmp .ge 95, 48, [140], 0) ∧ bMask 89 45 = [] := ⟨rfl, rfl⟩
theorem E89_48 : aCode 89 48 = (Instr.aload_n 0, 49, [], 0) ∧ bMask 89 48 = [] := ⟨rfl, rfl⟩
theorem E89_49 : aCode 89 49 = (Instr.getfield 58, 52, [40, 6, 10, 2], 0) ∧ bMask 89 49 = [] := ⟨rfl, rfl⟩
theorem E89_52 : aCode 89 52 = (Instr.iconst 0, 53, [], 0) ∧ bMask 89 52 = [] := ⟨rfl, rfl⟩
theorem E89_53 : aCode 89 53 = (Instr.invokestatic 85, 56, [1, 2, 0, 0, 0, 59], 0) ∧ bMask 89 53 = [] := ⟨rfl, rfl⟩
theorem E89_56 : aCode 89 56 = (Instr.iconst 0, 57, [], 0) ∧ bMask 89 56 = [] := ⟨rfl, rfl⟩
theorem E89_57 : aCode 89 57 = (Instr.istore 5, 59, [], 0) ∧ bMask 89 57 = [] := ⟨rfl, rfl⟩
theorem E89_59 : aCode 89 59 = (Instr.iload 5, 61, [], 0) ∧ bMask 89 59 = [] := ⟨rfl, rfl⟩
theorem E89_61 : aCode 89 61 = (Instr.bipush 8, 63, [], 8) ∧ bMask 89 61 = [] := ⟨rfl, rfl⟩
theorem E89_63 : aCode 89 63 = (Instr.if_icmp .ge 60, 66, [123], 0) ∧ bMask 89 63 = [] := ⟨rfl, rfl⟩
theorem E89_66 : aCode 89 66 = (Instr.aload_n 0, 67, [], 0) ∧ bMask 89 66 = [] := ⟨rfl, rfl⟩
theorem E89_67 : aCode 89 67 = (Instr.getfield 58, 70, [40, 6, 10, 2], 0) ∧ bMask 89 67 = [] := ⟨rfl, rfl⟩
theorem E89_70 : aCode 89 70 = (Instr.iload 5, 72, [], 0) ∧ bMask 89 70 = [] := ⟨rfl, rfl⟩
theorem E89_72 : aCode 89 72 = (Instr.aload_n 0, 73, [], 0) ∧ bMask 89 72 = [] := ⟨rfl, rfl⟩
theorem E89_73 : aCode 89 73 = (Instr.getfield 10, 76, [39, 6, 0, 2], 0) ∧ bMask 89 73 = [] := ⟨rfl, rfl⟩
theorem E89_76 : aCode 89 76 = (Instr.aload_n 0, 77, [], 0) ∧ bMask 89 76 = [] := ⟨rfl, rfl⟩
theorem E89_77 : aCode 89 77 = (Instr.getfield 73, 80, [58, 6, 13, 2], 0) ∧ bMask 89 77 = [] := ⟨rfl, rfl⟩
theorem E89_80 : aCode 89 80 = (Instr.iload_n 1, 81, [], 0) ∧ bMask 89 80 = [] := ⟨rfl, rfl⟩
theorem E89_81 : aCode 89 81 = (Instr.aaload, 82, [4], 0) ∧ bMask 89 81 = [] := ⟨rfl, rfl⟩
theorem E89_82 : aCode 89 82 = (Instr.bipush 8, 84, [], 8) ∧ bMask 89 82 = [] := ⟨rfl, rfl⟩
theorem E89_84 : aCode 89 84 = (Instr.iload 4, 86, [], 0) ∧ bMask 89 84 = [] := ⟨rfl, rfl⟩
theorem E89_86 : aCode 89 86 = (Instr.imul, 87, [], 0) ∧ bMask 89 86 = [] := ⟨rfl, rfl⟩
theorem E89_87 : aCode 89 87 = (Instr.iload 5, 89, [], 0) ∧ bMask 89 87 = [] := ⟨rfl, rfl⟩
theorem E89_89 : aCode 89 89 = (Instr.iadd, 90, [], 0) ∧ bMask 89 89 = [] := ⟨rfl, rfl⟩
theorem E89_90 : aCode 89 90 = (Instr.invokevirtual 189, 93, [59, 2, 1, 5, 0, 76], 0) ∧ bMask 89 90 = [] := ⟨rfl, rfl⟩
theorem E89_93 : aCode 89 93 = (Instr.invokevirtual 97, 96, [10, 2, 1, 2, 0, 77], 0) ∧ bMask 89 93 = [] := ⟨rfl, rfl⟩
theorem E89_96 : aCode 89 96 = (Instr.iastore, 97, [0], 0) ∧ bMask 89 96 = [] := ⟨rfl, rfl⟩
theorem E89_97 : aCode 89 97 = (Instr.iload_n 3, 98, [], 0) ∧ bMask 89 97 = [] := ⟨rfl, rfl⟩
theorem E89_98 : aCode 89 98 = (Instr.ifCond .eq 17, 101, [115], 0) ∧ bMask 89 98 = [] := ⟨rfl, rfl⟩
theorem E89_101 : aCode 89 101 = (Instr.aload_n 0, 102, [], 0) ∧ bMask 89 101 = [] := ⟨rfl, rfl⟩
theorem E89_102 : aCode 89 102 = (Instr.getfield 58, 105, [40, 6, 10, 2], 0) ∧ bMask 89 102 = [] := ⟨rfl, rfl⟩
theorem E89_105 : aCode 89 105 = (Instr.iload 5, 107, [], 0) ∧ bMask 89 105 = [] := ⟨rfl, rfl⟩
theorem E89_107 : aCode 89 107 = (Instr.iaload, 108, [0], 0) ∧ bMask 89 107 = [] := ⟨rfl, rfl⟩
theorem E89_108 : aCode 89 108 = (Instr.ifCond .ne 7, 111, [115], 0) ∧ bMask 89 108 = [] := ⟨rfl, rfl⟩
theorem E89_111 : aCode 89 111 = (Instr.iconst 1, 112, [], 1) ∧ bMask 89 111 = [] := ⟨rfl, rfl⟩
theorem E89_112 : aCode 89 112 = (Instr.goto 4, 116, [], 0) ∧ bMask 89 112 = [] := ⟨rfl, rfl⟩
theorem E89_115 : aCode 89 115 = (Instr.iconst 0, 116, [], 0) ∧ bMask 89 115 = [] := ⟨rfl, rfl⟩
theorem E89_116 : aCode 89 116 = (Instr.istore_n 3, 117, [], 0) ∧ bMask 89 116 = [] := ⟨rfl, rfl⟩
theorem E89_117 : aCode 89 117 = (Instr.iinc 5 1, 120, [], 1) ∧ bMask 89 117 = [] := ⟨rfl, rfl⟩
theorem E89_120 : aCode 89 120 = (Instr.goto (-61), 59, [], 0) ∧ bMask 89 120 = [] := ⟨rfl, rfl⟩
theorem E89_123 : aCode 89 123 = (Instr.aload_n 0, 124, [], 0) ∧ bMask 89 123 = [] := ⟨rfl, rfl⟩
theorem E89_124 : aCode 89 124 = (Instr.aload_n 0, 125, [], 0) ∧ bMask 89 124 = [] := ⟨rfl, rfl⟩
theorem E89_125 : aCode 89 125 = (Instr.getfield 52, 128, [52, 6, 8, 2], 0) ∧ bMask 89 125 = [] := ⟨rfl, rfl⟩
theorem E89_128 : aCode 89 128 = (Instr.iload 4, 130, [], 0) ∧ bMask 89 128 = [] := ⟨rfl, rfl⟩
theorem E89_130 : aCode 89 130 = (Instr.aaload, 131, [2], 0) ∧ bMask 89 130 = [] := ⟨rfl, rfl⟩
theorem E89_131 : aCode 89 131 = (Instr.invokevirtual 192, 134, [60, 2, 0, 6, 0, 82], 0) ∧ bMask 89 131 = [] := ⟨rfl, rfl⟩
theorem E89_134 : aCode 89 134 = (Instr.iinc 4 1, 137, [], 1) ∧ bMask 89 134 = [] := ⟨rfl, rfl⟩
theorem E89_137 : aCode 89 137 = (Instr.goto (-95), 42, [], 0) ∧ bMask 89 137 = [] := ⟨rfl, rfl⟩
theorem E89_140 : aCode 89 140 = (Instr.iload_n 3, 141, [], 0) ∧ bMask 89 140 = [] := ⟨rfl, rfl⟩
theorem E89_141 : aCode 89 141 = (Instr.ifCond .ne 21, 144, [162], 0) ∧ bMask 89 141 = [] := ⟨rfl, rfl⟩
theorem E89_144 : aCode 89 144 = (Instr.aload_n 0, 145, [], 0) ∧ bMask 89 144 = [] := ⟨rfl, rfl⟩
theorem E89_145 : aCode 89 145 = (Instr.getfield 61, 148, [41, 6, 11, 2], 0) ∧ bMask 89 145 = [] := ⟨rfl, rfl⟩
theorem E89_148 : aCode 89 148 = (Instr.invokestatic 140, 151, [33, 1, 1, 0, 0, 52], 0) ∧ bMask 89 148 = [] := ⟨rfl, rfl⟩
theorem E89_151 : aCode 89 151 = (Instr.aload_n 0, 152, [], 0) ∧ bMask 89 151 = [] := ⟨rfl, rfl⟩
theorem E89_152 : aCode 89 152 = (Instr.getfield 34, 155, [56, 6, 4, 0], 0) ∧ bMask 89 152 = [] := ⟨rfl, rfl⟩
theorem E89_155 : aCode 89 155 = (Instr.if_icmp .lt 7, 158, [162], 0) ∧ bMask 89 155 = [] := ⟨rfl, rfl⟩
theorem E89_158 : aCode 89 158 = (Instr.iconst 1, 159, [], 1) ∧ bMask 89 158 = [] := ⟨rfl, rfl⟩
theorem E89_159 : aCode 89 159 = (Instr.goto 4, 163, [], 0) ∧ bMask 89 159 = [] := ⟨rfl, rfl⟩
theorem E89_162 : aCode 89 162 = (Instr.iconst 0, 163, [], 0) ∧ bMask 89 162 = [] := ⟨rfl, rfl⟩
theorem E89_163 : aCode 89 163 = (Instr.ireturn, 164, [0], 0) ∧ bMask 89 163 = [] := ⟨rfl, rfl⟩
theorem g_X6_relates_0 {Q : bQ} {M : bM} {x1 : Int32} (h : bCall 80 [cI x1] M (fun v1 M2 => bV1 v1 fun r3 => (((¬ r3 = 0) → ((vp_in x1 3) ∧ (bCall 57 [cR 6 x1.toNatClampNeg] M2 (fun v4 M5 => bV1 v4 fun r6 => (((r6 = 0) → (bCall 67 [cR 0 0] M5 (fun v7 M8 => bV1 v7 fun r9 => (bCall 1 [cR 7 6, cI (0 : Int32)] M8 (fun v10 M11 => bV0 v10 (bGo 89 Q 42 [some (cR 0 0), some (cI x1), some (cI r9), some (cI (1 : Int32)), some (cI (0 : Int32)), none] [] M11)))))) ∧ (¬ (r6 = 0) → (Q (some (cI (-11 : Int32))) M5))))))) ∧ (¬ (¬ r3 = 0) → (Q (some (cI (-1 : Int32))) M2))))) : bCall 89 [cR 0 0, cI x1] M Q := s_iload_n E89_0.1 (k_ E89_0) rfl (s_scall1 E89_1.1 (k_ E89_1) rfl rfl rfl h (fun M2 r3 z0 => s_if_ne E89_4.1 (k_ E89_4) ⟨fun c1 => s_aload_n E89_9.1 (k_ E89_9) rfl (s_getR E89_10.1 (k_ E89_10) rfl rfl (s_iload_n E89_13.1 (k_ E89_13) rfl (s_aaload E89_14.1 (k_ E89_14) rfl ⟨(z0.1 c1).1, s_vcall1 E89_15.1 (k_ E89_15) rfl rfl rfl ((z0.1 c1).2) (fun M5 r6 z2 => s_if_eq E89_18.1 (k_ E89_18) ⟨fun c3 => s_aload_n E89_24.1 (k_ E89_24) rfl (s_vcall1 E89_25.1 (k_ E89_25) rfl rfl rfl (z2.1 c3) (fun M8 r9 z4 => s_istore_n E89_28.1 (k_ E89_28) (s_iconst E89_29.1 (k_ E89_29) (s_istore_n E89_30.1 (k_ E89_30) (s_aload_n E89_31.1 (k_ E89_31) rfl (s_getR E89_32.1 (k_ E89_32) rfl rfl (s_iconst E89_35.1 (k_ E89_35) (s_scall0 E89_36.1 (k_ E89_36) rfl rfl rfl z4 (fun M11 z5 => s_iconst E89_39.1 (k_ E89_39) (s_istore E89_40.1 (k_ E89_40) (z5))))))))))), fun c3 => s_bipush E89_21.1 (k_ E89_21) (s_iret E89_23.1 (k_ E89_23) (z2.2 c3))⟩)⟩))), fun c1 => s_iconst E89_7.1 (k_ E89_7) (s_iret E89_8.1 (k_ E89_8) (z0.2 c1))⟩))
theorem g_X6_relates_42 {Q : bQ} {M : bM} {x1 : Int32} {x2 : Int32} {x3 : Int32} {x4 : Int32} {o5 : Option bV} (h : ((x2 ≤ x4) → (((¬ x3 = 0) → (Q (some (cI (0 : Int32))) M)) ∧ (¬ (¬ x3 = 0) → (bCall 33 [cR 7 6] M (fun v1 M2 => bV1 v1 fun r3 => (((r3 < (M2 0 0 4)) → (Q (some (cI (0 : Int32))) M2)) ∧ (¬ (r3 < (M2 0 0 4)) → (Q (some (cI (1 : Int32))) M2)))))))) ∧ (¬ (x2 ≤ x4) → (bCall 1 [cR 7 7, cI (0 : Int32)] M (fun v4 M5 => bV0 v4 (bGo 89 Q 59 [some (cR 0 0), some (cI x1), some (cI x2), some (cI x3), some (cI x4), some (cI (0 : Int32))] [] M5))))) : bGo 89 Q 42 [some (cR 0 0), some (cI x1), some (cI x2), some (cI x3), some (cI x4), o5] [] M := s_iload E89_42 rfl rfl (s_iload_n E89_44.1 (k_ E89_44) rfl (s_icmp_ge E89_45.1 (k_ E89_45) ⟨fun c6 => s_iload_n E89_140.1 (k_ E89_140) rfl (s_if_ne E89_141.1 (k_ E89_141) ⟨fun c7 => s_iconst E89_162.1 (k_ E89_162) (s_iret E89_163.1 (k_ E89_163) ((h.1 c6).1 c7)), fun c7 => s_aload_n E89_144.1 (k_ E89_144) rfl (s_getR E89_145.1 (k_ E89_145) rfl rfl (s_scall1 E89_148.1 (k_ E89_148) rfl rfl rfl ((h.1 c6).2 c7) (fun M2 r3 z8 => s_aload_n E89_151.1 (k_ E89_151) rfl (s_getI0 E89_152.1 (k_ E89_152) rfl (s_icmp_lt E89_155.1 (k_ E89_155) ⟨fun c9 => s_iconst E89_162.1 (k_ E89_162) (s_iret E89_163.1 (k_ E89_163) (z8.1 c9)), fun c9 => s_iconst E89_158.1 (k_ E89_158) (s_goto E89_159.1 (k_ E89_159) (s_iret E89_163.1 (k_ E89_163) (z8.2 c9)))⟩)))))⟩), fun c6 => s_aload_n E89_48.1 (k_ E89_48) rfl (s_getR E89_49.1 (k_ E89_49) rfl rfl (s_iconst E89_52.1 (k_ E89_52) (s_scall0 E89_53.1 (k_ E89_53) rfl rfl rfl (h.2 c6) (fun M5 z10 => s_iconst E89_56.1 (k_ E89_56) (s_istore E89_57.1 (k_ E89_57) (z10))))))⟩))
theorem g_X6_relates_59 {Q : bQ} {M : bM} {x1 : Int32} {x2 : Int32} {x3 : Int32} {x4 : Int32} {x5 : Int32} (h : (((8 : Int32) ≤ x5) → ((vp_in x4 4) ∧ (bCall 60 [cR 0 0, cR 7 (8 + x4.toNatClampNeg)] M (fun v1 M2 => bV0 v1 (bGo 89 Q 42 [some (cR 0 0), some (cI x1), some (cI x2), some (cI x3), some (cI (x4 + (1 : Int32))), some (cI x5)] [] M2))))) ∧ (¬ ((8 : Int32) ≤ x5) → ((vp_in x1 3) ∧ (bCall 59 [cR 6 x1.toNatClampNeg, cI (((8 : Int32) * x4) + x5)] M (fun v3 M4 => bV1 v3 fun r5 => (bCall 10 [cR 1 0, cI r5] M4 (fun v6 M7 => bV1 v6 fun r8 => ((vp_in x5 32) ∧ (((x3 = 0) → bGo 89 Q 59 [some (cR 0 0), some (cI x1), some (cI x2), some (cI (0 : Int32)), some (cI x4), some (cI (x5 + (1 : Int32)))] [] (bU M7 7 7 x5.toNatClampNeg r8)) ∧ (¬ (x3 = 0) → ((vp_in x5 32) ∧ (((¬ ((bU M7 7 7 x5.toNatClampNeg r8) 7 7 x5.toNatClampNeg) = 0) → bGo 89 Q 59 [some (cR 0 0), some (cI x1), some (cI x2), some (cI (0 : Int32)), some (cI x4), some (cI (x5 + (1 : Int32)))] [] (bU M7 7 7 x5.toNatClampNeg r8)) ∧ (¬ (¬ ((bU M7 7 7 x5.toNatClampNeg r8) 7 7 x5.toNatClampNeg) = 0) → bGo 89 Q 59 [some (cR 0 0), some (cI x1), some (cI x2), some (cI (1 : Int32)), some (cI x4), some (cI (x5 + (1 : Int32)))] [] (bU M7 7 7 x5.toNatClampNeg r8)))))))))))))) : bGo 89 Q 59 [some (cR 0 0), some (cI x1), some (cI x2), some (cI x3), some (cI x4), some (cI x5)] [] M := s_iload E89_59.1 (k_ E89_59) rfl (s_bipush E89_61.1 (k_ E89_61) (s_icmp_ge E89_63.1 (k_ E89_63) ⟨fun c11 => s_aload_n E89_123.1 (k_ E89_123) rfl (s_aload_n E89_124.1 (k_ E89_124) rfl (s_getR E89_125.1 (k_ E89_125) rfl rfl (s_iload E89_128.1 (k_ E89_128) rfl (s_aaload E89_130.1 (k_ E89_130) rfl ⟨(h.1 c11).1, s_vcall0 E89_131.1 (k_ E89_131) rfl rfl rfl ((h.1 c11).2) (fun M2 z12 => s_iinc E89_134.1 (k_ E89_134) rfl (s_goto E89_137.1 (k_ E89_137) (z12)))⟩)))), fun c11 => s_aload_n E89_66.1 (k_ E89_66) rfl (s_getR E89_67.1 (k_ E89_67) rfl rfl (s_iload E89_70.1 (k_ E89_70) rfl (s_aload_n E89_72.1 (k_ E89_72) rfl (s_getR E89_73.1 (k_ E89_73) rfl rfl (s_aload_n E89_76.1 (k_ E89_76) rfl (s_getR E89_77.1 (k_ E89_77) rfl rfl (s_iload_n E89_80.1 (k_ E89_80) rfl (s_aaload E89_81.1 (k_ E89_81) rfl ⟨(h.2 c11).1, s_bipush E89_82.1 (k_ E89_82) (s_iload E89_84.1 (k_ E89_84) rfl (s_imul E89_86.1 (k_ E89_86) (s_iload E89_87.1 (k_ E89_87) rfl (s_iadd E89_89.1 (k_ E89_89) (s_vcall1 E89_90.1 (k_ E89_90) rfl rfl rfl ((h.2 c11).2) (fun M4 r5 z13 => s_vcall1 E89_93.1 (k_ E89_93) rfl rfl rfl z13 (fun M7 r8 z14 => s_iastore E89_96.1 (k_ E89_96) rfl ⟨z14.1, s_iload_n E89_97.1 (k_ E89_97) rfl (s_if_eq E89_98.1 (k_ E89_98) ⟨fun c15 => s_iconst E89_115.1 (k_ E89_115) (s_istore_n E89_116.1 (k_ E89_116) (s_iinc E89_117.1 (k_ E89_117) rfl (s_goto E89_120.1 (k_ E89_120) (z14.2.1 c15)))), fun c15 => s_aload_n E89_101.1 (k_ E89_101) rfl (s_getR E89_102.1 (k_ E89_102) rfl rfl (s_iload E89_105.1 (k_ E89_105) rfl (s_iaload E89_107.1 (k_ E89_107) rfl ⟨(z14.2.2 c15).1, s_if_ne E89_108.1 (k_ E89_108) ⟨fun c16 => s_iconst E89_115.1 (k_ E89_115) (s_istore_n E89_116.1 (k_ E89_116) (s_iinc E89_117.1 (k_ E89_117) rfl (s_goto E89_120.1 (k_ E89_120) (((z14.2.2 c15).2).1 c16)))), fun c16 => s_iconst E89_111.1 (k_ E89_111) (s_goto E89_112.1 (k_ E89_112) (s_istore_n E89_116.1 (k_ E89_116) (s_iinc E89_117.1 (k_ E89_117) rfl (s_goto E89_120.1 (k_ E89_120) (((z14.2.2 c15).2).2 c16)))))⟩⟩)))⟩)⟩)))))))⟩))))))))⟩))
-- 90: X6_rest
theorem E90_0 : aCode 90 0 = (Instr.aload_n 0, 1, [], 0) ∧ bMask 90 0 = [] := ⟨rfl, rfl⟩
theorem E90_1 : aCode 90 1 = (Instr.iload_n 1, 2, [], 0) ∧ bMask 90 1 = [] := ⟨rfl, rfl⟩
theorem E90_2 : aCode 90 2 = (Instr.invokevirtual 166, 5, [66, 2, 1, 6, 0, 49], 0) ∧ bMask 90 2 = [] := ⟨rfl, rfl⟩
theorem E90_5 : aCode 90 5 = (Instr.ifCond .eq 24, 8, [29], 0) ∧ bMask 90 5 = [] := ⟨rfl, rfl⟩
theorem E90_8 : aCode 90 8 = (Instr.iload_n 2, 9, [], 0) ∧ bMask 90 8 = [] := ⟨rfl, rfl⟩
theorem E90_9 : aCode 90 9 = (Instr.invokestatic 94, 12, [62, 1, 1, 0, 0, 44], 0) ∧ bMask 90 9 = [] := ⟨rfl, rfl⟩
theorem E90_12 : aCode 90 12 = (Instr.ifCond .eq 17, 15, [29], 0) ∧ bMask 90 12 = [] := ⟨rfl, rfl⟩
theorem E90_15 : aCode 90 15 = (Instr.aload_n 0, 16, [], 0) ∧ bMask 90 15 = [] := ⟨rfl, rfl⟩
theorem E90_16 : aCode 90 16 = (Instr.invokevirtual 148, 19, [68, 1, 103, 6, 0, 50], 0) ∧ bMask 90 16 = [] := ⟨rfl, rfl⟩
theorem E90_19 : aCode 90 19 = (Instr.getfield 172, 22, [57, 0, 2, 2], 0) ∧ bMask 90 19 = [] := ⟨rfl, rfl⟩
theorem E90_22 : aCode 90 22 = (Instr.iload_n 1, 23, [], 0) ∧ bMask 90 22 = [] := ⟨rfl, rfl⟩
theorem E90_23 : aCode 90 23 = (Instr.aaload, 24, [2], 0) ∧ bMask 90 23 = [] := ⟨rfl, rfl⟩
theorem E90_24 : aCode 90 24 = (Instr.iload_n 2, 25, [], 0) ∧ bMask 90 24 = [] := ⟨rfl, rfl⟩
theorem E90_25 : aCode 90 25 = (Instr.iaload, 26, [0], 0) ∧ bMask 90 25 = [] := ⟨rfl, rfl⟩
theorem E90_26 : aCode 90 26 = (Instr.goto 4, 30, [], 0) ∧ bMask 90 26 = [] := ⟨rfl, rfl⟩
theorem E90_29 : aCode 90 29 = (Instr.iconst (-1), 30, [], (-1)) ∧ bMask 90 29 = [] := ⟨rfl, rfl⟩
theorem E90_30 : aCode 90 30 = (Instr.ireturn, 31, [0], 0) ∧ bMask 90 30 = [] := ⟨rfl, rfl⟩
theorem g_X6_rest_0 {Q : bQ} {M : bM} {x1 : Int32} {x2 : Int32} (h : bCall 66 [cR 0 0, cI x1] M (fun v1 M2 => bV1 v1 fun r3 => (((r3 = 0) → (Q (some (cI (-1 : Int32))) M2)) ∧ (¬ (r3 = 0) → (bCall 62 [cI x2] M2 (fun v4 M5 => bV1 v4 fun r6 => (((r6 = 0) → (Q (some (cI (-1 : Int32))) M5)) ∧ (¬ (r6 = 0) → (bCall 68 [cR 0 0] M5 (fun v7 M8 => bV4 v7 3 fun q9 => ((vp_in x1 4) ∧ ((vp_in x2 32) ∧ (Q (some (cI (M8 7 (29 + x1.toNatClampNeg) x2.toNatClampNeg))) M8))))))))))))) : bCall 90 [cR 0 0, cI x1, cI x2] M Q := s_aload_n E90_0.1 (k_ E90_0) rfl (s_iload_n E90_1.1 (k_ E90_1) rfl (s_vcall1 E90_2.1 (k_ E90_2) rfl rfl rfl h (fun M2 r3 z0 => s_if_eq E90_5.1 (k_ E90_5) ⟨fun c1 => s_iconst E90_29.1 (k_ E90_29) (s_iret E90_30.1 (k_ E90_30) (z0.1 c1)), fun c1 => s_iload_n E90_8.1 (k_ E90_8) rfl (s_scall1 E90_9.1 (k_ E90_9) rfl rfl rfl (z0.2 c1) (fun M5 r6 z2 => s_if_eq E90_12.1 (k_ E90_12) ⟨fun c3 => s_iconst E90_29.1 (k_ E90_29) (s_iret E90_30.1 (k_ E90_30) (z2.1 c3)), fun c3 => s_aload_n E90_15.1 (k_ E90_15) rfl (s_vcall103 E90_16.1 (k_ E90_16) rfl rfl rfl (z2.2 c3) (fun M8 q9 z4 => s_getR E90_19.1 (k_ E90_19) rfl rfl (s_iload_n E90_22.1 (k_ E90_22) rfl (s_aaload E90_23.1 (k_ E90_23) rfl ⟨z4.1, s_iload_n E90_24.1 (k_ E90_24) rfl (s_iaload E90_25.1 (k_ E90_25) rfl ⟨z4.2.1, s_goto E90_26.1 (k_ E90_26) (s_iret E90_30.1 (k_ E90_30) z4.2.2)⟩)⟩))))⟩))⟩)))
-- 91: X6_row
theorem E91_0 : aCode 91 0 = (Instr.aload_n 0, 1, [], 0) ∧ bMask 91 0 = [] := ⟨rfl, rfl⟩
theorem E91_1 : aCode 91 1 = (Instr.iload_n 1, 2, [], 0) ∧ bMask 91 1 = [] := ⟨rfl, rfl⟩
theorem E91_2 : aCode 91 2 = (Instr.invokevirtual 166, 5, [66, 2, 1, 6, 0, 49], 0) ∧ bMask 91 2 = [] := ⟨rfl, rfl⟩
theorem E91_5 : aCode 91 5 = (Instr.ifCond .eq 12, 8, [17], 0) ∧ bMask 91 5 = [] := ⟨rfl, rfl⟩
theorem E91_8 : aCode 91 8 = (Instr.iload_n 2, 9, [], 0) ∧ bMask 91 8 = [] := ⟨rfl, rfl⟩
theorem E91_9 : aCode 91 9 = (Instr.ifCond .lt 8, 12, [17], 0) ∧ bMask 91 9 = [] := ⟨rfl, rfl⟩
theorem E91_12 : aCode 91 12 = (Instr.iload_n 2, 13, [], 0) ∧ bMask 91 12 = [] := ⟨rfl, rfl⟩
theorem E91_13 : aCode 91 13 = (Instr.iconst 2, 14, [], 2) ∧ bMask 91 13 = [] := ⟨rfl, rfl⟩
theorem E91_14 : aCode 91 14 = (Instr.if_icmp .le 5, 17, [19], 0) ∧ bMask 91 14 = [] := ⟨rfl, rfl⟩
theorem E91_17 : aCode 91 17 = (Instr.iconst (-1), 18, [], (-1)) ∧ bMask 91 17 = [] := ⟨rfl, rfl⟩
theorem E91_18 : aCode 91 18 = (Instr.ireturn, 19, [0], 0) ∧ bMask 91 18 = [] := ⟨rfl, rfl⟩
theorem E91_19 : aCode 91 19 = (Instr.aload_n 0, 20, [], 0) ∧ bMask 91 19 = [] := ⟨rfl, rfl⟩
theorem E91_20 : aCode 91 20 = (Instr.invokevirtual 148, 23, [68, 1, 103, 6, 0, 50], 0) ∧ bMask 91 20 = [] := ⟨rfl, rfl⟩
theorem E91_23 : aCode 91 23 = (Instr.astore_n 3, 24, [], 0) ∧ bMask 91 23 = [] := ⟨rfl, rfl⟩
theorem E91_24 : aCode 91 24 = (Instr.iload_n 2, 25, [], 0) ∧ bMask 91 24 = [] := ⟨rfl, rfl⟩
theorem E91_25 : aCode 91 25 = (Instr.lookupswitch 40 #[(0, 27), (1, 34)], 52, [65, 52, 59], 0) ∧ bMask 91 25 = [] := ⟨rfl, rfl⟩
theorem E91_52 : aCode 91 52 = (Instr.aload_n 3, 53, [], 0) ∧ bMask 91 52 = [] := ⟨rfl, rfl⟩
theorem E91_53 : aCode 91 53 = (Instr.getfield 169, 56, [66, 0, 3, 2], 0) ∧ bMask 91 53 = [] := ⟨rfl, rfl⟩
theorem E91_56 : aCode 91 56 = (Instr.iload_n 1, 57, [], 0) ∧ bMask 91 56 = [] := ⟨rfl, rfl⟩
theorem E91_57 : aCode 91 57 = (Instr.iaload, 58, [0], 0) ∧ bMask 91 57 = [] := ⟨rfl, rfl⟩
theorem E91_58 : aCode 91 58 = (Instr.ireturn, 59, [0], 0) ∧ bMask 91 58 = [] := ⟨rfl, rfl⟩
theorem E91_59 : aCode 91 59 = (Instr.aload_n 3, 60, [], 0) ∧ bMask 91 59 = [] := ⟨rfl, rfl⟩
theorem E91_60 : aCode 91 60 = (Instr.iload_n 1, 61, [], 0) ∧ bMask 91 60 = [] := ⟨rfl, rfl⟩
theorem E91_61 : aCode 91 61 = (Instr.invokevirtual 160, 64, [8, 2, 1, 0, 0, 65], 0) ∧ bMask 91 61 = [] := ⟨rfl, rfl⟩
theorem E91_64 : aCode 91 64 = (Instr.ireturn, 65, [0], 0) ∧ bMask 91 64 = [] := ⟨rfl, rfl⟩
theorem E91_65 : aCode 91 65 = (Instr.aload_n 3, 66, [], 0) ∧ bMask 91 65 = [] := ⟨rfl, rfl⟩
theorem E91_66 : aCode 91 66 = (Instr.getfield 172, 69, [57, 0, 2, 2], 0) ∧ bMask 91 66 = [] := ⟨rfl, rfl⟩
theorem E91_69 : aCode 91 69 = (Instr.iload_n 1, 70, [], 0) ∧ bMask 91 69 = [] := ⟨rfl, rfl⟩
theorem E91_70 : aCode 91 70 = (Instr.aaload, 71, [2], 0) ∧ bMask 91 70 = [] := ⟨rfl, rfl⟩
theorem E91_71 : aCode 91 71 = (Instr.invokestatic 140, 74, [33, 1, 1, 0, 0, 52], 0) ∧ bMask 91 71 = [] := ⟨rfl, rfl⟩
theorem E91_74 : aCode 91 74 = (Instr.ireturn, 75, [0], 0) ∧ bMask 91 74 = [] := ⟨rfl, rfl⟩
theorem g_X6_row_0 {Q : bQ} {M : bM} {x1 : Int32} {x2 : Int32} (h : bCall 66 [cR 0 0, cI x1] M (fun v1 M2 => bV1 v1 fun r3 => (((r3 = 0) → (Q (some (cI (-1 : Int32))) M2)) ∧ (¬ (r3 = 0) → (((x2 < 0) → (Q (some (cI (-1 : Int32))) M2)) ∧ (¬ (x2 < 0) → (((x2 ≤ (2 : Int32)) → (bCall 68 [cR 0 0] M2 (fun v4 M5 => bV4 v4 3 fun q6 => (((x2 = Int32.ofInt 0) → ((vp_in x1 4) ∧ (Q (some (cI (M5 9 1 x1.toNatClampNeg))) M5))) ∧ (¬ (x2 = Int32.ofInt 0) → (((x2 = Int32.ofInt 1) → (bCall 8 [cR 3 q6, cI x1] M5 (fun v10 M11 => bV1 v10 fun r12 => (Q (some (cI r12)) M11)))) ∧ (¬ (x2 = Int32.ofInt 1) → ((vp_in x1 4) ∧ (bCall 33 [cR 7 (29 + x1.toNatClampNeg)] M5 (fun v7 M8 => bV1 v7 fun r9 => (Q (some (cI r9)) M8))))))))))) ∧ (¬ (x2 ≤ (2 : Int32)) → (Q (some (cI (-1 : Int32))) M2))))))))) : bCall 91 [cR 0 0, cI x1, cI x2] M Q := s_aload_n E91_0.1 (k_ E91_0) rfl (s_iload_n E91_1.1 (k_ E91_1) rfl (s_vcall1 E91_2.1 (k_ E91_2) rfl rfl rfl h (fun M2 r3 z0 => s_if_eq E91_5.1 (k_ E91_5) ⟨fun c1 => s_iconst E91_17.1 (k_ E91_17) (s_iret E91_18.1 (k_ E91_18) (z0.1 c1)), fun c1 => s_iload_n E91_8.1 (k_ E91_8) rfl (s_if_lt E91_9.1 (k_ E91_9) ⟨fun c2 => s_iconst E91_17.1 (k_ E91_17) (s_iret E91_18.1 (k_ E91_18) ((z0.2 c1).1 c2)), fun c2 => s_iload_n E91_12.1 (k_ E91_12) rfl (s_iconst E91_13.1 (k_ E91_13) (s_icmp_le E91_14.1 (k_ E91_14) ⟨fun c3 => s_aload_n E91_19.1 (k_ E91_19) rfl (s_vcall103 E91_20.1 (k_ E91_20) rfl rfl rfl (((z0.2 c1).2 c2).1 c3) (fun M5 q6 z4 => s_astore_n E91_23.1 (k_ E91_23) (s_iload_n E91_24.1 (k_ E91_24) rfl (s_lsw E91_25.1 (k_ E91_25) (And.intro (fun c5 => s_aload_n E91_52.1 (k_ E91_52) rfl (s_getR E91_53.1 (k_ E91_53) rfl rfl (s_iload_n E91_56.1 (k_ E91_56) rfl (s_iaload E91_57.1 (k_ E91_57) rfl ⟨(z4.1 c5).1, s_iret E91_58.1 (k_ E91_58) ((z4.1 c5).2)⟩)))) (fun c5 => And.intro (fun c6 => s_aload_n E91_59.1 (k_ E91_59) rfl (s_iload_n E91_60.1 (k_ E91_60) rfl (s_vcall1 E91_61.1 (k_ E91_61) rfl rfl rfl ((z4.2 c5).1 c6) (fun M11 r12 z7 => s_iret E91_64.1 (k_ E91_64) z7)))) (fun c6 => s_aload_n E91_65.1 (k_ E91_65) rfl (s_getR E91_66.1 (k_ E91_66) rfl rfl (s_iload_n E91_69.1 (k_ E91_69) rfl (s_aaload E91_70.1 (k_ E91_70) rfl ⟨((z4.2 c5).2 c6).1, s_scall1 E91_71.1 (k_ E91_71) rfl rfl rfl (((z4.2 c5).2 c6).2) (fun M8 r9 z8 => s_iret E91_74.1 (k_ E91_74) z8)⟩)))))))))), fun c3 => s_iconst E91_17.1 (k_ E91_17) (s_iret E91_18.1 (k_ E91_18) (((z0.2 c1).2 c2).2 c3))⟩))⟩)⟩)))
-- 92: X6_sheet
theorem E92_0 : aCode 92 0 = (Instr.iload_n 1, 1, [], 0) ∧ bMask 92 0 = [] := ⟨rfl, rfl⟩
theorem E92_1 : aCode 92 1 = (Instr.invokestatic 179, 4, [80, 1, 1, 0, 0, 75], 0) ∧ bMask 92 1 = [] := ⟨rfl, rfl⟩
theorem E92_4 : aCode 92 4 = (Instr.ifCond .eq 18, 7, [22], 0) ∧ bMask 92 4 = [] := ⟨rfl, rfl⟩
theorem E92_7 : aCode 92 7 = (Instr.iload_n 2, 8, [], 0) ∧ bMask 92 7 = [] := ⟨rfl, rfl⟩
theorem E92_8 : aCode 92 8 = (Instr.ifCond .lt 14, 11, [22], 0) ∧ bMask 92 8 = [] := ⟨rfl, rfl⟩
theorem E92_11 : aCode 92 11 = (Instr.iload_n 2, 12, [], 0) ∧ bMask 92 11 = [] := ⟨rfl, rfl⟩
theorem E92_12 : aCode 92 12 = (Instr.iconst 1, 13, [], 1) ∧ bMask 92 12 = [] := ⟨rfl, rfl⟩
theorem E92_13 : aCode 92 13 = (Instr.if_icmp .gt 9, 16, [22], 0) ∧ bMask 92 13 = [] := ⟨rfl, rfl⟩
theorem E92_16 : aCode 92 16 = (Instr.iload_n 3, 17, [], 0) ∧ bMask 92 16 = [] := ⟨rfl, rfl⟩
theorem E92_17 : aCode 92 17 = (Instr.bipush 40, 19, [], 40) ∧ bMask 92 17 = [] := ⟨rfl, rfl⟩
theorem E92_19 : aCode 92 19 = (Instr.if_icmp .le 5, 22, [24], 0) ∧ bMask 92 19 = [] := ⟨rfl, rfl⟩
theorem E92_22 : aCode 92 22 = (Instr.iconst (-1), 23, [], (-1)) ∧ bMask 92 22 = [] := ⟨rfl, rfl⟩
theorem E92_23 : aCode 92 23 = (Instr.ireturn, 24, [0], 0) ∧ bMask 92 23 = [] := ⟨rfl, rfl⟩
theorem E92_24 : aCode 92 24 = (Instr.iload_n 3, 25, [], 0) ∧ bMask 92 24 = [] := ⟨rfl, rfl⟩
theorem E92_25 : aCode 92 25 = (Instr.ifCond .ge 6, 28, [31], 0) ∧ bMask 92 25 = [] := ⟨rfl, rfl⟩
theorem E92_28 : aCode 92 28 = (Instr.bipush (-14), 30, [], (-14)) ∧ bMask 92 28 = [] := ⟨rfl, rfl⟩
theorem E92_30 : aCode 92 30 = (Instr.ireturn, 31, [0], 0) ∧ bMask 92 30 = [] := ⟨rfl, rfl⟩
theorem E92_31 : aCode 92 31 = (Instr.aload_n 0, 32, [], 0) ∧ bMask 92 31 = [] := ⟨rfl, rfl⟩
theorem E92_32 : aCode 92 32 = (Instr.getfield 73, 35, [58, 6, 13, 2], 0) ∧ bMask 92 32 = [] := ⟨rfl, rfl⟩
theorem E92_35 : aCode 92 35 = (Instr.iload_n 1, 36, [], 0) ∧ bMask 92 35 = [] := ⟨rfl, rfl⟩
theorem E92_36 : aCode 92 36 = (Instr.aaload, 37, [4], 0) ∧ bMask 92 36 = [] := ⟨rfl, rfl⟩
theorem E92_37 : aCode 92 37 = (Instr.iload_n 2, 38, [], 0) ∧ bMask 92 37 = [] := ⟨rfl, rfl⟩
theorem E92_38 : aCode 92 38 = (Instr.iload_n 3, 39, [], 0) ∧ bMask 92 38 = [] := ⟨rfl, rfl⟩
theorem E92_39 : aCode 92 39 = (Instr.invokevirtual 251, 42, [54, 3, 0, 5, 0, 83], 0) ∧ bMask 92 39 = [] := ⟨rfl, rfl⟩
theorem E92_42 : aCode 92 42 = (Instr.iconst 1, 43, [], 1) ∧ bMask 92 42 = [] := ⟨rfl, rfl⟩
theorem E92_43 : aCode 92 43 = (Instr.ireturn, 44, [0], 0) ∧ bMask 92 43 = [] := ⟨rfl, rfl⟩
theorem g_X6_sheet_0 {Q : bQ} {M : bM} {x1 : Int32} {x2 : Int32} {x3 : Int32} (h : bCall 80 [cI x1] M (fun v1 M2 => bV1 v1 fun r3 => (((r3 = 0) → (Q (some (cI (-1 : Int32))) M2)) ∧ (¬ (r3 = 0) → (((x2 < 0) → (Q (some (cI (-1 : Int32))) M2)) ∧ (¬ (x2 < 0) → ((((1 : Int32) < x2) → (Q (some (cI (-1 : Int32))) M2)) ∧ (¬ ((1 : Int32) < x2) → (((x3 ≤ (40 : Int32)) → (((0 ≤ x3) → ((vp_in x1 3) ∧ (bCall 54 [cR 6 x1.toNatClampNeg, cI x2, cI x3] M2 (fun v4 M5 => bV0 v4 (Q (some (cI (1 : Int32))) M5))))) ∧ (¬ (0 ≤ x3) → (Q (some (cI (-14 : Int32))) M2)))) ∧ (¬ (x3 ≤ (40 : Int32)) → (Q (some (cI (-1 : Int32))) M2))))))))))) : bCall 92 [cR 0 0, cI x1, cI x2, cI x3] M Q := s_iload_n E92_0.1 (k_ E92_0) rfl (s_scall1 E92_1.1 (k_ E92_1) rfl rfl rfl h (fun M2 r3 z0 => s_if_eq E92_4.1 (k_ E92_4) ⟨fun c1 => s_iconst E92_22.1 (k_ E92_22) (s_iret E92_23.1 (k_ E92_23) (z0.1 c1)), fun c1 => s_iload_n E92_7.1 (k_ E92_7) rfl (s_if_lt E92_8.1 (k_ E92_8) ⟨fun c2 => s_iconst E92_22.1 (k_ E92_22) (s_iret E92_23.1 (k_ E92_23) ((z0.2 c1).1 c2)), fun c2 => s_iload_n E92_11.1 (k_ E92_11) rfl (s_iconst E92_12.1 (k_ E92_12) (s_icmp_gt E92_13.1 (k_ E92_13) ⟨fun c3 => s_iconst E92_22.1 (k_ E92_22) (s_iret E92_23.1 (k_ E92_23) (((z0.2 c1).2 c2).1 c3)), fun c3 => s_iload_n E92_16.1 (k_ E92_16) rfl (s_bipush E92_17.1 (k_ E92_17) (s_icmp_le E92_19.1 (k_ E92_19) ⟨fun c4 => s_iload_n E92_24.1 (k_ E92_24) rfl (s_if_ge E92_25.1 (k_ E92_25) ⟨fun c5 => s_aload_n E92_31.1 (k_ E92_31) rfl (s_getR E92_32.1 (k_ E92_32) rfl rfl (s_iload_n E92_35.1 (k_ E92_35) rfl (s_aaload E92_36.1 (k_ E92_36) rfl ⟨(((((z0.2 c1).2 c2).2 c3).1 c4).1 c5).1, s_iload_n E92_37.1 (k_ E92_37) rfl (s_iload_n E92_38.1 (k_ E92_38) rfl (s_vcall0 E92_39.1 (k_ E92_39) rfl rfl rfl ((((((z0.2 c1).2 c2).2 c3).1 c4).1 c5).2) (fun M5 z6 => s_iconst E92_42.1 (k_ E92_42) (s_iret E92_43.1 (k_ E92_43) z6))))⟩))), fun c5 => s_bipush E92_28.1 (k_ E92_28) (s_iret E92_30.1 (k_ E92_30) (((((z0.2 c1).2 c2).2 c3).1 c4).2 c5))⟩), fun c4 => s_iconst E92_22.1 (k_ E92_22) (s_iret E92_23.1 (k_ E92_23) ((((z0.2 c1).2 c2).2 c3).2 c4))⟩))⟩))⟩)⟩))
-- 93: X6_shift
theorem E93_0 : aCode 93 0 = (Instr.iload_n 1, 1, [], 0) ∧ bMask 93 0 = [] := ⟨rfl, rfl⟩
theorem E93_1 : aCode 93 1 = (Instr.invokestatic 91, 4, [61, 1, 1, 0, 0, 43], 0) ∧ bMask 93 1 = [] := ⟨rfl, rfl⟩
theorem E93_4 : aCode 93 4 = (Instr.ifCond .eq 17, 7, [21], 0) ∧ bMask 93 4 = [] := ⟨rfl, rfl⟩
theorem E93_7 : aCode 93 7 = (Instr.iload_n 2, 8, [], 0) ∧ bMask 93 7 = [] := ⟨rfl, rfl⟩
theorem E93_8 : aCode 93 8 = (Instr.invokestatic 94, 11, [62, 1, 1, 0, 0, 44], 0) ∧ bMask 93 8 = [] := ⟨rfl, rfl⟩
theorem E93_11 : aCode 93 11 = (Instr.ifCond .eq 10, 14, [21], 0) ∧ bMask 93 11 = [] := ⟨rfl, rfl⟩
theorem E93_14 : aCode 93 14 = (Instr.iload_n 3, 15, [], 0) ∧ bMask 93 14 = [] := ⟨rfl, rfl⟩
theorem E93_15 : aCode 93 15 = (Instr.invokestatic 91, 18, [61, 1, 1, 0, 0, 43], 0) ∧ bMask 93 15 = [] := ⟨rfl, rfl⟩
theorem E93_18 : aCode 93 18 = (Instr.ifCond .ne 5, 21, [23], 0) ∧ bMask 93 18 = [] := ⟨rfl, rfl⟩
theorem E93_21 : aCode 93 21 = (Instr.iconst (-1), 22, [], (-1)) ∧ bMask 93 21 = [] := ⟨rfl, rfl⟩
theorem E93_22 : aCode 93 22 = (Instr.ireturn, 23, [0], 0) ∧ bMask 93 22 = [] := ⟨rfl, rfl⟩
theorem E93_23 : aCode 93 23 = (Instr.aload_n 0, 24, [], 0) ∧ bMask 93 23 = [] := ⟨rfl, rfl⟩
theorem E93_24 : aCode 93 24 = (Instr.getfield 18, 27, [42, 6, 1, 2], 0) ∧ bMask 93 24 = [] := ⟨rfl, rfl⟩
theorem E93_27 : aCode 93 27 = (Instr.iload_n 1, 28, [], 0) ∧ bMask 93 27 = [] := ⟨rfl, rfl⟩
theorem E93_28 : aCode 93 28 = (Instr.aaload, 29, [2], 0) ∧ bMask 93 28 = [] := ⟨rfl, rfl⟩
theorem E93_29 : aCode 93 29 = (Instr.iconst 0, 30, [], 0) ∧ bMask 93 29 = [] := ⟨rfl, rfl⟩
theorem E93_30 : aCode 93 30 = (Instr.aload_n 0, 31, [], 0) ∧ bMask 93 30 = [] := ⟨rfl, rfl⟩
theorem E93_31 : aCode 93 31 = (Instr.getfield 18, 34, [42, 6, 1, 2], 0) ∧ bMask 93 31 = [] := ⟨rfl, rfl⟩
theorem E93_34 : aCode 93 34 = (Instr.iload_n 3, 35, [], 0) ∧ bMask 93 34 = [] := ⟨rfl, rfl⟩
theorem E93_35 : aCode 93 35 = (Instr.aaload, 36, [2], 0) ∧ bMask 93 35 = [] := ⟨rfl, rfl⟩
theorem E93_36 : aCode 93 36 = (Instr.iload_n 2, 37, [], 0) ∧ bMask 93 36 = [] := ⟨rfl, rfl⟩
theorem E93_37 : aCode 93 37 = (Instr.bipush 32, 39, [], 32) ∧ bMask 93 37 = [] := ⟨rfl, rfl⟩
theorem E93_39 : aCode 93 39 = (Instr.iload_n 2, 40, [], 0) ∧ bMask 93 39 = [] := ⟨rfl, rfl⟩
theorem E93_40 : aCode 93 40 = (Instr.isub, 41, [], 0) ∧ bMask 93 40 = [] := ⟨rfl, rfl⟩
theorem E93_41 : aCode 93 41 = (Instr.invokestatic 120, 44, [1000, 120], 0) ∧ bMask 93 41 = [] := ⟨rfl, rfl⟩
theorem E93_44 : aCode 93 44 = (Instr.aload_n 0, 45, [], 0) ∧ bMask 93 44 = [] := ⟨rfl, rfl⟩
theorem E93_45 : aCode 93 45 = (Instr.getfield 18, 48, [42, 6, 1, 2], 0) ∧ bMask 93 45 = [] := ⟨rfl, rfl⟩
theorem E93_48 : aCode 93 48 = (Instr.iload_n 3, 49, [], 0) ∧ bMask 93 48 = [] := ⟨rfl, rfl⟩
theorem E93_49 : aCode 93 49 = (Instr.aaload, 50, [2], 0) ∧ bMask 93 49 = [] := ⟨rfl, rfl⟩
theorem E93_50 : aCode 93 50 = (Instr.iconst 0, 51, [], 0) ∧ bMask 93 50 = [] := ⟨rfl, rfl⟩
theorem E93_51 : aCode 93 51 = (Instr.iload_n 2, 52, [], 0) ∧ bMask 93 51 = [] := ⟨rfl, rfl⟩
theorem E93_52 : aCode 93 52 = (Instr.iconst 0, 53, [], 0) ∧ bMask 93 52 = [] := ⟨rfl, rfl⟩
theorem E93_53 : aCode 93 53 = (Instr.invokestatic 126, 56, [3, 4, 0, 0, 0, 84], 0) ∧ bMask 93 53 = [] := ⟨rfl, rfl⟩
theorem E93_56 : aCode 93 56 = (Instr.aload_n 0, 57, [], 0) ∧ bMask 93 56 = [] := ⟨rfl, rfl⟩
theorem E93_57 : aCode 93 57 = (Instr.iconst 1, 58, [], 1) ∧ bMask 93 57 = [] := ⟨rfl, rfl⟩
theorem E93_58 : aCode 93 58 = (Instr.putfield 48, 61, [51, 6, 7, 1], 0) ∧ bMask 93 58 = [] := ⟨rfl, rfl⟩
theorem E93_61 : aCode 93 61 = (Instr.iconst 1, 62, [], 1) ∧ bMask 93 61 = [] := ⟨rfl, rfl⟩
theorem E93_62 : aCode 93 62 = (Instr.ireturn, 63, [0], 0) ∧ bMask 93 62 = [] := ⟨rfl, rfl⟩
theorem g_X6_shift_0 {Q : bQ} {M : bM} {x1 : Int32} {x2 : Int32} {x3 : Int32} (h : bCall 61 [cI x1] M (fun v1 M2 => bV1 v1 fun r3 => (((r3 = 0) → (Q (some (cI (-1 : Int32))) M2)) ∧ (¬ (r3 = 0) → (bCall 62 [cI x2] M2 (fun v4 M5 => bV1 v4 fun r6 => (((r6 = 0) → (Q (some (cI (-1 : Int32))) M5)) ∧ (¬ (r6 = 0) → (bCall 61 [cI x3] M5 (fun v7 M8 => bV1 v7 fun r9 => (((¬ r9 = 0) → ((vp_in x1 6) ∧ ((vp_in x3 6) ∧ ((¬ (0 : Int32) < 0 ∧ ¬ x2 < 0 ∧ ¬ ((32 : Int32) - x2) < 0 ∧ (0 : Int32).toNatClampNeg + ((32 : Int32) - x2).toNatClampNeg ≤ 32 ∧ x2.toNatClampNeg + ((32 : Int32) - x2).toNatClampNeg ≤ 32) ∧ ((vp_in x3 6) ∧ (bCall 3 [cR 7 x3.toNatClampNeg, cI (0 : Int32), cI x2, cI (0 : Int32)] (bCp M8 7 x1.toNatClampNeg 7 x3.toNatClampNeg (0 : Int32) x2 ((32 : Int32) - x2)) (fun v10 M11 => bV0 v10 (((1 : Int32) = 0 ∨ (1 : Int32) = 1) ∧ (Q (some (cI (1 : Int32))) (bU M11 0 0 7 (1 : Int32))))))))))) ∧ (¬ (¬ r9 = 0) → (Q (some (cI (-1 : Int32))) M8))))))))))))) : bCall 93 [cR 0 0, cI x1, cI x2, cI x3] M Q := s_iload_n E93_0.1 (k_ E93_0) rfl (s_scall1 E93_1.1 (k_ E93_1) rfl rfl rfl h (fun M2 r3 z0 => s_if_eq E93_4.1 (k_ E93_4) ⟨fun c1 => s_iconst E93_21.1 (k_ E93_21) (s_iret E93_22.1 (k_ E93_22) (z0.1 c1)), fun c1 => s_iload_n E93_7.1 (k_ E93_7) rfl (s_scall1 E93_8.1 (k_ E93_8) rfl rfl rfl (z0.2 c1) (fun M5 r6 z2 => s_if_eq E93_11.1 (k_ E93_11) ⟨fun c3 => s_iconst E93_21.1 (k_ E93_21) (s_iret E93_22.1 (k_ E93_22) (z2.1 c3)), fun c3 => s_iload_n E93_14.1 (k_ E93_14) rfl (s_scall1 E93_15.1 (k_ E93_15) rfl rfl rfl (z2.2 c3) (fun M8 r9 z4 => s_if_ne E93_18.1 (k_ E93_18) ⟨fun c5 => s_aload_n E93_23.1 (k_ E93_23) rfl (s_getR E93_24.1 (k_ E93_24) rfl rfl (s_iload_n E93_27.1 (k_ E93_27) rfl (s_aaload E93_28.1 (k_ E93_28) rfl ⟨(z4.1 c5).1, s_iconst E93_29.1 (k_ E93_29) (s_aload_n E93_30.1 (k_ E93_30) rfl (s_getR E93_31.1 (k_ E93_31) rfl rfl (s_iload_n E93_34.1 (k_ E93_34) rfl (s_aaload E93_35.1 (k_ E93_35) rfl ⟨((z4.1 c5).2).1, s_iload_n E93_36.1 (k_ E93_36) rfl (s_bipush E93_37.1 (k_ E93_37) (s_iload_n E93_39.1 (k_ E93_39) rfl (s_isub E93_40.1 (k_ E93_40) (s_acopy E93_41.1 (k_ E93_41) rfl ⟨(((z4.1 c5).2).2).1, s_aload_n E93_44.1 (k_ E93_44) rfl (s_getR E93_45.1 (k_ E93_45) rfl rfl (s_iload_n E93_48.1 (k_ E93_48) rfl (s_aaload E93_49.1 (k_ E93_49) rfl ⟨((((z4.1 c5).2).2).2).1, s_iconst E93_50.1 (k_ E93_50) (s_iload_n E93_51.1 (k_ E93_51) rfl (s_iconst E93_52.1 (k_ E93_52) (s_scall0 E93_53.1 (k_ E93_53) rfl rfl rfl (((((z4.1 c5).2).2).2).2) (fun M11 z6 => s_aload_n E93_56.1 (k_ E93_56) rfl (s_iconst E93_57.1 (k_ E93_57) (s_putZ E93_58.1 (k_ E93_58) rfl ⟨z6.1, s_iconst E93_61.1 (k_ E93_61) (s_iret E93_62.1 (k_ E93_62) z6.2)⟩))))))⟩)))⟩))))⟩))))⟩))), fun c5 => s_iconst E93_21.1 (k_ E93_21) (s_iret E93_22.1 (k_ E93_22) (z4.2 c5))⟩))⟩))⟩))
-- 94: X6_spills
theorem E94_0 : aCode 94 0 = (Instr.iload_n 1, 1, [], 0) ∧ bMask 94 0 = [] := ⟨rfl, rfl⟩
theorem E94_1 : aCode 94 1 = (Instr.invokestatic 91, 4, [61, 1, 1, 0, 0, 43], 0) ∧ bMask 94 1 = [] := ⟨rfl, rfl⟩
theorem E94_4 : aCode 94 4 = (Instr.ifCond .eq 10, 7, [14], 0) ∧ bMask 94 4 = [] := ⟨rfl, rfl⟩
theorem E94_7 : aCode 94 7 = (Instr.iload_n 2, 8, [], 0) ∧ bMask 94 7 = [] := ⟨rfl, rfl⟩
theorem E94_8 : aCode 94 8 = (Instr.invokestatic 179, 11, [80, 1, 1, 0, 0, 75], 0) ∧ bMask 94 8 = [] := ⟨rfl, rfl⟩
theorem E94_11 : aCode 94 11 = (Instr.ifCond .ne 5, 14, [16], 0) ∧ bMask 94 11 = [] := ⟨rfl, rfl⟩
theorem E94_14 : aCode 94 14 = (Instr.iconst (-1), 15, [], (-1)) ∧ bMask 94 14 = [] := ⟨rfl, rfl⟩
theorem E94_15 : aCode 94 15 = (Instr.ireturn, 16, [0], 0) ∧ bMask 94 15 = [] := ⟨rfl, rfl⟩
theorem E94_16 : aCode 94 16 = (Instr.aload_n 0, 17, [], 0) ∧ bMask 94 16 = [] := ⟨rfl, rfl⟩
theorem E94_17 : aCode 94 17 = (Instr.getfield 73, 20, [58, 6, 13, 2], 0) ∧ bMask 94 17 = [] := ⟨rfl, rfl⟩
theorem E94_20 : aCode 94 20 = (Instr.iload_n 2, 21, [], 0) ∧ bMask 94 20 = [] := ⟨rfl, rfl⟩
theorem E94_21 : aCode 94 21 = (Instr.aaload, 22, [4], 0) ∧ bMask 94 21 = [] := ⟨rfl, rfl⟩
theorem E94_22 : aCode 94 22 = (Instr.invokevirtual 182, 25, [57, 1, 1, 5, 0, 51], 0) ∧ bMask 94 22 = [] := ⟨rfl, rfl⟩
theorem E94_25 : aCode 94 25 = (Instr.ifCond .eq 6, 28, [31], 0) ∧ bMask 94 25 = [] := ⟨rfl, rfl⟩
theorem E94_28 : aCode 94 28 = (Instr.bipush (-11), 30, [], (-11)) ∧ bMask 94 28 = [] := ⟨rfl, rfl⟩
theorem E94_30 : aCode 94 30 = (Instr.ireturn, 31, [0], 0) ∧ bMask 94 30 = [] := ⟨rfl, rfl⟩
theorem E94_31 : aCode 94 31 = (Instr.aload_n 0, 32, [], 0) ∧ bMask 94 31 = [] := ⟨rfl, rfl⟩
theorem E94_32 : aCode 94 32 = (Instr.getfield 73, 35, [58, 6, 13, 2], 0) ∧ bMask 94 32 = [] := ⟨rfl, rfl⟩
theorem E94_35 : aCode 94 35 = (Instr.iload_n 2, 36, [], 0) ∧ bMask 94 35 = [] := ⟨rfl, rfl⟩
theorem E94_36 : aCode 94 36 = (Instr.aaload, 37, [4], 0) ∧ bMask 94 36 = [] := ⟨rfl, rfl⟩
theorem E94_37 : aCode 94 37 = (Instr.getfield 283, 40, [63, 5, 2, 0], 0) ∧ bMask 94 37 = [] := ⟨rfl, rfl⟩
theorem E94_40 : aCode 94 40 = (Instr.bipush 32, 42, [], 32) ∧ bMask 94 40 = [] := ⟨rfl, rfl⟩
theorem E94_42 : aCode 94 42 = (Instr.invokestatic 284, 45, [6, 2, 1, 0, 0, 78], 0) ∧ bMask 94 42 = [] := ⟨rfl, rfl⟩
theorem E94_45 : aCode 94 45 = (Instr.istore_n 3, 46, [], 0) ∧ bMask 94 45 = [] := ⟨rfl, rfl⟩
theorem E94_46 : aCode 94 46 = (Instr.iconst 0, 47, [], 0) ∧ bMask 94 46 = [] := ⟨rfl, rfl⟩
theorem E94_47 : aCode 94 47 = (Instr.istore 4, 49, [], 0) ∧ bMask 94 47 = [] := ⟨rfl, rfl⟩
theorem E94_49 : aCode 94 49 = (Instr.iload 4, 51, [], 0) ∧ bMask 94 49 = [] := ⟨rfl, rfl⟩
theorem E94_51 : aCode 94 51 = (Instr.iload_n 3, 52, [], 0) ∧ bMask 94 51 = [] := ⟨rfl, rfl⟩
theorem E94_52 : aCode 94 52 = (Instr.if_icmp .ge 29, 55, [81], 0) ∧ bMask 94 52 = [] := ⟨rfl, rfl⟩
theorem E94_55 : aCode 94 55 = (Instr.aload_n 0, 56, [], 0) ∧ bMask 94 55 = [] := ⟨rfl, rfl⟩
theorem E94_56 : aCode 94 56 = (Instr.getfield 73, 59, [58, 6, 13, 2], 0) ∧ bMask 94 56 = [] := ⟨rfl, rfl⟩
theorem E94_59 : aCode 94 59 = (Instr.iload_n 2, 60, [], 0) ∧ bMask 94 59 = [] := ⟨rfl, rfl⟩
theorem E94_60 : aCode 94 60 = (Instr.aaload, 61, [4], 0) ∧ bMask 94 60 = [] := ⟨rfl, rfl⟩
theorem E94_61 : aCode 94 61 = (Instr.iload 4, 63, [], 0) ∧ bMask 94 61 = [] := ⟨rfl, rfl⟩
theorem E94_63 : aCode 94 63 = (Instr.aload_n 0, 64, [], 0) ∧ bMask 94 63 = [] := ⟨rfl, rfl⟩
theorem E94_64 : aCode 94 64 = (Instr.getfield 18, 67, [42, 6, 1, 2], 0) ∧ bMask 94 64 = [] := ⟨rfl, rfl⟩
theorem E94_67 : aCode 94 67 = (Instr.iload_n 1, 68, [], 0) ∧ bMask 94 67 = [] := ⟨rfl, rfl⟩
theorem E94_68 : aCode 94 68 = (Instr.aaload, 69, [2], 0) ∧ bMask 94 68 = [] := ⟨rfl, rfl⟩
theorem E94_69 : aCode 94 69 = (Instr.iload 4, 71, [], 0) ∧ bMask 94 69 = [] := ⟨rfl, rfl⟩
theorem E94_71 : aCode 94 71 = (Instr.iaload, 72, [0], 0) ∧ bMask 94 71 = [] := ⟨rfl, rfl⟩
theorem E94_72 : aCode 94 72 = (Instr.invokevirtual 258, 75, [58, 3, 0, 5, 0, 81], 0) ∧ bMask 94 72 = [] := ⟨rfl, rfl⟩
theorem E94_75 : aCode 94 75 = (Instr.iinc 4 1, 78, [], 1) ∧ bMask 94 75 = [] := ⟨rfl, rfl⟩
theorem E94_78 : aCode 94 78 = (Instr.goto (-29), 49, [], 0) ∧ bMask 94 78 = [] := ⟨rfl, rfl⟩
theorem E94_81 : aCode 94 81 = (Instr.iload_n 3, 82, [], 0) ∧ bMask 94 81 = [] := ⟨rfl, rfl⟩
theorem E94_82 : aCode 94 82 = (Instr.ireturn, 83, [0], 0) ∧ bMask 94 82 = [] := ⟨rfl, rfl⟩
theorem g_X6_spills_0 {Q : bQ} {M : bM} {x1 : Int32} {x2 : Int32} (h : bCall 61 [cI x1] M (fun v1 M2 => bV1 v1 fun r3 => (((r3 = 0) → (Q (some (cI (-1 : Int32))) M2)) ∧ (¬ (r3 = 0) → (bCall 80 [cI x2] M2 (fun v4 M5 => bV1 v4 fun r6 => (((¬ r6 = 0) → ((vp_in x2 3) ∧ (bCall 57 [cR 6 x2.toNatClampNeg] M5 (fun v7 M8 => bV1 v7 fun r9 => (((r9 = 0) → ((vp_in x2 3) ∧ (bCall 6 [cI (M8 6 x2.toNatClampNeg 2), cI (32 : Int32)] M8 (fun v10 M11 => bV1 v10 fun r12 => (bGo 94 Q 49 [some (cR 0 0), some (cI x1), some (cI x2), some (cI r12), some (cI (0 : Int32))] [] M11))))) ∧ (¬ (r9 = 0) → (Q (some (cI (-11 : Int32))) M8))))))) ∧ (¬ (¬ r6 = 0) → (Q (some (cI (-1 : Int32))) M5))))))))) : bCall 94 [cR 0 0, cI x1, cI x2] M Q := s_iload_n E94_0.1 (k_ E94_0) rfl (s_scall1 E94_1.1 (k_ E94_1) rfl rfl rfl h (fun M2 r3 z0 => s_if_eq E94_4.1 (k_ E94_4) ⟨fun c1 => s_iconst E94_14.1 (k_ E94_14) (s_iret E94_15.1 (k_ E94_15) (z0.1 c1)), fun c1 => s_iload_n E94_7.1 (k_ E94_7) rfl (s_scall1 E94_8.1 (k_ E94_8) rfl rfl rfl (z0.2 c1) (fun M5 r6 z2 => s_if_ne E94_11.1 (k_ E94_11) ⟨fun c3 => s_aload_n E94_16.1 (k_ E94_16) rfl (s_getR E94_17.1 (k_ E94_17) rfl rfl (s_iload_n E94_20.1 (k_ E94_20) rfl (s_aaload E94_21.1 (k_ E94_21) rfl ⟨(z2.1 c3).1, s_vcall1 E94_22.1 (k_ E94_22) rfl rfl rfl ((z2.1 c3).2) (fun M8 r9 z4 => s_if_eq E94_25.1 (k_ E94_25) ⟨fun c5 => s_aload_n E94_31.1 (k_ E94_31) rfl (s_getR E94_32.1 (k_ E94_32) rfl rfl (s_iload_n E94_35.1 (k_ E94_35) rfl (s_aaload E94_36.1 (k_ E94_36) rfl ⟨(z4.1 c5).1, s_getI0 E94_37.1 (k_ E94_37) rfl (s_bipush E94_40.1 (k_ E94_40) (s_scall1 E94_42.1 (k_ E94_42) rfl rfl rfl ((z4.1 c5).2) (fun M11 r12 z6 => s_istore_n E94_45.1 (k_ E94_45) (s_iconst E94_46.1 (k_ E94_46) (s_istore E94_47.1 (k_ E94_47) (z6))))))⟩))), fun c5 => s_bipush E94_28.1 (k_ E94_28) (s_iret E94_30.1 (k_ E94_30) (z4.2 c5))⟩)⟩))), fun c3 => s_iconst E94_14.1 (k_ E94_14) (s_iret E94_15.1 (k_ E94_15) (z2.2 c3))⟩))⟩))
theorem g_X6_spills_49 {Q : bQ} {M : bM} {x1 : Int32} {x2 : Int32} {x3 : Int32} {x4 : Int32} (h : ((x3 ≤ x4) → (Q (some (cI x3)) M)) ∧ (¬ (x3 ≤ x4) → ((vp_in x2 3) ∧ ((vp_in x1 6) ∧ ((vp_in x4 32) ∧ (bCall 58 [cR 6 x2.toNatClampNeg, cI x4, cI (M 7 x1.toNatClampNeg x4.toNatClampNeg)] M (fun v1 M2 => bV0 v1 (bGo 94 Q 49 [some (cR 0 0), some (cI x1), some (cI x2), some (cI x3), some (cI (x4 + (1 : Int32)))] [] M2)))))))) : bGo 94 Q 49 [some (cR 0 0), some (cI x1), some (cI x2), some (cI x3), some (cI x4)] [] M := s_iload E94_49.1 (k_ E94_49) rfl (s_iload_n E94_51.1 (k_ E94_51) rfl (s_icmp_ge E94_52.1 (k_ E94_52) ⟨fun c7 => s_iload_n E94_81.1 (k_ E94_81) rfl (s_iret E94_82.1 (k_ E94_82) (h.1 c7)), fun c7 => s_aload_n E94_55.1 (k_ E94_55) rfl (s_getR E94_56.1 (k_ E94_56) rfl rfl (s_iload_n E94_59.1 (k_ E94_59) rfl (s_aaload E94_60.1 (k_ E94_60) rfl ⟨(h.2 c7).1, s_iload E94_61.1 (k_ E94_61) rfl (s_aload_n E94_63.1 (k_ E94_63) rfl (s_getR E94_64.1 (k_ E94_64) rfl rfl (s_iload_n E94_67.1 (k_ E94_67) rfl (s_aaload E94_68.1 (k_ E94_68) rfl ⟨((h.2 c7).2).1, s_iload E94_69.1 (k_ E94_69) rfl (s_iaload E94_71.1 (k_ E94_71) rfl ⟨(((h.2 c7).2).2).1, s_vcall0 E94_72.1 (k_ E94_72) rfl rfl rfl ((((h.2 c7).2).2).2) (fun M2 z8 => s_iinc E94_75.1 (k_ E94_75) rfl (s_goto E94_78.1 (k_ E94_78) (z8)))⟩)⟩))))⟩)))⟩))
-- 95: X6_strike
theorem E95_0 : aCode 95 0 = (Instr.aload_n 0, 1, [], 0) ∧ bMask 95 0 = [] := ⟨rfl, rfl⟩
theorem E95_1 : aCode 95 1 = (Instr.getfield 67, 4, [43, 6, 12, 2], 0) ∧ bMask 95 1 = [] := ⟨rfl, rfl⟩
theorem E95_4 : aCode 95 4 = (Instr.iload_n 1, 5, [], 0) ∧ bMask 95 4 = [] := ⟨rfl, rfl⟩
theorem E95_5 : aCode 95 5 = (Instr.invokevirtual 225, 8, [20, 2, 205, 1, 0, 45], 0) ∧ bMask 95 5 = [] := ⟨rfl, rfl⟩
theorem E95_8 : aCode 95 8 = (Instr.astore_n 2, 9, [], 0) ∧ bMask 95 8 = [] := ⟨rfl, rfl⟩
theorem E95_9 : aCode 95 9 = (Instr.aload_n 2, 10, [], 0) ∧ bMask 95 9 = [] := ⟨rfl, rfl⟩
theorem E95_10 : aCode 95 10 = (Instr.ifnonnull 6, 13, [16], 0) ∧ bMask 95 10 = [] := ⟨rfl, rfl⟩
theorem E95_13 : aCode 95 13 = (Instr.bipush (-3), 15, [], (-3)) ∧ bMask 95 13 = [] := ⟨rfl, rfl⟩
theorem E95_15 : aCode 95 15 = (Instr.ireturn, 16, [0], 0) ∧ bMask 95 15 = [] := ⟨rfl, rfl⟩
theorem E95_16 : aCode 95 16 = (Instr.aload_n 2, 17, [], 0) ∧ bMask 95 16 = [] := ⟨rfl, rfl⟩
theorem E95_17 : aCode 95 17 = (Instr.iconst 0, 18, [], 0) ∧ bMask 95 17 = [] := ⟨rfl, rfl⟩
theorem E95_18 : aCode 95 18 = (Instr.putfield 243, 21, [67, 3, 1, 1], 0) ∧ bMask 95 18 = [] := ⟨rfl, rfl⟩
theorem E95_21 : aCode 95 21 = (Instr.aload_n 0, 22, [], 0) ∧ bMask 95 21 = [] := ⟨rfl, rfl⟩
theorem E95_22 : aCode 95 22 = (Instr.getfield 67, 25, [43, 6, 12, 2], 0) ∧ bMask 95 22 = [] := ⟨rfl, rfl⟩
theorem E95_25 : aCode 95 25 = (Instr.invokevirtual 246, 28, [27, 1, 1, 1, 0, 53], 0) ∧ bMask 95 25 = [] := ⟨rfl, rfl⟩
theorem E95_28 : aCode 95 28 = (Instr.ireturn, 29, [0], 0) ∧ bMask 95 28 = [] := ⟨rfl, rfl⟩
theorem g_X6_strike_0 {Q : bQ} {M : bM} {x1 : Int32} (h : bCall 20 [cR 4 0, cI x1] M (fun v1 M2 => bV5 v1 5 (Q (some (cI (-3 : Int32))) M2) (fun q3 => ((0 : Int32) = 0 ∨ (0 : Int32) = 1) ∧ (bCall 27 [cR 4 0] (bU M2 5 q3 1 (0 : Int32)) (fun v4 M5 => bV1 v4 fun r6 => (Q (some (cI r6)) M5)))))) : bCall 95 [cR 0 0, cI x1] M Q := s_aload_n E95_0.1 (k_ E95_0) rfl (s_getR E95_1.1 (k_ E95_1) rfl rfl (s_iload_n E95_4.1 (k_ E95_4) rfl (s_vcall205 E95_5.1 (k_ E95_5) rfl rfl rfl h (fun M2 z0 => s_astore_nN E95_8.1 (k_ E95_8) (s_aload_nN E95_9.1 (k_ E95_9) rfl (s_ifnonnullN E95_10.1 (k_ E95_10) (s_bipush E95_13.1 (k_ E95_13) (s_iret E95_15.1 (k_ E95_15) z0))))) (fun M2 q3 z0 => s_astore_n E95_8.1 (k_ E95_8) (s_aload_n E95_9.1 (k_ E95_9) rfl (s_ifnonnull E95_10.1 (k_ E95_10) (s_aload_n E95_16.1 (k_ E95_16) rfl (s_iconst E95_17.1 (k_ E95_17) (s_putZ E95_18.1 (k_ E95_18) rfl ⟨z0.1, s_aload_n E95_21.1 (k_ E95_21) rfl (s_getR E95_22.1 (k_ E95_22) rfl rfl (s_vcall1 E95_25.1 (k_ E95_25) rfl rfl rfl z0.2 (fun M5 r6 z1 => s_iret E95_28.1 (k_ E95_28) z1)))⟩)))))))))
-- 96: X6_term
theorem E96_0 : aCode 96 0 = (Instr.iload_n 1, 1, [], 0) ∧ bMask 96 0 = [] := ⟨rfl, rfl⟩
theorem E96_1 : aCode 96 1 = (Instr.invokestatic 91, 4, [61, 1, 1, 0, 0, 43], 0) ∧ bMask 96 1 = [] := ⟨rfl, rfl⟩
theorem E96_4 : aCode 96 4 = (Instr.ifCond .eq 10, 7, [14], 0) ∧ bMask 96 4 = [] := ⟨rfl, rfl⟩
theorem E96_7 : aCode 96 7 = (Instr.iload_n 2, 8, [], 0) ∧ bMask 96 7 = [] := ⟨rfl, rfl⟩
theorem E96_8 : aCode 96 8 = (Instr.invokestatic 94, 11, [62, 1, 1, 0, 0, 44], 0) ∧ bMask 96 8 = [] := ⟨rfl, rfl⟩
theorem E96_11 : aCode 96 11 = (Instr.ifCond .ne 5, 14, [16], 0) ∧ bMask 96 11 = [] := ⟨rfl, rfl⟩
theorem E96_14 : aCode 96 14 = (Instr.iconst (-1), 15, [], (-1)) ∧ bMask 96 14 = [] := ⟨rfl, rfl⟩
theorem E96_15 : aCode 96 15 = (Instr.ireturn, 16, [0], 0) ∧ bMask 96 15 = [] := ⟨rfl, rfl⟩
theorem E96_16 : aCode 96 16 = (Instr.aload_n 0, 17, [], 0) ∧ bMask 96 16 = [] := ⟨rfl, rfl⟩
theorem E96_17 : aCode 96 17 = (Instr.getfield 18, 20, [42, 6, 1, 2], 0) ∧ bMask 96 17 = [] := ⟨rfl, rfl⟩
theorem E96_20 : aCode 96 20 = (Instr.iload_n 1, 21, [], 0) ∧ bMask 96 20 = [] := ⟨rfl, rfl⟩
theorem E96_21 : aCode 96 21 = (Instr.aaload, 22, [2], 0) ∧ bMask 96 21 = [] := ⟨rfl, rfl⟩
theorem E96_22 : aCode 96 22 = (Instr.iload_n 2, 23, [], 0) ∧ bMask 96 22 = [] := ⟨rfl, rfl⟩
theorem E96_23 : aCode 96 23 = (Instr.iaload, 24, [0], 0) ∧ bMask 96 23 = [] := ⟨rfl, rfl⟩
theorem E96_24 : aCode 96 24 = (Instr.istore 4, 26, [], 0) ∧ bMask 96 24 = [] := ⟨rfl, rfl⟩
theorem E96_26 : aCode 96 26 = (Instr.aload_n 0, 27, [], 0) ∧ bMask 96 26 = [] := ⟨rfl, rfl⟩
theorem E96_27 : aCode 96 27 = (Instr.getfield 18, 30, [42, 6, 1, 2], 0) ∧ bMask 96 27 = [] := ⟨rfl, rfl⟩
theorem E96_30 : aCode 96 30 = (Instr.iload_n 1, 31, [], 0) ∧ bMask 96 30 = [] := ⟨rfl, rfl⟩
theorem E96_31 : aCode 96 31 = (Instr.aaload, 32, [2], 0) ∧ bMask 96 31 = [] := ⟨rfl, rfl⟩
theorem E96_32 : aCode 96 32 = (Instr.iload_n 2, 33, [], 0) ∧ bMask 96 32 = [] := ⟨rfl, rfl⟩
theorem E96_33 : aCode 96 33 = (Instr.aload_n 0, 34, [], 0) ∧ bMask 96 33 = [] := ⟨rfl, rfl⟩
theorem E96_34 : aCode 96 34 = (Instr.getfield 10, 37, [39, 6, 0, 2], 0) ∧ bMask 96 34 = [] := ⟨rfl, rfl⟩
theorem E96_37 : aCode 96 37 = (Instr.iload_n 3, 38, [], 0) ∧ bMask 96 37 = [] := ⟨rfl, rfl⟩
theorem E96_38 : aCode 96 38 = (Instr.invokevirtual 97, 41, [10, 2, 1, 2, 0, 77], 0) ∧ bMask 96 38 = [] := ⟨rfl, rfl⟩
theorem E96_41 : aCode 96 41 = (Instr.iastore, 42, [0], 0) ∧ bMask 96 41 = [] := ⟨rfl, rfl⟩
theorem E96_42 : aCode 96 42 = (Instr.aload_n 0, 43, [], 0) ∧ bMask 96 42 = [] := ⟨rfl, rfl⟩
theorem E96_43 : aCode 96 43 = (Instr.iconst 1, 44, [], 1) ∧ bMask 96 43 = [] := ⟨rfl, rfl⟩
theorem E96_44 : aCode 96 44 = (Instr.putfield 48, 47, [51, 6, 7, 1], 0) ∧ bMask 96 44 = [] := ⟨rfl, rfl⟩
theorem E96_47 : aCode 96 47 = (Instr.iload 4, 49, [], 0) ∧ bMask 96 47 = [] := ⟨rfl, rfl⟩
theorem E96_49 : aCode 96 49 = (Instr.ireturn, 50, [0], 0) ∧ bMask 96 49 = [] := ⟨rfl, rfl⟩
theorem g_X6_term_0 {Q : bQ} {M : bM} {x1 : Int32} {x2 : Int32} {x3 : Int32} (h : bCall 61 [cI x1] M (fun v1 M2 => bV1 v1 fun r3 => (((r3 = 0) → (Q (some (cI (-1 : Int32))) M2)) ∧ (¬ (r3 = 0) → (bCall 62 [cI x2] M2 (fun v4 M5 => bV1 v4 fun r6 => (((¬ r6 = 0) → ((vp_in x1 6) ∧ ((vp_in x2 32) ∧ ((vp_in x1 6) ∧ (bCall 10 [cR 1 0, cI x3] M5 (fun v7 M8 => bV1 v7 fun r9 => ((vp_in x2 32) ∧ (((1 : Int32) = 0 ∨ (1 : Int32) = 1) ∧ (Q (some (cI (M5 7 x1.toNatClampNeg x2.toNatClampNeg))) (bU (bU M8 7 x1.toNatClampNeg x2.toNatClampNeg r9) 0 0 7 (1 : Int32))))))))))) ∧ (¬ (¬ r6 = 0) → (Q (some (cI (-1 : Int32))) M5))))))))) : bCall 96 [cR 0 0, cI x1, cI x2, cI x3] M Q := s_iload_n E96_0.1 (k_ E96_0) rfl (s_scall1 E96_1.1 (k_ E96_1) rfl rfl rfl h (fun M2 r3 z0 => s_if_eq E96_4.1 (k_ E96_4) ⟨fun c1 => s_iconst E96_14.1 (k_ E96_14) (s_iret E96_15.1 (k_ E96_15) (z0.1 c1)), fun c1 => s_iload_n E96_7.1 (k_ E96_7) rfl (s_scall1 E96_8.1 (k_ E96_8) rfl rfl rfl (z0.2 c1) (fun M5 r6 z2 => s_if_ne E96_11.1 (k_ E96_11) ⟨fun c3 => s_aload_n E96_16.1 (k_ E96_16) rfl (s_getR E96_17.1 (k_ E96_17) rfl rfl (s_iload_n E96_20.1 (k_ E96_20) rfl (s_aaload E96_21.1 (k_ E96_21) rfl ⟨(z2.1 c3).1, s_iload_n E96_22.1 (k_ E96_22) rfl (s_iaload E96_23.1 (k_ E96_23) rfl ⟨((z2.1 c3).2).1, s_istore E96_24.1 (k_ E96_24) (s_aload_n E96_26.1 (k_ E96_26) rfl (s_getR E96_27.1 (k_ E96_27) rfl rfl (s_iload_n E96_30.1 (k_ E96_30) rfl (s_aaload E96_31.1 (k_ E96_31) rfl ⟨(((z2.1 c3).2).2).1, s_iload_n E96_32.1 (k_ E96_32) rfl (s_aload_n E96_33.1 (k_ E96_33) rfl (s_getR E96_34.1 (k_ E96_34) rfl rfl (s_iload_n E96_37.1 (k_ E96_37) rfl (s_vcall1 E96_38.1 (k_ E96_38) rfl rfl rfl ((((z2.1 c3).2).2).2) (fun M8 r9 z4 => s_iastore E96_41.1 (k_ E96_41) rfl ⟨z4.1, s_aload_n E96_42.1 (k_ E96_42) rfl (s_iconst E96_43.1 (k_ E96_43) (s_putZ E96_44.1 (k_ E96_44) rfl ⟨z4.2.1, s_iload E96_47.1 (k_ E96_47) rfl (s_iret E96_49.1 (k_ E96_49) z4.2.2)⟩))⟩)))))⟩))))⟩)⟩))), fun c3 => s_iconst E96_14.1 (k_ E96_14) (s_iret E96_15.1 (k_ E96_15) (z2.2 c3))⟩))⟩))
-- 97: X6_test
theorem E97_0 : aCode 97 0 = (Instr.iload_n 2, 1, [], 0) ∧ bMask 97 0 = [] := ⟨rfl, rfl⟩
theorem E97_1 : aCode 97 1 = (Instr.invokestatic 91, 4, [61, 1, 1, 0, 0, 43], 0) ∧ bMask 97 1 = [] := ⟨rfl, rfl⟩
theorem E97_4 : aCode 97 4 = (Instr.ifCond .ne 5, 7, [9], 0) ∧ bMask 97 4 = [] := ⟨rfl, rfl⟩
theorem E97_7 : aCode 97 7 = (Instr.iconst (-1), 8, [], (-1)) ∧ bMask 97 7 = [] := ⟨rfl, rfl⟩
theorem E97_8 : aCode 97 8 = (Instr.ireturn, 9, [0], 0) ∧ bMask 97 8 = [] := ⟨rfl, rfl⟩
theorem E97_9 : aCode 97 9 = (Instr.aload_n 0, 10, [], 0) ∧ bMask 97 9 = [] := ⟨rfl, rfl⟩
theorem E97_10 : aCode 97 10 = (Instr.getfield 67, 13, [43, 6, 12, 2], 0) ∧ bMask 97 10 = [] := ⟨rfl, rfl⟩
theorem E97_13 : aCode 97 13 = (Instr.iload_n 1, 14, [], 0) ∧ bMask 97 13 = [] := ⟨rfl, rfl⟩
theorem E97_14 : aCode 97 14 = (Instr.invokevirtual 225, 17, [20, 2, 205, 1, 0, 45], 0) ∧ bMask 97 14 = [] := ⟨rfl, rfl⟩
theorem E97_17 : aCode 97 17 = (Instr.astore_n 3, 18, [], 0) ∧ bMask 97 17 = [] := ⟨rfl, rfl⟩
theorem E97_18 : aCode 97 18 = (Instr.aload_n 3, 19, [], 0) ∧ bMask 97 18 = [] := ⟨rfl, rfl⟩
theorem E97_19 : aCode 97 19 = (Instr.ifnonnull 6, 22, [25], 0) ∧ bMask 97 19 = [] := ⟨rfl, rfl⟩
theorem E97_22 : aCode 97 22 = (Instr.bipush (-3), 24, [], (-3)) ∧ bMask 97 22 = [] := ⟨rfl, rfl⟩
theorem E97_24 : aCode 97 24 = (Instr.ireturn, 25, [0], 0) ∧ bMask 97 24 = [] := ⟨rfl, rfl⟩
theorem E97_25 : aCode 97 25 = (Instr.aload_n 3, 26, [], 0) ∧ bMask 97 25 = [] := ⟨rfl, rfl⟩
theorem E97_26 : aCode 97 26 = (Instr.getfield 216, 29, [49, 3, 8, 0], 0) ∧ bMask 97 26 = [] := ⟨rfl, rfl⟩
theorem E97_29 : aCode 97 29 = (Instr.aload_n 0, 30, [], 0) ∧ bMask 97 29 = [] := ⟨rfl, rfl⟩
theorem E97_30 : aCode 97 30 = (Instr.getfield 10, 33, [39, 6, 0, 2], 0) ∧ bMask 97 30 = [] := ⟨rfl, rfl⟩
theorem E97_33 : aCode 97 33 = (Instr.getfield 82, 36, [59, 2, 0, 0], 0) ∧ bMask 97 33 = [] := ⟨rfl, rfl⟩
theorem E97_36 : aCode 97 36 = (Instr.if_icmp .eq 6, 39, [42], 0) ∧ bMask 97 36 = [] := ⟨rfl, rfl⟩
theorem E97_39 : aCode 97 39 = (Instr.bipush (-2), 41, [], (-2)) ∧ bMask 97 39 = [] := ⟨rfl, rfl⟩
theorem E97_41 : aCode 97 41 = (Instr.ireturn, 42, [0], 0) ∧ bMask 97 41 = [] := ⟨rfl, rfl⟩
theorem E97_42 : aCode 97 42 = (Instr.aload_n 0, 43, [], 0) ∧ bMask 97 42 = [] := ⟨rfl, rfl⟩
theorem E97_43 : aCode 97 43 = (Instr.aload_n 3, 44, [], 0) ∧ bMask 97 43 = [] := ⟨rfl, rfl⟩
theorem E97_44 : aCode 97 44 = (Instr.getfield 208, 47, [44, 3, 3, 0], 0) ∧ bMask 97 44 = [] := ⟨rfl, rfl⟩
theorem E97_47 : aCode 97 47 = (Instr.aload_n 3, 48, [], 0) ∧ bMask 97 47 = [] := ⟨rfl, rfl⟩
theorem E97_48 : aCode 97 48 = (Instr.getfield 229, 51, [45, 3, 4, 0], 0) ∧ bMask 97 48 = [] := ⟨rfl, rfl⟩
theorem E97_51 : aCode 97 51 = (Instr.aload_n 0, 52, [], 0) ∧ bMask 97 51 = [] := ⟨rfl, rfl⟩
theorem E97_52 : aCode 97 52 = (Instr.getfield 18, 55, [42, 6, 1, 2], 0) ∧ bMask 97 52 = [] := ⟨rfl, rfl⟩
theorem E97_55 : aCode 97 55 = (Instr.iload_n 2, 56, [], 0) ∧ bMask 97 55 = [] := ⟨rfl, rfl⟩
theorem E97_56 : aCode 97 56 = (Instr.aaload, 57, [2], 0) ∧ bMask 97 56 = [] := ⟨rfl, rfl⟩
theorem E97_57 : aCode 97 57 = (Instr.invokevirtual 200, 60, [76, 4, 0, 6, 0, 63], 0) ∧ bMask 97 57 = [] := ⟨rfl, rfl⟩
theorem E97_60 : aCode 97 60 = (Instr.aload_n 0, 61, [], 0) ∧ bMask 97 60 = [] := ⟨rfl, rfl⟩
theorem E97_61 : aCode 97 61 = (Instr.getfield 61, 64, [41, 6, 11, 2], 0) ∧ bMask 97 61 = [] := ⟨rfl, rfl⟩
theorem E97_64 : aCode 97 64 = (Instr.iconst 0, 65, [], 0) ∧ bMask 97 64 = [] := ⟨rfl, rfl⟩
theorem E97_65 : aCode 97 65 = (Instr.invokestatic 85, 68, [1, 2, 0, 0, 0, 59], 0) ∧ bMask 97 65 = [] := ⟨rfl, rfl⟩
theorem E97_68 : aCode 97 68 = (Instr.iconst 0, 69, [], 0) ∧ bMask 97 68 = [] := ⟨rfl, rfl⟩
theorem E97_69 : aCode 97 69 = (Instr.istore 4, 71, [], 0) ∧ bMask 97 69 = [] := ⟨rfl, rfl⟩
theorem E97_71 : aCode 97 71 = (Instr.iload 4, 73, [], 0) ∧ bMask 97 71 = [] := ⟨rfl, rfl⟩
theorem E97_73 : aCode 97 73 = (Instr.aload_n 3, 74, [], 0) ∧ bMask 97 73 = [] := ⟨rfl, rfl⟩
theorem E97_74 : aCode 97 74 = (Instr.getfield 229, 77, [45, 3, 4, 0], 0) ∧ bMask 97 74 = [] := ⟨rfl, rfl⟩
theorem E97_77 : aCode 97 77 = (Instr.if_icmp .ge 36, 80, [113], 0) ∧ bMask 97 77 = [] := ⟨rfl, rfl⟩
theorem E97_80 : aCode 97 80 = (Instr.iload 4, 82, [], 0) ∧ bMask 97 80 = [] := ⟨rfl, rfl⟩
theorem E97_82 : aCode 97 82 = (Instr.iconst 4, 83, [], 4) ∧ bMask 97 82 = [] := ⟨rfl, rfl⟩
theorem E97_83 : aCode 97 83 = (Instr.if_icmp .ge 30, 86, [113], 0) ∧ bMask 97 83 = [] := ⟨rfl, rfl⟩
theorem E97_86 : aCode 97 86 = (Instr.aload_n 3, 87, [], 0) ∧ bMask 97 86 = [] := ⟨rfl, rfl⟩
theorem E97_87 : aCode 97 87 = (Instr.iload 4, 89, [], 0) ∧ bMask 97 87 = [] := ⟨rfl, rfl⟩
theorem E97_89 : aCode 97 89 = (Instr.aload_n 0, 90, [], 0) ∧ bMask 97 89 = [] := ⟨rfl, rfl⟩
theorem E97_90 : aCode 97 90 = (Instr.getfield 58, 93, [40, 6, 10, 2], 0) ∧ bMask 97 90 = [] := ⟨rfl, rfl⟩
theorem E97_93 : aCode 97 93 = (Instr.invokevirtual 240, 96, [37, 3, 0, 3, 0, 85], 0) ∧ bMask 97 93 = [] := ⟨rfl, rfl⟩
theorem E97_96 : aCode 97 96 = (Instr.aload_n 0, 97, [], 0) ∧ bMask 97 96 = [] := ⟨rfl, rfl⟩
theorem E97_97 : aCode 97 97 = (Instr.aload_n 0, 98, [], 0) ∧ bMask 97 97 = [] := ⟨rfl, rfl⟩
theorem E97_98 : aCode 97 98 = (Instr.getfield 52, 101, [52, 6, 8, 2], 0) ∧ bMask 97 98 = [] := ⟨rfl, rfl⟩
theorem E97_101 : aCode 97 101 = (Instr.iload 4, 103, [], 0) ∧ bMask 97 101 = [] := ⟨rfl, rfl⟩
theorem E97_103 : aCode 97 103 = (Instr.aaload, 104, [2], 0) ∧ bMask 97 103 = [] := ⟨rfl, rfl⟩
theorem E97_104 : aCode 97 104 = (Instr.invokevirtual 192, 107, [60, 2, 0, 6, 0, 82], 0) ∧ bMask 97 104 = [] := ⟨rfl, rfl⟩
theorem E97_107 : aCode 97 107 = (Instr.iinc 4 1, 110, [], 1) ∧ bMask 97 107 = [] := ⟨rfl, rfl⟩
theorem E97_110 : aCode 97 110 = (Instr.goto (-39), 71, [], 0) ∧ bMask 97 110 = [] := ⟨rfl, rfl⟩
theorem E97_113 : aCode 97 113 = (Instr.aload_n 0, 114, [], 0) ∧ bMask 97 113 = [] := ⟨rfl, rfl⟩
theorem E97_114 : aCode 97 114 = (Instr.getfield 61, 117, [41, 6, 11, 2], 0) ∧ bMask 97 114 = [] := ⟨rfl, rfl⟩
theorem E97_117 : aCode 97 117 = (Instr.invokestatic 140, 120, [33, 1, 1, 0, 0, 52], 0) ∧ bMask 97 117 = [] := ⟨rfl, rfl⟩
theorem E97_120 : aCode 97 120 = (Instr.ireturn, 121, [0], 0) ∧ bMask 97 120 = [] := ⟨rfl, rfl⟩
theorem g_X6_test_0 {Q : bQ} {M : bM} {x1 : Int32} {x2 : Int32} (h : bCall 61 [cI x2] M (fun v1 M2 => bV1 v1 fun r3 => (((¬ r3 = 0) → (bCall 20 [cR 4 0, cI x1] M2 (fun v4 M5 => bV5 v4 5 (Q (some (cI (-3 : Int32))) M5) (fun q6 => (((M5 5 q6 8) = (M5 1 0 0)) → ((vp_in x2 6) ∧ (bCall 76 [cR 0 0, cI (M5 5 q6 3), cI (M5 5 q6 4), cR 7 x2.toNatClampNeg] M5 (fun v7 M8 => bV0 v7 (bCall 1 [cR 7 6, cI (0 : Int32)] M8 (fun v9 M10 => bV0 v9 (bGo 97 Q 71 [some (cR 0 0), some (cI x1), some (cI x2), some (cR 5 q6), some (cI (0 : Int32))] [] M10))))))) ∧ (¬ ((M5 5 q6 8) = (M5 1 0 0)) → (Q (some (cI (-2 : Int32))) M5)))))) ∧ (¬ (¬ r3 = 0) → (Q (some (cI (-1 : Int32))) M2))))) : bCall 97 [cR 0 0, cI x1, cI x2] M Q := s_iload_n E97_0.1 (k_ E97_0) rfl (s_scall1 E97_1.1 (k_ E97_1) rfl rfl rfl h (fun M2 r3 z0 => s_if_ne E97_4.1 (k_ E97_4) ⟨fun c1 => s_aload_n E97_9.1 (k_ E97_9) rfl (s_getR E97_10.1 (k_ E97_10) rfl rfl (s_iload_n E97_13.1 (k_ E97_13) rfl (s_vcall205 E97_14.1 (k_ E97_14) rfl rfl rfl (z0.1 c1) (fun M5 z2 => s_astore_nN E97_17.1 (k_ E97_17) (s_aload_nN E97_18.1 (k_ E97_18) rfl (s_ifnonnullN E97_19.1 (k_ E97_19) (s_bipush E97_22.1 (k_ E97_22) (s_iret E97_24.1 (k_ E97_24) z2))))) (fun M5 q6 z2 => s_astore_n E97_17.1 (k_ E97_17) (s_aload_n E97_18.1 (k_ E97_18) rfl (s_ifnonnull E97_19.1 (k_ E97_19) (s_aload_n E97_25.1 (k_ E97_25) rfl (s_getI0 E97_26.1 (k_ E97_26) rfl (s_aload_n E97_29.1 (k_ E97_29) rfl (s_getR E97_30.1 (k_ E97_30) rfl rfl (s_getI0 E97_33.1 (k_ E97_33) rfl (s_icmp_eq E97_36.1 (k_ E97_36) ⟨fun c3 => s_aload_n E97_42.1 (k_ E97_42) rfl (s_aload_n E97_43.1 (k_ E97_43) rfl (s_getI0 E97_44.1 (k_ E97_44) rfl (s_aload_n E97_47.1 (k_ E97_47) rfl (s_getI0 E97_48.1 (k_ E97_48) rfl (s_aload_n E97_51.1 (k_ E97_51) rfl (s_getR E97_52.1 (k_ E97_52) rfl rfl (s_iload_n E97_55.1 (k_ E97_55) rfl (s_aaload E97_56.1 (k_ E97_56) rfl ⟨(z2.1 c3).1, s_vcall0 E97_57.1 (k_ E97_57) rfl rfl rfl ((z2.1 c3).2) (fun M8 z4 => s_aload_n E97_60.1 (k_ E97_60) rfl (s_getR E97_61.1 (k_ E97_61) rfl rfl (s_iconst E97_64.1 (k_ E97_64) (s_scall0 E97_65.1 (k_ E97_65) rfl rfl rfl z4 (fun M10 z5 => s_iconst E97_68.1 (k_ E97_68) (s_istore E97_69.1 (k_ E97_69) (z5)))))))⟩)))))))), fun c3 => s_bipush E97_39.1 (k_ E97_39) (s_iret E97_41.1 (k_ E97_41) (z2.2 c3))⟩)))))))))))), fun c1 => s_iconst E97_7.1 (k_ E97_7) (s_iret E97_8.1 (k_ E97_8) (z0.2 c1))⟩))
theorem g_X6_test_71 {Q : bQ} {M : bM} {x1 : Int32} {x2 : Int32} {j3 : Nat} {x4 : Int32} (h : (((M 5 j3 4) ≤ x4) → (bCall 33 [cR 7 6] M (fun v1 M2 => bV1 v1 fun r3 => (Q (some (cI r3)) M2)))) ∧ (¬ ((M 5 j3 4) ≤ x4) → ((((4 : Int32) ≤ x4) → (bCall 33 [cR 7 6] M (fun v4 M5 => bV1 v4 fun r6 => (Q (some (cI r6)) M5)))) ∧ (¬ ((4 : Int32) ≤ x4) → (bCall 37 [cR 5 j3, cI x4, cR 7 7] M (fun v7 M8 => bV0 v7 ((vp_in x4 4) ∧ (bCall 60 [cR 0 0, cR 7 (8 + x4.toNatClampNeg)] M8 (fun v9 M10 => bV0 v9 (bGo 97 Q 71 [some (cR 0 0), some (cI x1), some (cI x2), some (cR 5 j3), some (cI (x4 + (1 : Int32)))] [] M10)))))))))) : bGo 97 Q 71 [some (cR 0 0), some (cI x1), some (cI x2), some (cR 5 j3), some (cI x4)] [] M := s_iload E97_71.1 (k_ E97_71) rfl (s_aload_n E97_73.1 (k_ E97_73) rfl (s_getI0 E97_74.1 (k_ E97_74) rfl (s_icmp_ge E97_77.1 (k_ E97_77) ⟨fun c6 => s_aload_n E97_113.1 (k_ E97_113) rfl (s_getR E97_114.1 (k_ E97_114) rfl rfl (s_scall1 E97_117.1 (k_ E97_117) rfl rfl rfl (h.1 c6) (fun M2 r3 z7 => s_iret E97_120.1 (k_ E97_120) z7))), fun c6 => s_iload E97_80.1 (k_ E97_80) rfl (s_iconst E97_82.1 (k_ E97_82) (s_icmp_ge E97_83.1 (k_ E97_83) ⟨fun c8 => s_aload_n E97_113.1 (k_ E97_113) rfl (s_getR E97_114.1 (k_ E97_114) rfl rfl (s_scall1 E97_117.1 (k_ E97_117) rfl rfl rfl ((h.2 c6).1 c8) (fun M5 r6 z9 => s_iret E97_120.1 (k_ E97_120) z9))), fun c8 => s_aload_n E97_86.1 (k_ E97_86) rfl (s_iload E97_87.1 (k_ E97_87) rfl (s_aload_n E97_89.1 (k_ E97_89) rfl (s_getR E97_90.1 (k_ E97_90) rfl rfl (s_vcall0 E97_93.1 (k_ E97_93) rfl rfl rfl ((h.2 c6).2 c8) (fun M8 z10 => s_aload_n E97_96.1 (k_ E97_96) rfl (s_aload_n E97_97.1 (k_ E97_97) rfl (s_getR E97_98.1 (k_ E97_98) rfl rfl (s_iload E97_101.1 (k_ E97_101) rfl (s_aaload E97_103.1 (k_ E97_103) rfl ⟨z10.1, s_vcall0 E97_104.1 (k_ E97_104) rfl rfl rfl z10.2 (fun M10 z11 => s_iinc E97_107.1 (k_ E97_107) rfl (s_goto E97_110.1 (k_ E97_110) (z11)))⟩)))))))))⟩))⟩)))
-- 98: X6_text
theorem E98_0 : aCode 98 0 = (Instr.iload_n 1, 1, [], 0) ∧ bMask 98 0 = [] := ⟨rfl, rfl⟩
theorem E98_1 : aCode 98 1 = (Instr.invokestatic 91, 4, [61, 1, 1, 0, 0, 43], 0) ∧ bMask 98 1 = [] := ⟨rfl, rfl⟩
theorem E98_4 : aCode 98 4 = (Instr.ifCond .ne 5, 7, [9], 0) ∧ bMask 98 4 = [] := ⟨rfl, rfl⟩
theorem E98_7 : aCode 98 7 = (Instr.iconst (-1), 8, [], (-1)) ∧ bMask 98 7 = [] := ⟨rfl, rfl⟩
theorem E98_8 : aCode 98 8 = (Instr.ireturn, 9, [0], 0) ∧ bMask 98 8 = [] := ⟨rfl, rfl⟩
theorem E98_9 : aCode 98 9 = (Instr.aload_n 0, 10, [], 0) ∧ bMask 98 9 = [] := ⟨rfl, rfl⟩
theorem E98_10 : aCode 98 10 = (Instr.iconst 1, 11, [], 1) ∧ bMask 98 10 = [] := ⟨rfl, rfl⟩
theorem E98_11 : aCode 98 11 = (Instr.putfield 48, 14, [51, 6, 7, 1], 0) ∧ bMask 98 11 = [] := ⟨rfl, rfl⟩
theorem E98_14 : aCode 98 14 = (Instr.aload_n 0, 15, [], 0) ∧ bMask 98 14 = [] := ⟨rfl, rfl⟩
theorem E98_15 : aCode 98 15 = (Instr.getfield 26, 18, [60, 6, 2, 2], 0) ∧ bMask 98 15 = [] := ⟨rfl, rfl⟩
theorem E98_18 : aCode 98 18 = (Instr.aload_n 0, 19, [], 0) ∧ bMask 98 18 = [] := ⟨rfl, rfl⟩
theorem E98_19 : aCode 98 19 = (Instr.getfield 18, 22, [42, 6, 1, 2], 0) ∧ bMask 98 19 = [] := ⟨rfl, rfl⟩
theorem E98_22 : aCode 98 22 = (Instr.iload_n 1, 23, [], 0) ∧ bMask 98 22 = [] := ⟨rfl, rfl⟩
theorem E98_23 : aCode 98 23 = (Instr.aaload, 24, [2], 0) ∧ bMask 98 23 = [] := ⟨rfl, rfl⟩
theorem E98_24 : aCode 98 24 = (Instr.invokevirtual 136, 27, [53, 2, 1, 4, 0, 86], 0) ∧ bMask 98 24 = [] := ⟨rfl, rfl⟩
theorem E98_27 : aCode 98 27 = (Instr.ireturn, 28, [0], 0) ∧ bMask 98 27 = [] := ⟨rfl, rfl⟩
theorem g_X6_text_0 {Q : bQ} {M : bM} {x1 : Int32} (h : bCall 61 [cI x1] M (fun v1 M2 => bV1 v1 fun r3 => (((¬ r3 = 0) → (((1 : Int32) = 0 ∨ (1 : Int32) = 1) ∧ ((vp_in x1 6) ∧ (bCall 53 [cR 2 0, cR 7 x1.toNatClampNeg] (bU M2 0 0 7 (1 : Int32)) (fun v4 M5 => bV1 v4 fun r6 => (Q (some (cI r6)) M5)))))) ∧ (¬ (¬ r3 = 0) → (Q (some (cI (-1 : Int32))) M2))))) : bCall 98 [cR 0 0, cI x1] M Q := s_iload_n E98_0.1 (k_ E98_0) rfl (s_scall1 E98_1.1 (k_ E98_1) rfl rfl rfl h (fun M2 r3 z0 => s_if_ne E98_4.1 (k_ E98_4) ⟨fun c1 => s_aload_n E98_9.1 (k_ E98_9) rfl (s_iconst E98_10.1 (k_ E98_10) (s_putZ E98_11.1 (k_ E98_11) rfl ⟨(z0.1 c1).1, s_aload_n E98_14.1 (k_ E98_14) rfl (s_getR E98_15.1 (k_ E98_15) rfl rfl (s_aload_n E98_18.1 (k_ E98_18) rfl (s_getR E98_19.1 (k_ E98_19) rfl rfl (s_iload_n E98_22.1 (k_ E98_22) rfl (s_aaload E98_23.1 (k_ E98_23) rfl ⟨((z0.1 c1).2).1, s_vcall1 E98_24.1 (k_ E98_24) rfl rfl rfl (((z0.1 c1).2).2) (fun M5 r6 z2 => s_iret E98_27.1 (k_ E98_27) z2)⟩)))))⟩)), fun c1 => s_iconst E98_7.1 (k_ E98_7) (s_iret E98_8.1 (k_ E98_8) (z0.2 c1))⟩))
-- 99: X6_times
theorem E99_0 : aCode 99 0 = (Instr.iload_n 1, 1, [], 0) ∧ bMask 99 0 = [] := ⟨rfl, rfl⟩
theorem E99_1 : aCode 99 1 = (Instr.invokestatic 91, 4, [61, 1, 1, 0, 0, 43], 0) ∧ bMask 99 1 = [] := ⟨rfl, rfl⟩
theorem E99_4 : aCode 99 4 = (Instr.ifCond .eq 17, 7, [21], 0) ∧ bMask 99 4 = [] := ⟨rfl, rfl⟩
theorem E99_7 : aCode 99 7 = (Instr.iload_n 2, 8, [], 0) ∧ bMask 99 7 = [] := ⟨rfl, rfl⟩
theorem E99_8 : aCode 99 8 = (Instr.invokestatic 91, 11, [61, 1, 1, 0, 0, 43], 0) ∧ bMask 99 8 = [] := ⟨rfl, rfl⟩
theorem E99_11 : aCode 99 11 = (Instr.ifCond .eq 10, 14, [21], 0) ∧ bMask 99 11 = [] := ⟨rfl, rfl⟩
theorem E99_14 : aCode 99 14 = (Instr.iload_n 3, 15, [], 0) ∧ bMask 99 14 = [] := ⟨rfl, rfl⟩
theorem E99_15 : aCode 99 15 = (Instr.invokestatic 91, 18, [61, 1, 1, 0, 0, 43], 0) ∧ bMask 99 15 = [] := ⟨rfl, rfl⟩
theorem E99_18 : aCode 99 18 = (Instr.ifCond .ne 5, 21, [23], 0) ∧ bMask 99 18 = [] := ⟨rfl, rfl⟩
theorem E99_21 : aCode 99 21 = (Instr.iconst (-1), 22, [], (-1)) ∧ bMask 99 21 = [] := ⟨rfl, rfl⟩
theorem E99_22 : aCode 99 22 = (Instr.ireturn, 23, [0], 0) ∧ bMask 99 22 = [] := ⟨rfl, rfl⟩
theorem E99_23 : aCode 99 23 = (Instr.aload_n 0, 24, [], 0) ∧ bMask 99 23 = [] := ⟨rfl, rfl⟩
theorem E99_24 : aCode 99 24 = (Instr.getfield 10, 27, [39, 6, 0, 2], 0) ∧ bMask 99 24 = [] := ⟨rfl, rfl⟩
theorem E99_27 : aCode 99 27 = (Instr.aload_n 0, 28, [], 0) ∧ bMask 99 27 = [] := ⟨rfl, rfl⟩
theorem E99_28 : aCode 99 28 = (Instr.getfield 18, 31, [42, 6, 1, 2], 0) ∧ bMask 99 28 = [] := ⟨rfl, rfl⟩
theorem E99_31 : aCode 99 31 = (Instr.iload_n 1, 32, [], 0) ∧ bMask 99 31 = [] := ⟨rfl, rfl⟩
theorem E99_32 : aCode 99 32 = (Instr.aaload, 33, [2], 0) ∧ bMask 99 32 = [] := ⟨rfl, rfl⟩
theorem E99_33 : aCode 99 33 = (Instr.aload_n 0, 34, [], 0) ∧ bMask 99 33 = [] := ⟨rfl, rfl⟩
theorem E99_34 : aCode 99 34 = (Instr.getfield 18, 37, [42, 6, 1, 2], 0) ∧ bMask 99 34 = [] := ⟨rfl, rfl⟩
theorem E99_37 : aCode 99 37 = (Instr.iload_n 2, 38, [], 0) ∧ bMask 99 37 = [] := ⟨rfl, rfl⟩
theorem E99_38 : aCode 99 38 = (Instr.aaload, 39, [2], 0) ∧ bMask 99 38 = [] := ⟨rfl, rfl⟩
theorem E99_39 : aCode 99 39 = (Instr.aload_n 0, 40, [], 0) ∧ bMask 99 39 = [] := ⟨rfl, rfl⟩
theorem E99_40 : aCode 99 40 = (Instr.getfield 18, 43, [42, 6, 1, 2], 0) ∧ bMask 99 40 = [] := ⟨rfl, rfl⟩
theorem E99_43 : aCode 99 43 = (Instr.iload_n 3, 44, [], 0) ∧ bMask 99 43 = [] := ⟨rfl, rfl⟩
theorem E99_44 : aCode 99 44 = (Instr.aaload, 45, [2], 0) ∧ bMask 99 44 = [] := ⟨rfl, rfl⟩
theorem E99_45 : aCode 99 45 = (Instr.invokevirtual 105, 48, [34, 4, 0, 2, 0, 41], 0) ∧ bMask 99 45 = [] := ⟨rfl, rfl⟩
theorem E99_48 : aCode 99 48 = (Instr.aload_n 0, 49, [], 0) ∧ bMask 99 48 = [] := ⟨rfl, rfl⟩
theorem E99_49 : aCode 99 49 = (Instr.iconst 1, 50, [], 1) ∧ bMask 99 49 = [] := ⟨rfl, rfl⟩
theorem E99_50 : aCode 99 50 = (Instr.putfield 48, 53, [51, 6, 7, 1], 0) ∧ bMask 99 50 = [] := ⟨rfl, rfl⟩
theorem E99_53 : aCode 99 53 = (Instr.iconst 1, 54, [], 1) ∧ bMask 99 53 = [] := ⟨rfl, rfl⟩
theorem E99_54 : aCode 99 54 = (Instr.ireturn, 55, [0], 0) ∧ bMask 99 54 = [] := ⟨rfl, rfl⟩
theorem g_X6_times_0 {Q : bQ} {M : bM} {x1 : Int32} {x2 : Int32} {x3 : Int32} (h : bCall 61 [cI x1] M (fun v1 M2 => bV1 v1 fun r3 => (((r3 = 0) → (Q (some (cI (-1 : Int32))) M2)) ∧ (¬ (r3 = 0) → (bCall 61 [cI x2] M2 (fun v4 M5 => bV1 v4 fun r6 => (((r6 = 0) → (Q (some (cI (-1 : Int32))) M5)) ∧ (¬ (r6 = 0) → (bCall 61 [cI x3] M5 (fun v7 M8 => bV1 v7 fun r9 => (((¬ r9 = 0) → ((vp_in x1 6) ∧ ((vp_in x2 6) ∧ ((vp_in x3 6) ∧ (bCall 34 [cR 1 0, cR 7 x1.toNatClampNeg, cR 7 x2.toNatClampNeg, cR 7 x3.toNatClampNeg] M8 (fun v10 M11 => bV0 v10 (((1 : Int32) = 0 ∨ (1 : Int32) = 1) ∧ (Q (some (cI (1 : Int32))) (bU M11 0 0 7 (1 : Int32)))))))))) ∧ (¬ (¬ r9 = 0) → (Q (some (cI (-1 : Int32))) M8))))))))))))) : bCall 99 [cR 0 0, cI x1, cI x2, cI x3] M Q := s_iload_n E99_0.1 (k_ E99_0) rfl (s_scall1 E99_1.1 (k_ E99_1) rfl rfl rfl h (fun M2 r3 z0 => s_if_eq E99_4.1 (k_ E99_4) ⟨fun c1 => s_iconst E99_21.1 (k_ E99_21) (s_iret E99_22.1 (k_ E99_22) (z0.1 c1)), fun c1 => s_iload_n E99_7.1 (k_ E99_7) rfl (s_scall1 E99_8.1 (k_ E99_8) rfl rfl rfl (z0.2 c1) (fun M5 r6 z2 => s_if_eq E99_11.1 (k_ E99_11) ⟨fun c3 => s_iconst E99_21.1 (k_ E99_21) (s_iret E99_22.1 (k_ E99_22) (z2.1 c3)), fun c3 => s_iload_n E99_14.1 (k_ E99_14) rfl (s_scall1 E99_15.1 (k_ E99_15) rfl rfl rfl (z2.2 c3) (fun M8 r9 z4 => s_if_ne E99_18.1 (k_ E99_18) ⟨fun c5 => s_aload_n E99_23.1 (k_ E99_23) rfl (s_getR E99_24.1 (k_ E99_24) rfl rfl (s_aload_n E99_27.1 (k_ E99_27) rfl (s_getR E99_28.1 (k_ E99_28) rfl rfl (s_iload_n E99_31.1 (k_ E99_31) rfl (s_aaload E99_32.1 (k_ E99_32) rfl ⟨(z4.1 c5).1, s_aload_n E99_33.1 (k_ E99_33) rfl (s_getR E99_34.1 (k_ E99_34) rfl rfl (s_iload_n E99_37.1 (k_ E99_37) rfl (s_aaload E99_38.1 (k_ E99_38) rfl ⟨((z4.1 c5).2).1, s_aload_n E99_39.1 (k_ E99_39) rfl (s_getR E99_40.1 (k_ E99_40) rfl rfl (s_iload_n E99_43.1 (k_ E99_43) rfl (s_aaload E99_44.1 (k_ E99_44) rfl ⟨(((z4.1 c5).2).2).1, s_vcall0 E99_45.1 (k_ E99_45) rfl rfl rfl ((((z4.1 c5).2).2).2) (fun M11 z6 => s_aload_n E99_48.1 (k_ E99_48) rfl (s_iconst E99_49.1 (k_ E99_49) (s_putZ E99_50.1 (k_ E99_50) rfl ⟨z6.1, s_iconst E99_53.1 (k_ E99_53) (s_iret E99_54.1 (k_ E99_54) z6.2)⟩)))⟩)))⟩)))⟩))))), fun c5 => s_iconst E99_21.1 (k_ E99_21) (s_iret E99_22.1 (k_ E99_22) (z4.2 c5))⟩))⟩))⟩))
-- 100: X6_told
theorem E100_0 : aCode 100 0 = (Instr.iload_n 1, 1, [], 0) ∧ bMask 100 0 = [] := ⟨rfl, rfl⟩
theorem E100_1 : aCode 100 1 = (Instr.ifCond .lt 8, 4, [9], 0) ∧ bMask 100 1 = [] := ⟨rfl, rfl⟩
theorem E100_4 : aCode 100 4 = (Instr.iload_n 1, 5, [], 0) ∧ bMask 100 4 = [] := ⟨rfl, rfl⟩
theorem E100_5 : aCode 100 5 = (Instr.iconst 5, 6, [], 5) ∧ bMask 100 5 = [] := ⟨rfl, rfl⟩
theorem E100_6 : aCode 100 6 = (Instr.if_icmp .le 5, 9, [11], 0) ∧ bMask 100 6 = [] := ⟨rfl, rfl⟩
theorem E100_9 : aCode 100 9 = (Instr.iconst (-1), 10, [], (-1)) ∧ bMask 100 9 = [] := ⟨rfl, rfl⟩
theorem E100_10 : aCode 100 10 = (Instr.ireturn, 11, [0], 0) ∧ bMask 100 10 = [] := ⟨rfl, rfl⟩
theorem E100_11 : aCode 100 11 = (Instr.aload_n 0, 12, [], 0) ∧ bMask 100 11 = [] := ⟨rfl, rfl⟩
theorem E100_12 : aCode 100 12 = (Instr.invokevirtual 148, 15, [68, 1, 103, 6, 0, 50], 0) ∧ bMask 100 12 = [] := ⟨rfl, rfl⟩
theorem E100_15 : aCode 100 15 = (Instr.astore_n 2, 16, [], 0) ∧ bMask 100 15 = [] := ⟨rfl, rfl⟩
theorem E100_16 : aCode 100 16 = (Instr.iload_n 1, 17, [], 0) ∧ bMask 100 16 = [] := ⟨rfl, rfl⟩
theorem E100_17 : aCode 100 17 = (Instr.tableswitch 64 0 4 #[35, 40, 45, 50, 59], 52, [81, 52, 57, 62, 67, 76], 0) ∧ bMask 100 17 = [] := ⟨rfl, rfl⟩
theorem E100_52 : aCode 100 52 = (Instr.aload_n 2, 53, [], 0) ∧ bMask 100 52 = [] := ⟨rfl, rfl⟩
theorem E100_53 : aCode 100 53 = (Instr.getfield 152, 56, [68, 0, 5, 0], 0) ∧ bMask 100 53 = [] := ⟨rfl, rfl⟩
theorem E100_56 : aCode 100 56 = (Instr.ireturn, 57, [0], 0) ∧ bMask 100 56 = [] := ⟨rfl, rfl⟩
theorem E100_57 : aCode 100 57 = (Instr.aload_n 0, 58, [], 0) ∧ bMask 100 57 = [] := ⟨rfl, rfl⟩
theorem E100_58 : aCode 100 58 = (Instr.getfield 34, 61, [56, 6, 4, 0], 0) ∧ bMask 100 58 = [] := ⟨rfl, rfl⟩
theorem E100_61 : aCode 100 61 = (Instr.ireturn, 62, [0], 0) ∧ bMask 100 61 = [] := ⟨rfl, rfl⟩
theorem E100_62 : aCode 100 62 = (Instr.aload_n 2, 63, [], 0) ∧ bMask 100 62 = [] := ⟨rfl, rfl⟩
theorem E100_63 : aCode 100 63 = (Instr.invokevirtual 153, 66, [7, 1, 1, 0, 0, 87], 0) ∧ bMask 100 63 = [] := ⟨rfl, rfl⟩
theorem E100_66 : aCode 100 66 = (Instr.ireturn, 67, [0], 0) ∧ bMask 100 66 = [] := ⟨rfl, rfl⟩
theorem E100_67 : aCode 100 67 = (Instr.aload_n 2, 68, [], 0) ∧ bMask 100 67 = [] := ⟨rfl, rfl⟩
theorem E100_68 : aCode 100 68 = (Instr.aload_n 2, 69, [], 0) ∧ bMask 100 68 = [] := ⟨rfl, rfl⟩
theorem E100_69 : aCode 100 69 = (Instr.invokevirtual 157, 72, [19, 1, 1, 0, 0, 64], 0) ∧ bMask 100 69 = [] := ⟨rfl, rfl⟩
theorem E100_72 : aCode 100 72 = (Instr.invokevirtual 160, 75, [8, 2, 1, 0, 0, 65], 0) ∧ bMask 100 72 = [] := ⟨rfl, rfl⟩
theorem E100_75 : aCode 100 75 = (Instr.ireturn, 76, [0], 0) ∧ bMask 100 75 = [] := ⟨rfl, rfl⟩
theorem E100_76 : aCode 100 76 = (Instr.aload_n 2, 77, [], 0) ∧ bMask 100 76 = [] := ⟨rfl, rfl⟩
theorem E100_77 : aCode 100 77 = (Instr.invokevirtual 163, 80, [17, 1, 1, 0, 0, 88], 0) ∧ bMask 100 77 = [] := ⟨rfl, rfl⟩
theorem E100_80 : aCode 100 80 = (Instr.ireturn, 81, [0], 0) ∧ bMask 100 80 = [] := ⟨rfl, rfl⟩
theorem E100_81 : aCode 100 81 = (Instr.aload_n 2, 82, [], 0) ∧ bMask 100 81 = [] := ⟨rfl, rfl⟩
theorem E100_82 : aCode 100 82 = (Instr.invokevirtual 157, 85, [19, 1, 1, 0, 0, 64], 0) ∧ bMask 100 82 = [] := ⟨rfl, rfl⟩
theorem E100_85 : aCode 100 85 = (Instr.ireturn, 86, [0], 0) ∧ bMask 100 85 = [] := ⟨rfl, rfl⟩
theorem g_X6_told_0 {Q : bQ} {M : bM} {x1 : Int32} (h : ((x1 < 0) → (Q (some (cI (-1 : Int32))) M)) ∧ (¬ (x1 < 0) → (((x1 ≤ (5 : Int32)) → (bCall 68 [cR 0 0] M (fun v1 M2 => bV4 v1 3 fun q3 => (((x1 = Int32.ofInt 0) → (Q (some (cI (M2 3 q3 5))) M2)) ∧ (¬ (x1 = Int32.ofInt 0) → (((x1 = Int32.ofInt 1) → (Q (some (cI (M2 0 0 4))) M2)) ∧ (¬ (x1 = Int32.ofInt 1) → (((x1 = Int32.ofInt 2) → (bCall 7 [cR 3 q3] M2 (fun v16 M17 => bV1 v16 fun r18 => (Q (some (cI r18)) M17)))) ∧ (¬ (x1 = Int32.ofInt 2) → (((x1 = Int32.ofInt 3) → (bCall 19 [cR 3 q3] M2 (fun v10 M11 => bV1 v10 fun r12 => (bCall 8 [cR 3 q3, cI r12] M11 (fun v13 M14 => bV1 v13 fun r15 => (Q (some (cI r15)) M14)))))) ∧ (¬ (x1 = Int32.ofInt 3) → (((x1 = Int32.ofInt 4) → (bCall 17 [cR 3 q3] M2 (fun v7 M8 => bV1 v7 fun r9 => (Q (some (cI r9)) M8)))) ∧ (¬ (x1 = Int32.ofInt 4) → (bCall 19 [cR 3 q3] M2 (fun v4 M5 => bV1 v4 fun r6 => (Q (some (cI r6)) M5)))))))))))))))) ∧ (¬ (x1 ≤ (5 : Int32)) → (Q (some (cI (-1 : Int32))) M))))) : bCall 100 [cR 0 0, cI x1] M Q := s_iload_n E100_0.1 (k_ E100_0) rfl (s_if_lt E100_1.1 (k_ E100_1) ⟨fun c0 => s_iconst E100_9.1 (k_ E100_9) (s_iret E100_10.1 (k_ E100_10) (h.1 c0)), fun c0 => s_iload_n E100_4.1 (k_ E100_4) rfl (s_iconst E100_5.1 (k_ E100_5) (s_icmp_le E100_6.1 (k_ E100_6) ⟨fun c1 => s_aload_n E100_11.1 (k_ E100_11) rfl (s_vcall103 E100_12.1 (k_ E100_12) rfl rfl rfl ((h.2 c0).1 c1) (fun M2 q3 z2 => s_astore_n E100_15.1 (k_ E100_15) (s_iload_n E100_16.1 (k_ E100_16) rfl (s_tsw E100_17.1 (k_ E100_17) (And.intro (fun c3 => s_aload_n E100_52.1 (k_ E100_52) rfl (s_getI0 E100_53.1 (k_ E100_53) rfl (s_iret E100_56.1 (k_ E100_56) (z2.1 c3)))) (fun c3 => And.intro (fun c4 => s_aload_n E100_57.1 (k_ E100_57) rfl (s_getI0 E100_58.1 (k_ E100_58) rfl (s_iret E100_61.1 (k_ E100_61) ((z2.2 c3).1 c4)))) (fun c4 => And.intro (fun c5 => s_aload_n E100_62.1 (k_ E100_62) rfl (s_vcall1 E100_63.1 (k_ E100_63) rfl rfl rfl (((z2.2 c3).2 c4).1 c5) (fun M17 r18 z6 => s_iret E100_66.1 (k_ E100_66) z6))) (fun c5 => And.intro (fun c7 => s_aload_n E100_67.1 (k_ E100_67) rfl (s_aload_n E100_68.1 (k_ E100_68) rfl (s_vcall1 E100_69.1 (k_ E100_69) rfl rfl rfl ((((z2.2 c3).2 c4).2 c5).1 c7) (fun M11 r12 z8 => s_vcall1 E100_72.1 (k_ E100_72) rfl rfl rfl z8 (fun M14 r15 z9 => s_iret E100_75.1 (k_ E100_75) z9))))) (fun c7 => And.intro (fun c10 => s_aload_n E100_76.1 (k_ E100_76) rfl (s_vcall1 E100_77.1 (k_ E100_77) rfl rfl rfl (((((z2.2 c3).2 c4).2 c5).2 c7).1 c10) (fun M8 r9 z11 => s_iret E100_80.1 (k_ E100_80) z11))) (fun c10 => s_aload_n E100_81.1 (k_ E100_81) rfl (s_vcall1 E100_82.1 (k_ E100_82) rfl rfl rfl (((((z2.2 c3).2 c4).2 c5).2 c7).2 c10) (fun M5 r6 z12 => s_iret E100_85.1 (k_ E100_85) z12)))))))))))), fun c1 => s_iconst E100_9.1 (k_ E100_9) (s_iret E100_10.1 (k_ E100_10) ((h.2 c0).2 c1))⟩))⟩)
-- 101: X6_toldOn
theorem E101_0 : aCode 101 0 = (Instr.iload_n 2, 1, [], 0) ∧ bMask 101 0 = [] := ⟨rfl, rfl⟩
theorem E101_1 : aCode 101 1 = (Instr.invokestatic 91, 4, [61, 1, 1, 0, 0, 43], 0) ∧ bMask 101 1 = [] := ⟨rfl, rfl⟩
theorem E101_4 : aCode 101 4 = (Instr.ifCond .ne 5, 7, [9], 0) ∧ bMask 101 4 = [] := ⟨rfl, rfl⟩
theorem E101_7 : aCode 101 7 = (Instr.iconst (-1), 8, [], (-1)) ∧ bMask 101 7 = [] := ⟨rfl, rfl⟩
theorem E101_8 : aCode 101 8 = (Instr.ireturn, 9, [0], 0) ∧ bMask 101 8 = [] := ⟨rfl, rfl⟩
theorem E101_9 : aCode 101 9 = (Instr.aload_n 0, 10, [], 0) ∧ bMask 101 9 = [] := ⟨rfl, rfl⟩
theorem E101_10 : aCode 101 10 = (Instr.getfield 67, 13, [43, 6, 12, 2], 0) ∧ bMask 101 10 = [] := ⟨rfl, rfl⟩
theorem E101_13 : aCode 101 13 = (Instr.iload_n 1, 14, [], 0) ∧ bMask 101 13 = [] := ⟨rfl, rfl⟩
theorem E101_14 : aCode 101 14 = (Instr.invokevirtual 225, 17, [20, 2, 205, 1, 0, 45], 0) ∧ bMask 101 14 = [] := ⟨rfl, rfl⟩
theorem E101_17 : aCode 101 17 = (Instr.astore_n 3, 18, [], 0) ∧ bMask 101 17 = [] := ⟨rfl, rfl⟩
theorem E101_18 : aCode 101 18 = (Instr.aload_n 3, 19, [], 0) ∧ bMask 101 18 = [] := ⟨rfl, rfl⟩
theorem E101_19 : aCode 101 19 = (Instr.ifnonnull 6, 22, [25], 0) ∧ bMask 101 19 = [] := ⟨rfl, rfl⟩
theorem E101_22 : aCode 101 22 = (Instr.bipush (-3), 24, [], (-3)) ∧ bMask 101 22 = [] := ⟨rfl, rfl⟩
theorem E101_24 : aCode 101 24 = (Instr.ireturn, 25, [0], 0) ∧ bMask 101 24 = [] := ⟨rfl, rfl⟩
theorem E101_25 : aCode 101 25 = (Instr.aload_n 3, 26, [], 0) ∧ bMask 101 25 = [] := ⟨rfl, rfl⟩
theorem E101_26 : aCode 101 26 = (Instr.getfield 208, 29, [44, 3, 3, 0], 0) ∧ bMask 101 26 = [] := ⟨rfl, rfl⟩
theorem E101_29 : aCode 101 29 = (Instr.ifCond .ne 26, 32, [55], 0) ∧ bMask 101 29 = [] := ⟨rfl, rfl⟩
theorem E101_32 : aCode 101 32 = (Instr.aload_n 3, 33, [], 0) ∧ bMask 101 32 = [] := ⟨rfl, rfl⟩
theorem E101_33 : aCode 101 33 = (Instr.getfield 216, 36, [49, 3, 8, 0], 0) ∧ bMask 101 33 = [] := ⟨rfl, rfl⟩
theorem E101_36 : aCode 101 36 = (Instr.aload_n 0, 37, [], 0) ∧ bMask 101 36 = [] := ⟨rfl, rfl⟩
theorem E101_37 : aCode 101 37 = (Instr.getfield 10, 40, [39, 6, 0, 2], 0) ∧ bMask 101 37 = [] := ⟨rfl, rfl⟩
theorem E101_40 : aCode 101 40 = (Instr.getfield 82, 43, [59, 2, 0, 0], 0) ∧ bMask 101 40 = [] := ⟨rfl, rfl⟩
theorem E101_43 : aCode 101 43 = (Instr.if_icmp .ne 12, 46, [55], 0) ∧ bMask 101 43 = [] := ⟨rfl, rfl⟩
theorem E101_46 : aCode 101 46 = (Instr.aload_n 3, 47, [], 0) ∧ bMask 101 46 = [] := ⟨rfl, rfl⟩
theorem E101_47 : aCode 101 47 = (Instr.iconst 1, 48, [], 1) ∧ bMask 101 47 = [] := ⟨rfl, rfl⟩
theorem E101_48 : aCode 101 48 = (Instr.iconst 0, 49, [], 0) ∧ bMask 101 48 = [] := ⟨rfl, rfl⟩
theorem E101_49 : aCode 101 49 = (Instr.invokevirtual 237, 52, [36, 3, 1, 3, 0, 80], 0) ∧ bMask 101 49 = [] := ⟨rfl, rfl⟩
theorem E101_52 : aCode 101 52 = (Instr.ifCond .ne 6, 55, [58], 0) ∧ bMask 101 52 = [] := ⟨rfl, rfl⟩
theorem E101_55 : aCode 101 55 = (Instr.bipush (-2), 57, [], (-2)) ∧ bMask 101 55 = [] := ⟨rfl, rfl⟩
theorem E101_57 : aCode 101 57 = (Instr.ireturn, 58, [0], 0) ∧ bMask 101 57 = [] := ⟨rfl, rfl⟩
theorem E101_58 : aCode 101 58 = (Instr.aload_n 3, 59, [], 0) ∧ bMask 101 58 = [] := ⟨rfl, rfl⟩
theorem E101_59 : aCode 101 59 = (Instr.iconst 0, 60, [], 0) ∧ bMask 101 59 = [] := ⟨rfl, rfl⟩
theorem E101_60 : aCode 101 60 = (Instr.aload_n 0, 61, [], 0) ∧ bMask 101 60 = [] := ⟨rfl, rfl⟩
theorem E101_61 : aCode 101 61 = (Instr.getfield 61, 64, [41, 6, 11, 2], 0) ∧ bMask 101 61 = [] := ⟨rfl, rfl⟩
theorem E101_64 : aCode 101 64 = (Instr.invokevirtual 240, 67, [37, 3, 0, 3, 0, 85], 0) ∧ bMask 101 64 = [] := ⟨rfl, rfl⟩
theorem E101_67 : aCode 101 67 = (Instr.aload_n 3, 68, [], 0) ∧ bMask 101 67 = [] := ⟨rfl, rfl⟩
theorem E101_68 : aCode 101 68 = (Instr.iconst 1, 69, [], 1) ∧ bMask 101 68 = [] := ⟨rfl, rfl⟩
theorem E101_69 : aCode 101 69 = (Instr.aload_n 0, 70, [], 0) ∧ bMask 101 69 = [] := ⟨rfl, rfl⟩
theorem E101_70 : aCode 101 70 = (Instr.getfield 58, 73, [40, 6, 10, 2], 0) ∧ bMask 101 70 = [] := ⟨rfl, rfl⟩
theorem E101_73 : aCode 101 73 = (Instr.invokevirtual 240, 76, [37, 3, 0, 3, 0, 85], 0) ∧ bMask 101 73 = [] := ⟨rfl, rfl⟩
theorem E101_76 : aCode 101 76 = (Instr.aload_n 0, 77, [], 0) ∧ bMask 101 76 = [] := ⟨rfl, rfl⟩
theorem E101_77 : aCode 101 77 = (Instr.getfield 10, 80, [39, 6, 0, 2], 0) ∧ bMask 101 77 = [] := ⟨rfl, rfl⟩
theorem E101_80 : aCode 101 80 = (Instr.aload_n 0, 81, [], 0) ∧ bMask 101 80 = [] := ⟨rfl, rfl⟩
theorem E101_81 : aCode 101 81 = (Instr.getfield 61, 84, [41, 6, 11, 2], 0) ∧ bMask 101 81 = [] := ⟨rfl, rfl⟩
theorem E101_84 : aCode 101 84 = (Instr.aload_n 0, 85, [], 0) ∧ bMask 101 84 = [] := ⟨rfl, rfl⟩
theorem E101_85 : aCode 101 85 = (Instr.getfield 58, 88, [40, 6, 10, 2], 0) ∧ bMask 101 85 = [] := ⟨rfl, rfl⟩
theorem E101_88 : aCode 101 88 = (Instr.aload_n 0, 89, [], 0) ∧ bMask 101 88 = [] := ⟨rfl, rfl⟩
theorem E101_89 : aCode 101 89 = (Instr.getfield 61, 92, [41, 6, 11, 2], 0) ∧ bMask 101 89 = [] := ⟨rfl, rfl⟩
theorem E101_92 : aCode 101 92 = (Instr.invokevirtual 113, 95, [30, 4, 0, 2, 0, 73], 0) ∧ bMask 101 92 = [] := ⟨rfl, rfl⟩
theorem E101_95 : aCode 101 95 = (Instr.aload_n 0, 96, [], 0) ∧ bMask 101 95 = [] := ⟨rfl, rfl⟩
theorem E101_96 : aCode 101 96 = (Instr.getfield 10, 99, [39, 6, 0, 2], 0) ∧ bMask 101 96 = [] := ⟨rfl, rfl⟩
theorem E101_99 : aCode 101 99 = (Instr.aload_n 0, 100, [], 0) ∧ bMask 101 99 = [] := ⟨rfl, rfl⟩
theorem E101_100 : aCode 101 100 = (Instr.getfield 61, 103, [41, 6, 11, 2], 0) ∧ bMask 101 100 = [] := ⟨rfl, rfl⟩
theorem E101_103 : aCode 101 103 = (Instr.iconst (-1), 104, [], (-1)) ∧ bMask 101 103 = [] := ⟨rfl, rfl⟩
theorem E101_104 : aCode 101 104 = (Instr.aload_n 0, 105, [], 0) ∧ bMask 101 104 = [] := ⟨rfl, rfl⟩
theorem E101_105 : aCode 101 105 = (Instr.getfield 61, 108, [41, 6, 11, 2], 0) ∧ bMask 101 105 = [] := ⟨rfl, rfl⟩
theorem E101_108 : aCode 101 108 = (Instr.iconst 0, 109, [], 0) ∧ bMask 101 108 = [] := ⟨rfl, rfl⟩
theorem E101_109 : aCode 101 109 = (Instr.aload_n 0, 110, [], 0) ∧ bMask 101 109 = [] := ⟨rfl, rfl⟩
theorem E101_110 : aCode 101 110 = (Instr.getfield 18, 113, [42, 6, 1, 2], 0) ∧ bMask 101 110 = [] := ⟨rfl, rfl⟩
theorem E101_113 : aCode 101 113 = (Instr.iload_n 2, 114, [], 0) ∧ bMask 101 113 = [] := ⟨rfl, rfl⟩
theorem E101_114 : aCode 101 114 = (Instr.aaload, 115, [2], 0) ∧ bMask 101 114 = [] := ⟨rfl, rfl⟩
theorem E101_115 : aCode 101 115 = (Instr.invokevirtual 101, 118, [28, 6, 0, 2, 0, 42], 0) ∧ bMask 101 115 = [] := ⟨rfl, rfl⟩
theorem E101_118 : aCode 101 118 = (Instr.aload_n 0, 119, [], 0) ∧ bMask 101 118 = [] := ⟨rfl, rfl⟩
theorem E101_119 : aCode 101 119 = (Instr.iconst 1, 120, [], 1) ∧ bMask 101 119 = [] := ⟨rfl, rfl⟩
theorem E101_120 : aCode 101 120 = (Instr.putfield 48, 123, [51, 6, 7, 1], 0) ∧ bMask 101 120 = [] := ⟨rfl, rfl⟩
theorem E101_123 : aCode 101 123 = (Instr.iconst 1, 124, [], 1) ∧ bMask 101 123 = [] := ⟨rfl, rfl⟩
theorem E101_124 : aCode 101 124 = (Instr.ireturn, 125, [0], 0) ∧ bMask 101 124 = [] := ⟨rfl, rfl⟩
theorem g_X6_toldOn_0 {Q : bQ} {M : bM} {x1 : Int32} {x2 : Int32} (h : bCall 61 [cI x2] M (fun v1 M2 => bV1 v1 fun r3 => (((¬ r3 = 0) → (bCall 20 [cR 4 0, cI x1] M2 (fun v4 M5 => bV5 v4 5 (Q (some (cI (-3 : Int32))) M5) (fun q6 => ((¬ (M5 5 q6 3) = 0) → (Q (some (cI (-2 : Int32))) M5)) ∧ (¬ (¬ (M5 5 q6 3) = 0) → (((¬ (M5 5 q6 8) = (M5 1 0 0)) → (Q (some (cI (-2 : Int32))) M5)) ∧ (¬ (¬ (M5 5 q6 8) = (M5 1 0 0)) → (bCall 36 [cR 5 q6, cI (1 : Int32), cI (0 : Int32)] M5 (fun v7 M8 => bV1 v7 fun r9 => (((¬ r9 = 0) → (bCall 37 [cR 5 q6, cI (0 : Int32), cR 7 6] M8 (fun v10 M11 => bV0 v10 (bCall 37 [cR 5 q6, cI (1 : Int32), cR 7 7] M11 (fun v12 M13 => bV0 v12 (bCall 30 [cR 1 0, cR 7 6, cR 7 7, cR 7 6] M13 (fun v14 M15 => bV0 v14 ((vp_in x2 6) ∧ (bCall 28 [cR 1 0, cR 7 6, cI (-1 : Int32), cR 7 6, cI (0 : Int32), cR 7 x2.toNatClampNeg] M15 (fun v16 M17 => bV0 v16 (((1 : Int32) = 0 ∨ (1 : Int32) = 1) ∧ (Q (some (cI (1 : Int32))) (bU M17 0 0 7 (1 : Int32)))))))))))))) ∧ (¬ (¬ r9 = 0) → (Q (some (cI (-2 : Int32))) M8)))))))))))) ∧ (¬ (¬ r3 = 0) → (Q (some (cI (-1 : Int32))) M2))))) : bCall 101 [cR 0 0, cI x1, cI x2] M Q := s_iload_n E101_0.1 (k_ E101_0) rfl (s_scall1 E101_1.1 (k_ E101_1) rfl rfl rfl h (fun M2 r3 z0 => s_if_ne E101_4.1 (k_ E101_4) ⟨fun c1 => s_aload_n E101_9.1 (k_ E101_9) rfl (s_getR E101_10.1 (k_ E101_10) rfl rfl (s_iload_n E101_13.1 (k_ E101_13) rfl (s_vcall205 E101_14.1 (k_ E101_14) rfl rfl rfl (z0.1 c1) (fun M5 z2 => s_astore_nN E101_17.1 (k_ E101_17) (s_aload_nN E101_18.1 (k_ E101_18) rfl (s_ifnonnullN E101_19.1 (k_ E101_19) (s_bipush E101_22.1 (k_ E101_22) (s_iret E101_24.1 (k_ E101_24) z2))))) (fun M5 q6 z2 => s_astore_n E101_17.1 (k_ E101_17) (s_aload_n E101_18.1 (k_ E101_18) rfl (s_ifnonnull E101_19.1 (k_ E101_19) (s_aload_n E101_25.1 (k_ E101_25) rfl (s_getI0 E101_26.1 (k_ E101_26) rfl (s_if_ne E101_29.1 (k_ E101_29) ⟨fun c3 => s_bipush E101_55.1 (k_ E101_55) (s_iret E101_57.1 (k_ E101_57) (z2.1 c3)), fun c3 => s_aload_n E101_32.1 (k_ E101_32) rfl (s_getI0 E101_33.1 (k_ E101_33) rfl (s_aload_n E101_36.1 (k_ E101_36) rfl (s_getR E101_37.1 (k_ E101_37) rfl rfl (s_getI0 E101_40.1 (k_ E101_40) rfl (s_icmp_ne E101_43.1 (k_ E101_43) ⟨fun c4 => s_bipush E101_55.1 (k_ E101_55) (s_iret E101_57.1 (k_ E101_57) ((z2.2 c3).1 c4)), fun c4 => s_aload_n E101_46.1 (k_ E101_46) rfl (s_iconst E101_47.1 (k_ E101_47) (s_iconst E101_48.1 (k_ E101_48) (s_vcall1 E101_49.1 (k_ E101_49) rfl rfl rfl ((z2.2 c3).2 c4) (fun M8 r9 z5 => s_if_ne E101_52.1 (k_ E101_52) ⟨fun c6 => s_aload_n E101_58.1 (k_ E101_58) rfl (s_iconst E101_59.1 (k_ E101_59) (s_aload_n E101_60.1 (k_ E101_60) rfl (s_getR E101_61.1 (k_ E101_61) rfl rfl (s_vcall0 E101_64.1 (k_ E101_64) rfl rfl rfl (z5.1 c6) (fun M11 z7 => s_aload_n E101_67.1 (k_ E101_67) rfl (s_iconst E101_68.1 (k_ E101_68) (s_aload_n E101_69.1 (k_ E101_69) rfl (s_getR E101_70.1 (k_ E101_70) rfl rfl (s_vcall0 E101_73.1 (k_ E101_73) rfl rfl rfl z7 (fun M13 z8 => s_aload_n E101_76.1 (k_ E101_76) rfl (s_getR E101_77.1 (k_ E101_77) rfl rfl (s_aload_n E101_80.1 (k_ E101_80) rfl (s_getR E101_81.1 (k_ E101_81) rfl rfl (s_aload_n E101_84.1 (k_ E101_84) rfl (s_getR E101_85.1 (k_ E101_85) rfl rfl (s_aload_n E101_88.1 (k_ E101_88) rfl (s_getR E101_89.1 (k_ E101_89) rfl rfl (s_vcall0 E101_92.1 (k_ E101_92) rfl rfl rfl z8 (fun M15 z9 => s_aload_n E101_95.1 (k_ E101_95) rfl (s_getR E101_96.1 (k_ E101_96) rfl rfl (s_aload_n E101_99.1 (k_ E101_99) rfl (s_getR E101_100.1 (k_ E101_100) rfl rfl (s_iconst E101_103.1 (k_ E101_103) (s_aload_n E101_104.1 (k_ E101_104) rfl (s_getR E101_105.1 (k_ E101_105) rfl rfl (s_iconst E101_108.1 (k_ E101_108) (s_aload_n E101_109.1 (k_ E101_109) rfl (s_getR E101_110.1 (k_ E101_110) rfl rfl (s_iload_n E101_113.1 (k_ E101_113) rfl (s_aaload E101_114.1 (k_ E101_114) rfl ⟨z9.1, s_vcall0 E101_115.1 (k_ E101_115) rfl rfl rfl z9.2 (fun M17 z10 => s_aload_n E101_118.1 (k_ E101_118) rfl (s_iconst E101_119.1 (k_ E101_119) (s_putZ E101_120.1 (k_ E101_120) rfl ⟨z10.1, s_iconst E101_123.1 (k_ E101_123) (s_iret E101_124.1 (k_ E101_124) z10.2)⟩)))⟩)))))))))))))))))))))))))))))), fun c6 => s_bipush E101_55.1 (k_ E101_55) (s_iret E101_57.1 (k_ E101_57) (z5.2 c6))⟩))))⟩)))))⟩))))))))), fun c1 => s_iconst E101_7.1 (k_ E101_7) (s_iret E101_8.1 (k_ E101_8) (z0.2 c1))⟩))
-- 102: X6_weigh
theorem E102_0 : aCode 102 0 = (Instr.iload_n 1, 1, [], 0) ∧ bMask 102 0 = [] := ⟨rfl, rfl⟩
theorem E102_1 : aCode 102 1 = (Instr.invokestatic 91, 4, [61, 1, 1, 0, 0, 43], 0) ∧ bMask 102 1 = [] := ⟨rfl, rfl⟩
theorem E102_4 : aCode 102 4 = (Instr.ifCond .eq 10, 7, [14], 0) ∧ bMask 102 4 = [] := ⟨rfl, rfl⟩
theorem E102_7 : aCode 102 7 = (Instr.iload_n 2, 8, [], 0) ∧ bMask 102 7 = [] := ⟨rfl, rfl⟩
theorem E102_8 : aCode 102 8 = (Instr.invokestatic 91, 11, [61, 1, 1, 0, 0, 43], 0) ∧ bMask 102 8 = [] := ⟨rfl, rfl⟩
theorem E102_11 : aCode 102 11 = (Instr.ifCond .ne 5, 14, [16], 0) ∧ bMask 102 11 = [] := ⟨rfl, rfl⟩
theorem E102_14 : aCode 102 14 = (Instr.iconst (-1), 15, [], (-1)) ∧ bMask 102 14 = [] := ⟨rfl, rfl⟩
theorem E102_15 : aCode 102 15 = (Instr.ireturn, 16, [0], 0) ∧ bMask 102 15 = [] := ⟨rfl, rfl⟩
theorem E102_16 : aCode 102 16 = (Instr.aload_n 0, 17, [], 0) ∧ bMask 102 16 = [] := ⟨rfl, rfl⟩
theorem E102_17 : aCode 102 17 = (Instr.getfield 10, 20, [39, 6, 0, 2], 0) ∧ bMask 102 17 = [] := ⟨rfl, rfl⟩
theorem E102_20 : aCode 102 20 = (Instr.aload_n 0, 21, [], 0) ∧ bMask 102 20 = [] := ⟨rfl, rfl⟩
theorem E102_21 : aCode 102 21 = (Instr.getfield 18, 24, [42, 6, 1, 2], 0) ∧ bMask 102 21 = [] := ⟨rfl, rfl⟩
theorem E102_24 : aCode 102 24 = (Instr.iload_n 1, 25, [], 0) ∧ bMask 102 24 = [] := ⟨rfl, rfl⟩
theorem E102_25 : aCode 102 25 = (Instr.aaload, 26, [2], 0) ∧ bMask 102 25 = [] := ⟨rfl, rfl⟩
theorem E102_26 : aCode 102 26 = (Instr.aload_n 0, 27, [], 0) ∧ bMask 102 26 = [] := ⟨rfl, rfl⟩
theorem E102_27 : aCode 102 27 = (Instr.getfield 18, 30, [42, 6, 1, 2], 0) ∧ bMask 102 27 = [] := ⟨rfl, rfl⟩
theorem E102_30 : aCode 102 30 = (Instr.iload_n 2, 31, [], 0) ∧ bMask 102 30 = [] := ⟨rfl, rfl⟩
theorem E102_31 : aCode 102 31 = (Instr.aaload, 32, [2], 0) ∧ bMask 102 31 = [] := ⟨rfl, rfl⟩
theorem E102_32 : aCode 102 32 = (Instr.invokevirtual 116, 35, [35, 3, 0, 2, 0, 61], 0) ∧ bMask 102 32 = [] := ⟨rfl, rfl⟩
theorem E102_35 : aCode 102 35 = (Instr.aload_n 0, 36, [], 0) ∧ bMask 102 35 = [] := ⟨rfl, rfl⟩
theorem E102_36 : aCode 102 36 = (Instr.iconst 1, 37, [], 1) ∧ bMask 102 36 = [] := ⟨rfl, rfl⟩
theorem E102_37 : aCode 102 37 = (Instr.putfield 48, 40, [51, 6, 7, 1], 0) ∧ bMask 102 37 = [] := ⟨rfl, rfl⟩
theorem E102_40 : aCode 102 40 = (Instr.iconst 1, 41, [], 1) ∧ bMask 102 40 = [] := ⟨rfl, rfl⟩
theorem E102_41 : aCode 102 41 = (Instr.ireturn, 42, [0], 0) ∧ bMask 102 41 = [] := ⟨rfl, rfl⟩
theorem g_X6_weigh_0 {Q : bQ} {M : bM} {x1 : Int32} {x2 : Int32} (h : bCall 61 [cI x1] M (fun v1 M2 => bV1 v1 fun r3 => (((r3 = 0) → (Q (some (cI (-1 : Int32))) M2)) ∧ (¬ (r3 = 0) → (bCall 61 [cI x2] M2 (fun v4 M5 => bV1 v4 fun r6 => (((¬ r6 = 0) → ((vp_in x1 6) ∧ ((vp_in x2 6) ∧ (bCall 35 [cR 1 0, cR 7 x1.toNatClampNeg, cR 7 x2.toNatClampNeg] M5 (fun v7 M8 => bV0 v7 (((1 : Int32) = 0 ∨ (1 : Int32) = 1) ∧ (Q (some (cI (1 : Int32))) (bU M8 0 0 7 (1 : Int32))))))))) ∧ (¬ (¬ r6 = 0) → (Q (some (cI (-1 : Int32))) M5))))))))) : bCall 102 [cR 0 0, cI x1, cI x2] M Q := s_iload_n E102_0.1 (k_ E102_0) rfl (s_scall1 E102_1.1 (k_ E102_1) rfl rfl rfl h (fun M2 r3 z0 => s_if_eq E102_4.1 (k_ E102_4) ⟨fun c1 => s_iconst E102_14.1 (k_ E102_14) (s_iret E102_15.1 (k_ E102_15) (z0.1 c1)), fun c1 => s_iload_n E102_7.1 (k_ E102_7) rfl (s_scall1 E102_8.1 (k_ E102_8) rfl rfl rfl (z0.2 c1) (fun M5 r6 z2 => s_if_ne E102_11.1 (k_ E102_11) ⟨fun c3 => s_aload_n E102_16.1 (k_ E102_16) rfl (s_getR E102_17.1 (k_ E102_17) rfl rfl (s_aload_n E102_20.1 (k_ E102_20) rfl (s_getR E102_21.1 (k_ E102_21) rfl rfl (s_iload_n E102_24.1 (k_ E102_24) rfl (s_aaload E102_25.1 (k_ E102_25) rfl ⟨(z2.1 c3).1, s_aload_n E102_26.1 (k_ E102_26) rfl (s_getR E102_27.1 (k_ E102_27) rfl rfl (s_iload_n E102_30.1 (k_ E102_30) rfl (s_aaload E102_31.1 (k_ E102_31) rfl ⟨((z2.1 c3).2).1, s_vcall0 E102_32.1 (k_ E102_32) rfl rfl rfl (((z2.1 c3).2).2) (fun M8 z4 => s_aload_n E102_35.1 (k_ E102_35) rfl (s_iconst E102_36.1 (k_ E102_36) (s_putZ E102_37.1 (k_ E102_37) rfl ⟨z4.1, s_iconst E102_40.1 (k_ E102_40) (s_iret E102_41.1 (k_ E102_41) z4.2)⟩)))⟩)))⟩))))), fun c3 => s_iconst E102_14.1 (k_ E102_14) (s_iret E102_15.1 (k_ E102_15) (z2.2 c3))⟩))⟩))
-- 103: X6_zeros
theorem E103_0 : aCode 103 0 = (Instr.iload_n 1, 1, [], 0) ∧ bMask 103 0 = [] := ⟨rfl, rfl⟩
theorem E103_1 : aCode 103 1 = (Instr.invokestatic 91, 4, [61, 1, 1, 0, 0, 43], 0) ∧ bMask 103 1 = [] := ⟨rfl, rfl⟩
theorem E103_4 : aCode 103 4 = (Instr.ifCond .eq 15, 7, [19], 0) ∧ bMask 103 4 = [] := ⟨rfl, rfl⟩
theorem E103_7 : aCode 103 7 = (Instr.aload_n 0, 8, [], 0) ∧ bMask 103 7 = [] := ⟨rfl, rfl⟩
theorem E103_8 : aCode 103 8 = (Instr.getfield 18, 11, [42, 6, 1, 2], 0) ∧ bMask 103 8 = [] := ⟨rfl, rfl⟩
theorem E103_11 : aCode 103 11 = (Instr.iload_n 1, 12, [], 0) ∧ bMask 103 11 = [] := ⟨rfl, rfl⟩
theorem E103_12 : aCode 103 12 = (Instr.aaload, 13, [2], 0) ∧ bMask 103 12 = [] := ⟨rfl, rfl⟩
theorem E103_13 : aCode 103 13 = (Instr.invokestatic 140, 16, [33, 1, 1, 0, 0, 52], 0) ∧ bMask 103 13 = [] := ⟨rfl, rfl⟩
theorem E103_16 : aCode 103 16 = (Instr.goto 4, 20, [], 0) ∧ bMask 103 16 = [] := ⟨rfl, rfl⟩
theorem E103_19 : aCode 103 19 = (Instr.iconst (-1), 20, [], (-1)) ∧ bMask 103 19 = [] := ⟨rfl, rfl⟩
theorem E103_20 : aCode 103 20 = (Instr.ireturn, 21, [0], 0) ∧ bMask 103 20 = [] := ⟨rfl, rfl⟩
theorem g_X6_zeros_0 {Q : bQ} {M : bM} {x1 : Int32} (h : bCall 61 [cI x1] M (fun v1 M2 => bV1 v1 fun r3 => (((r3 = 0) → (Q (some (cI (-1 : Int32))) M2)) ∧ (¬ (r3 = 0) → ((vp_in x1 6) ∧ (bCall 33 [cR 7 x1.toNatClampNeg] M2 (fun v4 M5 => bV1 v4 fun r6 => (Q (some (cI r6)) M5)))))))) : bCall 103 [cR 0 0, cI x1] M Q := s_iload_n E103_0.1 (k_ E103_0) rfl (s_scall1 E103_1.1 (k_ E103_1) rfl rfl rfl h (fun M2 r3 z0 => s_if_eq E103_4.1 (k_ E103_4) ⟨fun c1 => s_iconst E103_19.1 (k_ E103_19) (s_iret E103_20.1 (k_ E103_20) (z0.1 c1)), fun c1 => s_aload_n E103_7.1 (k_ E103_7) rfl (s_getR E103_8.1 (k_ E103_8) rfl rfl (s_iload_n E103_11.1 (k_ E103_11) rfl (s_aaload E103_12.1 (k_ E103_12) rfl ⟨(z0.2 c1).1, s_scall1 E103_13.1 (k_ E103_13) rfl rfl rfl ((z0.2 c1).2) (fun M5 r6 z2 => s_goto E103_16.1 (k_ E103_16) (s_iret E103_20.1 (k_ E103_20) z2))⟩)))⟩))
