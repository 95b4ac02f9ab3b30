-- needs: 01 02 06 08 09 10 11
-- 39: X4_open
theorem E39_0 : aCode 39 0 = (Instr.aload_n 0, 1, [], 0) ∧ bMask 39 0 = [] := ⟨rfl, rfl⟩
theorem E39_1 : aCode 39 1 = (Instr.iload_n 1, 2, [], 0) ∧ bMask 39 1 = [] := ⟨rfl, rfl⟩
theorem E39_2 : aCode 39 2 = (Instr.putfield 94, 5, [18, 4, 10, 0], 0) ∧ bMask 39 2 = [] := ⟨rfl, rfl⟩
theorem E39_5 : aCode 39 5 = (Instr.aload_n 0, 6, [], 0) ∧ bMask 39 5 = [] := ⟨rfl, rfl⟩
theorem E39_6 : aCode 39 6 = (Instr.getfield 17, 9, [19, 4, 11, 2], 0) ∧ bMask 39 6 = [] := ⟨rfl, rfl⟩
theorem E39_9 : aCode 39 9 = (Instr.aload_n 0, 10, [], 0) ∧ bMask 39 9 = [] := ⟨rfl, rfl⟩
theorem E39_10 : aCode 39 10 = (Instr.getfield 94, 13, [18, 4, 10, 0], 0) ∧ bMask 39 10 = [] := ⟨rfl, rfl⟩
theorem E39_13 : aCode 39 13 = (Instr.aaload, 14, [2], 0) ∧ bMask 39 13 = [] := ⟨rfl, rfl⟩
theorem E39_14 : aCode 39 14 = (Instr.iconst 0, 15, [], 0) ∧ bMask 39 14 = [] := ⟨rfl, rfl⟩
theorem E39_15 : aCode 39 15 = (Instr.invokestatic 106, 18, [1, 2, 0, 0, 0, 23], 0) ∧ bMask 39 15 = [] := ⟨rfl, rfl⟩
theorem E39_18 : aCode 39 18 = (Instr.aload_n 0, 19, [], 0) ∧ bMask 39 18 = [] := ⟨rfl, rfl⟩
theorem E39_19 : aCode 39 19 = (Instr.getfield 39, 22, [20, 4, 0, 2], 0) ∧ bMask 39 19 = [] := ⟨rfl, rfl⟩
theorem E39_22 : aCode 39 22 = (Instr.iconst 1, 23, [], 1) ∧ bMask 39 22 = [] := ⟨rfl, rfl⟩
theorem E39_23 : aCode 39 23 = (Instr.aload_n 0, 24, [], 0) ∧ bMask 39 23 = [] := ⟨rfl, rfl⟩
theorem E39_24 : aCode 39 24 = (Instr.getfield 20, 27, [21, 4, 12, 2], 0) ∧ bMask 39 24 = [] := ⟨rfl, rfl⟩
theorem E39_27 : aCode 39 27 = (Instr.aload_n 0, 28, [], 0) ∧ bMask 39 27 = [] := ⟨rfl, rfl⟩
theorem E39_28 : aCode 39 28 = (Instr.getfield 94, 31, [18, 4, 10, 0], 0) ∧ bMask 39 28 = [] := ⟨rfl, rfl⟩
theorem E39_31 : aCode 39 31 = (Instr.aaload, 32, [2], 0) ∧ bMask 39 31 = [] := ⟨rfl, rfl⟩
theorem E39_32 : aCode 39 32 = (Instr.invokevirtual 112, 35, [29, 3, 0, 2, 0, 24], 0) ∧ bMask 39 32 = [] := ⟨rfl, rfl⟩
theorem E39_35 : aCode 39 35 = (Instr.aload_n 0, 36, [], 0) ∧ bMask 39 35 = [] := ⟨rfl, rfl⟩
theorem E39_36 : aCode 39 36 = (Instr.getfield 30, 39, [22, 4, 15, 2], 0) ∧ bMask 39 36 = [] := ⟨rfl, rfl⟩
theorem E39_39 : aCode 39 39 = (Instr.aload_n 0, 40, [], 0) ∧ bMask 39 39 = [] := ⟨rfl, rfl⟩
theorem E39_40 : aCode 39 40 = (Instr.getfield 94, 43, [18, 4, 10, 0], 0) ∧ bMask 39 40 = [] := ⟨rfl, rfl⟩
theorem E39_43 : aCode 39 43 = (Instr.bipush 42, 45, [], 42) ∧ bMask 39 43 = [] := ⟨rfl, rfl⟩
theorem E39_45 : aCode 39 45 = (Instr.iastore, 46, [0], 0) ∧ bMask 39 45 = [] := ⟨rfl, rfl⟩
theorem E39_46 : aCode 39 46 = (Instr.aload_n 0, 47, [], 0) ∧ bMask 39 46 = [] := ⟨rfl, rfl⟩
theorem E39_47 : aCode 39 47 = (Instr.getfield 26, 50, [23, 4, 14, 2], 0) ∧ bMask 39 47 = [] := ⟨rfl, rfl⟩
theorem E39_50 : aCode 39 50 = (Instr.aload_n 0, 51, [], 0) ∧ bMask 39 50 = [] := ⟨rfl, rfl⟩
theorem E39_51 : aCode 39 51 = (Instr.getfield 94, 54, [18, 4, 10, 0], 0) ∧ bMask 39 51 = [] := ⟨rfl, rfl⟩
theorem E39_54 : aCode 39 54 = (Instr.iconst 0, 55, [], 0) ∧ bMask 39 54 = [] := ⟨rfl, rfl⟩
theorem E39_55 : aCode 39 55 = (Instr.bastore, 56, [1], 0) ∧ bMask 39 55 = [] := ⟨rfl, rfl⟩
theorem E39_56 : aCode 39 56 = (Instr.aload_n 0, 57, [], 0) ∧ bMask 39 56 = [] := ⟨rfl, rfl⟩
theorem E39_57 : aCode 39 57 = (Instr.iconst 0, 58, [], 0) ∧ bMask 39 57 = [] := ⟨rfl, rfl⟩
theorem E39_58 : aCode 39 58 = (Instr.putfield 60, 61, [24, 4, 7, 0], 0) ∧ bMask 39 58 = [] := ⟨rfl, rfl⟩
theorem E39_61 : aCode 39 61 = (Instr.return_, 62, [], 0) ∧ bMask 39 61 = [] := ⟨rfl, rfl⟩
theorem g_X4_open_0 {Q : bQ} {M : bM} {x1 : Int32} (h : (vp_in ((bU M 2 0 10 x1) 2 0 10) 5) ∧ (bCall 1 [cR 7 (13 + ((bU M 2 0 10 x1) 2 0 10).toNatClampNeg), cI (0 : Int32)] (bU M 2 0 10 x1) (fun v1 M2 => bV0 v1 ((vp_in (M2 2 0 10) 5) ∧ (bCall 29 [cR 1 0, cI (1 : Int32), cR 7 (18 + (M2 2 0 10).toNatClampNeg)] M2 (fun v3 M4 => bV0 v3 ((vp_in (M4 2 0 10) 5) ∧ ((vp_in ((bU M4 10 0 (M4 2 0 10).toNatClampNeg (42 : Int32)) 2 0 10) 5 ∧ ((0 : Int32) = 0 ∨ (0 : Int32) = 1)) ∧ (Q none (bU (bU (bU M4 10 0 (M4 2 0 10).toNatClampNeg (42 : Int32)) 14 0 ((bU M4 10 0 (M4 2 0 10).toNatClampNeg (42 : Int32)) 2 0 10).toNatClampNeg (0 : Int32)) 2 0 7 (0 : Int32))))))))))) : bCall 39 [cR 2 0, cI x1] M Q := s_aload_n E39_0.1 (k_ E39_0) rfl (s_iload_n E39_1.1 (k_ E39_1) rfl (s_putI E39_2.1 (k_ E39_2) rfl (s_aload_n E39_5.1 (k_ E39_5) rfl (s_getR E39_6.1 (k_ E39_6) rfl rfl (s_aload_n E39_9.1 (k_ E39_9) rfl (s_getI0 E39_10.1 (k_ E39_10) rfl (s_aaload E39_13.1 (k_ E39_13) rfl ⟨h.1, s_iconst E39_14.1 (k_ E39_14) (s_scall0 E39_15.1 (k_ E39_15) rfl rfl rfl h.2 (fun M2 z0 => s_aload_n E39_18.1 (k_ E39_18) rfl (s_getR E39_19.1 (k_ E39_19) rfl rfl (s_iconst E39_22.1 (k_ E39_22) (s_aload_n E39_23.1 (k_ E39_23) rfl (s_getR E39_24.1 (k_ E39_24) rfl rfl (s_aload_n E39_27.1 (k_ E39_27) rfl (s_getI0 E39_28.1 (k_ E39_28) rfl (s_aaload E39_31.1 (k_ E39_31) rfl ⟨z0.1, s_vcall0 E39_32.1 (k_ E39_32) rfl rfl rfl z0.2 (fun M4 z1 => s_aload_n E39_35.1 (k_ E39_35) rfl (s_getR E39_36.1 (k_ E39_36) rfl rfl (s_aload_n E39_39.1 (k_ E39_39) rfl (s_getI0 E39_40.1 (k_ E39_40) rfl (s_bipush E39_43.1 (k_ E39_43) (s_iastore E39_45.1 (k_ E39_45) rfl ⟨z1.1, s_aload_n E39_46.1 (k_ E39_46) rfl (s_getR E39_47.1 (k_ E39_47) rfl rfl (s_aload_n E39_50.1 (k_ E39_50) rfl (s_getI0 E39_51.1 (k_ E39_51) rfl (s_iconst E39_54.1 (k_ E39_54) (s_bastore E39_55.1 (k_ E39_55) rfl ⟨z1.2.1, s_aload_n E39_56.1 (k_ E39_56) rfl (s_iconst E39_57.1 (k_ E39_57) (s_putI E39_58.1 (k_ E39_58) rfl (s_ret E39_61.1 (k_ E39_61) z1.2.2)))⟩)))))⟩))))))⟩)))))))))⟩)))))))
-- 40: X4_stop
theorem E40_0 : aCode 40 0 = (Instr.aload_n 0, 1, [], 0) ∧ bMask 40 0 = [] := ⟨rfl, rfl⟩
theorem E40_1 : aCode 40 1 = (Instr.aload_n 0, 2, [], 0) ∧ bMask 40 1 = [] := ⟨rfl, rfl⟩
theorem E40_2 : aCode 40 2 = (Instr.getfield 75, 5, [25, 4, 5, 0], 0) ∧ bMask 40 2 = [] := ⟨rfl, rfl⟩
theorem E40_5 : aCode 40 5 = (Instr.putfield 50, 8, [26, 4, 8, 0], 0) ∧ bMask 40 5 = [] := ⟨rfl, rfl⟩
theorem E40_8 : aCode 40 8 = (Instr.aload_n 0, 9, [], 0) ∧ bMask 40 8 = [] := ⟨rfl, rfl⟩
theorem E40_9 : aCode 40 9 = (Instr.iconst 5, 10, [], 5) ∧ bMask 40 9 = [] := ⟨rfl, rfl⟩
theorem E40_10 : aCode 40 10 = (Instr.putfield 60, 13, [24, 4, 7, 0], 0) ∧ bMask 40 10 = [] := ⟨rfl, rfl⟩
theorem E40_13 : aCode 40 13 = (Instr.return_, 14, [], 0) ∧ bMask 40 13 = [] := ⟨rfl, rfl⟩
theorem g_X4_stop_0 {Q : bQ} {M : bM}  (h : Q none (bU (bU M 2 0 8 (M 2 0 5)) 2 0 7 (5 : Int32))) : bCall 40 [cR 2 0] M Q := s_aload_n E40_0.1 (k_ E40_0) rfl (s_aload_n E40_1.1 (k_ E40_1) rfl (s_getI0 E40_2.1 (k_ E40_2) rfl (s_putI E40_5.1 (k_ E40_5) rfl (s_aload_n E40_8.1 (k_ E40_8) rfl (s_iconst E40_9.1 (k_ E40_9) (s_putI E40_10.1 (k_ E40_10) rfl (s_ret E40_13.1 (k_ E40_13) h)))))))
-- 41: X4_acceptAtom
theorem E41_0 : aCode 41 0 = (Instr.aload_n 0, 1, [], 0) ∧ bMask 41 0 = [] := ⟨rfl, rfl⟩
theorem E41_1 : aCode 41 1 = (Instr.getfield 78, 4, [27, 4, 4, 0], 0) ∧ bMask 41 1 = [] := ⟨rfl, rfl⟩
theorem E41_4 : aCode 41 4 = (Instr.bipush 40, 6, [], 40) ∧ bMask 41 4 = [] := ⟨rfl, rfl⟩
theorem E41_6 : aCode 41 6 = (Instr.if_icmp .ne 22, 9, [28], 0) ∧ bMask 41 6 = [] := ⟨rfl, rfl⟩
theorem E41_9 : aCode 41 9 = (Instr.aload_n 0, 10, [], 0) ∧ bMask 41 9 = [] := ⟨rfl, rfl⟩
theorem E41_10 : aCode 41 10 = (Instr.getfield 94, 13, [18, 4, 10, 0], 0) ∧ bMask 41 10 = [] := ⟨rfl, rfl⟩
theorem E41_13 : aCode 41 13 = (Instr.iconst 4, 14, [], 4) ∧ bMask 41 13 = [] := ⟨rfl, rfl⟩
theorem E41_14 : aCode 41 14 = (Instr.if_icmp .ge 14, 17, [28], 0) ∧ bMask 41 14 = [] := ⟨rfl, rfl⟩
theorem E41_17 : aCode 41 17 = (Instr.aload_n 0, 18, [], 0) ∧ bMask 41 17 = [] := ⟨rfl, rfl⟩
theorem E41_18 : aCode 41 18 = (Instr.aload_n 0, 19, [], 0) ∧ bMask 41 18 = [] := ⟨rfl, rfl⟩
theorem E41_19 : aCode 41 19 = (Instr.getfield 94, 22, [18, 4, 10, 0], 0) ∧ bMask 41 19 = [] := ⟨rfl, rfl⟩
theorem E41_22 : aCode 41 22 = (Instr.iconst 1, 23, [], 1) ∧ bMask 41 22 = [] := ⟨rfl, rfl⟩
theorem E41_23 : aCode 41 23 = (Instr.iadd, 24, [], 0) ∧ bMask 41 23 = [] := ⟨rfl, rfl⟩
theorem E41_24 : aCode 41 24 = (Instr.invokevirtual 56, 27, [39, 2, 0, 4, 0, 25], 0) ∧ bMask 41 24 = [] := ⟨rfl, rfl⟩
theorem E41_27 : aCode 41 27 = (Instr.return_, 28, [], 0) ∧ bMask 41 27 = [] := ⟨rfl, rfl⟩
theorem E41_28 : aCode 41 28 = (Instr.aload_n 0, 29, [], 0) ∧ bMask 41 28 = [] := ⟨rfl, rfl⟩
theorem E41_29 : aCode 41 29 = (Instr.getfield 78, 32, [27, 4, 4, 0], 0) ∧ bMask 41 29 = [] := ⟨rfl, rfl⟩
theorem E41_32 : aCode 41 32 = (Instr.bipush 120, 34, [], 120) ∧ bMask 41 32 = [] := ⟨rfl, rfl⟩
theorem E41_34 : aCode 41 34 = (Instr.if_icmp .ne 36, 37, [70], 0) ∧ bMask 41 34 = [] := ⟨rfl, rfl⟩
theorem E41_37 : aCode 41 37 = (Instr.aload_n 0, 38, [], 0) ∧ bMask 41 37 = [] := ⟨rfl, rfl⟩
theorem E41_38 : aCode 41 38 = (Instr.getfield 23, 41, [28, 4, 13, 2], 0) ∧ bMask 41 38 = [] := ⟨rfl, rfl⟩
theorem E41_41 : aCode 41 41 = (Instr.aload_n 0, 42, [], 0) ∧ bMask 41 41 = [] := ⟨rfl, rfl⟩
theorem E41_42 : aCode 41 42 = (Instr.getfield 94, 45, [18, 4, 10, 0], 0) ∧ bMask 41 42 = [] := ⟨rfl, rfl⟩
theorem E41_45 : aCode 41 45 = (Instr.aaload, 46, [2], 0) ∧ bMask 41 45 = [] := ⟨rfl, rfl⟩
theorem E41_46 : aCode 41 46 = (Instr.iconst 0, 47, [], 0) ∧ bMask 41 46 = [] := ⟨rfl, rfl⟩
theorem E41_47 : aCode 41 47 = (Instr.invokestatic 106, 50, [1, 2, 0, 0, 0, 23], 0) ∧ bMask 41 47 = [] := ⟨rfl, rfl⟩
theorem E41_50 : aCode 41 50 = (Instr.aload_n 0, 51, [], 0) ∧ bMask 41 50 = [] := ⟨rfl, rfl⟩
theorem E41_51 : aCode 41 51 = (Instr.getfield 23, 54, [28, 4, 13, 2], 0) ∧ bMask 41 51 = [] := ⟨rfl, rfl⟩
theorem E41_54 : aCode 41 54 = (Instr.aload_n 0, 55, [], 0) ∧ bMask 41 54 = [] := ⟨rfl, rfl⟩
theorem E41_55 : aCode 41 55 = (Instr.getfield 94, 58, [18, 4, 10, 0], 0) ∧ bMask 41 55 = [] := ⟨rfl, rfl⟩
theorem E41_58 : aCode 41 58 = (Instr.aaload, 59, [2], 0) ∧ bMask 41 58 = [] := ⟨rfl, rfl⟩
theorem E41_59 : aCode 41 59 = (Instr.iconst 1, 60, [], 1) ∧ bMask 41 59 = [] := ⟨rfl, rfl⟩
theorem E41_60 : aCode 41 60 = (Instr.iconst 1, 61, [], 1) ∧ bMask 41 60 = [] := ⟨rfl, rfl⟩
theorem E41_61 : aCode 41 61 = (Instr.iastore, 62, [0], 0) ∧ bMask 41 61 = [] := ⟨rfl, rfl⟩
theorem E41_62 : aCode 41 62 = (Instr.aload_n 0, 63, [], 0) ∧ bMask 41 62 = [] := ⟨rfl, rfl⟩
theorem E41_63 : aCode 41 63 = (Instr.iconst 2, 64, [], 2) ∧ bMask 41 63 = [] := ⟨rfl, rfl⟩
theorem E41_64 : aCode 41 64 = (Instr.putfield 60, 67, [24, 4, 7, 0], 0) ∧ bMask 41 64 = [] := ⟨rfl, rfl⟩
theorem E41_67 : aCode 41 67 = (Instr.goto 44, 111, [], 0) ∧ bMask 41 67 = [] := ⟨rfl, rfl⟩
theorem E41_70 : aCode 41 70 = (Instr.aload_n 0, 71, [], 0) ∧ bMask 41 70 = [] := ⟨rfl, rfl⟩
theorem E41_71 : aCode 41 71 = (Instr.getfield 78, 74, [27, 4, 4, 0], 0) ∧ bMask 41 71 = [] := ⟨rfl, rfl⟩
theorem E41_74 : aCode 41 74 = (Instr.bipush (-2), 76, [], (-2)) ∧ bMask 41 74 = [] := ⟨rfl, rfl⟩
theorem E41_76 : aCode 41 76 = (Instr.if_icmp .ne 31, 79, [107], 0) ∧ bMask 41 76 = [] := ⟨rfl, rfl⟩
theorem E41_79 : aCode 41 79 = (Instr.aload_n 0, 80, [], 0) ∧ bMask 41 79 = [] := ⟨rfl, rfl⟩
theorem E41_80 : aCode 41 80 = (Instr.getfield 39, 83, [20, 4, 0, 2], 0) ∧ bMask 41 80 = [] := ⟨rfl, rfl⟩
theorem E41_83 : aCode 41 83 = (Instr.aload_n 0, 84, [], 0) ∧ bMask 41 83 = [] := ⟨rfl, rfl⟩
theorem E41_84 : aCode 41 84 = (Instr.getfield 91, 87, [29, 4, 6, 0], 0) ∧ bMask 41 84 = [] := ⟨rfl, rfl⟩
theorem E41_87 : aCode 41 87 = (Instr.aload_n 0, 88, [], 0) ∧ bMask 41 87 = [] := ⟨rfl, rfl⟩
theorem E41_88 : aCode 41 88 = (Instr.getfield 23, 91, [28, 4, 13, 2], 0) ∧ bMask 41 88 = [] := ⟨rfl, rfl⟩
theorem E41_91 : aCode 41 91 = (Instr.aload_n 0, 92, [], 0) ∧ bMask 41 91 = [] := ⟨rfl, rfl⟩
theorem E41_92 : aCode 41 92 = (Instr.getfield 94, 95, [18, 4, 10, 0], 0) ∧ bMask 41 92 = [] := ⟨rfl, rfl⟩
theorem E41_95 : aCode 41 95 = (Instr.aaload, 96, [2], 0) ∧ bMask 41 95 = [] := ⟨rfl, rfl⟩
theorem E41_96 : aCode 41 96 = (Instr.invokevirtual 112, 99, [29, 3, 0, 2, 0, 24], 0) ∧ bMask 41 96 = [] := ⟨rfl, rfl⟩
theorem E41_99 : aCode 41 99 = (Instr.aload_n 0, 100, [], 0) ∧ bMask 41 99 = [] := ⟨rfl, rfl⟩
theorem E41_100 : aCode 41 100 = (Instr.iconst 2, 101, [], 2) ∧ bMask 41 100 = [] := ⟨rfl, rfl⟩
theorem E41_101 : aCode 41 101 = (Instr.putfield 60, 104, [24, 4, 7, 0], 0) ∧ bMask 41 101 = [] := ⟨rfl, rfl⟩
theorem E41_104 : aCode 41 104 = (Instr.goto 7, 111, [], 0) ∧ bMask 41 104 = [] := ⟨rfl, rfl⟩
theorem E41_107 : aCode 41 107 = (Instr.aload_n 0, 108, [], 0) ∧ bMask 41 107 = [] := ⟨rfl, rfl⟩
theorem E41_108 : aCode 41 108 = (Instr.invokevirtual 118, 111, [40, 1, 0, 4, 0, 26], 0) ∧ bMask 41 108 = [] := ⟨rfl, rfl⟩
theorem E41_111 : aCode 41 111 = (Instr.return_, 112, [], 0) ∧ bMask 41 111 = [] := ⟨rfl, rfl⟩
theorem g_X4_acceptAtom_0 {Q : bQ} {M : bM}  (h : ((¬ (M 2 0 4) = (40 : Int32)) → (((¬ (M 2 0 4) = (120 : Int32)) → (((¬ (M 2 0 4) = (-2 : Int32)) → (bCall 40 [cR 2 0] M (fun v1 M2 => bV0 v1 (Q none M2)))) ∧ (¬ (¬ (M 2 0 4) = (-2 : Int32)) → ((vp_in (M 2 0 10) 5) ∧ (bCall 29 [cR 1 0, cI (M 2 0 6), cR 7 (23 + (M 2 0 10).toNatClampNeg)] M (fun v3 M4 => bV0 v3 (Q none (bU M4 2 0 7 (2 : Int32))))))))) ∧ (¬ (¬ (M 2 0 4) = (120 : Int32)) → ((vp_in (M 2 0 10) 5) ∧ (bCall 1 [cR 7 (23 + (M 2 0 10).toNatClampNeg), cI (0 : Int32)] M (fun v5 M6 => bV0 v5 ((vp_in (M6 2 0 10) 5) ∧ ((vp_in (1 : Int32) 32) ∧ (Q none (bU (bU M6 7 (23 + (M6 2 0 10).toNatClampNeg) (1 : Int32).toNatClampNeg (1 : Int32)) 2 0 7 (2 : Int32))))))))))) ∧ (¬ (¬ (M 2 0 4) = (40 : Int32)) → ((((4 : Int32) ≤ (M 2 0 10)) → (((¬ (M 2 0 4) = (120 : Int32)) → (((¬ (M 2 0 4) = (-2 : Int32)) → (bCall 40 [cR 2 0] M (fun v7 M8 => bV0 v7 (Q none M8)))) ∧ (¬ (¬ (M 2 0 4) = (-2 : Int32)) → ((vp_in (M 2 0 10) 5) ∧ (bCall 29 [cR 1 0, cI (M 2 0 6), cR 7 (23 + (M 2 0 10).toNatClampNeg)] M (fun v9 M10 => bV0 v9 (Q none (bU M10 2 0 7 (2 : Int32))))))))) ∧ (¬ (¬ (M 2 0 4) = (120 : Int32)) → ((vp_in (M 2 0 10) 5) ∧ (bCall 1 [cR 7 (23 + (M 2 0 10).toNatClampNeg), cI (0 : Int32)] M (fun v11 M12 => bV0 v11 ((vp_in (M12 2 0 10) 5) ∧ ((vp_in (1 : Int32) 32) ∧ (Q none (bU (bU M12 7 (23 + (M12 2 0 10).toNatClampNeg) (1 : Int32).toNatClampNeg (1 : Int32)) 2 0 7 (2 : Int32))))))))))) ∧ (¬ ((4 : Int32) ≤ (M 2 0 10)) → (bCall 39 [cR 2 0, cI ((M 2 0 10) + (1 : Int32))] M (fun v13 M14 => bV0 v13 (Q none M14))))))) : bCall 41 [cR 2 0] M Q := s_aload_n E41_0.1 (k_ E41_0) rfl (s_getI0 E41_1.1 (k_ E41_1) rfl (s_bipush E41_4.1 (k_ E41_4) (s_icmp_ne E41_6.1 (k_ E41_6) ⟨fun c0 => s_aload_n E41_28.1 (k_ E41_28) rfl (s_getI0 E41_29.1 (k_ E41_29) rfl (s_bipush E41_32.1 (k_ E41_32) (s_icmp_ne E41_34.1 (k_ E41_34) ⟨fun c1 => s_aload_n E41_70.1 (k_ E41_70) rfl (s_getI0 E41_71.1 (k_ E41_71) rfl (s_bipush E41_74.1 (k_ E41_74) (s_icmp_ne E41_76.1 (k_ E41_76) ⟨fun c2 => s_aload_n E41_107.1 (k_ E41_107) rfl (s_vcall0 E41_108.1 (k_ E41_108) rfl rfl rfl (((h.1 c0).1 c1).1 c2) (fun M2 z3 => s_ret E41_111.1 (k_ E41_111) z3)), fun c2 => s_aload_n E41_79.1 (k_ E41_79) rfl (s_getR E41_80.1 (k_ E41_80) rfl rfl (s_aload_n E41_83.1 (k_ E41_83) rfl (s_getI0 E41_84.1 (k_ E41_84) rfl (s_aload_n E41_87.1 (k_ E41_87) rfl (s_getR E41_88.1 (k_ E41_88) rfl rfl (s_aload_n E41_91.1 (k_ E41_91) rfl (s_getI0 E41_92.1 (k_ E41_92) rfl (s_aaload E41_95.1 (k_ E41_95) rfl ⟨(((h.1 c0).1 c1).2 c2).1, s_vcall0 E41_96.1 (k_ E41_96) rfl rfl rfl ((((h.1 c0).1 c1).2 c2).2) (fun M4 z4 => s_aload_n E41_99.1 (k_ E41_99) rfl (s_iconst E41_100.1 (k_ E41_100) (s_putI E41_101.1 (k_ E41_101) rfl (s_goto E41_104.1 (k_ E41_104) (s_ret E41_111.1 (k_ E41_111) z4)))))⟩))))))))⟩))), fun c1 => s_aload_n E41_37.1 (k_ E41_37) rfl (s_getR E41_38.1 (k_ E41_38) rfl rfl (s_aload_n E41_41.1 (k_ E41_41) rfl (s_getI0 E41_42.1 (k_ E41_42) rfl (s_aaload E41_45.1 (k_ E41_45) rfl ⟨((h.1 c0).2 c1).1, s_iconst E41_46.1 (k_ E41_46) (s_scall0 E41_47.1 (k_ E41_47) rfl rfl rfl (((h.1 c0).2 c1).2) (fun M6 z5 => s_aload_n E41_50.1 (k_ E41_50) rfl (s_getR E41_51.1 (k_ E41_51) rfl rfl (s_aload_n E41_54.1 (k_ E41_54) rfl (s_getI0 E41_55.1 (k_ E41_55) rfl (s_aaload E41_58.1 (k_ E41_58) rfl ⟨z5.1, s_iconst E41_59.1 (k_ E41_59) (s_iconst E41_60.1 (k_ E41_60) (s_iastore E41_61.1 (k_ E41_61) rfl ⟨z5.2.1, s_aload_n E41_62.1 (k_ E41_62) rfl (s_iconst E41_63.1 (k_ E41_63) (s_putI E41_64.1 (k_ E41_64) rfl (s_goto E41_67.1 (k_ E41_67) (s_ret E41_111.1 (k_ E41_111) z5.2.2))))⟩))⟩))))))⟩))))⟩))), fun c0 => s_aload_n E41_9.1 (k_ E41_9) rfl (s_getI0 E41_10.1 (k_ E41_10) rfl (s_iconst E41_13.1 (k_ E41_13) (s_icmp_ge E41_14.1 (k_ E41_14) ⟨fun c6 => s_aload_n E41_28.1 (k_ E41_28) rfl (s_getI0 E41_29.1 (k_ E41_29) rfl (s_bipush E41_32.1 (k_ E41_32) (s_icmp_ne E41_34.1 (k_ E41_34) ⟨fun c7 => s_aload_n E41_70.1 (k_ E41_70) rfl (s_getI0 E41_71.1 (k_ E41_71) rfl (s_bipush E41_74.1 (k_ E41_74) (s_icmp_ne E41_76.1 (k_ E41_76) ⟨fun c8 => s_aload_n E41_107.1 (k_ E41_107) rfl (s_vcall0 E41_108.1 (k_ E41_108) rfl rfl rfl ((((h.2 c0).1 c6).1 c7).1 c8) (fun M8 z9 => s_ret E41_111.1 (k_ E41_111) z9)), fun c8 => s_aload_n E41_79.1 (k_ E41_79) rfl (s_getR E41_80.1 (k_ E41_80) rfl rfl (s_aload_n E41_83.1 (k_ E41_83) rfl (s_getI0 E41_84.1 (k_ E41_84) rfl (s_aload_n E41_87.1 (k_ E41_87) rfl (s_getR E41_88.1 (k_ E41_88) rfl rfl (s_aload_n E41_91.1 (k_ E41_91) rfl (s_getI0 E41_92.1 (k_ E41_92) rfl (s_aaload E41_95.1 (k_ E41_95) rfl ⟨((((h.2 c0).1 c6).1 c7).2 c8).1, s_vcall0 E41_96.1 (k_ E41_96) rfl rfl rfl (((((h.2 c0).1 c6).1 c7).2 c8).2) (fun M10 z10 => s_aload_n E41_99.1 (k_ E41_99) rfl (s_iconst E41_100.1 (k_ E41_100) (s_putI E41_101.1 (k_ E41_101) rfl (s_goto E41_104.1 (k_ E41_104) (s_ret E41_111.1 (k_ E41_111) z10)))))⟩))))))))⟩))), fun c7 => s_aload_n E41_37.1 (k_ E41_37) rfl (s_getR E41_38.1 (k_ E41_38) rfl rfl (s_aload_n E41_41.1 (k_ E41_41) rfl (s_getI0 E41_42.1 (k_ E41_42) rfl (s_aaload E41_45.1 (k_ E41_45) rfl ⟨(((h.2 c0).1 c6).2 c7).1, s_iconst E41_46.1 (k_ E41_46) (s_scall0 E41_47.1 (k_ E41_47) rfl rfl rfl ((((h.2 c0).1 c6).2 c7).2) (fun M12 z11 => s_aload_n E41_50.1 (k_ E41_50) rfl (s_getR E41_51.1 (k_ E41_51) rfl rfl (s_aload_n E41_54.1 (k_ E41_54) rfl (s_getI0 E41_55.1 (k_ E41_55) rfl (s_aaload E41_58.1 (k_ E41_58) rfl ⟨z11.1, s_iconst E41_59.1 (k_ E41_59) (s_iconst E41_60.1 (k_ E41_60) (s_iastore E41_61.1 (k_ E41_61) rfl ⟨z11.2.1, s_aload_n E41_62.1 (k_ E41_62) rfl (s_iconst E41_63.1 (k_ E41_63) (s_putI E41_64.1 (k_ E41_64) rfl (s_goto E41_67.1 (k_ E41_67) (s_ret E41_111.1 (k_ E41_111) z11.2.2))))⟩))⟩))))))⟩))))⟩))), fun c6 => s_aload_n E41_17.1 (k_ E41_17) rfl (s_aload_n E41_18.1 (k_ E41_18) rfl (s_getI0 E41_19.1 (k_ E41_19) rfl (s_iconst E41_22.1 (k_ E41_22) (s_iadd E41_23.1 (k_ E41_23) (s_vcall0 E41_24.1 (k_ E41_24) rfl rfl rfl ((h.2 c0).2 c6) (fun M14 z12 => s_ret E41_27.1 (k_ E41_27) z12))))))⟩)))⟩)))
-- 42: X4_acceptPower
theorem E42_0 : aCode 42 0 = (Instr.aload_n 0, 1, [], 0) ∧ bMask 42 0 = [] := ⟨rfl, rfl⟩
theorem E42_1 : aCode 42 1 = (Instr.getfield 78, 4, [27, 4, 4, 0], 0) ∧ bMask 42 1 = [] := ⟨rfl, rfl⟩
theorem E42_4 : aCode 42 4 = (Instr.bipush (-2), 6, [], (-2)) ∧ bMask 42 4 = [] := ⟨rfl, rfl⟩
theorem E42_6 : aCode 42 6 = (Instr.if_icmp .ne 12, 9, [18], 0) ∧ bMask 42 6 = [] := ⟨rfl, rfl⟩
theorem E42_9 : aCode 42 9 = (Instr.aload_n 0, 10, [], 0) ∧ bMask 42 9 = [] := ⟨rfl, rfl⟩
theorem E42_10 : aCode 42 10 = (Instr.getfield 91, 13, [29, 4, 6, 0], 0) ∧ bMask 42 10 = [] := ⟨rfl, rfl⟩
theorem E42_13 : aCode 42 13 = (Instr.bipush 40, 15, [], 40) ∧ bMask 42 13 = [] := ⟨rfl, rfl⟩
theorem E42_15 : aCode 42 15 = (Instr.if_icmp .le 8, 18, [23], 0) ∧ bMask 42 15 = [] := ⟨rfl, rfl⟩
theorem E42_18 : aCode 42 18 = (Instr.aload_n 0, 19, [], 0) ∧ bMask 42 18 = [] := ⟨rfl, rfl⟩
theorem E42_19 : aCode 42 19 = (Instr.invokevirtual 118, 22, [40, 1, 0, 4, 0, 26], 0) ∧ bMask 42 19 = [] := ⟨rfl, rfl⟩
theorem E42_22 : aCode 42 22 = (Instr.return_, 23, [], 0) ∧ bMask 42 22 = [] := ⟨rfl, rfl⟩
theorem E42_23 : aCode 42 23 = (Instr.aload_n 0, 24, [], 0) ∧ bMask 42 23 = [] := ⟨rfl, rfl⟩
theorem E42_24 : aCode 42 24 = (Instr.getfield 23, 27, [28, 4, 13, 2], 0) ∧ bMask 42 24 = [] := ⟨rfl, rfl⟩
theorem E42_27 : aCode 42 27 = (Instr.aload_n 0, 28, [], 0) ∧ bMask 42 27 = [] := ⟨rfl, rfl⟩
theorem E42_28 : aCode 42 28 = (Instr.getfield 94, 31, [18, 4, 10, 0], 0) ∧ bMask 42 28 = [] := ⟨rfl, rfl⟩
theorem E42_31 : aCode 42 31 = (Instr.aaload, 32, [2], 0) ∧ bMask 42 31 = [] := ⟨rfl, rfl⟩
theorem E42_32 : aCode 42 32 = (Instr.iconst 0, 33, [], 0) ∧ bMask 42 32 = [] := ⟨rfl, rfl⟩
theorem E42_33 : aCode 42 33 = (Instr.aload_n 0, 34, [], 0) ∧ bMask 42 33 = [] := ⟨rfl, rfl⟩
theorem E42_34 : aCode 42 34 = (Instr.getfield 36, 37, [30, 4, 17, 2], 0) ∧ bMask 42 34 = [] := ⟨rfl, rfl⟩
theorem E42_37 : aCode 42 37 = (Instr.iconst 0, 38, [], 0) ∧ bMask 42 37 = [] := ⟨rfl, rfl⟩
theorem E42_38 : aCode 42 38 = (Instr.bipush 32, 40, [], 32) ∧ bMask 42 38 = [] := ⟨rfl, rfl⟩
theorem E42_40 : aCode 42 40 = (Instr.invokestatic 69, 43, [1000, 69], 0) ∧ bMask 42 40 = [] := ⟨rfl, rfl⟩
theorem E42_43 : aCode 42 43 = (Instr.aload_n 0, 44, [], 0) ∧ bMask 42 43 = [] := ⟨rfl, rfl⟩
theorem E42_44 : aCode 42 44 = (Instr.getfield 39, 47, [20, 4, 0, 2], 0) ∧ bMask 42 44 = [] := ⟨rfl, rfl⟩
theorem E42_47 : aCode 42 47 = (Instr.iconst 1, 48, [], 1) ∧ bMask 42 47 = [] := ⟨rfl, rfl⟩
theorem E42_48 : aCode 42 48 = (Instr.aload_n 0, 49, [], 0) ∧ bMask 42 48 = [] := ⟨rfl, rfl⟩
theorem E42_49 : aCode 42 49 = (Instr.getfield 23, 52, [28, 4, 13, 2], 0) ∧ bMask 42 49 = [] := ⟨rfl, rfl⟩
theorem E42_52 : aCode 42 52 = (Instr.aload_n 0, 53, [], 0) ∧ bMask 42 52 = [] := ⟨rfl, rfl⟩
theorem E42_53 : aCode 42 53 = (Instr.getfield 94, 56, [18, 4, 10, 0], 0) ∧ bMask 42 53 = [] := ⟨rfl, rfl⟩
theorem E42_56 : aCode 42 56 = (Instr.aaload, 57, [2], 0) ∧ bMask 42 56 = [] := ⟨rfl, rfl⟩
theorem E42_57 : aCode 42 57 = (Instr.invokevirtual 112, 60, [29, 3, 0, 2, 0, 24], 0) ∧ bMask 42 57 = [] := ⟨rfl, rfl⟩
theorem E42_60 : aCode 42 60 = (Instr.iconst 0, 61, [], 0) ∧ bMask 42 60 = [] := ⟨rfl, rfl⟩
theorem E42_61 : aCode 42 61 = (Instr.istore_n 1, 62, [], 0) ∧ bMask 42 61 = [] := ⟨rfl, rfl⟩
theorem E42_62 : aCode 42 62 = (Instr.iload_n 1, 63, [], 0) ∧ bMask 42 62 = [] := ⟨rfl, rfl⟩
theorem E42_63 : aCode 42 63 = (Instr.aload_n 0, 64, [], 0) ∧ bMask 42 63 = [] := ⟨rfl, rfl⟩
theorem E42_64 : aCode 42 64 = (Instr.getfield 91, 67, [29, 4, 6, 0], 0) ∧ bMask 42 64 = [] := ⟨rfl, rfl⟩
theorem E42_67 : aCode 42 67 = (Instr.if_icmp .ge 38, 70, [105], 0) ∧ bMask 42 67 = [] := ⟨rfl, rfl⟩
theorem E42_70 : aCode 42 70 = (Instr.aload_n 0, 71, [], 0) ∧ bMask 42 70 = [] := ⟨rfl, rfl⟩
theorem E42_71 : aCode 42 71 = (Instr.getfield 39, 74, [20, 4, 0, 2], 0) ∧ bMask 42 71 = [] := ⟨rfl, rfl⟩
theorem E42_74 : aCode 42 74 = (Instr.aload_n 0, 75, [], 0) ∧ bMask 42 74 = [] := ⟨rfl, rfl⟩
theorem E42_75 : aCode 42 75 = (Instr.getfield 23, 78, [28, 4, 13, 2], 0) ∧ bMask 42 75 = [] := ⟨rfl, rfl⟩
theorem E42_78 : aCode 42 78 = (Instr.aload_n 0, 79, [], 0) ∧ bMask 42 78 = [] := ⟨rfl, rfl⟩
theorem E42_79 : aCode 42 79 = (Instr.getfield 94, 82, [18, 4, 10, 0], 0) ∧ bMask 42 79 = [] := ⟨rfl, rfl⟩
theorem E42_82 : aCode 42 82 = (Instr.aaload, 83, [2], 0) ∧ bMask 42 82 = [] := ⟨rfl, rfl⟩
theorem E42_83 : aCode 42 83 = (Instr.aload_n 0, 84, [], 0) ∧ bMask 42 83 = [] := ⟨rfl, rfl⟩
theorem E42_84 : aCode 42 84 = (Instr.getfield 36, 87, [30, 4, 17, 2], 0) ∧ bMask 42 84 = [] := ⟨rfl, rfl⟩
theorem E42_87 : aCode 42 87 = (Instr.aload_n 0, 88, [], 0) ∧ bMask 42 87 = [] := ⟨rfl, rfl⟩
theorem E42_88 : aCode 42 88 = (Instr.getfield 23, 91, [28, 4, 13, 2], 0) ∧ bMask 42 88 = [] := ⟨rfl, rfl⟩
theorem E42_91 : aCode 42 91 = (Instr.aload_n 0, 92, [], 0) ∧ bMask 42 91 = [] := ⟨rfl, rfl⟩
theorem E42_92 : aCode 42 92 = (Instr.getfield 94, 95, [18, 4, 10, 0], 0) ∧ bMask 42 92 = [] := ⟨rfl, rfl⟩
theorem E42_95 : aCode 42 95 = (Instr.aaload, 96, [2], 0) ∧ bMask 42 95 = [] := ⟨rfl, rfl⟩
theorem E42_96 : aCode 42 96 = (Instr.invokevirtual 121, 99, [34, 4, 0, 2, 0, 27], 0) ∧ bMask 42 96 = [] := ⟨rfl, rfl⟩
theorem E42_99 : aCode 42 99 = (Instr.iinc 1 1, 102, [], 1) ∧ bMask 42 99 = [] := ⟨rfl, rfl⟩
theorem E42_102 : aCode 42 102 = (Instr.goto (-40), 62, [], 0) ∧ bMask 42 102 = [] := ⟨rfl, rfl⟩
theorem E42_105 : aCode 42 105 = (Instr.aload_n 0, 106, [], 0) ∧ bMask 42 105 = [] := ⟨rfl, rfl⟩
theorem E42_106 : aCode 42 106 = (Instr.iconst 4, 107, [], 4) ∧ bMask 42 106 = [] := ⟨rfl, rfl⟩
theorem E42_107 : aCode 42 107 = (Instr.putfield 60, 110, [24, 4, 7, 0], 0) ∧ bMask 42 107 = [] := ⟨rfl, rfl⟩
theorem E42_110 : aCode 42 110 = (Instr.return_, 111, [], 0) ∧ bMask 42 110 = [] := ⟨rfl, rfl⟩
theorem g_X4_acceptPower_0 {Q : bQ} {M : bM}  (h : ((¬ (M 2 0 4) = (-2 : Int32)) → (bCall 40 [cR 2 0] M (fun v1 M2 => bV0 v1 (Q none M2)))) ∧ (¬ (¬ (M 2 0 4) = (-2 : Int32)) → ((((M 2 0 6) ≤ (40 : Int32)) → ((vp_in (M 2 0 10) 5) ∧ ((¬ (0 : Int32) < 0 ∧ ¬ (0 : Int32) < 0 ∧ ¬ (32 : Int32) < 0 ∧ (0 : Int32).toNatClampNeg + (32 : Int32).toNatClampNeg ≤ 32 ∧ (0 : Int32).toNatClampNeg + (32 : Int32).toNatClampNeg ≤ 32) ∧ ((vp_in ((bCp M 7 (23 + (M 2 0 10).toNatClampNeg) 7 28 (0 : Int32) (0 : Int32) (32 : Int32)) 2 0 10) 5) ∧ (bCall 29 [cR 1 0, cI (1 : Int32), cR 7 (23 + ((bCp M 7 (23 + (M 2 0 10).toNatClampNeg) 7 28 (0 : Int32) (0 : Int32) (32 : Int32)) 2 0 10).toNatClampNeg)] (bCp M 7 (23 + (M 2 0 10).toNatClampNeg) 7 28 (0 : Int32) (0 : Int32) (32 : Int32)) (fun v3 M4 => bV0 v3 (bGo 42 Q 62 [some (cR 2 0), some (cI (0 : Int32))] [] M4))))))) ∧ (¬ ((M 2 0 6) ≤ (40 : Int32)) → (bCall 40 [cR 2 0] M (fun v5 M6 => bV0 v5 (Q none M6))))))) : bCall 42 [cR 2 0] M Q := s_aload_n E42_0.1 (k_ E42_0) rfl (s_getI0 E42_1.1 (k_ E42_1) rfl (s_bipush E42_4.1 (k_ E42_4) (s_icmp_ne E42_6.1 (k_ E42_6) ⟨fun c0 => s_aload_n E42_18.1 (k_ E42_18) rfl (s_vcall0 E42_19.1 (k_ E42_19) rfl rfl rfl (h.1 c0) (fun M2 z1 => s_ret E42_22.1 (k_ E42_22) z1)), fun c0 => s_aload_n E42_9.1 (k_ E42_9) rfl (s_getI0 E42_10.1 (k_ E42_10) rfl (s_bipush E42_13.1 (k_ E42_13) (s_icmp_le E42_15.1 (k_ E42_15) ⟨fun c2 => s_aload_n E42_23.1 (k_ E42_23) rfl (s_getR E42_24.1 (k_ E42_24) rfl rfl (s_aload_n E42_27.1 (k_ E42_27) rfl (s_getI0 E42_28.1 (k_ E42_28) rfl (s_aaload E42_31.1 (k_ E42_31) rfl ⟨((h.2 c0).1 c2).1, s_iconst E42_32.1 (k_ E42_32) (s_aload_n E42_33.1 (k_ E42_33) rfl (s_getR E42_34.1 (k_ E42_34) rfl rfl (s_iconst E42_37.1 (k_ E42_37) (s_bipush E42_38.1 (k_ E42_38) (s_acopy E42_40.1 (k_ E42_40) rfl ⟨(((h.2 c0).1 c2).2).1, s_aload_n E42_43.1 (k_ E42_43) rfl (s_getR E42_44.1 (k_ E42_44) rfl rfl (s_iconst E42_47.1 (k_ E42_47) (s_aload_n E42_48.1 (k_ E42_48) rfl (s_getR E42_49.1 (k_ E42_49) rfl rfl (s_aload_n E42_52.1 (k_ E42_52) rfl (s_getI0 E42_53.1 (k_ E42_53) rfl (s_aaload E42_56.1 (k_ E42_56) rfl ⟨((((h.2 c0).1 c2).2).2).1, s_vcall0 E42_57.1 (k_ E42_57) rfl rfl rfl (((((h.2 c0).1 c2).2).2).2) (fun M4 z3 => s_iconst E42_60.1 (k_ E42_60) (s_istore_n E42_61.1 (k_ E42_61) (z3)))⟩)))))))⟩)))))⟩)))), fun c2 => s_aload_n E42_18.1 (k_ E42_18) rfl (s_vcall0 E42_19.1 (k_ E42_19) rfl rfl rfl ((h.2 c0).2 c2) (fun M6 z4 => s_ret E42_22.1 (k_ E42_22) z4))⟩)))⟩)))
theorem g_X4_acceptPower_62 {Q : bQ} {M : bM} {x1 : Int32} (h : (((M 2 0 6) ≤ x1) → (Q none (bU M 2 0 7 (4 : Int32)))) ∧ (¬ ((M 2 0 6) ≤ x1) → ((vp_in (M 2 0 10) 5) ∧ ((vp_in (M 2 0 10) 5) ∧ (bCall 34 [cR 1 0, cR 7 (23 + (M 2 0 10).toNatClampNeg), cR 7 28, cR 7 (23 + (M 2 0 10).toNatClampNeg)] M (fun v1 M2 => bV0 v1 (bGo 42 Q 62 [some (cR 2 0), some (cI (x1 + (1 : Int32)))] [] M2))))))) : bGo 42 Q 62 [some (cR 2 0), some (cI x1)] [] M := s_iload_n E42_62.1 (k_ E42_62) rfl (s_aload_n E42_63.1 (k_ E42_63) rfl (s_getI0 E42_64.1 (k_ E42_64) rfl (s_icmp_ge E42_67.1 (k_ E42_67) ⟨fun c5 => s_aload_n E42_105.1 (k_ E42_105) rfl (s_iconst E42_106.1 (k_ E42_106) (s_putI E42_107.1 (k_ E42_107) rfl (s_ret E42_110.1 (k_ E42_110) (h.1 c5)))), fun c5 => s_aload_n E42_70.1 (k_ E42_70) rfl (s_getR E42_71.1 (k_ E42_71) rfl rfl (s_aload_n E42_74.1 (k_ E42_74) rfl (s_getR E42_75.1 (k_ E42_75) rfl rfl (s_aload_n E42_78.1 (k_ E42_78) rfl (s_getI0 E42_79.1 (k_ E42_79) rfl (s_aaload E42_82.1 (k_ E42_82) rfl ⟨(h.2 c5).1, s_aload_n E42_83.1 (k_ E42_83) rfl (s_getR E42_84.1 (k_ E42_84) rfl rfl (s_aload_n E42_87.1 (k_ E42_87) rfl (s_getR E42_88.1 (k_ E42_88) rfl rfl (s_aload_n E42_91.1 (k_ E42_91) rfl (s_getI0 E42_92.1 (k_ E42_92) rfl (s_aaload E42_95.1 (k_ E42_95) rfl ⟨((h.2 c5).2).1, s_vcall0 E42_96.1 (k_ E42_96) rfl rfl rfl (((h.2 c5).2).2) (fun M2 z6 => s_iinc E42_99.1 (k_ E42_99) rfl (s_goto E42_102.1 (k_ E42_102) (z6)))⟩))))))⟩))))))⟩)))
-- 43: X4_endPower
theorem E43_0 : aCode 43 0 = (Instr.aload_n 0, 1, [], 0) ∧ bMask 43 0 = [] := ⟨rfl, rfl⟩
theorem E43_1 : aCode 43 1 = (Instr.getfield 30, 4, [22, 4, 15, 2], 0) ∧ bMask 43 1 = [] := ⟨rfl, rfl⟩
theorem E43_4 : aCode 43 4 = (Instr.aload_n 0, 5, [], 0) ∧ bMask 43 4 = [] := ⟨rfl, rfl⟩
theorem E43_5 : aCode 43 5 = (Instr.getfield 94, 8, [18, 4, 10, 0], 0) ∧ bMask 43 5 = [] := ⟨rfl, rfl⟩
theorem E43_8 : aCode 43 8 = (Instr.iaload, 9, [0], 0) ∧ bMask 43 8 = [] := ⟨rfl, rfl⟩
theorem E43_9 : aCode 43 9 = (Instr.bipush 42, 11, [], 42) ∧ bMask 43 9 = [] := ⟨rfl, rfl⟩
theorem E43_11 : aCode 43 11 = (Instr.if_icmp .ne 40, 14, [51], 0) ∧ bMask 43 11 = [] := ⟨rfl, rfl⟩
theorem E43_14 : aCode 43 14 = (Instr.aload_n 0, 15, [], 0) ∧ bMask 43 14 = [] := ⟨rfl, rfl⟩
theorem E43_15 : aCode 43 15 = (Instr.getfield 39, 18, [20, 4, 0, 2], 0) ∧ bMask 43 15 = [] := ⟨rfl, rfl⟩
theorem E43_18 : aCode 43 18 = (Instr.aload_n 0, 19, [], 0) ∧ bMask 43 18 = [] := ⟨rfl, rfl⟩
theorem E43_19 : aCode 43 19 = (Instr.getfield 20, 22, [21, 4, 12, 2], 0) ∧ bMask 43 19 = [] := ⟨rfl, rfl⟩
theorem E43_22 : aCode 43 22 = (Instr.aload_n 0, 23, [], 0) ∧ bMask 43 22 = [] := ⟨rfl, rfl⟩
theorem E43_23 : aCode 43 23 = (Instr.getfield 94, 26, [18, 4, 10, 0], 0) ∧ bMask 43 23 = [] := ⟨rfl, rfl⟩
theorem E43_26 : aCode 43 26 = (Instr.aaload, 27, [2], 0) ∧ bMask 43 26 = [] := ⟨rfl, rfl⟩
theorem E43_27 : aCode 43 27 = (Instr.aload_n 0, 28, [], 0) ∧ bMask 43 27 = [] := ⟨rfl, rfl⟩
theorem E43_28 : aCode 43 28 = (Instr.getfield 23, 31, [28, 4, 13, 2], 0) ∧ bMask 43 28 = [] := ⟨rfl, rfl⟩
theorem E43_31 : aCode 43 31 = (Instr.aload_n 0, 32, [], 0) ∧ bMask 43 31 = [] := ⟨rfl, rfl⟩
theorem E43_32 : aCode 43 32 = (Instr.getfield 94, 35, [18, 4, 10, 0], 0) ∧ bMask 43 32 = [] := ⟨rfl, rfl⟩
theorem E43_35 : aCode 43 35 = (Instr.aaload, 36, [2], 0) ∧ bMask 43 35 = [] := ⟨rfl, rfl⟩
theorem E43_36 : aCode 43 36 = (Instr.aload_n 0, 37, [], 0) ∧ bMask 43 36 = [] := ⟨rfl, rfl⟩
theorem E43_37 : aCode 43 37 = (Instr.getfield 20, 40, [21, 4, 12, 2], 0) ∧ bMask 43 37 = [] := ⟨rfl, rfl⟩
theorem E43_40 : aCode 43 40 = (Instr.aload_n 0, 41, [], 0) ∧ bMask 43 40 = [] := ⟨rfl, rfl⟩
theorem E43_41 : aCode 43 41 = (Instr.getfield 94, 44, [18, 4, 10, 0], 0) ∧ bMask 43 41 = [] := ⟨rfl, rfl⟩
theorem E43_44 : aCode 43 44 = (Instr.aaload, 45, [2], 0) ∧ bMask 43 44 = [] := ⟨rfl, rfl⟩
theorem E43_45 : aCode 43 45 = (Instr.invokevirtual 121, 48, [34, 4, 0, 2, 0, 27], 0) ∧ bMask 43 45 = [] := ⟨rfl, rfl⟩
theorem E43_48 : aCode 43 48 = (Instr.goto 74, 122, [], 0) ∧ bMask 43 48 = [] := ⟨rfl, rfl⟩
theorem E43_51 : aCode 43 51 = (Instr.aload_n 0, 52, [], 0) ∧ bMask 43 51 = [] := ⟨rfl, rfl⟩
theorem E43_52 : aCode 43 52 = (Instr.getfield 23, 55, [28, 4, 13, 2], 0) ∧ bMask 43 52 = [] := ⟨rfl, rfl⟩
theorem E43_55 : aCode 43 55 = (Instr.aload_n 0, 56, [], 0) ∧ bMask 43 55 = [] := ⟨rfl, rfl⟩
theorem E43_56 : aCode 43 56 = (Instr.getfield 94, 59, [18, 4, 10, 0], 0) ∧ bMask 43 56 = [] := ⟨rfl, rfl⟩
theorem E43_59 : aCode 43 59 = (Instr.aaload, 60, [2], 0) ∧ bMask 43 59 = [] := ⟨rfl, rfl⟩
theorem E43_60 : aCode 43 60 = (Instr.iconst 0, 61, [], 0) ∧ bMask 43 60 = [] := ⟨rfl, rfl⟩
theorem E43_61 : aCode 43 61 = (Instr.iaload, 62, [0], 0) ∧ bMask 43 61 = [] := ⟨rfl, rfl⟩
theorem E43_62 : aCode 43 62 = (Instr.ifCond .eq 40, 65, [102], 0) ∧ bMask 43 62 = [] := ⟨rfl, rfl⟩
theorem E43_65 : aCode 43 65 = (Instr.aload_n 0, 66, [], 0) ∧ bMask 43 65 = [] := ⟨rfl, rfl⟩
theorem E43_66 : aCode 43 66 = (Instr.getfield 39, 69, [20, 4, 0, 2], 0) ∧ bMask 43 66 = [] := ⟨rfl, rfl⟩
theorem E43_69 : aCode 43 69 = (Instr.aload_n 0, 70, [], 0) ∧ bMask 43 69 = [] := ⟨rfl, rfl⟩
theorem E43_70 : aCode 43 70 = (Instr.getfield 20, 73, [21, 4, 12, 2], 0) ∧ bMask 43 70 = [] := ⟨rfl, rfl⟩
theorem E43_73 : aCode 43 73 = (Instr.aload_n 0, 74, [], 0) ∧ bMask 43 73 = [] := ⟨rfl, rfl⟩
theorem E43_74 : aCode 43 74 = (Instr.getfield 94, 77, [18, 4, 10, 0], 0) ∧ bMask 43 74 = [] := ⟨rfl, rfl⟩
theorem E43_77 : aCode 43 77 = (Instr.aaload, 78, [2], 0) ∧ bMask 43 77 = [] := ⟨rfl, rfl⟩
theorem E43_78 : aCode 43 78 = (Instr.aload_n 0, 79, [], 0) ∧ bMask 43 78 = [] := ⟨rfl, rfl⟩
theorem E43_79 : aCode 43 79 = (Instr.getfield 23, 82, [28, 4, 13, 2], 0) ∧ bMask 43 79 = [] := ⟨rfl, rfl⟩
theorem E43_82 : aCode 43 82 = (Instr.aload_n 0, 83, [], 0) ∧ bMask 43 82 = [] := ⟨rfl, rfl⟩
theorem E43_83 : aCode 43 83 = (Instr.getfield 94, 86, [18, 4, 10, 0], 0) ∧ bMask 43 83 = [] := ⟨rfl, rfl⟩
theorem E43_86 : aCode 43 86 = (Instr.aaload, 87, [2], 0) ∧ bMask 43 86 = [] := ⟨rfl, rfl⟩
theorem E43_87 : aCode 43 87 = (Instr.aload_n 0, 88, [], 0) ∧ bMask 43 87 = [] := ⟨rfl, rfl⟩
theorem E43_88 : aCode 43 88 = (Instr.getfield 20, 91, [21, 4, 12, 2], 0) ∧ bMask 43 88 = [] := ⟨rfl, rfl⟩
theorem E43_91 : aCode 43 91 = (Instr.aload_n 0, 92, [], 0) ∧ bMask 43 91 = [] := ⟨rfl, rfl⟩
theorem E43_92 : aCode 43 92 = (Instr.getfield 94, 95, [18, 4, 10, 0], 0) ∧ bMask 43 92 = [] := ⟨rfl, rfl⟩
theorem E43_95 : aCode 43 95 = (Instr.aaload, 96, [2], 0) ∧ bMask 43 95 = [] := ⟨rfl, rfl⟩
theorem E43_96 : aCode 43 96 = (Instr.invokevirtual 131, 99, [30, 4, 0, 2, 0, 28], 0) ∧ bMask 43 96 = [] := ⟨rfl, rfl⟩
theorem E43_99 : aCode 43 99 = (Instr.goto 23, 122, [], 0) ∧ bMask 43 99 = [] := ⟨rfl, rfl⟩
theorem E43_102 : aCode 43 102 = (Instr.aload_n 0, 103, [], 0) ∧ bMask 43 102 = [] := ⟨rfl, rfl⟩
theorem E43_103 : aCode 43 103 = (Instr.getfield 53, 106, [31, 4, 9, 0], 0) ∧ bMask 43 103 = [] := ⟨rfl, rfl⟩
theorem E43_106 : aCode 43 106 = (Instr.ifCond .ge 16, 109, [122], 0) ∧ bMask 43 106 = [] := ⟨rfl, rfl⟩
theorem E43_109 : aCode 43 109 = (Instr.aload_n 0, 110, [], 0) ∧ bMask 43 109 = [] := ⟨rfl, rfl⟩
theorem E43_110 : aCode 43 110 = (Instr.aload_n 0, 111, [], 0) ∧ bMask 43 110 = [] := ⟨rfl, rfl⟩
theorem E43_111 : aCode 43 111 = (Instr.getfield 33, 114, [32, 4, 16, 2], 0) ∧ bMask 43 111 = [] := ⟨rfl, rfl⟩
theorem E43_114 : aCode 43 114 = (Instr.aload_n 0, 115, [], 0) ∧ bMask 43 114 = [] := ⟨rfl, rfl⟩
theorem E43_115 : aCode 43 115 = (Instr.getfield 94, 118, [18, 4, 10, 0], 0) ∧ bMask 43 115 = [] := ⟨rfl, rfl⟩
theorem E43_118 : aCode 43 118 = (Instr.iaload, 119, [0], 0) ∧ bMask 43 118 = [] := ⟨rfl, rfl⟩
theorem E43_119 : aCode 43 119 = (Instr.putfield 53, 122, [31, 4, 9, 0], 0) ∧ bMask 43 119 = [] := ⟨rfl, rfl⟩
theorem E43_122 : aCode 43 122 = (Instr.return_, 123, [], 0) ∧ bMask 43 122 = [] := ⟨rfl, rfl⟩
theorem g_X4_endPower_0 {Q : bQ} {M : bM}  (h : (vp_in (M 2 0 10) 5) ∧ (((¬ (M 10 0 (M 2 0 10).toNatClampNeg) = (42 : Int32)) → ((vp_in (M 2 0 10) 5) ∧ ((vp_in (0 : Int32) 32) ∧ ((((M 7 (23 + (M 2 0 10).toNatClampNeg) (0 : Int32).toNatClampNeg) = 0) → (((0 ≤ (M 2 0 9)) → (Q none M)) ∧ (¬ (0 ≤ (M 2 0 9)) → ((vp_in (M 2 0 10) 5) ∧ (Q none (bU M 2 0 9 (M 10 1 (M 2 0 10).toNatClampNeg))))))) ∧ (¬ ((M 7 (23 + (M 2 0 10).toNatClampNeg) (0 : Int32).toNatClampNeg) = 0) → ((vp_in (M 2 0 10) 5) ∧ ((vp_in (M 2 0 10) 5) ∧ ((vp_in (M 2 0 10) 5) ∧ (bCall 30 [cR 1 0, cR 7 (18 + (M 2 0 10).toNatClampNeg), cR 7 (23 + (M 2 0 10).toNatClampNeg), cR 7 (18 + (M 2 0 10).toNatClampNeg)] M (fun v1 M2 => bV0 v1 (Q none M2))))))))))) ∧ (¬ (¬ (M 10 0 (M 2 0 10).toNatClampNeg) = (42 : Int32)) → ((vp_in (M 2 0 10) 5) ∧ ((vp_in (M 2 0 10) 5) ∧ ((vp_in (M 2 0 10) 5) ∧ (bCall 34 [cR 1 0, cR 7 (18 + (M 2 0 10).toNatClampNeg), cR 7 (23 + (M 2 0 10).toNatClampNeg), cR 7 (18 + (M 2 0 10).toNatClampNeg)] M (fun v3 M4 => bV0 v3 (Q none M4))))))))) : bCall 43 [cR 2 0] M Q := s_aload_n E43_0.1 (k_ E43_0) rfl (s_getR E43_1.1 (k_ E43_1) rfl rfl (s_aload_n E43_4.1 (k_ E43_4) rfl (s_getI0 E43_5.1 (k_ E43_5) rfl (s_iaload E43_8.1 (k_ E43_8) rfl ⟨h.1, s_bipush E43_9.1 (k_ E43_9) (s_icmp_ne E43_11.1 (k_ E43_11) ⟨fun c0 => s_aload_n E43_51.1 (k_ E43_51) rfl (s_getR E43_52.1 (k_ E43_52) rfl rfl (s_aload_n E43_55.1 (k_ E43_55) rfl (s_getI0 E43_56.1 (k_ E43_56) rfl (s_aaload E43_59.1 (k_ E43_59) rfl ⟨(h.2.1 c0).1, s_iconst E43_60.1 (k_ E43_60) (s_iaload E43_61.1 (k_ E43_61) rfl ⟨((h.2.1 c0).2).1, s_if_eq E43_62.1 (k_ E43_62) ⟨fun c1 => s_aload_n E43_102.1 (k_ E43_102) rfl (s_getI0 E43_103.1 (k_ E43_103) rfl (s_if_ge E43_106.1 (k_ E43_106) ⟨fun c2 => s_ret E43_122.1 (k_ E43_122) (((((h.2.1 c0).2).2).1 c1).1 c2), fun c2 => s_aload_n E43_109.1 (k_ E43_109) rfl (s_aload_n E43_110.1 (k_ E43_110) rfl (s_getR E43_111.1 (k_ E43_111) rfl rfl (s_aload_n E43_114.1 (k_ E43_114) rfl (s_getI0 E43_115.1 (k_ E43_115) rfl (s_iaload E43_118.1 (k_ E43_118) rfl ⟨(((((h.2.1 c0).2).2).1 c1).2 c2).1, s_putI E43_119.1 (k_ E43_119) rfl (s_ret E43_122.1 (k_ E43_122) ((((((h.2.1 c0).2).2).1 c1).2 c2).2))⟩)))))⟩)), fun c1 => s_aload_n E43_65.1 (k_ E43_65) rfl (s_getR E43_66.1 (k_ E43_66) rfl rfl (s_aload_n E43_69.1 (k_ E43_69) rfl (s_getR E43_70.1 (k_ E43_70) rfl rfl (s_aload_n E43_73.1 (k_ E43_73) rfl (s_getI0 E43_74.1 (k_ E43_74) rfl (s_aaload E43_77.1 (k_ E43_77) rfl ⟨((((h.2.1 c0).2).2).2 c1).1, s_aload_n E43_78.1 (k_ E43_78) rfl (s_getR E43_79.1 (k_ E43_79) rfl rfl (s_aload_n E43_82.1 (k_ E43_82) rfl (s_getI0 E43_83.1 (k_ E43_83) rfl (s_aaload E43_86.1 (k_ E43_86) rfl ⟨(((((h.2.1 c0).2).2).2 c1).2).1, s_aload_n E43_87.1 (k_ E43_87) rfl (s_getR E43_88.1 (k_ E43_88) rfl rfl (s_aload_n E43_91.1 (k_ E43_91) rfl (s_getI0 E43_92.1 (k_ E43_92) rfl (s_aaload E43_95.1 (k_ E43_95) rfl ⟨((((((h.2.1 c0).2).2).2 c1).2).2).1, s_vcall0 E43_96.1 (k_ E43_96) rfl rfl rfl (((((((h.2.1 c0).2).2).2 c1).2).2).2) (fun M2 z3 => s_goto E43_99.1 (k_ E43_99) (s_ret E43_122.1 (k_ E43_122) z3))⟩))))⟩))))⟩))))))⟩⟩)⟩)))), fun c0 => s_aload_n E43_14.1 (k_ E43_14) rfl (s_getR E43_15.1 (k_ E43_15) rfl rfl (s_aload_n E43_18.1 (k_ E43_18) rfl (s_getR E43_19.1 (k_ E43_19) rfl rfl (s_aload_n E43_22.1 (k_ E43_22) rfl (s_getI0 E43_23.1 (k_ E43_23) rfl (s_aaload E43_26.1 (k_ E43_26) rfl ⟨(h.2.2 c0).1, s_aload_n E43_27.1 (k_ E43_27) rfl (s_getR E43_28.1 (k_ E43_28) rfl rfl (s_aload_n E43_31.1 (k_ E43_31) rfl (s_getI0 E43_32.1 (k_ E43_32) rfl (s_aaload E43_35.1 (k_ E43_35) rfl ⟨((h.2.2 c0).2).1, s_aload_n E43_36.1 (k_ E43_36) rfl (s_getR E43_37.1 (k_ E43_37) rfl rfl (s_aload_n E43_40.1 (k_ E43_40) rfl (s_getI0 E43_41.1 (k_ E43_41) rfl (s_aaload E43_44.1 (k_ E43_44) rfl ⟨(((h.2.2 c0).2).2).1, s_vcall0 E43_45.1 (k_ E43_45) rfl rfl rfl ((((h.2.2 c0).2).2).2) (fun M4 z4 => s_goto E43_48.1 (k_ E43_48) (s_ret E43_122.1 (k_ E43_122) z4))⟩))))⟩))))⟩))))))⟩)⟩))))
-- 44: X4_endTerm
theorem E44_0 : aCode 44 0 = (Instr.aload_n 0, 1, [], 0) ∧ bMask 44 0 = [] := ⟨rfl, rfl⟩
theorem E44_1 : aCode 44 1 = (Instr.getfield 39, 4, [20, 4, 0, 2], 0) ∧ bMask 44 1 = [] := ⟨rfl, rfl⟩
theorem E44_4 : aCode 44 4 = (Instr.aload_n 0, 5, [], 0) ∧ bMask 44 4 = [] := ⟨rfl, rfl⟩
theorem E44_5 : aCode 44 5 = (Instr.getfield 17, 8, [19, 4, 11, 2], 0) ∧ bMask 44 5 = [] := ⟨rfl, rfl⟩
theorem E44_8 : aCode 44 8 = (Instr.aload_n 0, 9, [], 0) ∧ bMask 44 8 = [] := ⟨rfl, rfl⟩
theorem E44_9 : aCode 44 9 = (Instr.getfield 94, 12, [18, 4, 10, 0], 0) ∧ bMask 44 9 = [] := ⟨rfl, rfl⟩
theorem E44_12 : aCode 44 12 = (Instr.aaload, 13, [2], 0) ∧ bMask 44 12 = [] := ⟨rfl, rfl⟩
theorem E44_13 : aCode 44 13 = (Instr.iconst 1, 14, [], 1) ∧ bMask 44 13 = [] := ⟨rfl, rfl⟩
theorem E44_14 : aCode 44 14 = (Instr.aload_n 0, 15, [], 0) ∧ bMask 44 14 = [] := ⟨rfl, rfl⟩
theorem E44_15 : aCode 44 15 = (Instr.getfield 20, 18, [21, 4, 12, 2], 0) ∧ bMask 44 15 = [] := ⟨rfl, rfl⟩
theorem E44_18 : aCode 44 18 = (Instr.aload_n 0, 19, [], 0) ∧ bMask 44 18 = [] := ⟨rfl, rfl⟩
theorem E44_19 : aCode 44 19 = (Instr.getfield 94, 22, [18, 4, 10, 0], 0) ∧ bMask 44 19 = [] := ⟨rfl, rfl⟩
theorem E44_22 : aCode 44 22 = (Instr.aaload, 23, [2], 0) ∧ bMask 44 22 = [] := ⟨rfl, rfl⟩
theorem E44_23 : aCode 44 23 = (Instr.aload_n 0, 24, [], 0) ∧ bMask 44 23 = [] := ⟨rfl, rfl⟩
theorem E44_24 : aCode 44 24 = (Instr.getfield 26, 27, [23, 4, 14, 2], 0) ∧ bMask 44 24 = [] := ⟨rfl, rfl⟩
theorem E44_27 : aCode 44 27 = (Instr.aload_n 0, 28, [], 0) ∧ bMask 44 27 = [] := ⟨rfl, rfl⟩
theorem E44_28 : aCode 44 28 = (Instr.getfield 94, 31, [18, 4, 10, 0], 0) ∧ bMask 44 28 = [] := ⟨rfl, rfl⟩
theorem E44_31 : aCode 44 31 = (Instr.baload, 32, [1], 0) ∧ bMask 44 31 = [] := ⟨rfl, rfl⟩
theorem E44_32 : aCode 44 32 = (Instr.ifCond .eq 7, 35, [39], 0) ∧ bMask 44 32 = [] := ⟨rfl, rfl⟩
theorem E44_35 : aCode 44 35 = (Instr.iconst (-1), 36, [], (-1)) ∧ bMask 44 35 = [] := ⟨rfl, rfl⟩
theorem E44_36 : aCode 44 36 = (Instr.goto 4, 40, [], 0) ∧ bMask 44 36 = [] := ⟨rfl, rfl⟩
theorem E44_39 : aCode 44 39 = (Instr.iconst 1, 40, [], 1) ∧ bMask 44 39 = [] := ⟨rfl, rfl⟩
theorem E44_40 : aCode 44 40 = (Instr.aload_n 0, 41, [], 0) ∧ bMask 44 40 = [] := ⟨rfl, rfl⟩
theorem E44_41 : aCode 44 41 = (Instr.getfield 17, 44, [19, 4, 11, 2], 0) ∧ bMask 44 41 = [] := ⟨rfl, rfl⟩
theorem E44_44 : aCode 44 44 = (Instr.aload_n 0, 45, [], 0) ∧ bMask 44 44 = [] := ⟨rfl, rfl⟩
theorem E44_45 : aCode 44 45 = (Instr.getfield 94, 48, [18, 4, 10, 0], 0) ∧ bMask 44 45 = [] := ⟨rfl, rfl⟩
theorem E44_48 : aCode 44 48 = (Instr.aaload, 49, [2], 0) ∧ bMask 44 48 = [] := ⟨rfl, rfl⟩
theorem E44_49 : aCode 44 49 = (Instr.invokevirtual 134, 52, [28, 6, 0, 2, 0, 29], 0) ∧ bMask 44 49 = [] := ⟨rfl, rfl⟩
theorem E44_52 : aCode 44 52 = (Instr.aload_n 0, 53, [], 0) ∧ bMask 44 52 = [] := ⟨rfl, rfl⟩
theorem E44_53 : aCode 44 53 = (Instr.getfield 39, 56, [20, 4, 0, 2], 0) ∧ bMask 44 53 = [] := ⟨rfl, rfl⟩
theorem E44_56 : aCode 44 56 = (Instr.iconst 1, 57, [], 1) ∧ bMask 44 56 = [] := ⟨rfl, rfl⟩
theorem E44_57 : aCode 44 57 = (Instr.aload_n 0, 58, [], 0) ∧ bMask 44 57 = [] := ⟨rfl, rfl⟩
theorem E44_58 : aCode 44 58 = (Instr.getfield 20, 61, [21, 4, 12, 2], 0) ∧ bMask 44 58 = [] := ⟨rfl, rfl⟩
theorem E44_61 : aCode 44 61 = (Instr.aload_n 0, 62, [], 0) ∧ bMask 44 61 = [] := ⟨rfl, rfl⟩
theorem E44_62 : aCode 44 62 = (Instr.getfield 94, 65, [18, 4, 10, 0], 0) ∧ bMask 44 62 = [] := ⟨rfl, rfl⟩
theorem E44_65 : aCode 44 65 = (Instr.aaload, 66, [2], 0) ∧ bMask 44 65 = [] := ⟨rfl, rfl⟩
theorem E44_66 : aCode 44 66 = (Instr.invokevirtual 112, 69, [29, 3, 0, 2, 0, 24], 0) ∧ bMask 44 66 = [] := ⟨rfl, rfl⟩
theorem E44_69 : aCode 44 69 = (Instr.aload_n 0, 70, [], 0) ∧ bMask 44 69 = [] := ⟨rfl, rfl⟩
theorem E44_70 : aCode 44 70 = (Instr.getfield 30, 73, [22, 4, 15, 2], 0) ∧ bMask 44 70 = [] := ⟨rfl, rfl⟩
theorem E44_73 : aCode 44 73 = (Instr.aload_n 0, 74, [], 0) ∧ bMask 44 73 = [] := ⟨rfl, rfl⟩
theorem E44_74 : aCode 44 74 = (Instr.getfield 94, 77, [18, 4, 10, 0], 0) ∧ bMask 44 74 = [] := ⟨rfl, rfl⟩
theorem E44_77 : aCode 44 77 = (Instr.bipush 42, 79, [], 42) ∧ bMask 44 77 = [] := ⟨rfl, rfl⟩
theorem E44_79 : aCode 44 79 = (Instr.iastore, 80, [0], 0) ∧ bMask 44 79 = [] := ⟨rfl, rfl⟩
theorem E44_80 : aCode 44 80 = (Instr.return_, 81, [], 0) ∧ bMask 44 80 = [] := ⟨rfl, rfl⟩
theorem g_X4_endTerm_0 {Q : bQ} {M : bM}  (h : (vp_in (M 2 0 10) 5) ∧ ((vp_in (M 2 0 10) 5) ∧ ((vp_in (M 2 0 10) 5) ∧ ((((M 14 0 (M 2 0 10).toNatClampNeg) = 0) → ((vp_in (M 2 0 10) 5) ∧ (bCall 28 [cR 1 0, cR 7 (13 + (M 2 0 10).toNatClampNeg), cI (1 : Int32), cR 7 (18 + (M 2 0 10).toNatClampNeg), cI (1 : Int32), cR 7 (13 + (M 2 0 10).toNatClampNeg)] M (fun v1 M2 => bV0 v1 ((vp_in (M2 2 0 10) 5) ∧ (bCall 29 [cR 1 0, cI (1 : Int32), cR 7 (18 + (M2 2 0 10).toNatClampNeg)] M2 (fun v3 M4 => bV0 v3 ((vp_in (M4 2 0 10) 5) ∧ (Q none (bU M4 10 0 (M4 2 0 10).toNatClampNeg (42 : Int32))))))))))) ∧ (¬ ((M 14 0 (M 2 0 10).toNatClampNeg) = 0) → ((vp_in (M 2 0 10) 5) ∧ (bCall 28 [cR 1 0, cR 7 (13 + (M 2 0 10).toNatClampNeg), cI (1 : Int32), cR 7 (18 + (M 2 0 10).toNatClampNeg), cI (-1 : Int32), cR 7 (13 + (M 2 0 10).toNatClampNeg)] M (fun v5 M6 => bV0 v5 ((vp_in (M6 2 0 10) 5) ∧ (bCall 29 [cR 1 0, cI (1 : Int32), cR 7 (18 + (M6 2 0 10).toNatClampNeg)] M6 (fun v7 M8 => bV0 v7 ((vp_in (M8 2 0 10) 5) ∧ (Q none (bU M8 10 0 (M8 2 0 10).toNatClampNeg (42 : Int32))))))))))))))) : bCall 44 [cR 2 0] M Q := s_aload_n E44_0.1 (k_ E44_0) rfl (s_getR E44_1.1 (k_ E44_1) rfl rfl (s_aload_n E44_4.1 (k_ E44_4) rfl (s_getR E44_5.1 (k_ E44_5) rfl rfl (s_aload_n E44_8.1 (k_ E44_8) rfl (s_getI0 E44_9.1 (k_ E44_9) rfl (s_aaload E44_12.1 (k_ E44_12) rfl ⟨h.1, s_iconst E44_13.1 (k_ E44_13) (s_aload_n E44_14.1 (k_ E44_14) rfl (s_getR E44_15.1 (k_ E44_15) rfl rfl (s_aload_n E44_18.1 (k_ E44_18) rfl (s_getI0 E44_19.1 (k_ E44_19) rfl (s_aaload E44_22.1 (k_ E44_22) rfl ⟨h.2.1, s_aload_n E44_23.1 (k_ E44_23) rfl (s_getR E44_24.1 (k_ E44_24) rfl rfl (s_aload_n E44_27.1 (k_ E44_27) rfl (s_getI0 E44_28.1 (k_ E44_28) rfl (s_baload E44_31.1 (k_ E44_31) rfl ⟨h.2.2.1, s_if_eq E44_32.1 (k_ E44_32) ⟨fun c0 => s_iconst E44_39.1 (k_ E44_39) (s_aload_n E44_40.1 (k_ E44_40) rfl (s_getR E44_41.1 (k_ E44_41) rfl rfl (s_aload_n E44_44.1 (k_ E44_44) rfl (s_getI0 E44_45.1 (k_ E44_45) rfl (s_aaload E44_48.1 (k_ E44_48) rfl ⟨(h.2.2.2.1 c0).1, s_vcall0 E44_49.1 (k_ E44_49) rfl rfl rfl ((h.2.2.2.1 c0).2) (fun M2 z1 => s_aload_n E44_52.1 (k_ E44_52) rfl (s_getR E44_53.1 (k_ E44_53) rfl rfl (s_iconst E44_56.1 (k_ E44_56) (s_aload_n E44_57.1 (k_ E44_57) rfl (s_getR E44_58.1 (k_ E44_58) rfl rfl (s_aload_n E44_61.1 (k_ E44_61) rfl (s_getI0 E44_62.1 (k_ E44_62) rfl (s_aaload E44_65.1 (k_ E44_65) rfl ⟨z1.1, s_vcall0 E44_66.1 (k_ E44_66) rfl rfl rfl z1.2 (fun M4 z2 => s_aload_n E44_69.1 (k_ E44_69) rfl (s_getR E44_70.1 (k_ E44_70) rfl rfl (s_aload_n E44_73.1 (k_ E44_73) rfl (s_getI0 E44_74.1 (k_ E44_74) rfl (s_bipush E44_77.1 (k_ E44_77) (s_iastore E44_79.1 (k_ E44_79) rfl ⟨z2.1, s_ret E44_80.1 (k_ E44_80) z2.2⟩))))))⟩))))))))⟩))))), fun c0 => s_iconst E44_35.1 (k_ E44_35) (s_goto E44_36.1 (k_ E44_36) (s_aload_n E44_40.1 (k_ E44_40) rfl (s_getR E44_41.1 (k_ E44_41) rfl rfl (s_aload_n E44_44.1 (k_ E44_44) rfl (s_getI0 E44_45.1 (k_ E44_45) rfl (s_aaload E44_48.1 (k_ E44_48) rfl ⟨(h.2.2.2.2 c0).1, s_vcall0 E44_49.1 (k_ E44_49) rfl rfl rfl ((h.2.2.2.2 c0).2) (fun M6 z3 => s_aload_n E44_52.1 (k_ E44_52) rfl (s_getR E44_53.1 (k_ E44_53) rfl rfl (s_iconst E44_56.1 (k_ E44_56) (s_aload_n E44_57.1 (k_ E44_57) rfl (s_getR E44_58.1 (k_ E44_58) rfl rfl (s_aload_n E44_61.1 (k_ E44_61) rfl (s_getI0 E44_62.1 (k_ E44_62) rfl (s_aaload E44_65.1 (k_ E44_65) rfl ⟨z3.1, s_vcall0 E44_66.1 (k_ E44_66) rfl rfl rfl z3.2 (fun M8 z4 => s_aload_n E44_69.1 (k_ E44_69) rfl (s_getR E44_70.1 (k_ E44_70) rfl rfl (s_aload_n E44_73.1 (k_ E44_73) rfl (s_getI0 E44_74.1 (k_ E44_74) rfl (s_bipush E44_77.1 (k_ E44_77) (s_iastore E44_79.1 (k_ E44_79) rfl ⟨z4.1, s_ret E44_80.1 (k_ E44_80) z4.2⟩))))))⟩))))))))⟩))))))⟩⟩))))⟩)))))⟩))))))
-- 45: X4_acceptJoin
theorem E45_0 : aCode 45 0 = (Instr.aload_n 0, 1, [], 0) ∧ bMask 45 0 = [] := ⟨rfl, rfl⟩
theorem E45_1 : aCode 45 1 = (Instr.getfield 78, 4, [27, 4, 4, 0], 0) ∧ bMask 45 1 = [] := ⟨rfl, rfl⟩
theorem E45_4 : aCode 45 4 = (Instr.bipush 42, 6, [], 42) ∧ bMask 45 4 = [] := ⟨rfl, rfl⟩
theorem E45_6 : aCode 45 6 = (Instr.if_icmp .eq 12, 9, [18], 0) ∧ bMask 45 6 = [] := ⟨rfl, rfl⟩
theorem E45_9 : aCode 45 9 = (Instr.aload_n 0, 10, [], 0) ∧ bMask 45 9 = [] := ⟨rfl, rfl⟩
theorem E45_10 : aCode 45 10 = (Instr.getfield 78, 13, [27, 4, 4, 0], 0) ∧ bMask 45 10 = [] := ⟨rfl, rfl⟩
theorem E45_13 : aCode 45 13 = (Instr.bipush 47, 15, [], 47) ∧ bMask 45 13 = [] := ⟨rfl, rfl⟩
theorem E45_15 : aCode 45 15 = (Instr.if_icmp .ne 41, 18, [56], 0) ∧ bMask 45 15 = [] := ⟨rfl, rfl⟩
theorem E45_18 : aCode 45 18 = (Instr.aload_n 0, 19, [], 0) ∧ bMask 45 18 = [] := ⟨rfl, rfl⟩
theorem E45_19 : aCode 45 19 = (Instr.invokevirtual 125, 22, [43, 1, 0, 4, 0, 30], 0) ∧ bMask 45 19 = [] := ⟨rfl, rfl⟩
theorem E45_22 : aCode 45 22 = (Instr.aload_n 0, 23, [], 0) ∧ bMask 45 22 = [] := ⟨rfl, rfl⟩
theorem E45_23 : aCode 45 23 = (Instr.getfield 30, 26, [22, 4, 15, 2], 0) ∧ bMask 45 23 = [] := ⟨rfl, rfl⟩
theorem E45_26 : aCode 45 26 = (Instr.aload_n 0, 27, [], 0) ∧ bMask 45 26 = [] := ⟨rfl, rfl⟩
theorem E45_27 : aCode 45 27 = (Instr.getfield 94, 30, [18, 4, 10, 0], 0) ∧ bMask 45 27 = [] := ⟨rfl, rfl⟩
theorem E45_30 : aCode 45 30 = (Instr.aload_n 0, 31, [], 0) ∧ bMask 45 30 = [] := ⟨rfl, rfl⟩
theorem E45_31 : aCode 45 31 = (Instr.getfield 78, 34, [27, 4, 4, 0], 0) ∧ bMask 45 31 = [] := ⟨rfl, rfl⟩
theorem E45_34 : aCode 45 34 = (Instr.iastore, 35, [0], 0) ∧ bMask 45 34 = [] := ⟨rfl, rfl⟩
theorem E45_35 : aCode 45 35 = (Instr.aload_n 0, 36, [], 0) ∧ bMask 45 35 = [] := ⟨rfl, rfl⟩
theorem E45_36 : aCode 45 36 = (Instr.getfield 33, 39, [32, 4, 16, 2], 0) ∧ bMask 45 36 = [] := ⟨rfl, rfl⟩
theorem E45_39 : aCode 45 39 = (Instr.aload_n 0, 40, [], 0) ∧ bMask 45 39 = [] := ⟨rfl, rfl⟩
theorem E45_40 : aCode 45 40 = (Instr.getfield 94, 43, [18, 4, 10, 0], 0) ∧ bMask 45 40 = [] := ⟨rfl, rfl⟩
theorem E45_43 : aCode 45 43 = (Instr.aload_n 0, 44, [], 0) ∧ bMask 45 43 = [] := ⟨rfl, rfl⟩
theorem E45_44 : aCode 45 44 = (Instr.getfield 75, 47, [25, 4, 5, 0], 0) ∧ bMask 45 44 = [] := ⟨rfl, rfl⟩
theorem E45_47 : aCode 45 47 = (Instr.iastore, 48, [0], 0) ∧ bMask 45 47 = [] := ⟨rfl, rfl⟩
theorem E45_48 : aCode 45 48 = (Instr.aload_n 0, 49, [], 0) ∧ bMask 45 48 = [] := ⟨rfl, rfl⟩
theorem E45_49 : aCode 45 49 = (Instr.iconst 1, 50, [], 1) ∧ bMask 45 49 = [] := ⟨rfl, rfl⟩
theorem E45_50 : aCode 45 50 = (Instr.putfield 60, 53, [24, 4, 7, 0], 0) ∧ bMask 45 50 = [] := ⟨rfl, rfl⟩
theorem E45_53 : aCode 45 53 = (Instr.goto 164, 217, [], 0) ∧ bMask 45 53 = [] := ⟨rfl, rfl⟩
theorem E45_56 : aCode 45 56 = (Instr.aload_n 0, 57, [], 0) ∧ bMask 45 56 = [] := ⟨rfl, rfl⟩
theorem E45_57 : aCode 45 57 = (Instr.getfield 78, 60, [27, 4, 4, 0], 0) ∧ bMask 45 57 = [] := ⟨rfl, rfl⟩
theorem E45_60 : aCode 45 60 = (Instr.bipush 43, 62, [], 43) ∧ bMask 45 60 = [] := ⟨rfl, rfl⟩
theorem E45_62 : aCode 45 62 = (Instr.if_icmp .eq 12, 65, [74], 0) ∧ bMask 45 62 = [] := ⟨rfl, rfl⟩
theorem E45_65 : aCode 45 65 = (Instr.aload_n 0, 66, [], 0) ∧ bMask 45 65 = [] := ⟨rfl, rfl⟩
theorem E45_66 : aCode 45 66 = (Instr.getfield 78, 69, [27, 4, 4, 0], 0) ∧ bMask 45 66 = [] := ⟨rfl, rfl⟩
theorem E45_69 : aCode 45 69 = (Instr.bipush 45, 71, [], 45) ∧ bMask 45 69 = [] := ⟨rfl, rfl⟩
theorem E45_71 : aCode 45 71 = (Instr.if_icmp .ne 42, 74, [113], 0) ∧ bMask 45 71 = [] := ⟨rfl, rfl⟩
theorem E45_74 : aCode 45 74 = (Instr.aload_n 0, 75, [], 0) ∧ bMask 45 74 = [] := ⟨rfl, rfl⟩
theorem E45_75 : aCode 45 75 = (Instr.invokevirtual 125, 78, [43, 1, 0, 4, 0, 30], 0) ∧ bMask 45 75 = [] := ⟨rfl, rfl⟩
theorem E45_78 : aCode 45 78 = (Instr.aload_n 0, 79, [], 0) ∧ bMask 45 78 = [] := ⟨rfl, rfl⟩
theorem E45_79 : aCode 45 79 = (Instr.invokevirtual 128, 82, [44, 1, 0, 4, 0, 31], 0) ∧ bMask 45 79 = [] := ⟨rfl, rfl⟩
theorem E45_82 : aCode 45 82 = (Instr.aload_n 0, 83, [], 0) ∧ bMask 45 82 = [] := ⟨rfl, rfl⟩
theorem E45_83 : aCode 45 83 = (Instr.getfield 26, 86, [23, 4, 14, 2], 0) ∧ bMask 45 83 = [] := ⟨rfl, rfl⟩
theorem E45_86 : aCode 45 86 = (Instr.aload_n 0, 87, [], 0) ∧ bMask 45 86 = [] := ⟨rfl, rfl⟩
theorem E45_87 : aCode 45 87 = (Instr.getfield 94, 90, [18, 4, 10, 0], 0) ∧ bMask 45 87 = [] := ⟨rfl, rfl⟩
theorem E45_90 : aCode 45 90 = (Instr.aload_n 0, 91, [], 0) ∧ bMask 45 90 = [] := ⟨rfl, rfl⟩
theorem E45_91 : aCode 45 91 = (Instr.getfield 78, 94, [27, 4, 4, 0], 0) ∧ bMask 45 91 = [] := ⟨rfl, rfl⟩
theorem E45_94 : aCode 45 94 = (Instr.bipush 45, 96, [], 45) ∧ bMask 45 94 = [] := ⟨rfl, rfl⟩
theorem E45_96 : aCode 45 96 = (Instr.if_icmp .ne 7, 99, [103], 0) ∧ bMask 45 96 = [] := ⟨rfl, rfl⟩
theorem E45_99 : aCode 45 99 = (Instr.iconst 1, 100, [], 1) ∧ bMask 45 99 = [] := ⟨rfl, rfl⟩
theorem E45_100 : aCode 45 100 = (Instr.goto 4, 104, [], 0) ∧ bMask 45 100 = [] := ⟨rfl, rfl⟩
theorem E45_103 : aCode 45 103 = (Instr.iconst 0, 104, [], 0) ∧ bMask 45 103 = [] := ⟨rfl, rfl⟩
theorem E45_104 : aCode 45 104 = (Instr.bastore, 105, [1], 0) ∧ bMask 45 104 = [] := ⟨rfl, rfl⟩
theorem E45_105 : aCode 45 105 = (Instr.aload_n 0, 106, [], 0) ∧ bMask 45 105 = [] := ⟨rfl, rfl⟩
theorem E45_106 : aCode 45 106 = (Instr.iconst 1, 107, [], 1) ∧ bMask 45 106 = [] := ⟨rfl, rfl⟩
theorem E45_107 : aCode 45 107 = (Instr.putfield 60, 110, [24, 4, 7, 0], 0) ∧ bMask 45 107 = [] := ⟨rfl, rfl⟩
theorem E45_110 : aCode 45 110 = (Instr.goto 107, 217, [], 0) ∧ bMask 45 110 = [] := ⟨rfl, rfl⟩
theorem E45_113 : aCode 45 113 = (Instr.aload_n 0, 114, [], 0) ∧ bMask 45 113 = [] := ⟨rfl, rfl⟩
theorem E45_114 : aCode 45 114 = (Instr.getfield 78, 117, [27, 4, 4, 0], 0) ∧ bMask 45 114 = [] := ⟨rfl, rfl⟩
theorem E45_117 : aCode 45 117 = (Instr.bipush 41, 119, [], 41) ∧ bMask 45 117 = [] := ⟨rfl, rfl⟩
theorem E45_119 : aCode 45 119 = (Instr.if_icmp .ne 63, 122, [182], 0) ∧ bMask 45 119 = [] := ⟨rfl, rfl⟩
theorem E45_122 : aCode 45 122 = (Instr.aload_n 0, 123, [], 0) ∧ bMask 45 122 = [] := ⟨rfl, rfl⟩
theorem E45_123 : aCode 45 123 = (Instr.getfield 94, 126, [18, 4, 10, 0], 0) ∧ bMask 45 123 = [] := ⟨rfl, rfl⟩
theorem E45_126 : aCode 45 126 = (Instr.ifCond .le 56, 129, [182], 0) ∧ bMask 45 126 = [] := ⟨rfl, rfl⟩
theorem E45_129 : aCode 45 129 = (Instr.aload_n 0, 130, [], 0) ∧ bMask 45 129 = [] := ⟨rfl, rfl⟩
theorem E45_130 : aCode 45 130 = (Instr.invokevirtual 125, 133, [43, 1, 0, 4, 0, 30], 0) ∧ bMask 45 130 = [] := ⟨rfl, rfl⟩
theorem E45_133 : aCode 45 133 = (Instr.aload_n 0, 134, [], 0) ∧ bMask 45 133 = [] := ⟨rfl, rfl⟩
theorem E45_134 : aCode 45 134 = (Instr.invokevirtual 128, 137, [44, 1, 0, 4, 0, 31], 0) ∧ bMask 45 134 = [] := ⟨rfl, rfl⟩
theorem E45_137 : aCode 45 137 = (Instr.aload_n 0, 138, [], 0) ∧ bMask 45 137 = [] := ⟨rfl, rfl⟩
theorem E45_138 : aCode 45 138 = (Instr.dup, 139, [], 0) ∧ bMask 45 138 = [] := ⟨rfl, rfl⟩
theorem E45_139 : aCode 45 139 = (Instr.getfield 94, 142, [18, 4, 10, 0], 0) ∧ bMask 45 139 = [] := ⟨rfl, rfl⟩
theorem E45_142 : aCode 45 142 = (Instr.iconst 1, 143, [], 1) ∧ bMask 45 142 = [] := ⟨rfl, rfl⟩
theorem E45_143 : aCode 45 143 = (Instr.isub, 144, [], 0) ∧ bMask 45 143 = [] := ⟨rfl, rfl⟩
theorem E45_144 : aCode 45 144 = (Instr.putfield 94, 147, [18, 4, 10, 0], 0) ∧ bMask 45 144 = [] := ⟨rfl, rfl⟩
theorem E45_147 : aCode 45 147 = (Instr.aload_n 0, 148, [], 0) ∧ bMask 45 147 = [] := ⟨rfl, rfl⟩
theorem E45_148 : aCode 45 148 = (Instr.getfield 17, 151, [19, 4, 11, 2], 0) ∧ bMask 45 148 = [] := ⟨rfl, rfl⟩
theorem E45_151 : aCode 45 151 = (Instr.aload_n 0, 152, [], 0) ∧ bMask 45 151 = [] := ⟨rfl, rfl⟩
theorem E45_152 : aCode 45 152 = (Instr.getfield 94, 155, [18, 4, 10, 0], 0) ∧ bMask 45 152 = [] := ⟨rfl, rfl⟩
theorem E45_155 : aCode 45 155 = (Instr.iconst 1, 156, [], 1) ∧ bMask 45 155 = [] := ⟨rfl, rfl⟩
theorem E45_156 : aCode 45 156 = (Instr.iadd, 157, [], 0) ∧ bMask 45 156 = [] := ⟨rfl, rfl⟩
theorem E45_157 : aCode 45 157 = (Instr.aaload, 158, [2], 0) ∧ bMask 45 157 = [] := ⟨rfl, rfl⟩
theorem E45_158 : aCode 45 158 = (Instr.iconst 0, 159, [], 0) ∧ bMask 45 158 = [] := ⟨rfl, rfl⟩
theorem E45_159 : aCode 45 159 = (Instr.aload_n 0, 160, [], 0) ∧ bMask 45 159 = [] := ⟨rfl, rfl⟩
theorem E45_160 : aCode 45 160 = (Instr.getfield 23, 163, [28, 4, 13, 2], 0) ∧ bMask 45 160 = [] := ⟨rfl, rfl⟩
theorem E45_163 : aCode 45 163 = (Instr.aload_n 0, 164, [], 0) ∧ bMask 45 163 = [] := ⟨rfl, rfl⟩
theorem E45_164 : aCode 45 164 = (Instr.getfield 94, 167, [18, 4, 10, 0], 0) ∧ bMask 45 164 = [] := ⟨rfl, rfl⟩
theorem E45_167 : aCode 45 167 = (Instr.aaload, 168, [2], 0) ∧ bMask 45 167 = [] := ⟨rfl, rfl⟩
theorem E45_168 : aCode 45 168 = (Instr.iconst 0, 169, [], 0) ∧ bMask 45 168 = [] := ⟨rfl, rfl⟩
theorem E45_169 : aCode 45 169 = (Instr.bipush 32, 171, [], 32) ∧ bMask 45 169 = [] := ⟨rfl, rfl⟩
theorem E45_171 : aCode 45 171 = (Instr.invokestatic 69, 174, [1000, 69], 0) ∧ bMask 45 171 = [] := ⟨rfl, rfl⟩
theorem E45_174 : aCode 45 174 = (Instr.aload_n 0, 175, [], 0) ∧ bMask 45 174 = [] := ⟨rfl, rfl⟩
theorem E45_175 : aCode 45 175 = (Instr.iconst 2, 176, [], 2) ∧ bMask 45 175 = [] := ⟨rfl, rfl⟩
theorem E45_176 : aCode 45 176 = (Instr.putfield 60, 179, [24, 4, 7, 0], 0) ∧ bMask 45 176 = [] := ⟨rfl, rfl⟩
theorem E45_179 : aCode 45 179 = (Instr.goto 38, 217, [], 0) ∧ bMask 45 179 = [] := ⟨rfl, rfl⟩
theorem E45_182 : aCode 45 182 = (Instr.aload_n 0, 183, [], 0) ∧ bMask 45 182 = [] := ⟨rfl, rfl⟩
theorem E45_183 : aCode 45 183 = (Instr.getfield 78, 186, [27, 4, 4, 0], 0) ∧ bMask 45 183 = [] := ⟨rfl, rfl⟩
theorem E45_186 : aCode 45 186 = (Instr.iconst (-1), 187, [], (-1)) ∧ bMask 45 186 = [] := ⟨rfl, rfl⟩
theorem E45_187 : aCode 45 187 = (Instr.if_icmp .ne 26, 190, [213], 0) ∧ bMask 45 187 = [] := ⟨rfl, rfl⟩
theorem E45_190 : aCode 45 190 = (Instr.aload_n 0, 191, [], 0) ∧ bMask 45 190 = [] := ⟨rfl, rfl⟩
theorem E45_191 : aCode 45 191 = (Instr.getfield 94, 194, [18, 4, 10, 0], 0) ∧ bMask 45 191 = [] := ⟨rfl, rfl⟩
theorem E45_194 : aCode 45 194 = (Instr.ifCond .ne 19, 197, [213], 0) ∧ bMask 45 194 = [] := ⟨rfl, rfl⟩
theorem E45_197 : aCode 45 197 = (Instr.aload_n 0, 198, [], 0) ∧ bMask 45 197 = [] := ⟨rfl, rfl⟩
theorem E45_198 : aCode 45 198 = (Instr.invokevirtual 125, 201, [43, 1, 0, 4, 0, 30], 0) ∧ bMask 45 198 = [] := ⟨rfl, rfl⟩
theorem E45_201 : aCode 45 201 = (Instr.aload_n 0, 202, [], 0) ∧ bMask 45 201 = [] := ⟨rfl, rfl⟩
theorem E45_202 : aCode 45 202 = (Instr.invokevirtual 128, 205, [44, 1, 0, 4, 0, 31], 0) ∧ bMask 45 202 = [] := ⟨rfl, rfl⟩
theorem E45_205 : aCode 45 205 = (Instr.aload_n 0, 206, [], 0) ∧ bMask 45 205 = [] := ⟨rfl, rfl⟩
theorem E45_206 : aCode 45 206 = (Instr.iconst 5, 207, [], 5) ∧ bMask 45 206 = [] := ⟨rfl, rfl⟩
theorem E45_207 : aCode 45 207 = (Instr.putfield 60, 210, [24, 4, 7, 0], 0) ∧ bMask 45 207 = [] := ⟨rfl, rfl⟩
theorem E45_210 : aCode 45 210 = (Instr.goto 7, 217, [], 0) ∧ bMask 45 210 = [] := ⟨rfl, rfl⟩
theorem E45_213 : aCode 45 213 = (Instr.aload_n 0, 214, [], 0) ∧ bMask 45 213 = [] := ⟨rfl, rfl⟩
theorem E45_214 : aCode 45 214 = (Instr.invokevirtual 118, 217, [40, 1, 0, 4, 0, 26], 0) ∧ bMask 45 214 = [] := ⟨rfl, rfl⟩
theorem E45_217 : aCode 45 217 = (Instr.return_, 218, [], 0) ∧ bMask 45 217 = [] := ⟨rfl, rfl⟩
theorem g_X4_acceptJoin_0 {Q : bQ} {M : bM}  (h : (((M 2 0 4) = (42 : Int32)) → (bCall 43 [cR 2 0] M (fun v1 M2 => bV0 v1 ((vp_in (M2 2 0 10) 5) ∧ ((vp_in ((bU M2 10 0 (M2 2 0 10).toNatClampNeg (M2 2 0 4)) 2 0 10) 5) ∧ (Q none (bU (bU (bU M2 10 0 (M2 2 0 10).toNatClampNeg (M2 2 0 4)) 10 1 ((bU M2 10 0 (M2 2 0 10).toNatClampNeg (M2 2 0 4)) 2 0 10).toNatClampNeg ((bU M2 10 0 (M2 2 0 10).toNatClampNeg (M2 2 0 4)) 2 0 5)) 2 0 7 (1 : Int32)))))))) ∧ (¬ ((M 2 0 4) = (42 : Int32)) → (((¬ (M 2 0 4) = (47 : Int32)) → ((((M 2 0 4) = (43 : Int32)) → (bCall 43 [cR 2 0] M (fun v3 M4 => bV0 v3 (bCall 44 [cR 2 0] M4 (fun v5 M6 => bV0 v5 (((¬ (M6 2 0 4) = (45 : Int32)) → ((vp_in (M6 2 0 10) 5 ∧ ((0 : Int32) = 0 ∨ (0 : Int32) = 1)) ∧ (Q none (bU (bU M6 14 0 (M6 2 0 10).toNatClampNeg (0 : Int32)) 2 0 7 (1 : Int32))))) ∧ (¬ (¬ (M6 2 0 4) = (45 : Int32)) → ((vp_in (M6 2 0 10) 5 ∧ ((1 : Int32) = 0 ∨ (1 : Int32) = 1)) ∧ (Q none (bU (bU M6 14 0 (M6 2 0 10).toNatClampNeg (1 : Int32)) 2 0 7 (1 : Int32))))))))))) ∧ (¬ ((M 2 0 4) = (43 : Int32)) → (((¬ (M 2 0 4) = (45 : Int32)) → (((¬ (M 2 0 4) = (41 : Int32)) → (((¬ (M 2 0 4) = (-1 : Int32)) → (bCall 40 [cR 2 0] M (fun v7 M8 => bV0 v7 (Q none M8)))) ∧ (¬ (¬ (M 2 0 4) = (-1 : Int32)) → (((¬ (M 2 0 10) = 0) → (bCall 40 [cR 2 0] M (fun v9 M10 => bV0 v9 (Q none M10)))) ∧ (¬ (¬ (M 2 0 10) = 0) → (bCall 43 [cR 2 0] M (fun v11 M12 => bV0 v11 (bCall 44 [cR 2 0] M12 (fun v13 M14 => bV0 v13 (Q none (bU M14 2 0 7 (5 : Int32)))))))))))) ∧ (¬ (¬ (M 2 0 4) = (41 : Int32)) → ((((M 2 0 10) ≤ 0) → (((¬ (M 2 0 4) = (-1 : Int32)) → (bCall 40 [cR 2 0] M (fun v15 M16 => bV0 v15 (Q none M16)))) ∧ (¬ (¬ (M 2 0 4) = (-1 : Int32)) → (((¬ (M 2 0 10) = 0) → (bCall 40 [cR 2 0] M (fun v17 M18 => bV0 v17 (Q none M18)))) ∧ (¬ (¬ (M 2 0 10) = 0) → (bCall 43 [cR 2 0] M (fun v19 M20 => bV0 v19 (bCall 44 [cR 2 0] M20 (fun v21 M22 => bV0 v21 (Q none (bU M22 2 0 7 (5 : Int32)))))))))))) ∧ (¬ ((M 2 0 10) ≤ 0) → (bCall 43 [cR 2 0] M (fun v23 M24 => bV0 v23 (bCall 44 [cR 2 0] M24 (fun v25 M26 => bV0 v25 ((vp_in (((bU M26 2 0 10 ((M26 2 0 10) - (1 : Int32))) 2 0 10) + (1 : Int32)) 5) ∧ ((vp_in ((bU M26 2 0 10 ((M26 2 0 10) - (1 : Int32))) 2 0 10) 5) ∧ ((¬ (0 : Int32) < 0 ∧ ¬ (0 : Int32) < 0 ∧ ¬ (32 : Int32) < 0 ∧ (0 : Int32).toNatClampNeg + (32 : Int32).toNatClampNeg ≤ 32 ∧ (0 : Int32).toNatClampNeg + (32 : Int32).toNatClampNeg ≤ 32) ∧ (Q none (bU (bCp (bU M26 2 0 10 ((M26 2 0 10) - (1 : Int32))) 7 (13 + (((bU M26 2 0 10 ((M26 2 0 10) - (1 : Int32))) 2 0 10) + (1 : Int32)).toNatClampNeg) 7 (23 + ((bU M26 2 0 10 ((M26 2 0 10) - (1 : Int32))) 2 0 10).toNatClampNeg) (0 : Int32) (0 : Int32) (32 : Int32)) 2 0 7 (2 : Int32))))))))))))))) ∧ (¬ (¬ (M 2 0 4) = (45 : Int32)) → (bCall 43 [cR 2 0] M (fun v27 M28 => bV0 v27 (bCall 44 [cR 2 0] M28 (fun v29 M30 => bV0 v29 (((¬ (M30 2 0 4) = (45 : Int32)) → ((vp_in (M30 2 0 10) 5 ∧ ((0 : Int32) = 0 ∨ (0 : Int32) = 1)) ∧ (Q none (bU (bU M30 14 0 (M30 2 0 10).toNatClampNeg (0 : Int32)) 2 0 7 (1 : Int32))))) ∧ (¬ (¬ (M30 2 0 4) = (45 : Int32)) → ((vp_in (M30 2 0 10) 5 ∧ ((1 : Int32) = 0 ∨ (1 : Int32) = 1)) ∧ (Q none (bU (bU M30 14 0 (M30 2 0 10).toNatClampNeg (1 : Int32)) 2 0 7 (1 : Int32))))))))))))))) ∧ (¬ (¬ (M 2 0 4) = (47 : Int32)) → (bCall 43 [cR 2 0] M (fun v31 M32 => bV0 v31 ((vp_in (M32 2 0 10) 5) ∧ ((vp_in ((bU M32 10 0 (M32 2 0 10).toNatClampNeg (M32 2 0 4)) 2 0 10) 5) ∧ (Q none (bU (bU (bU M32 10 0 (M32 2 0 10).toNatClampNeg (M32 2 0 4)) 10 1 ((bU M32 10 0 (M32 2 0 10).toNatClampNeg (M32 2 0 4)) 2 0 10).toNatClampNeg ((bU M32 10 0 (M32 2 0 10).toNatClampNeg (M32 2 0 4)) 2 0 5)) 2 0 7 (1 : Int32))))))))))) : bCall 45 [cR 2 0] M Q := s_aload_n E45_0.1 (k_ E45_0) rfl (s_getI0 E45_1.1 (k_ E45_1) rfl (s_bipush E45_4.1 (k_ E45_4) (s_icmp_eq E45_6.1 (k_ E45_6) ⟨fun c0 => s_aload_n E45_18.1 (k_ E45_18) rfl (s_vcall0 E45_19.1 (k_ E45_19) rfl rfl rfl (h.1 c0) (fun M2 z1 => s_aload_n E45_22.1 (k_ E45_22) rfl (s_getR E45_23.1 (k_ E45_23) rfl rfl (s_aload_n E45_26.1 (k_ E45_26) rfl (s_getI0 E45_27.1 (k_ E45_27) rfl (s_aload_n E45_30.1 (k_ E45_30) rfl (s_getI0 E45_31.1 (k_ E45_31) rfl (s_iastore E45_34.1 (k_ E45_34) rfl ⟨z1.1, s_aload_n E45_35.1 (k_ E45_35) rfl (s_getR E45_36.1 (k_ E45_36) rfl rfl (s_aload_n E45_39.1 (k_ E45_39) rfl (s_getI0 E45_40.1 (k_ E45_40) rfl (s_aload_n E45_43.1 (k_ E45_43) rfl (s_getI0 E45_44.1 (k_ E45_44) rfl (s_iastore E45_47.1 (k_ E45_47) rfl ⟨z1.2.1, s_aload_n E45_48.1 (k_ E45_48) rfl (s_iconst E45_49.1 (k_ E45_49) (s_putI E45_50.1 (k_ E45_50) rfl (s_goto E45_53.1 (k_ E45_53) (s_ret E45_217.1 (k_ E45_217) z1.2.2))))⟩))))))⟩)))))))), fun c0 => s_aload_n E45_9.1 (k_ E45_9) rfl (s_getI0 E45_10.1 (k_ E45_10) rfl (s_bipush E45_13.1 (k_ E45_13) (s_icmp_ne E45_15.1 (k_ E45_15) ⟨fun c2 => s_aload_n E45_56.1 (k_ E45_56) rfl (s_getI0 E45_57.1 (k_ E45_57) rfl (s_bipush E45_60.1 (k_ E45_60) (s_icmp_eq E45_62.1 (k_ E45_62) ⟨fun c3 => s_aload_n E45_74.1 (k_ E45_74) rfl (s_vcall0 E45_75.1 (k_ E45_75) rfl rfl rfl (((h.2 c0).1 c2).1 c3) (fun M4 z4 => s_aload_n E45_78.1 (k_ E45_78) rfl (s_vcall0 E45_79.1 (k_ E45_79) rfl rfl rfl z4 (fun M6 z5 => s_aload_n E45_82.1 (k_ E45_82) rfl (s_getR E45_83.1 (k_ E45_83) rfl rfl (s_aload_n E45_86.1 (k_ E45_86) rfl (s_getI0 E45_87.1 (k_ E45_87) rfl (s_aload_n E45_90.1 (k_ E45_90) rfl (s_getI0 E45_91.1 (k_ E45_91) rfl (s_bipush E45_94.1 (k_ E45_94) (s_icmp_ne E45_96.1 (k_ E45_96) ⟨fun c6 => s_iconst E45_103.1 (k_ E45_103) (s_bastore E45_104.1 (k_ E45_104) rfl ⟨(z5.1 c6).1, s_aload_n E45_105.1 (k_ E45_105) rfl (s_iconst E45_106.1 (k_ E45_106) (s_putI E45_107.1 (k_ E45_107) rfl (s_goto E45_110.1 (k_ E45_110) (s_ret E45_217.1 (k_ E45_217) ((z5.1 c6).2)))))⟩), fun c6 => s_iconst E45_99.1 (k_ E45_99) (s_goto E45_100.1 (k_ E45_100) (s_bastore E45_104.1 (k_ E45_104) rfl ⟨(z5.2 c6).1, s_aload_n E45_105.1 (k_ E45_105) rfl (s_iconst E45_106.1 (k_ E45_106) (s_putI E45_107.1 (k_ E45_107) rfl (s_goto E45_110.1 (k_ E45_110) (s_ret E45_217.1 (k_ E45_217) ((z5.2 c6).2)))))⟩))⟩))))))))))), fun c3 => s_aload_n E45_65.1 (k_ E45_65) rfl (s_getI0 E45_66.1 (k_ E45_66) rfl (s_bipush E45_69.1 (k_ E45_69) (s_icmp_ne E45_71.1 (k_ E45_71) ⟨fun c7 => s_aload_n E45_113.1 (k_ E45_113) rfl (s_getI0 E45_114.1 (k_ E45_114) rfl (s_bipush E45_117.1 (k_ E45_117) (s_icmp_ne E45_119.1 (k_ E45_119) ⟨fun c8 => s_aload_n E45_182.1 (k_ E45_182) rfl (s_getI0 E45_183.1 (k_ E45_183) rfl (s_iconst E45_186.1 (k_ E45_186) (s_icmp_ne E45_187.1 (k_ E45_187) ⟨fun c9 => s_aload_n E45_213.1 (k_ E45_213) rfl (s_vcall0 E45_214.1 (k_ E45_214) rfl rfl rfl ((((((h.2 c0).1 c2).2 c3).1 c7).1 c8).1 c9) (fun M8 z10 => s_ret E45_217.1 (k_ E45_217) z10)), fun c9 => s_aload_n E45_190.1 (k_ E45_190) rfl (s_getI0 E45_191.1 (k_ E45_191) rfl (s_if_ne E45_194.1 (k_ E45_194) ⟨fun c11 => s_aload_n E45_213.1 (k_ E45_213) rfl (s_vcall0 E45_214.1 (k_ E45_214) rfl rfl rfl (((((((h.2 c0).1 c2).2 c3).1 c7).1 c8).2 c9).1 c11) (fun M10 z12 => s_ret E45_217.1 (k_ E45_217) z12)), fun c11 => s_aload_n E45_197.1 (k_ E45_197) rfl (s_vcall0 E45_198.1 (k_ E45_198) rfl rfl rfl (((((((h.2 c0).1 c2).2 c3).1 c7).1 c8).2 c9).2 c11) (fun M12 z13 => s_aload_n E45_201.1 (k_ E45_201) rfl (s_vcall0 E45_202.1 (k_ E45_202) rfl rfl rfl z13 (fun M14 z14 => s_aload_n E45_205.1 (k_ E45_205) rfl (s_iconst E45_206.1 (k_ E45_206) (s_putI E45_207.1 (k_ E45_207) rfl (s_goto E45_210.1 (k_ E45_210) (s_ret E45_217.1 (k_ E45_217) z14))))))))⟩))⟩))), fun c8 => s_aload_n E45_122.1 (k_ E45_122) rfl (s_getI0 E45_123.1 (k_ E45_123) rfl (s_if_le E45_126.1 (k_ E45_126) ⟨fun c15 => s_aload_n E45_182.1 (k_ E45_182) rfl (s_getI0 E45_183.1 (k_ E45_183) rfl (s_iconst E45_186.1 (k_ E45_186) (s_icmp_ne E45_187.1 (k_ E45_187) ⟨fun c16 => s_aload_n E45_213.1 (k_ E45_213) rfl (s_vcall0 E45_214.1 (k_ E45_214) rfl rfl rfl (((((((h.2 c0).1 c2).2 c3).1 c7).2 c8).1 c15).1 c16) (fun M16 z17 => s_ret E45_217.1 (k_ E45_217) z17)), fun c16 => s_aload_n E45_190.1 (k_ E45_190) rfl (s_getI0 E45_191.1 (k_ E45_191) rfl (s_if_ne E45_194.1 (k_ E45_194) ⟨fun c18 => s_aload_n E45_213.1 (k_ E45_213) rfl (s_vcall0 E45_214.1 (k_ E45_214) rfl rfl rfl ((((((((h.2 c0).1 c2).2 c3).1 c7).2 c8).1 c15).2 c16).1 c18) (fun M18 z19 => s_ret E45_217.1 (k_ E45_217) z19)), fun c18 => s_aload_n E45_197.1 (k_ E45_197) rfl (s_vcall0 E45_198.1 (k_ E45_198) rfl rfl rfl ((((((((h.2 c0).1 c2).2 c3).1 c7).2 c8).1 c15).2 c16).2 c18) (fun M20 z20 => s_aload_n E45_201.1 (k_ E45_201) rfl (s_vcall0 E45_202.1 (k_ E45_202) rfl rfl rfl z20 (fun M22 z21 => s_aload_n E45_205.1 (k_ E45_205) rfl (s_iconst E45_206.1 (k_ E45_206) (s_putI E45_207.1 (k_ E45_207) rfl (s_goto E45_210.1 (k_ E45_210) (s_ret E45_217.1 (k_ E45_217) z21))))))))⟩))⟩))), fun c15 => s_aload_n E45_129.1 (k_ E45_129) rfl (s_vcall0 E45_130.1 (k_ E45_130) rfl rfl rfl ((((((h.2 c0).1 c2).2 c3).1 c7).2 c8).2 c15) (fun M24 z22 => s_aload_n E45_133.1 (k_ E45_133) rfl (s_vcall0 E45_134.1 (k_ E45_134) rfl rfl rfl z22 (fun M26 z23 => s_aload_n E45_137.1 (k_ E45_137) rfl (s_dupR E45_138.1 (k_ E45_138) (s_getI0 E45_139.1 (k_ E45_139) rfl (s_iconst E45_142.1 (k_ E45_142) (s_isub E45_143.1 (k_ E45_143) (s_putI E45_144.1 (k_ E45_144) rfl (s_aload_n E45_147.1 (k_ E45_147) rfl (s_getR E45_148.1 (k_ E45_148) rfl rfl (s_aload_n E45_151.1 (k_ E45_151) rfl (s_getI0 E45_152.1 (k_ E45_152) rfl (s_iconst E45_155.1 (k_ E45_155) (s_iadd E45_156.1 (k_ E45_156) (s_aaload E45_157.1 (k_ E45_157) rfl ⟨z23.1, s_iconst E45_158.1 (k_ E45_158) (s_aload_n E45_159.1 (k_ E45_159) rfl (s_getR E45_160.1 (k_ E45_160) rfl rfl (s_aload_n E45_163.1 (k_ E45_163) rfl (s_getI0 E45_164.1 (k_ E45_164) rfl (s_aaload E45_167.1 (k_ E45_167) rfl ⟨z23.2.1, s_iconst E45_168.1 (k_ E45_168) (s_bipush E45_169.1 (k_ E45_169) (s_acopy E45_171.1 (k_ E45_171) rfl ⟨z23.2.2.1, s_aload_n E45_174.1 (k_ E45_174) rfl (s_iconst E45_175.1 (k_ E45_175) (s_putI E45_176.1 (k_ E45_176) rfl (s_goto E45_179.1 (k_ E45_179) (s_ret E45_217.1 (k_ E45_217) z23.2.2.2))))⟩))⟩)))))⟩))))))))))))))))⟩))⟩))), fun c7 => s_aload_n E45_74.1 (k_ E45_74) rfl (s_vcall0 E45_75.1 (k_ E45_75) rfl rfl rfl ((((h.2 c0).1 c2).2 c3).2 c7) (fun M28 z24 => s_aload_n E45_78.1 (k_ E45_78) rfl (s_vcall0 E45_79.1 (k_ E45_79) rfl rfl rfl z24 (fun M30 z25 => s_aload_n E45_82.1 (k_ E45_82) rfl (s_getR E45_83.1 (k_ E45_83) rfl rfl (s_aload_n E45_86.1 (k_ E45_86) rfl (s_getI0 E45_87.1 (k_ E45_87) rfl (s_aload_n E45_90.1 (k_ E45_90) rfl (s_getI0 E45_91.1 (k_ E45_91) rfl (s_bipush E45_94.1 (k_ E45_94) (s_icmp_ne E45_96.1 (k_ E45_96) ⟨fun c26 => s_iconst E45_103.1 (k_ E45_103) (s_bastore E45_104.1 (k_ E45_104) rfl ⟨(z25.1 c26).1, s_aload_n E45_105.1 (k_ E45_105) rfl (s_iconst E45_106.1 (k_ E45_106) (s_putI E45_107.1 (k_ E45_107) rfl (s_goto E45_110.1 (k_ E45_110) (s_ret E45_217.1 (k_ E45_217) ((z25.1 c26).2)))))⟩), fun c26 => s_iconst E45_99.1 (k_ E45_99) (s_goto E45_100.1 (k_ E45_100) (s_bastore E45_104.1 (k_ E45_104) rfl ⟨(z25.2 c26).1, s_aload_n E45_105.1 (k_ E45_105) rfl (s_iconst E45_106.1 (k_ E45_106) (s_putI E45_107.1 (k_ E45_107) rfl (s_goto E45_110.1 (k_ E45_110) (s_ret E45_217.1 (k_ E45_217) ((z25.2 c26).2)))))⟩))⟩)))))))))))⟩)))⟩))), fun c2 => s_aload_n E45_18.1 (k_ E45_18) rfl (s_vcall0 E45_19.1 (k_ E45_19) rfl rfl rfl ((h.2 c0).2 c2) (fun M32 z27 => s_aload_n E45_22.1 (k_ E45_22) rfl (s_getR E45_23.1 (k_ E45_23) rfl rfl (s_aload_n E45_26.1 (k_ E45_26) rfl (s_getI0 E45_27.1 (k_ E45_27) rfl (s_aload_n E45_30.1 (k_ E45_30) rfl (s_getI0 E45_31.1 (k_ E45_31) rfl (s_iastore E45_34.1 (k_ E45_34) rfl ⟨z27.1, s_aload_n E45_35.1 (k_ E45_35) rfl (s_getR E45_36.1 (k_ E45_36) rfl rfl (s_aload_n E45_39.1 (k_ E45_39) rfl (s_getI0 E45_40.1 (k_ E45_40) rfl (s_aload_n E45_43.1 (k_ E45_43) rfl (s_getI0 E45_44.1 (k_ E45_44) rfl (s_iastore E45_47.1 (k_ E45_47) rfl ⟨z27.2.1, s_aload_n E45_48.1 (k_ E45_48) rfl (s_iconst E45_49.1 (k_ E45_49) (s_putI E45_50.1 (k_ E45_50) rfl (s_goto E45_53.1 (k_ E45_53) (s_ret E45_217.1 (k_ E45_217) z27.2.2))))⟩))))))⟩))))))))⟩)))⟩)))
-- 46: X4_accept
theorem E46_0 : aCode 46 0 = (Instr.aload_n 0, 1, [], 0) ∧ bMask 46 0 = [] := ⟨rfl, rfl⟩
theorem E46_1 : aCode 46 1 = (Instr.getfield 60, 4, [24, 4, 7, 0], 0) ∧ bMask 46 1 = [] := ⟨rfl, rfl⟩
theorem E46_4 : aCode 46 4 = (Instr.ifCond .ne 30, 7, [34], 0) ∧ bMask 46 4 = [] := ⟨rfl, rfl⟩
theorem E46_7 : aCode 46 7 = (Instr.aload_n 0, 8, [], 0) ∧ bMask 46 7 = [] := ⟨rfl, rfl⟩
theorem E46_8 : aCode 46 8 = (Instr.getfield 78, 11, [27, 4, 4, 0], 0) ∧ bMask 46 8 = [] := ⟨rfl, rfl⟩
theorem E46_11 : aCode 46 11 = (Instr.bipush 45, 13, [], 45) ∧ bMask 46 11 = [] := ⟨rfl, rfl⟩
theorem E46_13 : aCode 46 13 = (Instr.if_icmp .ne 21, 16, [34], 0) ∧ bMask 46 13 = [] := ⟨rfl, rfl⟩
theorem E46_16 : aCode 46 16 = (Instr.aload_n 0, 17, [], 0) ∧ bMask 46 16 = [] := ⟨rfl, rfl⟩
theorem E46_17 : aCode 46 17 = (Instr.getfield 26, 20, [23, 4, 14, 2], 0) ∧ bMask 46 17 = [] := ⟨rfl, rfl⟩
theorem E46_20 : aCode 46 20 = (Instr.aload_n 0, 21, [], 0) ∧ bMask 46 20 = [] := ⟨rfl, rfl⟩
theorem E46_21 : aCode 46 21 = (Instr.getfield 94, 24, [18, 4, 10, 0], 0) ∧ bMask 46 21 = [] := ⟨rfl, rfl⟩
theorem E46_24 : aCode 46 24 = (Instr.iconst 1, 25, [], 1) ∧ bMask 46 24 = [] := ⟨rfl, rfl⟩
theorem E46_25 : aCode 46 25 = (Instr.bastore, 26, [1], 0) ∧ bMask 46 25 = [] := ⟨rfl, rfl⟩
theorem E46_26 : aCode 46 26 = (Instr.aload_n 0, 27, [], 0) ∧ bMask 46 26 = [] := ⟨rfl, rfl⟩
theorem E46_27 : aCode 46 27 = (Instr.iconst 1, 28, [], 1) ∧ bMask 46 27 = [] := ⟨rfl, rfl⟩
theorem E46_28 : aCode 46 28 = (Instr.putfield 60, 31, [24, 4, 7, 0], 0) ∧ bMask 46 28 = [] := ⟨rfl, rfl⟩
theorem E46_31 : aCode 46 31 = (Instr.goto 69, 100, [], 0) ∧ bMask 46 31 = [] := ⟨rfl, rfl⟩
theorem E46_34 : aCode 46 34 = (Instr.aload_n 0, 35, [], 0) ∧ bMask 46 34 = [] := ⟨rfl, rfl⟩
theorem E46_35 : aCode 46 35 = (Instr.getfield 60, 38, [24, 4, 7, 0], 0) ∧ bMask 46 35 = [] := ⟨rfl, rfl⟩
theorem E46_38 : aCode 46 38 = (Instr.ifCond .eq 11, 41, [49], 0) ∧ bMask 46 38 = [] := ⟨rfl, rfl⟩
theorem E46_41 : aCode 46 41 = (Instr.aload_n 0, 42, [], 0) ∧ bMask 46 41 = [] := ⟨rfl, rfl⟩
theorem E46_42 : aCode 46 42 = (Instr.getfield 60, 45, [24, 4, 7, 0], 0) ∧ bMask 46 42 = [] := ⟨rfl, rfl⟩
theorem E46_45 : aCode 46 45 = (Instr.iconst 1, 46, [], 1) ∧ bMask 46 45 = [] := ⟨rfl, rfl⟩
theorem E46_46 : aCode 46 46 = (Instr.if_icmp .ne 10, 49, [56], 0) ∧ bMask 46 46 = [] := ⟨rfl, rfl⟩
theorem E46_49 : aCode 46 49 = (Instr.aload_n 0, 50, [], 0) ∧ bMask 46 49 = [] := ⟨rfl, rfl⟩
theorem E46_50 : aCode 46 50 = (Instr.invokevirtual 97, 53, [41, 1, 0, 4, 0, 32], 0) ∧ bMask 46 50 = [] := ⟨rfl, rfl⟩
theorem E46_53 : aCode 46 53 = (Instr.goto 47, 100, [], 0) ∧ bMask 46 53 = [] := ⟨rfl, rfl⟩
theorem E46_56 : aCode 46 56 = (Instr.aload_n 0, 57, [], 0) ∧ bMask 46 56 = [] := ⟨rfl, rfl⟩
theorem E46_57 : aCode 46 57 = (Instr.getfield 60, 60, [24, 4, 7, 0], 0) ∧ bMask 46 57 = [] := ⟨rfl, rfl⟩
theorem E46_60 : aCode 46 60 = (Instr.iconst 3, 61, [], 3) ∧ bMask 46 60 = [] := ⟨rfl, rfl⟩
theorem E46_61 : aCode 46 61 = (Instr.if_icmp .ne 10, 64, [71], 0) ∧ bMask 46 61 = [] := ⟨rfl, rfl⟩
theorem E46_64 : aCode 46 64 = (Instr.aload_n 0, 65, [], 0) ∧ bMask 46 64 = [] := ⟨rfl, rfl⟩
theorem E46_65 : aCode 46 65 = (Instr.invokevirtual 100, 68, [42, 1, 0, 4, 0, 33], 0) ∧ bMask 46 65 = [] := ⟨rfl, rfl⟩
theorem E46_68 : aCode 46 68 = (Instr.goto 32, 100, [], 0) ∧ bMask 46 68 = [] := ⟨rfl, rfl⟩
theorem E46_71 : aCode 46 71 = (Instr.aload_n 0, 72, [], 0) ∧ bMask 46 71 = [] := ⟨rfl, rfl⟩
theorem E46_72 : aCode 46 72 = (Instr.getfield 60, 75, [24, 4, 7, 0], 0) ∧ bMask 46 72 = [] := ⟨rfl, rfl⟩
theorem E46_75 : aCode 46 75 = (Instr.iconst 2, 76, [], 2) ∧ bMask 46 75 = [] := ⟨rfl, rfl⟩
theorem E46_76 : aCode 46 76 = (Instr.if_icmp .ne 20, 79, [96], 0) ∧ bMask 46 76 = [] := ⟨rfl, rfl⟩
theorem E46_79 : aCode 46 79 = (Instr.aload_n 0, 80, [], 0) ∧ bMask 46 79 = [] := ⟨rfl, rfl⟩
theorem E46_80 : aCode 46 80 = (Instr.getfield 78, 83, [27, 4, 4, 0], 0) ∧ bMask 46 80 = [] := ⟨rfl, rfl⟩
theorem E46_83 : aCode 46 83 = (Instr.bipush 94, 85, [], 94) ∧ bMask 46 83 = [] := ⟨rfl, rfl⟩
theorem E46_85 : aCode 46 85 = (Instr.if_icmp .ne 11, 88, [96], 0) ∧ bMask 46 85 = [] := ⟨rfl, rfl⟩
theorem E46_88 : aCode 46 88 = (Instr.aload_n 0, 89, [], 0) ∧ bMask 46 88 = [] := ⟨rfl, rfl⟩
theorem E46_89 : aCode 46 89 = (Instr.iconst 3, 90, [], 3) ∧ bMask 46 89 = [] := ⟨rfl, rfl⟩
theorem E46_90 : aCode 46 90 = (Instr.putfield 60, 93, [24, 4, 7, 0], 0) ∧ bMask 46 90 = [] := ⟨rfl, rfl⟩
theorem E46_93 : aCode 46 93 = (Instr.goto 7, 100, [], 0) ∧ bMask 46 93 = [] := ⟨rfl, rfl⟩
theorem E46_96 : aCode 46 96 = (Instr.aload_n 0, 97, [], 0) ∧ bMask 46 96 = [] := ⟨rfl, rfl⟩
theorem E46_97 : aCode 46 97 = (Instr.invokevirtual 103, 100, [45, 1, 0, 4, 0, 34], 0) ∧ bMask 46 97 = [] := ⟨rfl, rfl⟩
theorem E46_100 : aCode 46 100 = (Instr.return_, 101, [], 0) ∧ bMask 46 100 = [] := ⟨rfl, rfl⟩
theorem g_X4_accept_0 {Q : bQ} {M : bM}  (h : ((¬ (M 2 0 7) = 0) → ((((M 2 0 7) = 0) → (bCall 41 [cR 2 0] M (fun v1 M2 => bV0 v1 (Q none M2)))) ∧ (¬ ((M 2 0 7) = 0) → (((¬ (M 2 0 7) = (1 : Int32)) → (((¬ (M 2 0 7) = (3 : Int32)) → (((¬ (M 2 0 7) = (2 : Int32)) → (bCall 45 [cR 2 0] M (fun v3 M4 => bV0 v3 (Q none M4)))) ∧ (¬ (¬ (M 2 0 7) = (2 : Int32)) → (((¬ (M 2 0 4) = (94 : Int32)) → (bCall 45 [cR 2 0] M (fun v5 M6 => bV0 v5 (Q none M6)))) ∧ (¬ (¬ (M 2 0 4) = (94 : Int32)) → (Q none (bU M 2 0 7 (3 : Int32)))))))) ∧ (¬ (¬ (M 2 0 7) = (3 : Int32)) → (bCall 42 [cR 2 0] M (fun v7 M8 => bV0 v7 (Q none M8)))))) ∧ (¬ (¬ (M 2 0 7) = (1 : Int32)) → (bCall 41 [cR 2 0] M (fun v9 M10 => bV0 v9 (Q none M10)))))))) ∧ (¬ (¬ (M 2 0 7) = 0) → (((¬ (M 2 0 4) = (45 : Int32)) → ((((M 2 0 7) = 0) → (bCall 41 [cR 2 0] M (fun v11 M12 => bV0 v11 (Q none M12)))) ∧ (¬ ((M 2 0 7) = 0) → (((¬ (M 2 0 7) = (1 : Int32)) → (((¬ (M 2 0 7) = (3 : Int32)) → (((¬ (M 2 0 7) = (2 : Int32)) → (bCall 45 [cR 2 0] M (fun v13 M14 => bV0 v13 (Q none M14)))) ∧ (¬ (¬ (M 2 0 7) = (2 : Int32)) → (((¬ (M 2 0 4) = (94 : Int32)) → (bCall 45 [cR 2 0] M (fun v15 M16 => bV0 v15 (Q none M16)))) ∧ (¬ (¬ (M 2 0 4) = (94 : Int32)) → (Q none (bU M 2 0 7 (3 : Int32)))))))) ∧ (¬ (¬ (M 2 0 7) = (3 : Int32)) → (bCall 42 [cR 2 0] M (fun v17 M18 => bV0 v17 (Q none M18)))))) ∧ (¬ (¬ (M 2 0 7) = (1 : Int32)) → (bCall 41 [cR 2 0] M (fun v19 M20 => bV0 v19 (Q none M20)))))))) ∧ (¬ (¬ (M 2 0 4) = (45 : Int32)) → ((vp_in (M 2 0 10) 5 ∧ ((1 : Int32) = 0 ∨ (1 : Int32) = 1)) ∧ (Q none (bU (bU M 14 0 (M 2 0 10).toNatClampNeg (1 : Int32)) 2 0 7 (1 : Int32)))))))) : bCall 46 [cR 2 0] M Q := s_aload_n E46_0.1 (k_ E46_0) rfl (s_getI0 E46_1.1 (k_ E46_1) rfl (s_if_ne E46_4.1 (k_ E46_4) ⟨fun c0 => s_aload_n E46_34.1 (k_ E46_34) rfl (s_getI0 E46_35.1 (k_ E46_35) rfl (s_if_eq E46_38.1 (k_ E46_38) ⟨fun c1 => s_aload_n E46_49.1 (k_ E46_49) rfl (s_vcall0 E46_50.1 (k_ E46_50) rfl rfl rfl ((h.1 c0).1 c1) (fun M2 z2 => s_goto E46_53.1 (k_ E46_53) (s_ret E46_100.1 (k_ E46_100) z2))), fun c1 => s_aload_n E46_41.1 (k_ E46_41) rfl (s_getI0 E46_42.1 (k_ E46_42) rfl (s_iconst E46_45.1 (k_ E46_45) (s_icmp_ne E46_46.1 (k_ E46_46) ⟨fun c3 => s_aload_n E46_56.1 (k_ E46_56) rfl (s_getI0 E46_57.1 (k_ E46_57) rfl (s_iconst E46_60.1 (k_ E46_60) (s_icmp_ne E46_61.1 (k_ E46_61) ⟨fun c4 => s_aload_n E46_71.1 (k_ E46_71) rfl (s_getI0 E46_72.1 (k_ E46_72) rfl (s_iconst E46_75.1 (k_ E46_75) (s_icmp_ne E46_76.1 (k_ E46_76) ⟨fun c5 => s_aload_n E46_96.1 (k_ E46_96) rfl (s_vcall0 E46_97.1 (k_ E46_97) rfl rfl rfl (((((h.1 c0).2 c1).1 c3).1 c4).1 c5) (fun M4 z6 => s_ret E46_100.1 (k_ E46_100) z6)), fun c5 => s_aload_n E46_79.1 (k_ E46_79) rfl (s_getI0 E46_80.1 (k_ E46_80) rfl (s_bipush E46_83.1 (k_ E46_83) (s_icmp_ne E46_85.1 (k_ E46_85) ⟨fun c7 => s_aload_n E46_96.1 (k_ E46_96) rfl (s_vcall0 E46_97.1 (k_ E46_97) rfl rfl rfl ((((((h.1 c0).2 c1).1 c3).1 c4).2 c5).1 c7) (fun M6 z8 => s_ret E46_100.1 (k_ E46_100) z8)), fun c7 => s_aload_n E46_88.1 (k_ E46_88) rfl (s_iconst E46_89.1 (k_ E46_89) (s_putI E46_90.1 (k_ E46_90) rfl (s_goto E46_93.1 (k_ E46_93) (s_ret E46_100.1 (k_ E46_100) ((((((h.1 c0).2 c1).1 c3).1 c4).2 c5).2 c7)))))⟩)))⟩))), fun c4 => s_aload_n E46_64.1 (k_ E46_64) rfl (s_vcall0 E46_65.1 (k_ E46_65) rfl rfl rfl ((((h.1 c0).2 c1).1 c3).2 c4) (fun M8 z9 => s_goto E46_68.1 (k_ E46_68) (s_ret E46_100.1 (k_ E46_100) z9)))⟩))), fun c3 => s_aload_n E46_49.1 (k_ E46_49) rfl (s_vcall0 E46_50.1 (k_ E46_50) rfl rfl rfl (((h.1 c0).2 c1).2 c3) (fun M10 z10 => s_goto E46_53.1 (k_ E46_53) (s_ret E46_100.1 (k_ E46_100) z10)))⟩)))⟩)), fun c0 => s_aload_n E46_7.1 (k_ E46_7) rfl (s_getI0 E46_8.1 (k_ E46_8) rfl (s_bipush E46_11.1 (k_ E46_11) (s_icmp_ne E46_13.1 (k_ E46_13) ⟨fun c11 => s_aload_n E46_34.1 (k_ E46_34) rfl (s_getI0 E46_35.1 (k_ E46_35) rfl (s_if_eq E46_38.1 (k_ E46_38) ⟨fun c12 => s_aload_n E46_49.1 (k_ E46_49) rfl (s_vcall0 E46_50.1 (k_ E46_50) rfl rfl rfl (((h.2 c0).1 c11).1 c12) (fun M12 z13 => s_goto E46_53.1 (k_ E46_53) (s_ret E46_100.1 (k_ E46_100) z13))), fun c12 => s_aload_n E46_41.1 (k_ E46_41) rfl (s_getI0 E46_42.1 (k_ E46_42) rfl (s_iconst E46_45.1 (k_ E46_45) (s_icmp_ne E46_46.1 (k_ E46_46) ⟨fun c14 => s_aload_n E46_56.1 (k_ E46_56) rfl (s_getI0 E46_57.1 (k_ E46_57) rfl (s_iconst E46_60.1 (k_ E46_60) (s_icmp_ne E46_61.1 (k_ E46_61) ⟨fun c15 => s_aload_n E46_71.1 (k_ E46_71) rfl (s_getI0 E46_72.1 (k_ E46_72) rfl (s_iconst E46_75.1 (k_ E46_75) (s_icmp_ne E46_76.1 (k_ E46_76) ⟨fun c16 => s_aload_n E46_96.1 (k_ E46_96) rfl (s_vcall0 E46_97.1 (k_ E46_97) rfl rfl rfl ((((((h.2 c0).1 c11).2 c12).1 c14).1 c15).1 c16) (fun M14 z17 => s_ret E46_100.1 (k_ E46_100) z17)), fun c16 => s_aload_n E46_79.1 (k_ E46_79) rfl (s_getI0 E46_80.1 (k_ E46_80) rfl (s_bipush E46_83.1 (k_ E46_83) (s_icmp_ne E46_85.1 (k_ E46_85) ⟨fun c18 => s_aload_n E46_96.1 (k_ E46_96) rfl (s_vcall0 E46_97.1 (k_ E46_97) rfl rfl rfl (((((((h.2 c0).1 c11).2 c12).1 c14).1 c15).2 c16).1 c18) (fun M16 z19 => s_ret E46_100.1 (k_ E46_100) z19)), fun c18 => s_aload_n E46_88.1 (k_ E46_88) rfl (s_iconst E46_89.1 (k_ E46_89) (s_putI E46_90.1 (k_ E46_90) rfl (s_goto E46_93.1 (k_ E46_93) (s_ret E46_100.1 (k_ E46_100) (((((((h.2 c0).1 c11).2 c12).1 c14).1 c15).2 c16).2 c18)))))⟩)))⟩))), fun c15 => s_aload_n E46_64.1 (k_ E46_64) rfl (s_vcall0 E46_65.1 (k_ E46_65) rfl rfl rfl (((((h.2 c0).1 c11).2 c12).1 c14).2 c15) (fun M18 z20 => s_goto E46_68.1 (k_ E46_68) (s_ret E46_100.1 (k_ E46_100) z20)))⟩))), fun c14 => s_aload_n E46_49.1 (k_ E46_49) rfl (s_vcall0 E46_50.1 (k_ E46_50) rfl rfl rfl ((((h.2 c0).1 c11).2 c12).2 c14) (fun M20 z21 => s_goto E46_53.1 (k_ E46_53) (s_ret E46_100.1 (k_ E46_100) z21)))⟩)))⟩)), fun c11 => s_aload_n E46_16.1 (k_ E46_16) rfl (s_getR E46_17.1 (k_ E46_17) rfl rfl (s_aload_n E46_20.1 (k_ E46_20) rfl (s_getI0 E46_21.1 (k_ E46_21) rfl (s_iconst E46_24.1 (k_ E46_24) (s_bastore E46_25.1 (k_ E46_25) rfl ⟨((h.2 c0).2 c11).1, s_aload_n E46_26.1 (k_ E46_26) rfl (s_iconst E46_27.1 (k_ E46_27) (s_putI E46_28.1 (k_ E46_28) rfl (s_goto E46_31.1 (k_ E46_31) (s_ret E46_100.1 (k_ E46_100) (((h.2 c0).2 c11).2)))))⟩)))))⟩)))⟩))
-- 47: X4_append
theorem E47_0 : aCode 47 0 = (Instr.iload_n 1, 1, [], 0) ∧ bMask 47 0 = [] := ⟨rfl, rfl⟩
theorem E47_1 : aCode 47 1 = (Instr.bipush 80, 3, [], 80) ∧ bMask 47 1 = [] := ⟨rfl, rfl⟩
theorem E47_3 : aCode 47 3 = (Instr.aload_n 0, 4, [], 0) ∧ bMask 47 3 = [] := ⟨rfl, rfl⟩
theorem E47_4 : aCode 47 4 = (Instr.getfield 43, 7, [33, 4, 2, 0], 0) ∧ bMask 47 4 = [] := ⟨rfl, rfl⟩
theorem E47_7 : aCode 47 7 = (Instr.isub, 8, [], 0) ∧ bMask 47 7 = [] := ⟨rfl, rfl⟩
theorem E47_8 : aCode 47 8 = (Instr.if_icmp .le 5, 11, [13], 0) ∧ bMask 47 8 = [] := ⟨rfl, rfl⟩
theorem E47_11 : aCode 47 11 = (Instr.iconst 0, 12, [], 0) ∧ bMask 47 11 = [] := ⟨rfl, rfl⟩
theorem E47_12 : aCode 47 12 = (Instr.ireturn, 13, [1], 0) ∧ bMask 47 12 = [] := ⟨rfl, rfl⟩
theorem E47_13 : aCode 47 13 = (Instr.iconst 0, 14, [], 0) ∧ bMask 47 13 = [] := ⟨rfl, rfl⟩
theorem E47_14 : aCode 47 14 = (Instr.istore_n 3, 15, [], 0) ∧ bMask 47 14 = [] := ⟨rfl, rfl⟩
theorem E47_15 : aCode 47 15 = (Instr.iload_n 3, 16, [], 0) ∧ bMask 47 15 = [] := ⟨rfl, rfl⟩
theorem E47_16 : aCode 47 16 = (Instr.iload_n 1, 17, [], 0) ∧ bMask 47 16 = [] := ⟨rfl, rfl⟩
theorem E47_17 : aCode 47 17 = (Instr.if_icmp .ge 47, 20, [64], 0) ∧ bMask 47 17 = [] := ⟨rfl, rfl⟩
theorem E47_20 : aCode 47 20 = (Instr.aload_n 0, 21, [], 0) ∧ bMask 47 20 = [] := ⟨rfl, rfl⟩
theorem E47_21 : aCode 47 21 = (Instr.getfield 43, 24, [33, 4, 2, 0], 0) ∧ bMask 47 21 = [] := ⟨rfl, rfl⟩
theorem E47_24 : aCode 47 24 = (Instr.bipush 80, 26, [], 80) ∧ bMask 47 24 = [] := ⟨rfl, rfl⟩
theorem E47_26 : aCode 47 26 = (Instr.if_icmp .ge 38, 29, [64], 0) ∧ bMask 47 26 = [] := ⟨rfl, rfl⟩
theorem E47_29 : aCode 47 29 = (Instr.aload_n 0, 30, [], 0) ∧ bMask 47 29 = [] := ⟨rfl, rfl⟩
theorem E47_30 : aCode 47 30 = (Instr.getfield 11, 33, [34, 4, 1, 2], 0) ∧ bMask 47 30 = [] := ⟨rfl, rfl⟩
theorem E47_33 : aCode 47 33 = (Instr.aload_n 0, 34, [], 0) ∧ bMask 47 33 = [] := ⟨rfl, rfl⟩
theorem E47_34 : aCode 47 34 = (Instr.getfield 43, 37, [33, 4, 2, 0], 0) ∧ bMask 47 34 = [] := ⟨rfl, rfl⟩
theorem E47_37 : aCode 47 37 = (Instr.iload_n 2, 38, [], 0) ∧ bMask 47 37 = [] := ⟨rfl, rfl⟩
theorem E47_38 : aCode 47 38 = (Instr.bipush 8, 40, [], 8) ∧ bMask 47 38 = [] := ⟨rfl, rfl⟩
theorem E47_40 : aCode 47 40 = (Instr.iload_n 3, 41, [], 0) ∧ bMask 47 40 = [] := ⟨rfl, rfl⟩
theorem E47_41 : aCode 47 41 = (Instr.imul, 42, [], 0) ∧ bMask 47 41 = [] := ⟨rfl, rfl⟩
theorem E47_42 : aCode 47 42 = (Instr.iushr, 43, [], 0) ∧ bMask 47 42 = [] := ⟨rfl, rfl⟩
theorem E47_43 : aCode 47 43 = (Instr.sipush 255, 46, [], 255) ∧ bMask 47 43 = [] := ⟨rfl, rfl⟩
theorem E47_46 : aCode 47 46 = (Instr.iand, 47, [], 0) ∧ bMask 47 46 = [] := ⟨rfl, rfl⟩
theorem E47_47 : aCode 47 47 = (Instr.iastore, 48, [0], 0) ∧ bMask 47 47 = [] := ⟨rfl, rfl⟩
theorem E47_48 : aCode 47 48 = (Instr.aload_n 0, 49, [], 0) ∧ bMask 47 48 = [] := ⟨rfl, rfl⟩
theorem E47_49 : aCode 47 49 = (Instr.dup, 50, [], 0) ∧ bMask 47 49 = [] := ⟨rfl, rfl⟩
theorem E47_50 : aCode 47 50 = (Instr.getfield 43, 53, [33, 4, 2, 0], 0) ∧ bMask 47 50 = [] := ⟨rfl, rfl⟩
theorem E47_53 : aCode 47 53 = (Instr.iconst 1, 54, [], 1) ∧ bMask 47 53 = [] := ⟨rfl, rfl⟩
theorem E47_54 : aCode 47 54 = (Instr.iadd, 55, [], 0) ∧ bMask 47 54 = [] := ⟨rfl, rfl⟩
theorem E47_55 : aCode 47 55 = (Instr.putfield 43, 58, [33, 4, 2, 0], 0) ∧ bMask 47 55 = [] := ⟨rfl, rfl⟩
theorem E47_58 : aCode 47 58 = (Instr.iinc 3 1, 61, [], 1) ∧ bMask 47 58 = [] := ⟨rfl, rfl⟩
theorem E47_61 : aCode 47 61 = (Instr.goto (-46), 15, [], 0) ∧ bMask 47 61 = [] := ⟨rfl, rfl⟩
theorem E47_64 : aCode 47 64 = (Instr.iconst 1, 65, [], 1) ∧ bMask 47 64 = [] := ⟨rfl, rfl⟩
theorem E47_65 : aCode 47 65 = (Instr.ireturn, 66, [1], 0) ∧ bMask 47 65 = [] := ⟨rfl, rfl⟩
theorem g_X4_append_0 {Q : bQ} {M : bM} {x1 : Int32} {x2 : Int32} (h : ((x1 ≤ ((80 : Int32) - (M 2 0 2))) → bGo 47 Q 15 [some (cR 2 0), some (cI x1), some (cI x2), some (cI (0 : Int32))] [] M) ∧ (¬ (x1 ≤ ((80 : Int32) - (M 2 0 2))) → (((0 : Int32) = 0 ∨ (0 : Int32) = 1) ∧ Q (some (cI (0 : Int32))) M))) : bCall 47 [cR 2 0, cI x1, cI x2] M Q := s_iload_n E47_0.1 (k_ E47_0) rfl (s_bipush E47_1.1 (k_ E47_1) (s_aload_n E47_3.1 (k_ E47_3) rfl (s_getI0 E47_4.1 (k_ E47_4) rfl (s_isub E47_7.1 (k_ E47_7) (s_icmp_le E47_8.1 (k_ E47_8) ⟨fun c0 => s_iconst E47_13.1 (k_ E47_13) (s_istore_n E47_14.1 (k_ E47_14) (h.1 c0)), fun c0 => s_iconst E47_11.1 (k_ E47_11) (s_zret E47_12.1 (k_ E47_12) (h.2 c0))⟩)))))
theorem g_X4_append_15 {Q : bQ} {M : bM} {x1 : Int32} {x2 : Int32} {x3 : Int32} (h : ((x1 ≤ x3) → (((1 : Int32) = 0 ∨ (1 : Int32) = 1) ∧ Q (some (cI (1 : Int32))) M)) ∧ (¬ (x1 ≤ x3) → ((((80 : Int32) ≤ (M 2 0 2)) → (((1 : Int32) = 0 ∨ (1 : Int32) = 1) ∧ Q (some (cI (1 : Int32))) M)) ∧ (¬ ((80 : Int32) ≤ (M 2 0 2)) → ((vp_in (M 2 0 2) 80) ∧ bGo 47 Q 15 [some (cR 2 0), some (cI x1), some (cI x2), some (cI (x3 + (1 : Int32)))] [] (bU (bU M 13 0 (M 2 0 2).toNatClampNeg ((aUshr x2 ((8 : Int32) * x3)) &&& (255 : Int32))) 2 0 2 (((bU M 13 0 (M 2 0 2).toNatClampNeg ((aUshr x2 ((8 : Int32) * x3)) &&& (255 : Int32))) 2 0 2) + (1 : Int32)))))))) : bGo 47 Q 15 [some (cR 2 0), some (cI x1), some (cI x2), some (cI x3)] [] M := s_iload_n E47_15.1 (k_ E47_15) rfl (s_iload_n E47_16.1 (k_ E47_16) rfl (s_icmp_ge E47_17.1 (k_ E47_17) ⟨fun c1 => s_iconst E47_64.1 (k_ E47_64) (s_zret E47_65.1 (k_ E47_65) (h.1 c1)), fun c1 => s_aload_n E47_20.1 (k_ E47_20) rfl (s_getI0 E47_21.1 (k_ E47_21) rfl (s_bipush E47_24.1 (k_ E47_24) (s_icmp_ge E47_26.1 (k_ E47_26) ⟨fun c2 => s_iconst E47_64.1 (k_ E47_64) (s_zret E47_65.1 (k_ E47_65) ((h.2 c1).1 c2)), fun c2 => s_aload_n E47_29.1 (k_ E47_29) rfl (s_getR E47_30.1 (k_ E47_30) rfl rfl (s_aload_n E47_33.1 (k_ E47_33) rfl (s_getI0 E47_34.1 (k_ E47_34) rfl (s_iload_n E47_37.1 (k_ E47_37) rfl (s_bipush E47_38.1 (k_ E47_38) (s_iload_n E47_40.1 (k_ E47_40) rfl (s_imul E47_41.1 (k_ E47_41) (s_iushr E47_42.1 (k_ E47_42) (s_sipush E47_43.1 (k_ E47_43) (s_iand E47_46.1 (k_ E47_46) (s_iastore E47_47.1 (k_ E47_47) rfl ⟨((h.2 c1).2 c2).1, s_aload_n E47_48.1 (k_ E47_48) rfl (s_dupR E47_49.1 (k_ E47_49) (s_getI0 E47_50.1 (k_ E47_50) rfl (s_iconst E47_53.1 (k_ E47_53) (s_iadd E47_54.1 (k_ E47_54) (s_putI E47_55.1 (k_ E47_55) rfl (s_iinc E47_58.1 (k_ E47_58) rfl (s_goto E47_61.1 (k_ E47_61) (((h.2 c1).2 c2).2))))))))⟩)))))))))))⟩)))⟩))
-- 49: X4_isDigit
theorem E49_0 : aCode 49 0 = (Instr.iload_n 0, 1, [], 0) ∧ bMask 49 0 = [] := ⟨rfl, rfl⟩
theorem E49_1 : aCode 49 1 = (Instr.bipush 48, 3, [], 48) ∧ bMask 49 1 = [] := ⟨rfl, rfl⟩
theorem E49_3 : aCode 49 3 = (Instr.if_icmp .lt 13, 6, [16], 0) ∧ bMask 49 3 = [] := ⟨rfl, rfl⟩
theorem E49_6 : aCode 49 6 = (Instr.iload_n 0, 7, [], 0) ∧ bMask 49 6 = [] := ⟨rfl, rfl⟩
theorem E49_7 : aCode 49 7 = (Instr.bipush 57, 9, [], 57) ∧ bMask 49 7 = [] := ⟨rfl, rfl⟩
theorem E49_9 : aCode 49 9 = (Instr.if_icmp .gt 7, 12, [16], 0) ∧ bMask 49 9 = [] := ⟨rfl, rfl⟩
theorem E49_12 : aCode 49 12 = (Instr.iconst 1, 13, [], 1) ∧ bMask 49 12 = [] := ⟨rfl, rfl⟩
theorem E49_13 : aCode 49 13 = (Instr.goto 4, 17, [], 0) ∧ bMask 49 13 = [] := ⟨rfl, rfl⟩
theorem E49_16 : aCode 49 16 = (Instr.iconst 0, 17, [], 0) ∧ bMask 49 16 = [] := ⟨rfl, rfl⟩
theorem E49_17 : aCode 49 17 = (Instr.ireturn, 18, [1], 0) ∧ bMask 49 17 = [] := ⟨rfl, rfl⟩
theorem g_X4_isDigit_0 {Q : bQ} {M : bM} {x0 : Int32} (h : ((x0 < (48 : Int32)) → (((0 : Int32) = 0 ∨ (0 : Int32) = 1) ∧ Q (some (cI (0 : Int32))) M)) ∧ (¬ (x0 < (48 : Int32)) → ((((57 : Int32) < x0) → (((0 : Int32) = 0 ∨ (0 : Int32) = 1) ∧ Q (some (cI (0 : Int32))) M)) ∧ (¬ ((57 : Int32) < x0) → (((1 : Int32) = 0 ∨ (1 : Int32) = 1) ∧ Q (some (cI (1 : Int32))) M))))) : bCall 49 [cI x0] M Q := s_iload_n E49_0.1 (k_ E49_0) rfl (s_bipush E49_1.1 (k_ E49_1) (s_icmp_lt E49_3.1 (k_ E49_3) ⟨fun c0 => s_iconst E49_16.1 (k_ E49_16) (s_zret E49_17.1 (k_ E49_17) (h.1 c0)), fun c0 => s_iload_n E49_6.1 (k_ E49_6) rfl (s_bipush E49_7.1 (k_ E49_7) (s_icmp_gt E49_9.1 (k_ E49_9) ⟨fun c1 => s_iconst E49_16.1 (k_ E49_16) (s_zret E49_17.1 (k_ E49_17) ((h.2 c0).1 c1)), fun c1 => s_iconst E49_12.1 (k_ E49_12) (s_goto E49_13.1 (k_ E49_13) (s_zret E49_17.1 (k_ E49_17) ((h.2 c0).2 c1)))⟩))⟩))
-- 50: X4_isSign
theorem E50_0 : aCode 50 0 = (Instr.iload_n 0, 1, [], 0) ∧ bMask 50 0 = [] := ⟨rfl, rfl⟩
theorem E50_1 : aCode 50 1 = (Instr.lookupswitch 77 #[(40, 75), (41, 75), (42, 75), (43, 75), (45, 75), (47, 75), (94, 75), (120, 75)], 76, [78, 76, 76, 76, 76, 76, 76, 76, 76], 0) ∧ bMask 50 1 = [] := ⟨rfl, rfl⟩
theorem E50_76 : aCode 50 76 = (Instr.iconst 1, 77, [], 1) ∧ bMask 50 76 = [] := ⟨rfl, rfl⟩
theorem E50_77 : aCode 50 77 = (Instr.ireturn, 78, [1], 0) ∧ bMask 50 77 = [] := ⟨rfl, rfl⟩
theorem E50_78 : aCode 50 78 = (Instr.iconst 0, 79, [], 0) ∧ bMask 50 78 = [] := ⟨rfl, rfl⟩
theorem E50_79 : aCode 50 79 = (Instr.ireturn, 80, [1], 0) ∧ bMask 50 79 = [] := ⟨rfl, rfl⟩
theorem g_X4_isSign_0 {Q : bQ} {M : bM} {x0 : Int32} (h : ((x0 = Int32.ofInt 40) → (((1 : Int32) = 0 ∨ (1 : Int32) = 1) ∧ Q (some (cI (1 : Int32))) M)) ∧ (¬ (x0 = Int32.ofInt 40) → (((x0 = Int32.ofInt 41) → (((1 : Int32) = 0 ∨ (1 : Int32) = 1) ∧ Q (some (cI (1 : Int32))) M)) ∧ (¬ (x0 = Int32.ofInt 41) → (((x0 = Int32.ofInt 42) → (((1 : Int32) = 0 ∨ (1 : Int32) = 1) ∧ Q (some (cI (1 : Int32))) M)) ∧ (¬ (x0 = Int32.ofInt 42) → (((x0 = Int32.ofInt 43) → (((1 : Int32) = 0 ∨ (1 : Int32) = 1) ∧ Q (some (cI (1 : Int32))) M)) ∧ (¬ (x0 = Int32.ofInt 43) → (((x0 = Int32.ofInt 45) → (((1 : Int32) = 0 ∨ (1 : Int32) = 1) ∧ Q (some (cI (1 : Int32))) M)) ∧ (¬ (x0 = Int32.ofInt 45) → (((x0 = Int32.ofInt 47) → (((1 : Int32) = 0 ∨ (1 : Int32) = 1) ∧ Q (some (cI (1 : Int32))) M)) ∧ (¬ (x0 = Int32.ofInt 47) → (((x0 = Int32.ofInt 94) → (((1 : Int32) = 0 ∨ (1 : Int32) = 1) ∧ Q (some (cI (1 : Int32))) M)) ∧ (¬ (x0 = Int32.ofInt 94) → (((x0 = Int32.ofInt 120) → (((1 : Int32) = 0 ∨ (1 : Int32) = 1) ∧ Q (some (cI (1 : Int32))) M)) ∧ (¬ (x0 = Int32.ofInt 120) → (((0 : Int32) = 0 ∨ (0 : Int32) = 1) ∧ Q (some (cI (0 : Int32))) M))))))))))))))))) : bCall 50 [cI x0] M Q := s_iload_n E50_0.1 (k_ E50_0) rfl (s_lsw E50_1.1 (k_ E50_1) (And.intro (fun c0 => s_iconst E50_76.1 (k_ E50_76) (s_zret E50_77.1 (k_ E50_77) (h.1 c0))) (fun c0 => And.intro (fun c1 => s_iconst E50_76.1 (k_ E50_76) (s_zret E50_77.1 (k_ E50_77) ((h.2 c0).1 c1))) (fun c1 => And.intro (fun c2 => s_iconst E50_76.1 (k_ E50_76) (s_zret E50_77.1 (k_ E50_77) (((h.2 c0).2 c1).1 c2))) (fun c2 => And.intro (fun c3 => s_iconst E50_76.1 (k_ E50_76) (s_zret E50_77.1 (k_ E50_77) ((((h.2 c0).2 c1).2 c2).1 c3))) (fun c3 => And.intro (fun c4 => s_iconst E50_76.1 (k_ E50_76) (s_zret E50_77.1 (k_ E50_77) (((((h.2 c0).2 c1).2 c2).2 c3).1 c4))) (fun c4 => And.intro (fun c5 => s_iconst E50_76.1 (k_ E50_76) (s_zret E50_77.1 (k_ E50_77) ((((((h.2 c0).2 c1).2 c2).2 c3).2 c4).1 c5))) (fun c5 => And.intro (fun c6 => s_iconst E50_76.1 (k_ E50_76) (s_zret E50_77.1 (k_ E50_77) (((((((h.2 c0).2 c1).2 c2).2 c3).2 c4).2 c5).1 c6))) (fun c6 => And.intro (fun c7 => s_iconst E50_76.1 (k_ E50_76) (s_zret E50_77.1 (k_ E50_77) ((((((((h.2 c0).2 c1).2 c2).2 c3).2 c4).2 c5).2 c6).1 c7))) (fun c7 => s_iconst E50_78.1 (k_ E50_78) (s_zret E50_79.1 (k_ E50_79) ((((((((h.2 c0).2 c1).2 c2).2 c3).2 c4).2 c5).2 c6).2 c7))))))))))))
-- 51: X4_scanNumber
theorem E51_0 : aCode 51 0 = (Instr.aload_n 0, 1, [], 0) ∧ bMask 51 0 = [] := ⟨rfl, rfl⟩
theorem E51_1 : aCode 51 1 = (Instr.iconst 0, 2, [], 0) ∧ bMask 51 1 = [] := ⟨rfl, rfl⟩
theorem E51_2 : aCode 51 2 = (Instr.putfield 91, 5, [29, 4, 6, 0], 0) ∧ bMask 51 2 = [] := ⟨rfl, rfl⟩
theorem E51_5 : aCode 51 5 = (Instr.aload_n 0, 6, [], 0) ∧ bMask 51 5 = [] := ⟨rfl, rfl⟩
theorem E51_6 : aCode 51 6 = (Instr.getfield 47, 9, [35, 4, 3, 0], 0) ∧ bMask 51 6 = [] := ⟨rfl, rfl⟩
theorem E51_9 : aCode 51 9 = (Instr.aload_n 0, 10, [], 0) ∧ bMask 51 9 = [] := ⟨rfl, rfl⟩
theorem E51_10 : aCode 51 10 = (Instr.getfield 43, 13, [33, 4, 2, 0], 0) ∧ bMask 51 10 = [] := ⟨rfl, rfl⟩
theorem E51_13 : aCode 51 13 = (Instr.if_icmp .ge 68, 16, [81], 0) ∧ bMask 51 13 = [] := ⟨rfl, rfl⟩
theorem E51_16 : aCode 51 16 = (Instr.aload_n 0, 17, [], 0) ∧ bMask 51 16 = [] := ⟨rfl, rfl⟩
theorem E51_17 : aCode 51 17 = (Instr.getfield 11, 20, [34, 4, 1, 2], 0) ∧ bMask 51 17 = [] := ⟨rfl, rfl⟩
theorem E51_20 : aCode 51 20 = (Instr.aload_n 0, 21, [], 0) ∧ bMask 51 20 = [] := ⟨rfl, rfl⟩
theorem E51_21 : aCode 51 21 = (Instr.getfield 47, 24, [35, 4, 3, 0], 0) ∧ bMask 51 21 = [] := ⟨rfl, rfl⟩
theorem E51_24 : aCode 51 24 = (Instr.iaload, 25, [0], 0) ∧ bMask 51 24 = [] := ⟨rfl, rfl⟩
theorem E51_25 : aCode 51 25 = (Instr.invokestatic 81, 28, [49, 1, 1, 0, 0, 35], 0) ∧ bMask 51 25 = [] := ⟨rfl, rfl⟩
theorem E51_28 : aCode 51 28 = (Instr.ifCond .eq 53, 31, [81], 0) ∧ bMask 51 28 = [] := ⟨rfl, rfl⟩
theorem E51_31 : aCode 51 31 = (Instr.aload_n 0, 32, [], 0) ∧ bMask 51 31 = [] := ⟨rfl, rfl⟩
theorem E51_32 : aCode 51 32 = (Instr.getfield 47, 35, [35, 4, 3, 0], 0) ∧ bMask 51 32 = [] := ⟨rfl, rfl⟩
theorem E51_35 : aCode 51 35 = (Instr.aload_n 0, 36, [], 0) ∧ bMask 51 35 = [] := ⟨rfl, rfl⟩
theorem E51_36 : aCode 51 36 = (Instr.getfield 75, 39, [25, 4, 5, 0], 0) ∧ bMask 51 36 = [] := ⟨rfl, rfl⟩
theorem E51_39 : aCode 51 39 = (Instr.isub, 40, [], 0) ∧ bMask 51 39 = [] := ⟨rfl, rfl⟩
theorem E51_40 : aCode 51 40 = (Instr.iconst 4, 41, [], 4) ∧ bMask 51 40 = [] := ⟨rfl, rfl⟩
theorem E51_41 : aCode 51 41 = (Instr.if_icmp .ge 27, 44, [68], 0) ∧ bMask 51 41 = [] := ⟨rfl, rfl⟩
theorem E51_44 : aCode 51 44 = (Instr.aload_n 0, 45, [], 0) ∧ bMask 51 44 = [] := ⟨rfl, rfl⟩
theorem E51_45 : aCode 51 45 = (Instr.bipush 10, 47, [], 10) ∧ bMask 51 45 = [] := ⟨rfl, rfl⟩
theorem E51_47 : aCode 51 47 = (Instr.aload_n 0, 48, [], 0) ∧ bMask 51 47 = [] := ⟨rfl, rfl⟩
theorem E51_48 : aCode 51 48 = (Instr.getfield 91, 51, [29, 4, 6, 0], 0) ∧ bMask 51 48 = [] := ⟨rfl, rfl⟩
theorem E51_51 : aCode 51 51 = (Instr.imul, 52, [], 0) ∧ bMask 51 51 = [] := ⟨rfl, rfl⟩
theorem E51_52 : aCode 51 52 = (Instr.aload_n 0, 53, [], 0) ∧ bMask 51 52 = [] := ⟨rfl, rfl⟩
theorem E51_53 : aCode 51 53 = (Instr.getfield 11, 56, [34, 4, 1, 2], 0) ∧ bMask 51 53 = [] := ⟨rfl, rfl⟩
theorem E51_56 : aCode 51 56 = (Instr.aload_n 0, 57, [], 0) ∧ bMask 51 56 = [] := ⟨rfl, rfl⟩
theorem E51_57 : aCode 51 57 = (Instr.getfield 47, 60, [35, 4, 3, 0], 0) ∧ bMask 51 57 = [] := ⟨rfl, rfl⟩
theorem E51_60 : aCode 51 60 = (Instr.iaload, 61, [0], 0) ∧ bMask 51 60 = [] := ⟨rfl, rfl⟩
theorem E51_61 : aCode 51 61 = (Instr.iadd, 62, [], 0) ∧ bMask 51 61 = [] := ⟨rfl, rfl⟩
theorem E51_62 : aCode 51 62 = (Instr.bipush 48, 64, [], 48) ∧ bMask 51 62 = [] := ⟨rfl, rfl⟩
theorem E51_64 : aCode 51 64 = (Instr.isub, 65, [], 0) ∧ bMask 51 64 = [] := ⟨rfl, rfl⟩
theorem E51_65 : aCode 51 65 = (Instr.putfield 91, 68, [29, 4, 6, 0], 0) ∧ bMask 51 65 = [] := ⟨rfl, rfl⟩
theorem E51_68 : aCode 51 68 = (Instr.aload_n 0, 69, [], 0) ∧ bMask 51 68 = [] := ⟨rfl, rfl⟩
theorem E51_69 : aCode 51 69 = (Instr.dup, 70, [], 0) ∧ bMask 51 69 = [] := ⟨rfl, rfl⟩
theorem E51_70 : aCode 51 70 = (Instr.getfield 47, 73, [35, 4, 3, 0], 0) ∧ bMask 51 70 = [] := ⟨rfl, rfl⟩
theorem E51_73 : aCode 51 73 = (Instr.iconst 1, 74, [], 1) ∧ bMask 51 73 = [] := ⟨rfl, rfl⟩
theorem E51_74 : aCode 51 74 = (Instr.iadd, 75, [], 0) ∧ bMask 51 74 = [] := ⟨rfl, rfl⟩
theorem E51_75 : aCode 51 75 = (Instr.putfield 47, 78, [35, 4, 3, 0], 0) ∧ bMask 51 75 = [] := ⟨rfl, rfl⟩
theorem E51_78 : aCode 51 78 = (Instr.goto (-73), 5, [], 0) ∧ bMask 51 78 = [] := ⟨rfl, rfl⟩
theorem E51_81 : aCode 51 81 = (Instr.aload_n 0, 82, [], 0) ∧ bMask 51 81 = [] := ⟨rfl, rfl⟩
theorem E51_82 : aCode 51 82 = (Instr.aload_n 0, 83, [], 0) ∧ bMask 51 82 = [] := ⟨rfl, rfl⟩
theorem E51_83 : aCode 51 83 = (Instr.getfield 47, 86, [35, 4, 3, 0], 0) ∧ bMask 51 83 = [] := ⟨rfl, rfl⟩
theorem E51_86 : aCode 51 86 = (Instr.aload_n 0, 87, [], 0) ∧ bMask 51 86 = [] := ⟨rfl, rfl⟩
theorem E51_87 : aCode 51 87 = (Instr.getfield 75, 90, [25, 4, 5, 0], 0) ∧ bMask 51 87 = [] := ⟨rfl, rfl⟩
theorem E51_90 : aCode 51 90 = (Instr.isub, 91, [], 0) ∧ bMask 51 90 = [] := ⟨rfl, rfl⟩
theorem E51_91 : aCode 51 91 = (Instr.iconst 4, 92, [], 4) ∧ bMask 51 91 = [] := ⟨rfl, rfl⟩
theorem E51_92 : aCode 51 92 = (Instr.if_icmp .gt 8, 95, [100], 0) ∧ bMask 51 92 = [] := ⟨rfl, rfl⟩
theorem E51_95 : aCode 51 95 = (Instr.bipush (-2), 97, [], (-2)) ∧ bMask 51 95 = [] := ⟨rfl, rfl⟩
theorem E51_97 : aCode 51 97 = (Instr.goto 5, 102, [], 0) ∧ bMask 51 97 = [] := ⟨rfl, rfl⟩
theorem E51_100 : aCode 51 100 = (Instr.bipush (-3), 102, [], (-3)) ∧ bMask 51 100 = [] := ⟨rfl, rfl⟩
theorem E51_102 : aCode 51 102 = (Instr.putfield 78, 105, [27, 4, 4, 0], 0) ∧ bMask 51 102 = [] := ⟨rfl, rfl⟩
theorem E51_105 : aCode 51 105 = (Instr.return_, 106, [], 0) ∧ bMask 51 105 = [] := ⟨rfl, rfl⟩
theorem g_X4_scanNumber_0 {Q : bQ} {M : bM}  (h : bGo 51 Q 5 [some (cR 2 0)] [] (bU M 2 0 6 (0 : Int32))) : bCall 51 [cR 2 0] M Q := s_aload_n E51_0.1 (k_ E51_0) rfl (s_iconst E51_1.1 (k_ E51_1) (s_putI E51_2.1 (k_ E51_2) rfl (h)))
theorem g_X4_scanNumber_5 {Q : bQ} {M : bM}  (h : (((M 2 0 2) ≤ (M 2 0 3)) → ((((4 : Int32) < ((M 2 0 3) - (M 2 0 5))) → (Q none (bU M 2 0 4 (-3 : Int32)))) ∧ (¬ ((4 : Int32) < ((M 2 0 3) - (M 2 0 5))) → (Q none (bU M 2 0 4 (-2 : Int32)))))) ∧ (¬ ((M 2 0 2) ≤ (M 2 0 3)) → ((vp_in (M 2 0 3) 80) ∧ (bCall 49 [cI (M 13 0 (M 2 0 3).toNatClampNeg)] M (fun v1 M2 => bV1 v1 fun r3 => (((r3 = 0) → ((((4 : Int32) < ((M2 2 0 3) - (M2 2 0 5))) → (Q none (bU M2 2 0 4 (-3 : Int32)))) ∧ (¬ ((4 : Int32) < ((M2 2 0 3) - (M2 2 0 5))) → (Q none (bU M2 2 0 4 (-2 : Int32)))))) ∧ (¬ (r3 = 0) → ((((4 : Int32) ≤ ((M2 2 0 3) - (M2 2 0 5))) → bGo 51 Q 5 [some (cR 2 0)] [] (bU M2 2 0 3 ((M2 2 0 3) + (1 : Int32)))) ∧ (¬ ((4 : Int32) ≤ ((M2 2 0 3) - (M2 2 0 5))) → ((vp_in (M2 2 0 3) 80) ∧ bGo 51 Q 5 [some (cR 2 0)] [] (bU (bU M2 2 0 6 ((((10 : Int32) * (M2 2 0 6)) + (M2 13 0 (M2 2 0 3).toNatClampNeg)) - (48 : Int32))) 2 0 3 (((bU M2 2 0 6 ((((10 : Int32) * (M2 2 0 6)) + (M2 13 0 (M2 2 0 3).toNatClampNeg)) - (48 : Int32))) 2 0 3) + (1 : Int32))))))))))))) : bGo 51 Q 5 [some (cR 2 0)] [] M := s_aload_n E51_5.1 (k_ E51_5) rfl (s_getI0 E51_6.1 (k_ E51_6) rfl (s_aload_n E51_9.1 (k_ E51_9) rfl (s_getI0 E51_10.1 (k_ E51_10) rfl (s_icmp_ge E51_13.1 (k_ E51_13) ⟨fun c0 => s_aload_n E51_81.1 (k_ E51_81) rfl (s_aload_n E51_82.1 (k_ E51_82) rfl (s_getI0 E51_83.1 (k_ E51_83) rfl (s_aload_n E51_86.1 (k_ E51_86) rfl (s_getI0 E51_87.1 (k_ E51_87) rfl (s_isub E51_90.1 (k_ E51_90) (s_iconst E51_91.1 (k_ E51_91) (s_icmp_gt E51_92.1 (k_ E51_92) ⟨fun c1 => s_bipush E51_100.1 (k_ E51_100) (s_putI E51_102.1 (k_ E51_102) rfl (s_ret E51_105.1 (k_ E51_105) ((h.1 c0).1 c1))), fun c1 => s_bipush E51_95.1 (k_ E51_95) (s_goto E51_97.1 (k_ E51_97) (s_putI E51_102.1 (k_ E51_102) rfl (s_ret E51_105.1 (k_ E51_105) ((h.1 c0).2 c1))))⟩))))))), fun c0 => s_aload_n E51_16.1 (k_ E51_16) rfl (s_getR E51_17.1 (k_ E51_17) rfl rfl (s_aload_n E51_20.1 (k_ E51_20) rfl (s_getI0 E51_21.1 (k_ E51_21) rfl (s_iaload E51_24.1 (k_ E51_24) rfl ⟨(h.2 c0).1, s_scall1 E51_25.1 (k_ E51_25) rfl rfl rfl ((h.2 c0).2) (fun M2 r3 z2 => s_if_eq E51_28.1 (k_ E51_28) ⟨fun c3 => s_aload_n E51_81.1 (k_ E51_81) rfl (s_aload_n E51_82.1 (k_ E51_82) rfl (s_getI0 E51_83.1 (k_ E51_83) rfl (s_aload_n E51_86.1 (k_ E51_86) rfl (s_getI0 E51_87.1 (k_ E51_87) rfl (s_isub E51_90.1 (k_ E51_90) (s_iconst E51_91.1 (k_ E51_91) (s_icmp_gt E51_92.1 (k_ E51_92) ⟨fun c4 => s_bipush E51_100.1 (k_ E51_100) (s_putI E51_102.1 (k_ E51_102) rfl (s_ret E51_105.1 (k_ E51_105) ((z2.1 c3).1 c4))), fun c4 => s_bipush E51_95.1 (k_ E51_95) (s_goto E51_97.1 (k_ E51_97) (s_putI E51_102.1 (k_ E51_102) rfl (s_ret E51_105.1 (k_ E51_105) ((z2.1 c3).2 c4))))⟩))))))), fun c3 => s_aload_n E51_31.1 (k_ E51_31) rfl (s_getI0 E51_32.1 (k_ E51_32) rfl (s_aload_n E51_35.1 (k_ E51_35) rfl (s_getI0 E51_36.1 (k_ E51_36) rfl (s_isub E51_39.1 (k_ E51_39) (s_iconst E51_40.1 (k_ E51_40) (s_icmp_ge E51_41.1 (k_ E51_41) ⟨fun c5 => s_aload_n E51_68.1 (k_ E51_68) rfl (s_dupR E51_69.1 (k_ E51_69) (s_getI0 E51_70.1 (k_ E51_70) rfl (s_iconst E51_73.1 (k_ E51_73) (s_iadd E51_74.1 (k_ E51_74) (s_putI E51_75.1 (k_ E51_75) rfl (s_goto E51_78.1 (k_ E51_78) ((z2.2 c3).1 c5))))))), fun c5 => s_aload_n E51_44.1 (k_ E51_44) rfl (s_bipush E51_45.1 (k_ E51_45) (s_aload_n E51_47.1 (k_ E51_47) rfl (s_getI0 E51_48.1 (k_ E51_48) rfl (s_imul E51_51.1 (k_ E51_51) (s_aload_n E51_52.1 (k_ E51_52) rfl (s_getR E51_53.1 (k_ E51_53) rfl rfl (s_aload_n E51_56.1 (k_ E51_56) rfl (s_getI0 E51_57.1 (k_ E51_57) rfl (s_iaload E51_60.1 (k_ E51_60) rfl ⟨((z2.2 c3).2 c5).1, s_iadd E51_61.1 (k_ E51_61) (s_bipush E51_62.1 (k_ E51_62) (s_isub E51_64.1 (k_ E51_64) (s_putI E51_65.1 (k_ E51_65) rfl (s_aload_n E51_68.1 (k_ E51_68) rfl (s_dupR E51_69.1 (k_ E51_69) (s_getI0 E51_70.1 (k_ E51_70) rfl (s_iconst E51_73.1 (k_ E51_73) (s_iadd E51_74.1 (k_ E51_74) (s_putI E51_75.1 (k_ E51_75) rfl (s_goto E51_78.1 (k_ E51_78) (((z2.2 c3).2 c5).2)))))))))))⟩)))))))))⟩))))))⟩)⟩))))⟩))))
-- 52: X4_scan
theorem E52_0 : aCode 52 0 = (Instr.aload_n 0, 1, [], 0) ∧ bMask 52 0 = [] := ⟨rfl, rfl⟩
theorem E52_1 : aCode 52 1 = (Instr.getfield 47, 4, [35, 4, 3, 0], 0) ∧ bMask 52 1 = [] := ⟨rfl, rfl⟩
theorem E52_4 : aCode 52 4 = (Instr.aload_n 0, 5, [], 0) ∧ bMask 52 4 = [] := ⟨rfl, rfl⟩
theorem E52_5 : aCode 52 5 = (Instr.getfield 43, 8, [33, 4, 2, 0], 0) ∧ bMask 52 5 = [] := ⟨rfl, rfl⟩
theorem E52_8 : aCode 52 8 = (Instr.if_icmp .ge 30, 11, [38], 0) ∧ bMask 52 8 = [] := ⟨rfl, rfl⟩
theorem E52_11 : aCode 52 11 = (Instr.aload_n 0, 12, [], 0) ∧ bMask 52 11 = [] := ⟨rfl, rfl⟩
theorem E52_12 : aCode 52 12 = (Instr.getfield 11, 15, [34, 4, 1, 2], 0) ∧ bMask 52 12 = [] := ⟨rfl, rfl⟩
theorem E52_15 : aCode 52 15 = (Instr.aload_n 0, 16, [], 0) ∧ bMask 52 15 = [] := ⟨rfl, rfl⟩
theorem E52_16 : aCode 52 16 = (Instr.getfield 47, 19, [35, 4, 3, 0], 0) ∧ bMask 52 16 = [] := ⟨rfl, rfl⟩
theorem E52_19 : aCode 52 19 = (Instr.iaload, 20, [0], 0) ∧ bMask 52 19 = [] := ⟨rfl, rfl⟩
theorem E52_20 : aCode 52 20 = (Instr.bipush 32, 22, [], 32) ∧ bMask 52 20 = [] := ⟨rfl, rfl⟩
theorem E52_22 : aCode 52 22 = (Instr.if_icmp .ne 16, 25, [38], 0) ∧ bMask 52 22 = [] := ⟨rfl, rfl⟩
theorem E52_25 : aCode 52 25 = (Instr.aload_n 0, 26, [], 0) ∧ bMask 52 25 = [] := ⟨rfl, rfl⟩
theorem E52_26 : aCode 52 26 = (Instr.dup, 27, [], 0) ∧ bMask 52 26 = [] := ⟨rfl, rfl⟩
theorem E52_27 : aCode 52 27 = (Instr.getfield 47, 30, [35, 4, 3, 0], 0) ∧ bMask 52 27 = [] := ⟨rfl, rfl⟩
theorem E52_30 : aCode 52 30 = (Instr.iconst 1, 31, [], 1) ∧ bMask 52 30 = [] := ⟨rfl, rfl⟩
theorem E52_31 : aCode 52 31 = (Instr.iadd, 32, [], 0) ∧ bMask 52 31 = [] := ⟨rfl, rfl⟩
theorem E52_32 : aCode 52 32 = (Instr.putfield 47, 35, [35, 4, 3, 0], 0) ∧ bMask 52 32 = [] := ⟨rfl, rfl⟩
theorem E52_35 : aCode 52 35 = (Instr.goto (-35), 0, [], 0) ∧ bMask 52 35 = [] := ⟨rfl, rfl⟩
theorem E52_38 : aCode 52 38 = (Instr.aload_n 0, 39, [], 0) ∧ bMask 52 38 = [] := ⟨rfl, rfl⟩
theorem E52_39 : aCode 52 39 = (Instr.aload_n 0, 40, [], 0) ∧ bMask 52 39 = [] := ⟨rfl, rfl⟩
theorem E52_40 : aCode 52 40 = (Instr.getfield 47, 43, [35, 4, 3, 0], 0) ∧ bMask 52 40 = [] := ⟨rfl, rfl⟩
theorem E52_43 : aCode 52 43 = (Instr.putfield 75, 46, [25, 4, 5, 0], 0) ∧ bMask 52 43 = [] := ⟨rfl, rfl⟩
theorem E52_46 : aCode 52 46 = (Instr.aload_n 0, 47, [], 0) ∧ bMask 52 46 = [] := ⟨rfl, rfl⟩
theorem E52_47 : aCode 52 47 = (Instr.getfield 47, 50, [35, 4, 3, 0], 0) ∧ bMask 52 47 = [] := ⟨rfl, rfl⟩
theorem E52_50 : aCode 52 50 = (Instr.aload_n 0, 51, [], 0) ∧ bMask 52 50 = [] := ⟨rfl, rfl⟩
theorem E52_51 : aCode 52 51 = (Instr.getfield 43, 54, [33, 4, 2, 0], 0) ∧ bMask 52 51 = [] := ⟨rfl, rfl⟩
theorem E52_54 : aCode 52 54 = (Instr.if_icmp .lt 11, 57, [65], 0) ∧ bMask 52 54 = [] := ⟨rfl, rfl⟩
theorem E52_57 : aCode 52 57 = (Instr.aload_n 0, 58, [], 0) ∧ bMask 52 57 = [] := ⟨rfl, rfl⟩
theorem E52_58 : aCode 52 58 = (Instr.iconst (-1), 59, [], (-1)) ∧ bMask 52 58 = [] := ⟨rfl, rfl⟩
theorem E52_59 : aCode 52 59 = (Instr.putfield 78, 62, [27, 4, 4, 0], 0) ∧ bMask 52 59 = [] := ⟨rfl, rfl⟩
theorem E52_62 : aCode 52 62 = (Instr.goto 68, 130, [], 0) ∧ bMask 52 62 = [] := ⟨rfl, rfl⟩
theorem E52_65 : aCode 52 65 = (Instr.aload_n 0, 66, [], 0) ∧ bMask 52 65 = [] := ⟨rfl, rfl⟩
theorem E52_66 : aCode 52 66 = (Instr.getfield 11, 69, [34, 4, 1, 2], 0) ∧ bMask 52 66 = [] := ⟨rfl, rfl⟩
theorem E52_69 : aCode 52 69 = (Instr.aload_n 0, 70, [], 0) ∧ bMask 52 69 = [] := ⟨rfl, rfl⟩
theorem E52_70 : aCode 52 70 = (Instr.getfield 47, 73, [35, 4, 3, 0], 0) ∧ bMask 52 70 = [] := ⟨rfl, rfl⟩
theorem E52_73 : aCode 52 73 = (Instr.iaload, 74, [0], 0) ∧ bMask 52 73 = [] := ⟨rfl, rfl⟩
theorem E52_74 : aCode 52 74 = (Instr.invokestatic 81, 77, [49, 1, 1, 0, 0, 35], 0) ∧ bMask 52 74 = [] := ⟨rfl, rfl⟩
theorem E52_77 : aCode 52 77 = (Instr.ifCond .eq 10, 80, [87], 0) ∧ bMask 52 77 = [] := ⟨rfl, rfl⟩
theorem E52_80 : aCode 52 80 = (Instr.aload_n 0, 81, [], 0) ∧ bMask 52 80 = [] := ⟨rfl, rfl⟩
theorem E52_81 : aCode 52 81 = (Instr.invokevirtual 85, 84, [51, 1, 0, 4, 0, 36], 0) ∧ bMask 52 81 = [] := ⟨rfl, rfl⟩
theorem E52_84 : aCode 52 84 = (Instr.goto 46, 130, [], 0) ∧ bMask 52 84 = [] := ⟨rfl, rfl⟩
theorem E52_87 : aCode 52 87 = (Instr.aload_n 0, 88, [], 0) ∧ bMask 52 87 = [] := ⟨rfl, rfl⟩
theorem E52_88 : aCode 52 88 = (Instr.aload_n 0, 89, [], 0) ∧ bMask 52 88 = [] := ⟨rfl, rfl⟩
theorem E52_89 : aCode 52 89 = (Instr.getfield 11, 92, [34, 4, 1, 2], 0) ∧ bMask 52 89 = [] := ⟨rfl, rfl⟩
theorem E52_92 : aCode 52 92 = (Instr.aload_n 0, 93, [], 0) ∧ bMask 52 92 = [] := ⟨rfl, rfl⟩
theorem E52_93 : aCode 52 93 = (Instr.getfield 47, 96, [35, 4, 3, 0], 0) ∧ bMask 52 93 = [] := ⟨rfl, rfl⟩
theorem E52_96 : aCode 52 96 = (Instr.iaload, 97, [0], 0) ∧ bMask 52 96 = [] := ⟨rfl, rfl⟩
theorem E52_97 : aCode 52 97 = (Instr.invokestatic 88, 100, [50, 1, 1, 0, 0, 37], 0) ∧ bMask 52 97 = [] := ⟨rfl, rfl⟩
theorem E52_100 : aCode 52 100 = (Instr.ifCond .eq 15, 103, [115], 0) ∧ bMask 52 100 = [] := ⟨rfl, rfl⟩
theorem E52_103 : aCode 52 103 = (Instr.aload_n 0, 104, [], 0) ∧ bMask 52 103 = [] := ⟨rfl, rfl⟩
theorem E52_104 : aCode 52 104 = (Instr.getfield 11, 107, [34, 4, 1, 2], 0) ∧ bMask 52 104 = [] := ⟨rfl, rfl⟩
theorem E52_107 : aCode 52 107 = (Instr.aload_n 0, 108, [], 0) ∧ bMask 52 107 = [] := ⟨rfl, rfl⟩
theorem E52_108 : aCode 52 108 = (Instr.getfield 47, 111, [35, 4, 3, 0], 0) ∧ bMask 52 108 = [] := ⟨rfl, rfl⟩
theorem E52_111 : aCode 52 111 = (Instr.iaload, 112, [0], 0) ∧ bMask 52 111 = [] := ⟨rfl, rfl⟩
theorem E52_112 : aCode 52 112 = (Instr.goto 5, 117, [], 0) ∧ bMask 52 112 = [] := ⟨rfl, rfl⟩
theorem E52_115 : aCode 52 115 = (Instr.bipush (-3), 117, [], (-3)) ∧ bMask 52 115 = [] := ⟨rfl, rfl⟩
theorem E52_117 : aCode 52 117 = (Instr.putfield 78, 120, [27, 4, 4, 0], 0) ∧ bMask 52 117 = [] := ⟨rfl, rfl⟩
theorem E52_120 : aCode 52 120 = (Instr.aload_n 0, 121, [], 0) ∧ bMask 52 120 = [] := ⟨rfl, rfl⟩
theorem E52_121 : aCode 52 121 = (Instr.dup, 122, [], 0) ∧ bMask 52 121 = [] := ⟨rfl, rfl⟩
theorem E52_122 : aCode 52 122 = (Instr.getfield 47, 125, [35, 4, 3, 0], 0) ∧ bMask 52 122 = [] := ⟨rfl, rfl⟩
theorem E52_125 : aCode 52 125 = (Instr.iconst 1, 126, [], 1) ∧ bMask 52 125 = [] := ⟨rfl, rfl⟩
theorem E52_126 : aCode 52 126 = (Instr.iadd, 127, [], 0) ∧ bMask 52 126 = [] := ⟨rfl, rfl⟩
theorem E52_127 : aCode 52 127 = (Instr.putfield 47, 130, [35, 4, 3, 0], 0) ∧ bMask 52 127 = [] := ⟨rfl, rfl⟩
theorem E52_130 : aCode 52 130 = (Instr.return_, 131, [], 0) ∧ bMask 52 130 = [] := ⟨rfl, rfl⟩
theorem g_X4_scan_0 {Q : bQ} {M : bM}  (h : (((M 2 0 2) ≤ (M 2 0 3)) → (((((bU M 2 0 5 (M 2 0 3)) 2 0 3) < ((bU M 2 0 5 (M 2 0 3)) 2 0 2)) → ((vp_in ((bU M 2 0 5 (M 2 0 3)) 2 0 3) 80) ∧ (bCall 49 [cI ((bU M 2 0 5 (M 2 0 3)) 13 0 ((bU M 2 0 5 (M 2 0 3)) 2 0 3).toNatClampNeg)] (bU M 2 0 5 (M 2 0 3)) (fun v1 M2 => bV1 v1 fun r3 => (((r3 = 0) → ((vp_in (M2 2 0 3) 80) ∧ (bCall 50 [cI (M2 13 0 (M2 2 0 3).toNatClampNeg)] M2 (fun v4 M5 => bV1 v4 fun r6 => (((r6 = 0) → (Q none (bU (bU M5 2 0 4 (-3 : Int32)) 2 0 3 (((bU M5 2 0 4 (-3 : Int32)) 2 0 3) + (1 : Int32))))) ∧ (¬ (r6 = 0) → ((vp_in (M5 2 0 3) 80) ∧ (Q none (bU (bU M5 2 0 4 (M5 13 0 (M5 2 0 3).toNatClampNeg)) 2 0 3 (((bU M5 2 0 4 (M5 13 0 (M5 2 0 3).toNatClampNeg)) 2 0 3) + (1 : Int32))))))))))) ∧ (¬ (r3 = 0) → (bCall 51 [cR 2 0] M2 (fun v7 M8 => bV0 v7 (Q none M8))))))))) ∧ (¬ (((bU M 2 0 5 (M 2 0 3)) 2 0 3) < ((bU M 2 0 5 (M 2 0 3)) 2 0 2)) → (Q none (bU (bU M 2 0 5 (M 2 0 3)) 2 0 4 (-1 : Int32)))))) ∧ (¬ ((M 2 0 2) ≤ (M 2 0 3)) → ((vp_in (M 2 0 3) 80) ∧ (((¬ (M 13 0 (M 2 0 3).toNatClampNeg) = (32 : Int32)) → (((((bU M 2 0 5 (M 2 0 3)) 2 0 3) < ((bU M 2 0 5 (M 2 0 3)) 2 0 2)) → ((vp_in ((bU M 2 0 5 (M 2 0 3)) 2 0 3) 80) ∧ (bCall 49 [cI ((bU M 2 0 5 (M 2 0 3)) 13 0 ((bU M 2 0 5 (M 2 0 3)) 2 0 3).toNatClampNeg)] (bU M 2 0 5 (M 2 0 3)) (fun v9 M10 => bV1 v9 fun r11 => (((r11 = 0) → ((vp_in (M10 2 0 3) 80) ∧ (bCall 50 [cI (M10 13 0 (M10 2 0 3).toNatClampNeg)] M10 (fun v12 M13 => bV1 v12 fun r14 => (((r14 = 0) → (Q none (bU (bU M13 2 0 4 (-3 : Int32)) 2 0 3 (((bU M13 2 0 4 (-3 : Int32)) 2 0 3) + (1 : Int32))))) ∧ (¬ (r14 = 0) → ((vp_in (M13 2 0 3) 80) ∧ (Q none (bU (bU M13 2 0 4 (M13 13 0 (M13 2 0 3).toNatClampNeg)) 2 0 3 (((bU M13 2 0 4 (M13 13 0 (M13 2 0 3).toNatClampNeg)) 2 0 3) + (1 : Int32))))))))))) ∧ (¬ (r11 = 0) → (bCall 51 [cR 2 0] M10 (fun v15 M16 => bV0 v15 (Q none M16))))))))) ∧ (¬ (((bU M 2 0 5 (M 2 0 3)) 2 0 3) < ((bU M 2 0 5 (M 2 0 3)) 2 0 2)) → (Q none (bU (bU M 2 0 5 (M 2 0 3)) 2 0 4 (-1 : Int32)))))) ∧ (¬ (¬ (M 13 0 (M 2 0 3).toNatClampNeg) = (32 : Int32)) → bGo 52 Q 0 [some (cR 2 0)] [] (bU M 2 0 3 ((M 2 0 3) + (1 : Int32)))))))) : bGo 52 Q 0 [some (cR 2 0)] [] M := s_aload_n E52_0.1 (k_ E52_0) rfl (s_getI0 E52_1.1 (k_ E52_1) rfl (s_aload_n E52_4.1 (k_ E52_4) rfl (s_getI0 E52_5.1 (k_ E52_5) rfl (s_icmp_ge E52_8.1 (k_ E52_8) ⟨fun c0 => s_aload_n E52_38.1 (k_ E52_38) rfl (s_aload_n E52_39.1 (k_ E52_39) rfl (s_getI0 E52_40.1 (k_ E52_40) rfl (s_putI E52_43.1 (k_ E52_43) rfl (s_aload_n E52_46.1 (k_ E52_46) rfl (s_getI0 E52_47.1 (k_ E52_47) rfl (s_aload_n E52_50.1 (k_ E52_50) rfl (s_getI0 E52_51.1 (k_ E52_51) rfl (s_icmp_lt E52_54.1 (k_ E52_54) ⟨fun c1 => s_aload_n E52_65.1 (k_ E52_65) rfl (s_getR E52_66.1 (k_ E52_66) rfl rfl (s_aload_n E52_69.1 (k_ E52_69) rfl (s_getI0 E52_70.1 (k_ E52_70) rfl (s_iaload E52_73.1 (k_ E52_73) rfl ⟨((h.1 c0).1 c1).1, s_scall1 E52_74.1 (k_ E52_74) rfl rfl rfl (((h.1 c0).1 c1).2) (fun M2 r3 z2 => s_if_eq E52_77.1 (k_ E52_77) ⟨fun c3 => s_aload_n E52_87.1 (k_ E52_87) rfl (s_aload_n E52_88.1 (k_ E52_88) rfl (s_getR E52_89.1 (k_ E52_89) rfl rfl (s_aload_n E52_92.1 (k_ E52_92) rfl (s_getI0 E52_93.1 (k_ E52_93) rfl (s_iaload E52_96.1 (k_ E52_96) rfl ⟨(z2.1 c3).1, s_scall1 E52_97.1 (k_ E52_97) rfl rfl rfl ((z2.1 c3).2) (fun M5 r6 z4 => s_if_eq E52_100.1 (k_ E52_100) ⟨fun c5 => s_bipush E52_115.1 (k_ E52_115) (s_putI E52_117.1 (k_ E52_117) rfl (s_aload_n E52_120.1 (k_ E52_120) rfl (s_dupR E52_121.1 (k_ E52_121) (s_getI0 E52_122.1 (k_ E52_122) rfl (s_iconst E52_125.1 (k_ E52_125) (s_iadd E52_126.1 (k_ E52_126) (s_putI E52_127.1 (k_ E52_127) rfl (s_ret E52_130.1 (k_ E52_130) (z4.1 c5))))))))), fun c5 => s_aload_n E52_103.1 (k_ E52_103) rfl (s_getR E52_104.1 (k_ E52_104) rfl rfl (s_aload_n E52_107.1 (k_ E52_107) rfl (s_getI0 E52_108.1 (k_ E52_108) rfl (s_iaload E52_111.1 (k_ E52_111) rfl ⟨(z4.2 c5).1, s_goto E52_112.1 (k_ E52_112) (s_putI E52_117.1 (k_ E52_117) rfl (s_aload_n E52_120.1 (k_ E52_120) rfl (s_dupR E52_121.1 (k_ E52_121) (s_getI0 E52_122.1 (k_ E52_122) rfl (s_iconst E52_125.1 (k_ E52_125) (s_iadd E52_126.1 (k_ E52_126) (s_putI E52_127.1 (k_ E52_127) rfl (s_ret E52_130.1 (k_ E52_130) ((z4.2 c5).2)))))))))⟩))))⟩)⟩))))), fun c3 => s_aload_n E52_80.1 (k_ E52_80) rfl (s_vcall0 E52_81.1 (k_ E52_81) rfl rfl rfl (z2.2 c3) (fun M8 z6 => s_goto E52_84.1 (k_ E52_84) (s_ret E52_130.1 (k_ E52_130) z6)))⟩)⟩)))), fun c1 => s_aload_n E52_57.1 (k_ E52_57) rfl (s_iconst E52_58.1 (k_ E52_58) (s_putI E52_59.1 (k_ E52_59) rfl (s_goto E52_62.1 (k_ E52_62) (s_ret E52_130.1 (k_ E52_130) ((h.1 c0).2 c1)))))⟩)))))))), fun c0 => s_aload_n E52_11.1 (k_ E52_11) rfl (s_getR E52_12.1 (k_ E52_12) rfl rfl (s_aload_n E52_15.1 (k_ E52_15) rfl (s_getI0 E52_16.1 (k_ E52_16) rfl (s_iaload E52_19.1 (k_ E52_19) rfl ⟨(h.2 c0).1, s_bipush E52_20.1 (k_ E52_20) (s_icmp_ne E52_22.1 (k_ E52_22) ⟨fun c7 => s_aload_n E52_38.1 (k_ E52_38) rfl (s_aload_n E52_39.1 (k_ E52_39) rfl (s_getI0 E52_40.1 (k_ E52_40) rfl (s_putI E52_43.1 (k_ E52_43) rfl (s_aload_n E52_46.1 (k_ E52_46) rfl (s_getI0 E52_47.1 (k_ E52_47) rfl (s_aload_n E52_50.1 (k_ E52_50) rfl (s_getI0 E52_51.1 (k_ E52_51) rfl (s_icmp_lt E52_54.1 (k_ E52_54) ⟨fun c8 => s_aload_n E52_65.1 (k_ E52_65) rfl (s_getR E52_66.1 (k_ E52_66) rfl rfl (s_aload_n E52_69.1 (k_ E52_69) rfl (s_getI0 E52_70.1 (k_ E52_70) rfl (s_iaload E52_73.1 (k_ E52_73) rfl ⟨((((h.2 c0).2).1 c7).1 c8).1, s_scall1 E52_74.1 (k_ E52_74) rfl rfl rfl (((((h.2 c0).2).1 c7).1 c8).2) (fun M10 r11 z9 => s_if_eq E52_77.1 (k_ E52_77) ⟨fun c10 => s_aload_n E52_87.1 (k_ E52_87) rfl (s_aload_n E52_88.1 (k_ E52_88) rfl (s_getR E52_89.1 (k_ E52_89) rfl rfl (s_aload_n E52_92.1 (k_ E52_92) rfl (s_getI0 E52_93.1 (k_ E52_93) rfl (s_iaload E52_96.1 (k_ E52_96) rfl ⟨(z9.1 c10).1, s_scall1 E52_97.1 (k_ E52_97) rfl rfl rfl ((z9.1 c10).2) (fun M13 r14 z11 => s_if_eq E52_100.1 (k_ E52_100) ⟨fun c12 => s_bipush E52_115.1 (k_ E52_115) (s_putI E52_117.1 (k_ E52_117) rfl (s_aload_n E52_120.1 (k_ E52_120) rfl (s_dupR E52_121.1 (k_ E52_121) (s_getI0 E52_122.1 (k_ E52_122) rfl (s_iconst E52_125.1 (k_ E52_125) (s_iadd E52_126.1 (k_ E52_126) (s_putI E52_127.1 (k_ E52_127) rfl (s_ret E52_130.1 (k_ E52_130) (z11.1 c12))))))))), fun c12 => s_aload_n E52_103.1 (k_ E52_103) rfl (s_getR E52_104.1 (k_ E52_104) rfl rfl (s_aload_n E52_107.1 (k_ E52_107) rfl (s_getI0 E52_108.1 (k_ E52_108) rfl (s_iaload E52_111.1 (k_ E52_111) rfl ⟨(z11.2 c12).1, s_goto E52_112.1 (k_ E52_112) (s_putI E52_117.1 (k_ E52_117) rfl (s_aload_n E52_120.1 (k_ E52_120) rfl (s_dupR E52_121.1 (k_ E52_121) (s_getI0 E52_122.1 (k_ E52_122) rfl (s_iconst E52_125.1 (k_ E52_125) (s_iadd E52_126.1 (k_ E52_126) (s_putI E52_127.1 (k_ E52_127) rfl (s_ret E52_130.1 (k_ E52_130) ((z11.2 c12).2)))))))))⟩))))⟩)⟩))))), fun c10 => s_aload_n E52_80.1 (k_ E52_80) rfl (s_vcall0 E52_81.1 (k_ E52_81) rfl rfl rfl (z9.2 c10) (fun M16 z13 => s_goto E52_84.1 (k_ E52_84) (s_ret E52_130.1 (k_ E52_130) z13)))⟩)⟩)))), fun c8 => s_aload_n E52_57.1 (k_ E52_57) rfl (s_iconst E52_58.1 (k_ E52_58) (s_putI E52_59.1 (k_ E52_59) rfl (s_goto E52_62.1 (k_ E52_62) (s_ret E52_130.1 (k_ E52_130) ((((h.2 c0).2).1 c7).2 c8)))))⟩)))))))), fun c7 => s_aload_n E52_25.1 (k_ E52_25) rfl (s_dupR E52_26.1 (k_ E52_26) (s_getI0 E52_27.1 (k_ E52_27) rfl (s_iconst E52_30.1 (k_ E52_30) (s_iadd E52_31.1 (k_ E52_31) (s_putI E52_32.1 (k_ E52_32) rfl (s_goto E52_35.1 (k_ E52_35) (((h.2 c0).2).2 c7)))))))⟩)⟩))))⟩))))
theorem g_X4_scan_e {Q : bQ} {M : bM}  (h : bGo 52 Q 0 [some (cR 2 0)] [] M) : bCall 52 [cR 2 0] M Q := h
-- 53: X4_read
theorem E53_0 : aCode 53 0 = (Instr.aload_n 0, 1, [], 0) ∧ bMask 53 0 = [] := ⟨rfl, rfl⟩
theorem E53_1 : aCode 53 1 = (Instr.iconst 0, 2, [], 0) ∧ bMask 53 1 = [] := ⟨rfl, rfl⟩
theorem E53_2 : aCode 53 2 = (Instr.putfield 47, 5, [35, 4, 3, 0], 0) ∧ bMask 53 2 = [] := ⟨rfl, rfl⟩
theorem E53_5 : aCode 53 5 = (Instr.aload_n 0, 6, [], 0) ∧ bMask 53 5 = [] := ⟨rfl, rfl⟩
theorem E53_6 : aCode 53 6 = (Instr.iconst (-1), 7, [], (-1)) ∧ bMask 53 6 = [] := ⟨rfl, rfl⟩
theorem E53_7 : aCode 53 7 = (Instr.putfield 50, 10, [26, 4, 8, 0], 0) ∧ bMask 53 7 = [] := ⟨rfl, rfl⟩
theorem E53_10 : aCode 53 10 = (Instr.aload_n 0, 11, [], 0) ∧ bMask 53 10 = [] := ⟨rfl, rfl⟩
theorem E53_11 : aCode 53 11 = (Instr.iconst (-1), 12, [], (-1)) ∧ bMask 53 11 = [] := ⟨rfl, rfl⟩
theorem E53_12 : aCode 53 12 = (Instr.putfield 53, 15, [31, 4, 9, 0], 0) ∧ bMask 53 12 = [] := ⟨rfl, rfl⟩
theorem E53_15 : aCode 53 15 = (Instr.aload_n 0, 16, [], 0) ∧ bMask 53 15 = [] := ⟨rfl, rfl⟩
theorem E53_16 : aCode 53 16 = (Instr.iconst 0, 17, [], 0) ∧ bMask 53 16 = [] := ⟨rfl, rfl⟩
theorem E53_17 : aCode 53 17 = (Instr.invokevirtual 56, 20, [39, 2, 0, 4, 0, 25], 0) ∧ bMask 53 17 = [] := ⟨rfl, rfl⟩
theorem E53_20 : aCode 53 20 = (Instr.iconst 0, 21, [], 0) ∧ bMask 53 20 = [] := ⟨rfl, rfl⟩
theorem E53_21 : aCode 53 21 = (Instr.istore_n 2, 22, [], 0) ∧ bMask 53 21 = [] := ⟨rfl, rfl⟩
theorem E53_22 : aCode 53 22 = (Instr.iload_n 2, 23, [], 0) ∧ bMask 53 22 = [] := ⟨rfl, rfl⟩
theorem E53_23 : aCode 53 23 = (Instr.bipush 80, 25, [], 80) ∧ bMask 53 23 = [] := ⟨rfl, rfl⟩
theorem E53_25 : aCode 53 25 = (Instr.if_icmp .gt 25, 28, [50], 0) ∧ bMask 53 25 = [] := ⟨rfl, rfl⟩
theorem E53_28 : aCode 53 28 = (Instr.aload_n 0, 29, [], 0) ∧ bMask 53 28 = [] := ⟨rfl, rfl⟩
theorem E53_29 : aCode 53 29 = (Instr.getfield 60, 32, [24, 4, 7, 0], 0) ∧ bMask 53 29 = [] := ⟨rfl, rfl⟩
theorem E53_32 : aCode 53 32 = (Instr.iconst 5, 33, [], 5) ∧ bMask 53 32 = [] := ⟨rfl, rfl⟩
theorem E53_33 : aCode 53 33 = (Instr.if_icmp .eq 17, 36, [50], 0) ∧ bMask 53 33 = [] := ⟨rfl, rfl⟩
theorem E53_36 : aCode 53 36 = (Instr.aload_n 0, 37, [], 0) ∧ bMask 53 36 = [] := ⟨rfl, rfl⟩
theorem E53_37 : aCode 53 37 = (Instr.invokevirtual 63, 40, [52, 1, 0, 4, 0, 38], 0) ∧ bMask 53 37 = [] := ⟨rfl, rfl⟩
theorem E53_40 : aCode 53 40 = (Instr.aload_n 0, 41, [], 0) ∧ bMask 53 40 = [] := ⟨rfl, rfl⟩
theorem E53_41 : aCode 53 41 = (Instr.invokevirtual 66, 44, [46, 1, 0, 4, 0, 39], 0) ∧ bMask 53 41 = [] := ⟨rfl, rfl⟩
theorem E53_44 : aCode 53 44 = (Instr.iinc 2 1, 47, [], 1) ∧ bMask 53 44 = [] := ⟨rfl, rfl⟩
theorem E53_47 : aCode 53 47 = (Instr.goto (-25), 22, [], 0) ∧ bMask 53 47 = [] := ⟨rfl, rfl⟩
theorem E53_50 : aCode 53 50 = (Instr.aload_n 0, 51, [], 0) ∧ bMask 53 50 = [] := ⟨rfl, rfl⟩
theorem E53_51 : aCode 53 51 = (Instr.iconst 0, 52, [], 0) ∧ bMask 53 51 = [] := ⟨rfl, rfl⟩
theorem E53_52 : aCode 53 52 = (Instr.putfield 43, 55, [33, 4, 2, 0], 0) ∧ bMask 53 52 = [] := ⟨rfl, rfl⟩
theorem E53_55 : aCode 53 55 = (Instr.aload_n 0, 56, [], 0) ∧ bMask 53 55 = [] := ⟨rfl, rfl⟩
theorem E53_56 : aCode 53 56 = (Instr.getfield 50, 59, [26, 4, 8, 0], 0) ∧ bMask 53 56 = [] := ⟨rfl, rfl⟩
theorem E53_59 : aCode 53 59 = (Instr.ifCond .lt 11, 62, [70], 0) ∧ bMask 53 59 = [] := ⟨rfl, rfl⟩
theorem E53_62 : aCode 53 62 = (Instr.bipush (-100), 64, [], (-100)) ∧ bMask 53 62 = [] := ⟨rfl, rfl⟩
theorem E53_64 : aCode 53 64 = (Instr.aload_n 0, 65, [], 0) ∧ bMask 53 64 = [] := ⟨rfl, rfl⟩
theorem E53_65 : aCode 53 65 = (Instr.getfield 50, 68, [26, 4, 8, 0], 0) ∧ bMask 53 65 = [] := ⟨rfl, rfl⟩
theorem E53_68 : aCode 53 68 = (Instr.isub, 69, [], 0) ∧ bMask 53 68 = [] := ⟨rfl, rfl⟩
theorem E53_69 : aCode 53 69 = (Instr.ireturn, 70, [0], 0) ∧ bMask 53 69 = [] := ⟨rfl, rfl⟩
theorem E53_70 : aCode 53 70 = (Instr.aload_n 0, 71, [], 0) ∧ bMask 53 70 = [] := ⟨rfl, rfl⟩
theorem E53_71 : aCode 53 71 = (Instr.getfield 53, 74, [31, 4, 9, 0], 0) ∧ bMask 53 71 = [] := ⟨rfl, rfl⟩
theorem E53_74 : aCode 53 74 = (Instr.ifCond .lt 12, 77, [86], 0) ∧ bMask 53 74 = [] := ⟨rfl, rfl⟩
theorem E53_77 : aCode 53 77 = (Instr.sipush (-200), 80, [], (-200)) ∧ bMask 53 77 = [] := ⟨rfl, rfl⟩
theorem E53_80 : aCode 53 80 = (Instr.aload_n 0, 81, [], 0) ∧ bMask 53 80 = [] := ⟨rfl, rfl⟩
theorem E53_81 : aCode 53 81 = (Instr.getfield 53, 84, [31, 4, 9, 0], 0) ∧ bMask 53 81 = [] := ⟨rfl, rfl⟩
theorem E53_84 : aCode 53 84 = (Instr.isub, 85, [], 0) ∧ bMask 53 84 = [] := ⟨rfl, rfl⟩
theorem E53_85 : aCode 53 85 = (Instr.ireturn, 86, [0], 0) ∧ bMask 53 85 = [] := ⟨rfl, rfl⟩
theorem E53_86 : aCode 53 86 = (Instr.aload_n 0, 87, [], 0) ∧ bMask 53 86 = [] := ⟨rfl, rfl⟩
theorem E53_87 : aCode 53 87 = (Instr.getfield 17, 90, [19, 4, 11, 2], 0) ∧ bMask 53 87 = [] := ⟨rfl, rfl⟩
theorem E53_90 : aCode 53 90 = (Instr.iconst 0, 91, [], 0) ∧ bMask 53 90 = [] := ⟨rfl, rfl⟩
theorem E53_91 : aCode 53 91 = (Instr.aaload, 92, [2], 0) ∧ bMask 53 91 = [] := ⟨rfl, rfl⟩
theorem E53_92 : aCode 53 92 = (Instr.iconst 0, 93, [], 0) ∧ bMask 53 92 = [] := ⟨rfl, rfl⟩
theorem E53_93 : aCode 53 93 = (Instr.aload_n 1, 94, [], 0) ∧ bMask 53 93 = [] := ⟨rfl, rfl⟩
theorem E53_94 : aCode 53 94 = (Instr.iconst 0, 95, [], 0) ∧ bMask 53 94 = [] := ⟨rfl, rfl⟩
theorem E53_95 : aCode 53 95 = (Instr.bipush 32, 97, [], 32) ∧ bMask 53 95 = [] := ⟨rfl, rfl⟩
theorem E53_97 : aCode 53 97 = (Instr.invokestatic 69, 100, [1000, 69], 0) ∧ bMask 53 97 = [] := ⟨rfl, rfl⟩
theorem E53_100 : aCode 53 100 = (Instr.iconst 1, 101, [], 1) ∧ bMask 53 100 = [] := ⟨rfl, rfl⟩
theorem E53_101 : aCode 53 101 = (Instr.ireturn, 102, [0], 0) ∧ bMask 53 101 = [] := ⟨rfl, rfl⟩
theorem g_X4_read_0 {Q : bQ} {M : bM} {j1 : Nat} (h : bCall 39 [cR 2 0, cI (0 : Int32)] (bU (bU (bU M 2 0 3 (0 : Int32)) 2 0 8 (-1 : Int32)) 2 0 9 (-1 : Int32)) (fun v1 M2 => bV0 v1 (bGo 53 Q 22 [some (cR 2 0), some (cR 7 j1), some (cI (0 : Int32))] [] M2))) : bCall 53 [cR 2 0, cR 7 j1] M Q := s_aload_n E53_0.1 (k_ E53_0) rfl (s_iconst E53_1.1 (k_ E53_1) (s_putI E53_2.1 (k_ E53_2) rfl (s_aload_n E53_5.1 (k_ E53_5) rfl (s_iconst E53_6.1 (k_ E53_6) (s_putI E53_7.1 (k_ E53_7) rfl (s_aload_n E53_10.1 (k_ E53_10) rfl (s_iconst E53_11.1 (k_ E53_11) (s_putI E53_12.1 (k_ E53_12) rfl (s_aload_n E53_15.1 (k_ E53_15) rfl (s_iconst E53_16.1 (k_ E53_16) (s_vcall0 E53_17.1 (k_ E53_17) rfl rfl rfl h (fun M2 z0 => s_iconst E53_20.1 (k_ E53_20) (s_istore_n E53_21.1 (k_ E53_21) (z0))))))))))))))
theorem g_X4_read_22 {Q : bQ} {M : bM} {j1 : Nat} {x2 : Int32} (h : (((80 : Int32) < x2) → (((((bU M 2 0 2 (0 : Int32)) 2 0 8) < 0) → (((((bU M 2 0 2 (0 : Int32)) 2 0 9) < 0) → ((vp_in (0 : Int32) 5) ∧ ((¬ (0 : Int32) < 0 ∧ ¬ (0 : Int32) < 0 ∧ ¬ (32 : Int32) < 0 ∧ (0 : Int32).toNatClampNeg + (32 : Int32).toNatClampNeg ≤ 32 ∧ (0 : Int32).toNatClampNeg + (32 : Int32).toNatClampNeg ≤ 32) ∧ (Q (some (cI (1 : Int32))) (bCp (bU M 2 0 2 (0 : Int32)) 7 (13 + (0 : Int32).toNatClampNeg) 7 j1 (0 : Int32) (0 : Int32) (32 : Int32)))))) ∧ (¬ (((bU M 2 0 2 (0 : Int32)) 2 0 9) < 0) → (Q (some (cI ((-200 : Int32) - ((bU M 2 0 2 (0 : Int32)) 2 0 9)))) (bU M 2 0 2 (0 : Int32)))))) ∧ (¬ (((bU M 2 0 2 (0 : Int32)) 2 0 8) < 0) → (Q (some (cI ((-100 : Int32) - ((bU M 2 0 2 (0 : Int32)) 2 0 8)))) (bU M 2 0 2 (0 : Int32)))))) ∧ (¬ ((80 : Int32) < x2) → ((((M 2 0 7) = (5 : Int32)) → (((((bU M 2 0 2 (0 : Int32)) 2 0 8) < 0) → (((((bU M 2 0 2 (0 : Int32)) 2 0 9) < 0) → ((vp_in (0 : Int32) 5) ∧ ((¬ (0 : Int32) < 0 ∧ ¬ (0 : Int32) < 0 ∧ ¬ (32 : Int32) < 0 ∧ (0 : Int32).toNatClampNeg + (32 : Int32).toNatClampNeg ≤ 32 ∧ (0 : Int32).toNatClampNeg + (32 : Int32).toNatClampNeg ≤ 32) ∧ (Q (some (cI (1 : Int32))) (bCp (bU M 2 0 2 (0 : Int32)) 7 (13 + (0 : Int32).toNatClampNeg) 7 j1 (0 : Int32) (0 : Int32) (32 : Int32)))))) ∧ (¬ (((bU M 2 0 2 (0 : Int32)) 2 0 9) < 0) → (Q (some (cI ((-200 : Int32) - ((bU M 2 0 2 (0 : Int32)) 2 0 9)))) (bU M 2 0 2 (0 : Int32)))))) ∧ (¬ (((bU M 2 0 2 (0 : Int32)) 2 0 8) < 0) → (Q (some (cI ((-100 : Int32) - ((bU M 2 0 2 (0 : Int32)) 2 0 8)))) (bU M 2 0 2 (0 : Int32)))))) ∧ (¬ ((M 2 0 7) = (5 : Int32)) → (bCall 52 [cR 2 0] M (fun v1 M2 => bV0 v1 (bCall 46 [cR 2 0] M2 (fun v3 M4 => bV0 v3 (bGo 53 Q 22 [some (cR 2 0), some (cR 7 j1), some (cI (x2 + (1 : Int32)))] [] M4))))))))) : bGo 53 Q 22 [some (cR 2 0), some (cR 7 j1), some (cI x2)] [] M := s_iload_n E53_22.1 (k_ E53_22) rfl (s_bipush E53_23.1 (k_ E53_23) (s_icmp_gt E53_25.1 (k_ E53_25) ⟨fun c1 => s_aload_n E53_50.1 (k_ E53_50) rfl (s_iconst E53_51.1 (k_ E53_51) (s_putI E53_52.1 (k_ E53_52) rfl (s_aload_n E53_55.1 (k_ E53_55) rfl (s_getI0 E53_56.1 (k_ E53_56) rfl (s_if_lt E53_59.1 (k_ E53_59) ⟨fun c2 => s_aload_n E53_70.1 (k_ E53_70) rfl (s_getI0 E53_71.1 (k_ E53_71) rfl (s_if_lt E53_74.1 (k_ E53_74) ⟨fun c3 => s_aload_n E53_86.1 (k_ E53_86) rfl (s_getR E53_87.1 (k_ E53_87) rfl rfl (s_iconst E53_90.1 (k_ E53_90) (s_aaload E53_91.1 (k_ E53_91) rfl ⟨(((h.1 c1).1 c2).1 c3).1, s_iconst E53_92.1 (k_ E53_92) (s_aload_n E53_93.1 (k_ E53_93) rfl (s_iconst E53_94.1 (k_ E53_94) (s_bipush E53_95.1 (k_ E53_95) (s_acopy E53_97.1 (k_ E53_97) rfl ⟨((((h.1 c1).1 c2).1 c3).2).1, s_iconst E53_100.1 (k_ E53_100) (s_iret E53_101.1 (k_ E53_101) (((((h.1 c1).1 c2).1 c3).2).2))⟩))))⟩))), fun c3 => s_sipush E53_77.1 (k_ E53_77) (s_aload_n E53_80.1 (k_ E53_80) rfl (s_getI0 E53_81.1 (k_ E53_81) rfl (s_isub E53_84.1 (k_ E53_84) (s_iret E53_85.1 (k_ E53_85) (((h.1 c1).1 c2).2 c3)))))⟩)), fun c2 => s_bipush E53_62.1 (k_ E53_62) (s_aload_n E53_64.1 (k_ E53_64) rfl (s_getI0 E53_65.1 (k_ E53_65) rfl (s_isub E53_68.1 (k_ E53_68) (s_iret E53_69.1 (k_ E53_69) ((h.1 c1).2 c2)))))⟩))))), fun c1 => s_aload_n E53_28.1 (k_ E53_28) rfl (s_getI0 E53_29.1 (k_ E53_29) rfl (s_iconst E53_32.1 (k_ E53_32) (s_icmp_eq E53_33.1 (k_ E53_33) ⟨fun c4 => s_aload_n E53_50.1 (k_ E53_50) rfl (s_iconst E53_51.1 (k_ E53_51) (s_putI E53_52.1 (k_ E53_52) rfl (s_aload_n E53_55.1 (k_ E53_55) rfl (s_getI0 E53_56.1 (k_ E53_56) rfl (s_if_lt E53_59.1 (k_ E53_59) ⟨fun c5 => s_aload_n E53_70.1 (k_ E53_70) rfl (s_getI0 E53_71.1 (k_ E53_71) rfl (s_if_lt E53_74.1 (k_ E53_74) ⟨fun c6 => s_aload_n E53_86.1 (k_ E53_86) rfl (s_getR E53_87.1 (k_ E53_87) rfl rfl (s_iconst E53_90.1 (k_ E53_90) (s_aaload E53_91.1 (k_ E53_91) rfl ⟨((((h.2 c1).1 c4).1 c5).1 c6).1, s_iconst E53_92.1 (k_ E53_92) (s_aload_n E53_93.1 (k_ E53_93) rfl (s_iconst E53_94.1 (k_ E53_94) (s_bipush E53_95.1 (k_ E53_95) (s_acopy E53_97.1 (k_ E53_97) rfl ⟨(((((h.2 c1).1 c4).1 c5).1 c6).2).1, s_iconst E53_100.1 (k_ E53_100) (s_iret E53_101.1 (k_ E53_101) ((((((h.2 c1).1 c4).1 c5).1 c6).2).2))⟩))))⟩))), fun c6 => s_sipush E53_77.1 (k_ E53_77) (s_aload_n E53_80.1 (k_ E53_80) rfl (s_getI0 E53_81.1 (k_ E53_81) rfl (s_isub E53_84.1 (k_ E53_84) (s_iret E53_85.1 (k_ E53_85) ((((h.2 c1).1 c4).1 c5).2 c6)))))⟩)), fun c5 => s_bipush E53_62.1 (k_ E53_62) (s_aload_n E53_64.1 (k_ E53_64) rfl (s_getI0 E53_65.1 (k_ E53_65) rfl (s_isub E53_68.1 (k_ E53_68) (s_iret E53_69.1 (k_ E53_69) (((h.2 c1).1 c4).2 c5)))))⟩))))), fun c4 => s_aload_n E53_36.1 (k_ E53_36) rfl (s_vcall0 E53_37.1 (k_ E53_37) rfl rfl rfl ((h.2 c1).2 c4) (fun M2 z7 => s_aload_n E53_40.1 (k_ E53_40) rfl (s_vcall0 E53_41.1 (k_ E53_41) rfl rfl rfl z7 (fun M4 z8 => s_iinc E53_44.1 (k_ E53_44) rfl (s_goto E53_47.1 (k_ E53_47) (z8))))))⟩)))⟩))
