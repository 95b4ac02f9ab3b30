-- needs: 01 02 06 08 09 10 11
-- 0: J6_bitCount_0f7a4
theorem E0_0 : aCode 0 0 = (Instr.iload_n 0, 1, [], 0) ∧ bMask 0 0 = [] := ⟨rfl, rfl⟩
theorem E0_1 : aCode 0 1 = (Instr.iload_n 0, 2, [], 0) ∧ bMask 0 1 = [] := ⟨rfl, rfl⟩
theorem E0_2 : aCode 0 2 = (Instr.iconst 1, 3, [], 1) ∧ bMask 0 2 = [] := ⟨rfl, rfl⟩
theorem E0_3 : aCode 0 3 = (Instr.iushr, 4, [], 0) ∧ bMask 0 3 = [] := ⟨rfl, rfl⟩
theorem E0_4 : aCode 0 4 = (Instr.ldc_w 265, 7, [0], 1431655765) ∧ bMask 0 4 = [] := ⟨rfl, rfl⟩
theorem E0_7 : aCode 0 7 = (Instr.iand, 8, [], 0) ∧ bMask 0 7 = [] := ⟨rfl, rfl⟩
theorem E0_8 : aCode 0 8 = (Instr.isub, 9, [], 0) ∧ bMask 0 8 = [] := ⟨rfl, rfl⟩
theorem E0_9 : aCode 0 9 = (Instr.istore_n 0, 10, [], 0) ∧ bMask 0 9 = [] := ⟨rfl, rfl⟩
theorem E0_10 : aCode 0 10 = (Instr.iload_n 0, 11, [], 0) ∧ bMask 0 10 = [] := ⟨rfl, rfl⟩
theorem E0_11 : aCode 0 11 = (Instr.ldc_w 266, 14, [1], 858993459) ∧ bMask 0 11 = [] := ⟨rfl, rfl⟩
theorem E0_14 : aCode 0 14 = (Instr.iand, 15, [], 0) ∧ bMask 0 14 = [] := ⟨rfl, rfl⟩
theorem E0_15 : aCode 0 15 = (Instr.iload_n 0, 16, [], 0) ∧ bMask 0 15 = [] := ⟨rfl, rfl⟩
theorem E0_16 : aCode 0 16 = (Instr.iconst 2, 17, [], 2) ∧ bMask 0 16 = [] := ⟨rfl, rfl⟩
theorem E0_17 : aCode 0 17 = (Instr.iushr, 18, [], 0) ∧ bMask 0 17 = [] := ⟨rfl, rfl⟩
theorem E0_18 : aCode 0 18 = (Instr.ldc_w 266, 21, [1], 858993459) ∧ bMask 0 18 = [] := ⟨rfl, rfl⟩
theorem E0_21 : aCode 0 21 = (Instr.iand, 22, [], 0) ∧ bMask 0 21 = [] := ⟨rfl, rfl⟩
theorem E0_22 : aCode 0 22 = (Instr.iadd, 23, [], 0) ∧ bMask 0 22 = [] := ⟨rfl, rfl⟩
theorem E0_23 : aCode 0 23 = (Instr.istore_n 0, 24, [], 0) ∧ bMask 0 23 = [] := ⟨rfl, rfl⟩
theorem E0_24 : aCode 0 24 = (Instr.iload_n 0, 25, [], 0) ∧ bMask 0 24 = [] := ⟨rfl, rfl⟩
theorem E0_25 : aCode 0 25 = (Instr.iload_n 0, 26, [], 0) ∧ bMask 0 25 = [] := ⟨rfl, rfl⟩
theorem E0_26 : aCode 0 26 = (Instr.iconst 4, 27, [], 4) ∧ bMask 0 26 = [] := ⟨rfl, rfl⟩
theorem E0_27 : aCode 0 27 = (Instr.iushr, 28, [], 0) ∧ bMask 0 27 = [] := ⟨rfl, rfl⟩
theorem E0_28 : aCode 0 28 = (Instr.iadd, 29, [], 0) ∧ bMask 0 28 = [] := ⟨rfl, rfl⟩
theorem E0_29 : aCode 0 29 = (Instr.ldc_w 267, 32, [2], 252645135) ∧ bMask 0 29 = [] := ⟨rfl, rfl⟩
theorem E0_32 : aCode 0 32 = (Instr.iand, 33, [], 0) ∧ bMask 0 32 = [] := ⟨rfl, rfl⟩
theorem E0_33 : aCode 0 33 = (Instr.istore_n 0, 34, [], 0) ∧ bMask 0 33 = [] := ⟨rfl, rfl⟩
theorem E0_34 : aCode 0 34 = (Instr.iload_n 0, 35, [], 0) ∧ bMask 0 34 = [] := ⟨rfl, rfl⟩
theorem E0_35 : aCode 0 35 = (Instr.iload_n 0, 36, [], 0) ∧ bMask 0 35 = [] := ⟨rfl, rfl⟩
theorem E0_36 : aCode 0 36 = (Instr.bipush 8, 38, [], 8) ∧ bMask 0 36 = [] := ⟨rfl, rfl⟩
theorem E0_38 : aCode 0 38 = (Instr.iushr, 39, [], 0) ∧ bMask 0 38 = [] := ⟨rfl, rfl⟩
theorem E0_39 : aCode 0 39 = (Instr.iadd, 40, [], 0) ∧ bMask 0 39 = [] := ⟨rfl, rfl⟩
theorem E0_40 : aCode 0 40 = (Instr.istore_n 0, 41, [], 0) ∧ bMask 0 40 = [] := ⟨rfl, rfl⟩
theorem E0_41 : aCode 0 41 = (Instr.iload_n 0, 42, [], 0) ∧ bMask 0 41 = [] := ⟨rfl, rfl⟩
theorem E0_42 : aCode 0 42 = (Instr.iload_n 0, 43, [], 0) ∧ bMask 0 42 = [] := ⟨rfl, rfl⟩
theorem E0_43 : aCode 0 43 = (Instr.bipush 16, 45, [], 16) ∧ bMask 0 43 = [] := ⟨rfl, rfl⟩
theorem E0_45 : aCode 0 45 = (Instr.iushr, 46, [], 0) ∧ bMask 0 45 = [] := ⟨rfl, rfl⟩
theorem E0_46 : aCode 0 46 = (Instr.iadd, 47, [], 0) ∧ bMask 0 46 = [] := ⟨rfl, rfl⟩
theorem E0_47 : aCode 0 47 = (Instr.istore_n 0, 48, [], 0) ∧ bMask 0 47 = [] := ⟨rfl, rfl⟩
theorem E0_48 : aCode 0 48 = (Instr.iload_n 0, 49, [], 0) ∧ bMask 0 48 = [] := ⟨rfl, rfl⟩
theorem E0_49 : aCode 0 49 = (Instr.bipush 63, 51, [], 63) ∧ bMask 0 49 = [] := ⟨rfl, rfl⟩
theorem E0_51 : aCode 0 51 = (Instr.iand, 52, [], 0) ∧ bMask 0 51 = [] := ⟨rfl, rfl⟩
theorem E0_52 : aCode 0 52 = (Instr.ireturn, 53, [0], 0) ∧ bMask 0 52 = [] := ⟨rfl, rfl⟩
theorem g_J6_bitCount_0 {Q : bQ} {M : bM} {x0 : Int32} (h : Q (some (cI ((((((((x0 - ((aUshr x0 (1 : Int32)) &&& (1431655765 : Int32))) &&& (858993459 : Int32)) + ((aUshr (x0 - ((aUshr x0 (1 : Int32)) &&& (1431655765 : Int32))) (2 : Int32)) &&& (858993459 : Int32))) + (aUshr (((x0 - ((aUshr x0 (1 : Int32)) &&& (1431655765 : Int32))) &&& (858993459 : Int32)) + ((aUshr (x0 - ((aUshr x0 (1 : Int32)) &&& (1431655765 : Int32))) (2 : Int32)) &&& (858993459 : Int32))) (4 : Int32))) &&& (252645135 : Int32)) + (aUshr (((((x0 - ((aUshr x0 (1 : Int32)) &&& (1431655765 : Int32))) &&& (858993459 : Int32)) + ((aUshr (x0 - ((aUshr x0 (1 : Int32)) &&& (1431655765 : Int32))) (2 : Int32)) &&& (858993459 : Int32))) + (aUshr (((x0 - ((aUshr x0 (1 : Int32)) &&& (1431655765 : Int32))) &&& (858993459 : Int32)) + ((aUshr (x0 - ((aUshr x0 (1 : Int32)) &&& (1431655765 : Int32))) (2 : Int32)) &&& (858993459 : Int32))) (4 : Int32))) &&& (252645135 : Int32)) (8 : Int32))) + (aUshr ((((((x0 - ((aUshr x0 (1 : Int32)) &&& (1431655765 : Int32))) &&& (858993459 : Int32)) + ((aUshr (x0 - ((aUshr x0 (1 : Int32)) &&& (1431655765 : Int32))) (2 : Int32)) &&& (858993459 : Int32))) + (aUshr (((x0 - ((aUshr x0 (1 : Int32)) &&& (1431655765 : Int32))) &&& (858993459 : Int32)) + ((aUshr (x0 - ((aUshr x0 (1 : Int32)) &&& (1431655765 : Int32))) (2 : Int32)) &&& (858993459 : Int32))) (4 : Int32))) &&& (252645135 : Int32)) + (aUshr (((((x0 - ((aUshr x0 (1 : Int32)) &&& (1431655765 : Int32))) &&& (858993459 : Int32)) + ((aUshr (x0 - ((aUshr x0 (1 : Int32)) &&& (1431655765 : Int32))) (2 : Int32)) &&& (858993459 : Int32))) + (aUshr (((x0 - ((aUshr x0 (1 : Int32)) &&& (1431655765 : Int32))) &&& (858993459 : Int32)) + ((aUshr (x0 - ((aUshr x0 (1 : Int32)) &&& (1431655765 : Int32))) (2 : Int32)) &&& (858993459 : Int32))) (4 : Int32))) &&& (252645135 : Int32)) (8 : Int32))) (16 : Int32))) &&& (63 : Int32)))) M) : bCall 0 [cI x0] M Q := s_iload_n E0_0.1 (k_ E0_0) rfl (s_iload_n E0_1.1 (k_ E0_1) rfl (s_iconst E0_2.1 (k_ E0_2) (s_iushr E0_3.1 (k_ E0_3) (s_ldc_w E0_4.1 (k_ E0_4) (s_iand E0_7.1 (k_ E0_7) (s_isub E0_8.1 (k_ E0_8) (s_istore_n E0_9.1 (k_ E0_9) (s_iload_n E0_10.1 (k_ E0_10) rfl (s_ldc_w E0_11.1 (k_ E0_11) (s_iand E0_14.1 (k_ E0_14) (s_iload_n E0_15.1 (k_ E0_15) rfl (s_iconst E0_16.1 (k_ E0_16) (s_iushr E0_17.1 (k_ E0_17) (s_ldc_w E0_18.1 (k_ E0_18) (s_iand E0_21.1 (k_ E0_21) (s_iadd E0_22.1 (k_ E0_22) (s_istore_n E0_23.1 (k_ E0_23) (s_iload_n E0_24.1 (k_ E0_24) rfl (s_iload_n E0_25.1 (k_ E0_25) rfl (s_iconst E0_26.1 (k_ E0_26) (s_iushr E0_27.1 (k_ E0_27) (s_iadd E0_28.1 (k_ E0_28) (s_ldc_w E0_29.1 (k_ E0_29) (s_iand E0_32.1 (k_ E0_32) (s_istore_n E0_33.1 (k_ E0_33) (s_iload_n E0_34.1 (k_ E0_34) rfl (s_iload_n E0_35.1 (k_ E0_35) rfl (s_bipush E0_36.1 (k_ E0_36) (s_iushr E0_38.1 (k_ E0_38) (s_iadd E0_39.1 (k_ E0_39) (s_istore_n E0_40.1 (k_ E0_40) (s_iload_n E0_41.1 (k_ E0_41) rfl (s_iload_n E0_42.1 (k_ E0_42) rfl (s_bipush E0_43.1 (k_ E0_43) (s_iushr E0_45.1 (k_ E0_45) (s_iadd E0_46.1 (k_ E0_46) (s_istore_n E0_47.1 (k_ E0_47) (s_iload_n E0_48.1 (k_ E0_48) rfl (s_bipush E0_49.1 (k_ E0_49) (s_iand E0_51.1 (k_ E0_51) (s_iret E0_52.1 (k_ E0_52) h)))))))))))))))))))))))))))))))))))))))))
-- 1: J7_fill_53178
theorem E1_0 : aCode 1 0 = (Instr.iconst 0, 1, [], 0) ∧ bMask 1 0 = [] := ⟨rfl, rfl⟩
theorem E1_1 : aCode 1 1 = (Instr.istore_n 2, 2, [], 0) ∧ bMask 1 1 = [] := ⟨rfl, rfl⟩
theorem E1_2 : aCode 1 2 = (Instr.aload_n 0, 3, [], 0) ∧ bMask 1 2 = [] := ⟨rfl, rfl⟩
theorem E1_3 : aCode 1 3 = (Instr.arraylength, 4, [], 0) ∧ bMask 1 3 = [] := ⟨rfl, rfl⟩
theorem E1_4 : aCode 1 4 = (Instr.istore_n 3, 5, [], 0) ∧ bMask 1 4 = [] := ⟨rfl, rfl⟩
theorem E1_5 : aCode 1 5 = (Instr.iload_n 2, 6, [], 0) ∧ bMask 1 5 = [] := ⟨rfl, rfl⟩
theorem E1_6 : aCode 1 6 = (Instr.iload_n 3, 7, [], 0) ∧ bMask 1 6 = [] := ⟨rfl, rfl⟩
theorem E1_7 : aCode 1 7 = (Instr.if_icmp .ge 13, 10, [20], 0) ∧ bMask 1 7 = [] := ⟨rfl, rfl⟩
theorem E1_10 : aCode 1 10 = (Instr.aload_n 0, 11, [], 0) ∧ bMask 1 10 = [] := ⟨rfl, rfl⟩
theorem E1_11 : aCode 1 11 = (Instr.iload_n 2, 12, [], 0) ∧ bMask 1 11 = [] := ⟨rfl, rfl⟩
theorem E1_12 : aCode 1 12 = (Instr.iload_n 1, 13, [], 0) ∧ bMask 1 12 = [] := ⟨rfl, rfl⟩
theorem E1_13 : aCode 1 13 = (Instr.iastore, 14, [0], 0) ∧ bMask 1 13 = [] := ⟨rfl, rfl⟩
theorem E1_14 : aCode 1 14 = (Instr.iinc 2 1, 17, [], 1) ∧ bMask 1 14 = [] := ⟨rfl, rfl⟩
theorem E1_17 : aCode 1 17 = (Instr.goto (-12), 5, [], 0) ∧ bMask 1 17 = [] := ⟨rfl, rfl⟩
theorem E1_20 : aCode 1 20 = (Instr.return_, 21, [], 0) ∧ bMask 1 20 = [] := ⟨rfl, rfl⟩
theorem g_J7_fill_7_0 {Q : bQ} {M : bM} {j0 : Nat} {x1 : Int32} (h : bGo 1 Q 5 [some (cR 7 j0), some (cI x1), some (cI (0 : Int32)), some (cI (Int32.ofNat 32))] [] M) : bCall 1 [cR 7 j0, cI x1] M Q := s_iconst E1_0.1 (k_ E1_0) (s_istore_n E1_1.1 (k_ E1_1) (s_aload_n E1_2.1 (k_ E1_2) rfl (s_alen E1_3.1 (k_ E1_3) rfl (s_istore_n E1_4.1 (k_ E1_4) (h)))))
theorem g_J7_fill_7_5 {Q : bQ} {M : bM} {j0 : Nat} {x1 : Int32} {x2 : Int32} {x3 : Int32} (h : ((x3 ≤ x2) → (Q none M)) ∧ (¬ (x3 ≤ x2) → ((vp_in x2 32) ∧ bGo 1 Q 5 [some (cR 7 j0), some (cI x1), some (cI (x2 + (1 : Int32))), some (cI x3)] [] (bU M 7 j0 x2.toNatClampNeg x1)))) : bGo 1 Q 5 [some (cR 7 j0), some (cI x1), some (cI x2), some (cI x3)] [] M := s_iload_n E1_5.1 (k_ E1_5) rfl (s_iload_n E1_6.1 (k_ E1_6) rfl (s_icmp_ge E1_7.1 (k_ E1_7) ⟨fun c0 => s_ret E1_20.1 (k_ E1_20) (h.1 c0), fun c0 => s_aload_n E1_10.1 (k_ E1_10) rfl (s_iload_n E1_11.1 (k_ E1_11) rfl (s_iload_n E1_12.1 (k_ E1_12) rfl (s_iastore E1_13.1 (k_ E1_13) rfl ⟨(h.2 c0).1, s_iinc E1_14.1 (k_ E1_14) rfl (s_goto E1_17.1 (k_ E1_17) ((h.2 c0).2))⟩)))⟩))
theorem g_J7_fill_8_0 {Q : bQ} {M : bM} {j0 : Nat} {x1 : Int32} (h : bGo 1 Q 5 [some (cR 8 j0), some (cI x1), some (cI (0 : Int32)), some (cI (Int32.ofNat 168))] [] M) : bCall 1 [cR 8 j0, cI x1] M Q := s_iconst E1_0.1 (k_ E1_0) (s_istore_n E1_1.1 (k_ E1_1) (s_aload_n E1_2.1 (k_ E1_2) rfl (s_alen E1_3.1 (k_ E1_3) rfl (s_istore_n E1_4.1 (k_ E1_4) (h)))))
theorem g_J7_fill_8_5 {Q : bQ} {M : bM} {j0 : Nat} {x1 : Int32} {x2 : Int32} {x3 : Int32} (h : ((x3 ≤ x2) → (Q none M)) ∧ (¬ (x3 ≤ x2) → ((vp_in x2 168) ∧ bGo 1 Q 5 [some (cR 8 j0), some (cI x1), some (cI (x2 + (1 : Int32))), some (cI x3)] [] (bU M 8 j0 x2.toNatClampNeg x1)))) : bGo 1 Q 5 [some (cR 8 j0), some (cI x1), some (cI x2), some (cI x3)] [] M := s_iload_n E1_5.1 (k_ E1_5) rfl (s_iload_n E1_6.1 (k_ E1_6) rfl (s_icmp_ge E1_7.1 (k_ E1_7) ⟨fun c0 => s_ret E1_20.1 (k_ E1_20) (h.1 c0), fun c0 => s_aload_n E1_10.1 (k_ E1_10) rfl (s_iload_n E1_11.1 (k_ E1_11) rfl (s_iload_n E1_12.1 (k_ E1_12) rfl (s_iastore E1_13.1 (k_ E1_13) rfl ⟨(h.2 c0).1, s_iinc E1_14.1 (k_ E1_14) rfl (s_goto E1_17.1 (k_ E1_17) ((h.2 c0).2))⟩)))⟩))
theorem g_J7_fill_12_0 {Q : bQ} {M : bM} {j0 : Nat} {x1 : Int32} (h : bGo 1 Q 5 [some (cR 12 j0), some (cI x1), some (cI (0 : Int32)), some (cI (Int32.ofNat 40))] [] M) : bCall 1 [cR 12 j0, cI x1] M Q := s_iconst E1_0.1 (k_ E1_0) (s_istore_n E1_1.1 (k_ E1_1) (s_aload_n E1_2.1 (k_ E1_2) rfl (s_alen E1_3.1 (k_ E1_3) rfl (s_istore_n E1_4.1 (k_ E1_4) (h)))))
theorem g_J7_fill_12_5 {Q : bQ} {M : bM} {j0 : Nat} {x1 : Int32} {x2 : Int32} {x3 : Int32} (h : ((x3 ≤ x2) → (Q none M)) ∧ (¬ (x3 ≤ x2) → ((vp_in x2 40) ∧ bGo 1 Q 5 [some (cR 12 j0), some (cI x1), some (cI (x2 + (1 : Int32))), some (cI x3)] [] (bU M 12 j0 x2.toNatClampNeg x1)))) : bGo 1 Q 5 [some (cR 12 j0), some (cI x1), some (cI x2), some (cI x3)] [] M := s_iload_n E1_5.1 (k_ E1_5) rfl (s_iload_n E1_6.1 (k_ E1_6) rfl (s_icmp_ge E1_7.1 (k_ E1_7) ⟨fun c0 => s_ret E1_20.1 (k_ E1_20) (h.1 c0), fun c0 => s_aload_n E1_10.1 (k_ E1_10) rfl (s_iload_n E1_11.1 (k_ E1_11) rfl (s_iload_n E1_12.1 (k_ E1_12) rfl (s_iastore E1_13.1 (k_ E1_13) rfl ⟨(h.2 c0).1, s_iinc E1_14.1 (k_ E1_14) rfl (s_goto E1_17.1 (k_ E1_17) ((h.2 c0).2))⟩)))⟩))
theorem g_J7_fill_9_0 {Q : bQ} {M : bM} {j0 : Nat} {x1 : Int32} (h : bGo 1 Q 5 [some (cR 9 j0), some (cI x1), some (cI (0 : Int32)), some (cI (Int32.ofNat 4))] [] M) : bCall 1 [cR 9 j0, cI x1] M Q := s_iconst E1_0.1 (k_ E1_0) (s_istore_n E1_1.1 (k_ E1_1) (s_aload_n E1_2.1 (k_ E1_2) rfl (s_alen E1_3.1 (k_ E1_3) rfl (s_istore_n E1_4.1 (k_ E1_4) (h)))))
theorem g_J7_fill_9_5 {Q : bQ} {M : bM} {j0 : Nat} {x1 : Int32} {x2 : Int32} {x3 : Int32} (h : ((x3 ≤ x2) → (Q none M)) ∧ (¬ (x3 ≤ x2) → ((vp_in x2 4) ∧ bGo 1 Q 5 [some (cR 9 j0), some (cI x1), some (cI (x2 + (1 : Int32))), some (cI x3)] [] (bU M 9 j0 x2.toNatClampNeg x1)))) : bGo 1 Q 5 [some (cR 9 j0), some (cI x1), some (cI x2), some (cI x3)] [] M := s_iload_n E1_5.1 (k_ E1_5) rfl (s_iload_n E1_6.1 (k_ E1_6) rfl (s_icmp_ge E1_7.1 (k_ E1_7) ⟨fun c0 => s_ret E1_20.1 (k_ E1_20) (h.1 c0), fun c0 => s_aload_n E1_10.1 (k_ E1_10) rfl (s_iload_n E1_11.1 (k_ E1_11) rfl (s_iload_n E1_12.1 (k_ E1_12) rfl (s_iastore E1_13.1 (k_ E1_13) rfl ⟨(h.2 c0).1, s_iinc E1_14.1 (k_ E1_14) rfl (s_goto E1_17.1 (k_ E1_17) ((h.2 c0).2))⟩)))⟩))
-- 2: J7_rangeCheck_23922
theorem E2_0 : aCode 2 0 = (Instr.iload_n 1, 1, [], 0) ∧ bMask 2 0 = [] := ⟨rfl, rfl⟩
theorem E2_1 : aCode 2 1 = (Instr.iload_n 2, 2, [], 0) ∧ bMask 2 1 = [] := ⟨rfl, rfl⟩
theorem E2_2 : aCode 2 2 = (Instr.if_icmp .le 44, 5, [46], 0) ∧ bMask 2 2 = [] := ⟨rfl, rfl⟩
theorem E2_46 : aCode 2 46 = (Instr.iload_n 1, 47, [], 0) ∧ bMask 2 46 = [] := ⟨rfl, rfl⟩
theorem E2_47 : aCode 2 47 = (Instr.ifCond .ge 12, 50, [59], 0) ∧ bMask 2 47 = [] := ⟨rfl, rfl⟩
theorem E2_59 : aCode 2 59 = (Instr.iload_n 2, 60, [], 0) ∧ bMask 2 59 = [] := ⟨rfl, rfl⟩
theorem E2_60 : aCode 2 60 = (Instr.iload_n 0, 61, [], 0) ∧ bMask 2 60 = [] := ⟨rfl, rfl⟩
theorem E2_61 : aCode 2 61 = (Instr.if_icmp .le 12, 64, [73], 0) ∧ bMask 2 61 = [] := ⟨rfl, rfl⟩
theorem E2_73 : aCode 2 73 = (Instr.return_, 74, [], 0) ∧ bMask 2 73 = [] := ⟨rfl, rfl⟩
theorem g_J7_rangeCheck_0 {Q : bQ} {M : bM} {x0 : Int32} {x1 : Int32} {x2 : Int32} (h : ((x1 ≤ x2) → (((0 ≤ x1) → (((x2 ≤ x0) → (Q none M)) ∧ (¬ (x2 ≤ x0) → (False)))) ∧ (¬ (0 ≤ x1) → (False)))) ∧ (¬ (x1 ≤ x2) → (False))) : bCall 2 [cI x0, cI x1, cI x2] M Q := s_iload_n E2_0.1 (k_ E2_0) rfl (s_iload_n E2_1.1 (k_ E2_1) rfl (s_icmp_le E2_2.1 (k_ E2_2) ⟨fun c0 => s_iload_n E2_46.1 (k_ E2_46) rfl (s_if_ge E2_47.1 (k_ E2_47) ⟨fun c1 => s_iload_n E2_59.1 (k_ E2_59) rfl (s_iload_n E2_60.1 (k_ E2_60) rfl (s_icmp_le E2_61.1 (k_ E2_61) ⟨fun c2 => s_ret E2_73.1 (k_ E2_73) (((h.1 c0).1 c1).1 c2), fun c2 => (((h.1 c0).1 c1).2 c2).elim⟩)), fun c1 => ((h.1 c0).2 c1).elim⟩), fun c0 => (h.2 c0).elim⟩))
-- 3: J7_fill_fda19
theorem E3_0 : aCode 3 0 = (Instr.aload_n 0, 1, [], 0) ∧ bMask 3 0 = [] := ⟨rfl, rfl⟩
theorem E3_1 : aCode 3 1 = (Instr.arraylength, 2, [], 0) ∧ bMask 3 1 = [] := ⟨rfl, rfl⟩
theorem E3_2 : aCode 3 2 = (Instr.iload_n 1, 3, [], 0) ∧ bMask 3 2 = [] := ⟨rfl, rfl⟩
theorem E3_3 : aCode 3 3 = (Instr.iload_n 2, 4, [], 0) ∧ bMask 3 3 = [] := ⟨rfl, rfl⟩
theorem E3_4 : aCode 3 4 = (Instr.invokestatic 13, 7, [2, 3, 0, 0, 0, 0], 0) ∧ bMask 3 4 = [] := ⟨rfl, rfl⟩
theorem E3_7 : aCode 3 7 = (Instr.iload_n 1, 8, [], 0) ∧ bMask 3 7 = [] := ⟨rfl, rfl⟩
theorem E3_8 : aCode 3 8 = (Instr.istore 4, 10, [], 0) ∧ bMask 3 8 = [] := ⟨rfl, rfl⟩
theorem E3_10 : aCode 3 10 = (Instr.iload 4, 12, [], 0) ∧ bMask 3 10 = [] := ⟨rfl, rfl⟩
theorem E3_12 : aCode 3 12 = (Instr.iload_n 2, 13, [], 0) ∧ bMask 3 12 = [] := ⟨rfl, rfl⟩
theorem E3_13 : aCode 3 13 = (Instr.if_icmp .ge 14, 16, [27], 0) ∧ bMask 3 13 = [] := ⟨rfl, rfl⟩
theorem E3_16 : aCode 3 16 = (Instr.aload_n 0, 17, [], 0) ∧ bMask 3 16 = [] := ⟨rfl, rfl⟩
theorem E3_17 : aCode 3 17 = (Instr.iload 4, 19, [], 0) ∧ bMask 3 17 = [] := ⟨rfl, rfl⟩
theorem E3_19 : aCode 3 19 = (Instr.iload_n 3, 20, [], 0) ∧ bMask 3 19 = [] := ⟨rfl, rfl⟩
theorem E3_20 : aCode 3 20 = (Instr.iastore, 21, [0], 0) ∧ bMask 3 20 = [] := ⟨rfl, rfl⟩
theorem E3_21 : aCode 3 21 = (Instr.iinc 4 1, 24, [], 1) ∧ bMask 3 21 = [] := ⟨rfl, rfl⟩
theorem E3_24 : aCode 3 24 = (Instr.goto (-14), 10, [], 0) ∧ bMask 3 24 = [] := ⟨rfl, rfl⟩
theorem E3_27 : aCode 3 27 = (Instr.return_, 28, [], 0) ∧ bMask 3 27 = [] := ⟨rfl, rfl⟩
theorem g_J7_fill4_0 {Q : bQ} {M : bM} {j0 : Nat} {x1 : Int32} {x2 : Int32} {x3 : Int32} (h : bCall 2 [cI (Int32.ofNat 32), cI x1, cI x2] M (fun v1 M2 => bV0 v1 (bGo 3 Q 10 [some (cR 7 j0), some (cI x1), some (cI x2), some (cI x3), some (cI x1)] [] M2))) : bCall 3 [cR 7 j0, cI x1, cI x2, cI x3] M Q := s_aload_n E3_0.1 (k_ E3_0) rfl (s_alen E3_1.1 (k_ E3_1) rfl (s_iload_n E3_2.1 (k_ E3_2) rfl (s_iload_n E3_3.1 (k_ E3_3) rfl (s_scall0 E3_4.1 (k_ E3_4) rfl rfl rfl h (fun M2 z0 => s_iload_n E3_7.1 (k_ E3_7) rfl (s_istore E3_8.1 (k_ E3_8) (z0)))))))
theorem g_J7_fill4_10 {Q : bQ} {M : bM} {j0 : Nat} {x1 : Int32} {x2 : Int32} {x3 : Int32} {x4 : Int32} (h : ((x2 ≤ x4) → (Q none M)) ∧ (¬ (x2 ≤ x4) → ((vp_in x4 32) ∧ bGo 3 Q 10 [some (cR 7 j0), some (cI x1), some (cI x2), some (cI x3), some (cI (x4 + (1 : Int32)))] [] (bU M 7 j0 x4.toNatClampNeg x3)))) : bGo 3 Q 10 [some (cR 7 j0), some (cI x1), some (cI x2), some (cI x3), some (cI x4)] [] M := s_iload E3_10.1 (k_ E3_10) rfl (s_iload_n E3_12.1 (k_ E3_12) rfl (s_icmp_ge E3_13.1 (k_ E3_13) ⟨fun c1 => s_ret E3_27.1 (k_ E3_27) (h.1 c1), fun c1 => s_aload_n E3_16.1 (k_ E3_16) rfl (s_iload E3_17.1 (k_ E3_17) rfl (s_iload_n E3_19.1 (k_ E3_19) rfl (s_iastore E3_20.1 (k_ E3_20) rfl ⟨(h.2 c1).1, s_iinc E3_21.1 (k_ E3_21) rfl (s_goto E3_24.1 (k_ E3_24) ((h.2 c1).2))⟩)))⟩))
-- 4: J9_floorMod_7cf53
theorem E4_0 : aCode 4 0 = (Instr.iload_n 0, 1, [], 0) ∧ bMask 4 0 = [] := ⟨rfl, rfl⟩
theorem E4_1 : aCode 4 1 = (Instr.iload_n 1, 2, [], 0) ∧ bMask 4 1 = [] := ⟨rfl, rfl⟩
theorem E4_2 : aCode 4 2 = (Instr.irem, 3, [], 0) ∧ bMask 4 2 = [] := ⟨rfl, rfl⟩
theorem E4_3 : aCode 4 3 = (Instr.istore_n 2, 4, [], 0) ∧ bMask 4 3 = [] := ⟨rfl, rfl⟩
theorem E4_4 : aCode 4 4 = (Instr.iload_n 0, 5, [], 0) ∧ bMask 4 4 = [] := ⟨rfl, rfl⟩
theorem E4_5 : aCode 4 5 = (Instr.iload_n 1, 6, [], 0) ∧ bMask 4 5 = [] := ⟨rfl, rfl⟩
theorem E4_6 : aCode 4 6 = (Instr.ixor, 7, [], 0) ∧ bMask 4 6 = [] := ⟨rfl, rfl⟩
theorem E4_7 : aCode 4 7 = (Instr.ifCond .ge 11, 10, [18], 0) ∧ bMask 4 7 = [] := ⟨rfl, rfl⟩
theorem E4_10 : aCode 4 10 = (Instr.iload_n 2, 11, [], 0) ∧ bMask 4 10 = [] := ⟨rfl, rfl⟩
theorem E4_11 : aCode 4 11 = (Instr.ifCond .eq 7, 14, [18], 0) ∧ bMask 4 11 = [] := ⟨rfl, rfl⟩
theorem E4_14 : aCode 4 14 = (Instr.iload_n 2, 15, [], 0) ∧ bMask 4 14 = [] := ⟨rfl, rfl⟩
theorem E4_15 : aCode 4 15 = (Instr.iload_n 1, 16, [], 0) ∧ bMask 4 15 = [] := ⟨rfl, rfl⟩
theorem E4_16 : aCode 4 16 = (Instr.iadd, 17, [], 0) ∧ bMask 4 16 = [] := ⟨rfl, rfl⟩
theorem E4_17 : aCode 4 17 = (Instr.ireturn, 18, [0], 0) ∧ bMask 4 17 = [] := ⟨rfl, rfl⟩
theorem E4_18 : aCode 4 18 = (Instr.iload_n 2, 19, [], 0) ∧ bMask 4 18 = [] := ⟨rfl, rfl⟩
theorem E4_19 : aCode 4 19 = (Instr.ireturn, 20, [0], 0) ∧ bMask 4 19 = [] := ⟨rfl, rfl⟩
theorem g_J9_floorMod_0 {Q : bQ} {M : bM} {x0 : Int32} {x1 : Int32} (h : (¬ x1 = 0) ∧ (((0 ≤ (x0 ^^^ x1)) → (Q (some (cI (aRem x0 x1))) M)) ∧ (¬ (0 ≤ (x0 ^^^ x1)) → ((((aRem x0 x1) = 0) → (Q (some (cI (aRem x0 x1))) M)) ∧ (¬ ((aRem x0 x1) = 0) → (Q (some (cI ((aRem x0 x1) + x1))) M)))))) : bCall 4 [cI x0, cI x1] M Q := s_iload_n E4_0.1 (k_ E4_0) rfl (s_iload_n E4_1.1 (k_ E4_1) rfl (s_irem E4_2.1 (k_ E4_2) ⟨h.1, s_istore_n E4_3.1 (k_ E4_3) (s_iload_n E4_4.1 (k_ E4_4) rfl (s_iload_n E4_5.1 (k_ E4_5) rfl (s_ixor E4_6.1 (k_ E4_6) (s_if_ge E4_7.1 (k_ E4_7) ⟨fun c0 => s_iload_n E4_18.1 (k_ E4_18) rfl (s_iret E4_19.1 (k_ E4_19) (h.2.1 c0)), fun c0 => s_iload_n E4_10.1 (k_ E4_10) rfl (s_if_eq E4_11.1 (k_ E4_11) ⟨fun c1 => s_iload_n E4_18.1 (k_ E4_18) rfl (s_iret E4_19.1 (k_ E4_19) ((h.2.2 c0).1 c1)), fun c1 => s_iload_n E4_14.1 (k_ E4_14) rfl (s_iload_n E4_15.1 (k_ E4_15) rfl (s_iadd E4_16.1 (k_ E4_16) (s_iret E4_17.1 (k_ E4_17) ((h.2.2 c0).2 c1))))⟩)⟩))))⟩))
-- 5: J9_max_7cf53
theorem E5_0 : aCode 5 0 = (Instr.iload_n 0, 1, [], 0) ∧ bMask 5 0 = [] := ⟨rfl, rfl⟩
theorem E5_1 : aCode 5 1 = (Instr.iload_n 1, 2, [], 0) ∧ bMask 5 1 = [] := ⟨rfl, rfl⟩
theorem E5_2 : aCode 5 2 = (Instr.if_icmp .lt 7, 5, [9], 0) ∧ bMask 5 2 = [] := ⟨rfl, rfl⟩
theorem E5_5 : aCode 5 5 = (Instr.iload_n 0, 6, [], 0) ∧ bMask 5 5 = [] := ⟨rfl, rfl⟩
theorem E5_6 : aCode 5 6 = (Instr.goto 4, 10, [], 0) ∧ bMask 5 6 = [] := ⟨rfl, rfl⟩
theorem E5_9 : aCode 5 9 = (Instr.iload_n 1, 10, [], 0) ∧ bMask 5 9 = [] := ⟨rfl, rfl⟩
theorem E5_10 : aCode 5 10 = (Instr.ireturn, 11, [0], 0) ∧ bMask 5 10 = [] := ⟨rfl, rfl⟩
theorem g_J9_max_0 {Q : bQ} {M : bM} {x0 : Int32} {x1 : Int32} (h : ((x0 < x1) → (Q (some (cI x1)) M)) ∧ (¬ (x0 < x1) → (Q (some (cI x0)) M))) : bCall 5 [cI x0, cI x1] M Q := s_iload_n E5_0.1 (k_ E5_0) rfl (s_iload_n E5_1.1 (k_ E5_1) rfl (s_icmp_lt E5_2.1 (k_ E5_2) ⟨fun c0 => s_iload_n E5_9.1 (k_ E5_9) rfl (s_iret E5_10.1 (k_ E5_10) (h.1 c0)), fun c0 => s_iload_n E5_5.1 (k_ E5_5) rfl (s_goto E5_6.1 (k_ E5_6) (s_iret E5_10.1 (k_ E5_10) (h.2 c0)))⟩))
-- 6: J9_min_7cf53
theorem E6_0 : aCode 6 0 = (Instr.iload_n 0, 1, [], 0) ∧ bMask 6 0 = [] := ⟨rfl, rfl⟩
theorem E6_1 : aCode 6 1 = (Instr.iload_n 1, 2, [], 0) ∧ bMask 6 1 = [] := ⟨rfl, rfl⟩
theorem E6_2 : aCode 6 2 = (Instr.if_icmp .gt 7, 5, [9], 0) ∧ bMask 6 2 = [] := ⟨rfl, rfl⟩
theorem E6_5 : aCode 6 5 = (Instr.iload_n 0, 6, [], 0) ∧ bMask 6 5 = [] := ⟨rfl, rfl⟩
theorem E6_6 : aCode 6 6 = (Instr.goto 4, 10, [], 0) ∧ bMask 6 6 = [] := ⟨rfl, rfl⟩
theorem E6_9 : aCode 6 9 = (Instr.iload_n 1, 10, [], 0) ∧ bMask 6 9 = [] := ⟨rfl, rfl⟩
theorem E6_10 : aCode 6 10 = (Instr.ireturn, 11, [0], 0) ∧ bMask 6 10 = [] := ⟨rfl, rfl⟩
theorem g_J9_min_0 {Q : bQ} {M : bM} {x0 : Int32} {x1 : Int32} (h : ((x1 < x0) → (Q (some (cI x1)) M)) ∧ (¬ (x1 < x0) → (Q (some (cI x0)) M))) : bCall 6 [cI x0, cI x1] M Q := s_iload_n E6_0.1 (k_ E6_0) rfl (s_iload_n E6_1.1 (k_ E6_1) rfl (s_icmp_gt E6_2.1 (k_ E6_2) ⟨fun c0 => s_iload_n E6_9.1 (k_ E6_9) rfl (s_iret E6_10.1 (k_ E6_10) (h.1 c0)), fun c0 => s_iload_n E6_5.1 (k_ E6_5) rfl (s_goto E6_6.1 (k_ E6_6) (s_iret E6_10.1 (k_ E6_10) (h.2 c0)))⟩))
