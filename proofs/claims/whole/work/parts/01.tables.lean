-- ===== PART A: goes FIRST, ahead of the names: the tables' words, and 'selects' of the private methods out of them =====
/-- a private method of a class that the tables say can be made, by its rows of tables_1 -/
def lw_okq (q : MethodName × Nat) : Prop := (q.1.cls ≠ "java/lang/invoke/MethodHandle" ∧ q.1.cls ≠ "java/lang/invoke/VarHandle") ∧ Cond.instantiable q.1.cls q.2 ∈ tables_1 ∧ Cond.privateMethod q.1 ∈ tables_1 ∧ Cond.instanceMethod q.1 ∈ tables_1
theorem lw_p0 : lw_okq (⟨"HiddenRelations$Numbers", "taken", "(I)I"⟩, 2) := ⟨⟨by decide +kernel, by decide +kernel⟩, List.mem_of_getElem? (i := 37) (by decide +kernel), List.mem_of_getElem? (i := 286) (by decide +kernel), List.mem_of_getElem? (i := 287) (by decide +kernel)⟩
theorem lw_p1 : lw_okq (⟨"HiddenRelations$Numbers", "combine", "([II[II[I)V"⟩, 2) := ⟨⟨by decide +kernel, by decide +kernel⟩, List.mem_of_getElem? (i := 37) (by decide +kernel), List.mem_of_getElem? (i := 301) (by decide +kernel), List.mem_of_getElem? (i := 302) (by decide +kernel)⟩
theorem lw_p2 : lw_okq (⟨"HiddenRelations$Numbers", "multiply", "([I[I[I)V"⟩, 2) := ⟨⟨by decide +kernel, by decide +kernel⟩, List.mem_of_getElem? (i := 37) (by decide +kernel), List.mem_of_getElem? (i := 310) (by decide +kernel), List.mem_of_getElem? (i := 311) (by decide +kernel)⟩
theorem lw_p3 : lw_okq (⟨"HiddenRelations$Numbers", "constant", "(I[I)V"⟩, 2) := ⟨⟨by decide +kernel, by decide +kernel⟩, List.mem_of_getElem? (i := 37) (by decide +kernel), List.mem_of_getElem? (i := 318) (by decide +kernel), List.mem_of_getElem? (i := 319) (by decide +kernel)⟩
theorem lw_p4 : lw_okq (⟨"HiddenRelations$Numbers", "divide", "([I[I[I)V"⟩, 2) := ⟨⟨by decide +kernel, by decide +kernel⟩, List.mem_of_getElem? (i := 37) (by decide +kernel), List.mem_of_getElem? (i := 323) (by decide +kernel), List.mem_of_getElem? (i := 324) (by decide +kernel)⟩
theorem lw_p5 : lw_okq (⟨"HiddenRelations$Numbers", "reciprocal", "(I)I"⟩, 2) := ⟨⟨by decide +kernel, by decide +kernel⟩, List.mem_of_getElem? (i := 37) (by decide +kernel), List.mem_of_getElem? (i := 327) (by decide +kernel), List.mem_of_getElem? (i := 328) (by decide +kernel)⟩
theorem lw_p6 : lw_okq (⟨"HiddenRelations$Numbers", "weight", "([I[I)V"⟩, 2) := ⟨⟨by decide +kernel, by decide +kernel⟩, List.mem_of_getElem? (i := 37) (by decide +kernel), List.mem_of_getElem? (i := 338) (by decide +kernel), List.mem_of_getElem? (i := 339) (by decide +kernel)⟩
theorem lw_p7 : lw_okq (⟨"java/lang/Throwable", "fillInStackTrace", "(I)Ljava/lang/Throwable;"⟩, 6) := ⟨⟨by decide +kernel, by decide +kernel⟩, List.mem_of_getElem? (i := 392) (by decide +kernel), List.mem_of_getElem? (i := 390) (by decide +kernel), List.mem_of_getElem? (i := 391) (by decide +kernel)⟩
theorem lw_p8 : lw_okq (⟨"HiddenRelations$Reader", "append", "(II)Z"⟩, 18) := ⟨⟨by decide +kernel, by decide +kernel⟩, List.mem_of_getElem? (i := 54) (by decide +kernel), List.mem_of_getElem? (i := 689) (by decide +kernel), List.mem_of_getElem? (i := 690) (by decide +kernel)⟩
theorem lw_p9 : lw_okq (⟨"HiddenRelations$Reader", "read", "([I)I"⟩, 18) := ⟨⟨by decide +kernel, by decide +kernel⟩, List.mem_of_getElem? (i := 54) (by decide +kernel), List.mem_of_getElem? (i := 697) (by decide +kernel), List.mem_of_getElem? (i := 698) (by decide +kernel)⟩
theorem lw_p10 : lw_okq (⟨"HiddenRelations$Reader", "open", "(I)V"⟩, 18) := ⟨⟨by decide +kernel, by decide +kernel⟩, List.mem_of_getElem? (i := 54) (by decide +kernel), List.mem_of_getElem? (i := 701) (by decide +kernel), List.mem_of_getElem? (i := 702) (by decide +kernel)⟩
theorem lw_p11 : lw_okq (⟨"HiddenRelations$Reader", "scan", "()V"⟩, 18) := ⟨⟨by decide +kernel, by decide +kernel⟩, List.mem_of_getElem? (i := 54) (by decide +kernel), List.mem_of_getElem? (i := 707) (by decide +kernel), List.mem_of_getElem? (i := 708) (by decide +kernel)⟩
theorem lw_p12 : lw_okq (⟨"HiddenRelations$Reader", "scanNumber", "()V"⟩, 18) := ⟨⟨by decide +kernel, by decide +kernel⟩, List.mem_of_getElem? (i := 54) (by decide +kernel), List.mem_of_getElem? (i := 714) (by decide +kernel), List.mem_of_getElem? (i := 715) (by decide +kernel)⟩
theorem lw_p13 : lw_okq (⟨"HiddenRelations$Reader", "accept", "()V"⟩, 18) := ⟨⟨by decide +kernel, by decide +kernel⟩, List.mem_of_getElem? (i := 54) (by decide +kernel), List.mem_of_getElem? (i := 721) (by decide +kernel), List.mem_of_getElem? (i := 722) (by decide +kernel)⟩
theorem lw_p14 : lw_okq (⟨"HiddenRelations$Reader", "acceptAtom", "()V"⟩, 18) := ⟨⟨by decide +kernel, by decide +kernel⟩, List.mem_of_getElem? (i := 54) (by decide +kernel), List.mem_of_getElem? (i := 725) (by decide +kernel), List.mem_of_getElem? (i := 726) (by decide +kernel)⟩
theorem lw_p15 : lw_okq (⟨"HiddenRelations$Reader", "stop", "()V"⟩, 18) := ⟨⟨by decide +kernel, by decide +kernel⟩, List.mem_of_getElem? (i := 54) (by decide +kernel), List.mem_of_getElem? (i := 729) (by decide +kernel), List.mem_of_getElem? (i := 730) (by decide +kernel)⟩
def lw_privs_1 : List (MethodName × Nat) := [(⟨"HiddenRelations$Numbers", "taken", "(I)I"⟩, 2), (⟨"HiddenRelations$Numbers", "combine", "([II[II[I)V"⟩, 2), (⟨"HiddenRelations$Numbers", "multiply", "([I[I[I)V"⟩, 2), (⟨"HiddenRelations$Numbers", "constant", "(I[I)V"⟩, 2), (⟨"HiddenRelations$Numbers", "divide", "([I[I[I)V"⟩, 2), (⟨"HiddenRelations$Numbers", "reciprocal", "(I)I"⟩, 2), (⟨"HiddenRelations$Numbers", "weight", "([I[I)V"⟩, 2), (⟨"java/lang/Throwable", "fillInStackTrace", "(I)Ljava/lang/Throwable;"⟩, 6), (⟨"HiddenRelations$Reader", "append", "(II)Z"⟩, 18), (⟨"HiddenRelations$Reader", "read", "([I)I"⟩, 18), (⟨"HiddenRelations$Reader", "open", "(I)V"⟩, 18), (⟨"HiddenRelations$Reader", "scan", "()V"⟩, 18), (⟨"HiddenRelations$Reader", "scanNumber", "()V"⟩, 18), (⟨"HiddenRelations$Reader", "accept", "()V"⟩, 18), (⟨"HiddenRelations$Reader", "acceptAtom", "()V"⟩, 18), (⟨"HiddenRelations$Reader", "stop", "()V"⟩, 18)]
theorem lw_r1 : ∀ q ∈ lw_privs_1, lw_okq q := List.forall_mem_cons.mpr ⟨lw_p0, List.forall_mem_cons.mpr ⟨lw_p1, List.forall_mem_cons.mpr ⟨lw_p2, List.forall_mem_cons.mpr ⟨lw_p3, List.forall_mem_cons.mpr ⟨lw_p4, List.forall_mem_cons.mpr ⟨lw_p5, List.forall_mem_cons.mpr ⟨lw_p6, List.forall_mem_cons.mpr ⟨lw_p7, List.forall_mem_cons.mpr ⟨lw_p8, List.forall_mem_cons.mpr ⟨lw_p9, List.forall_mem_cons.mpr ⟨lw_p10, List.forall_mem_cons.mpr ⟨lw_p11, List.forall_mem_cons.mpr ⟨lw_p12, List.forall_mem_cons.mpr ⟨lw_p13, List.forall_mem_cons.mpr ⟨lw_p14, List.forall_mem_cons.mpr ⟨lw_p15, fun _ h => absurd h List.not_mem_nil⟩⟩⟩⟩⟩⟩⟩⟩⟩⟩⟩⟩⟩⟩⟩⟩
theorem lw_p16 : lw_okq (⟨"HiddenRelations$Reader", "acceptPower", "()V"⟩, 18) := ⟨⟨by decide +kernel, by decide +kernel⟩, List.mem_of_getElem? (i := 54) (by decide +kernel), List.mem_of_getElem? (i := 733) (by decide +kernel), List.mem_of_getElem? (i := 734) (by decide +kernel)⟩
theorem lw_p17 : lw_okq (⟨"HiddenRelations$Reader", "acceptJoin", "()V"⟩, 18) := ⟨⟨by decide +kernel, by decide +kernel⟩, List.mem_of_getElem? (i := 54) (by decide +kernel), List.mem_of_getElem? (i := 739) (by decide +kernel), List.mem_of_getElem? (i := 740) (by decide +kernel)⟩
theorem lw_p18 : lw_okq (⟨"HiddenRelations$Reader", "endPower", "()V"⟩, 18) := ⟨⟨by decide +kernel, by decide +kernel⟩, List.mem_of_getElem? (i := 54) (by decide +kernel), List.mem_of_getElem? (i := 743) (by decide +kernel), List.mem_of_getElem? (i := 744) (by decide +kernel)⟩
theorem lw_p19 : lw_okq (⟨"HiddenRelations$Reader", "endTerm", "()V"⟩, 18) := ⟨⟨by decide +kernel, by decide +kernel⟩, List.mem_of_getElem? (i := 54) (by decide +kernel), List.mem_of_getElem? (i := 748) (by decide +kernel), List.mem_of_getElem? (i := 749) (by decide +kernel)⟩
theorem lw_p20 : lw_okq (⟨"HiddenRelations", "currentBasis", "()LHiddenRelations$Basis;"⟩, 14) := ⟨⟨by decide +kernel, by decide +kernel⟩, List.mem_of_getElem? (i := 29) (by decide +kernel), List.mem_of_getElem? (i := 782) (by decide +kernel), List.mem_of_getElem? (i := 783) (by decide +kernel)⟩
theorem lw_p21 : lw_okq (⟨"HiddenRelations", "gatherChosen", "()I"⟩, 14) := ⟨⟨by decide +kernel, by decide +kernel⟩, List.mem_of_getElem? (i := 29) (by decide +kernel), List.mem_of_getElem? (i := 786) (by decide +kernel), List.mem_of_getElem? (i := 787) (by decide +kernel)⟩
theorem lw_p22 : lw_okq (⟨"HiddenRelations$Basis", "build", "([[I[III)V"⟩, 6) := ⟨⟨by decide +kernel, by decide +kernel⟩, List.mem_of_getElem? (i := 118) (by decide +kernel), List.mem_of_getElem? (i := 790) (by decide +kernel), List.mem_of_getElem? (i := 791) (by decide +kernel)⟩
theorem lw_p23 : lw_okq (⟨"HiddenRelations$Basis", "clearTerm", "(I)V"⟩, 6) := ⟨⟨by decide +kernel, by decide +kernel⟩, List.mem_of_getElem? (i := 118) (by decide +kernel), List.mem_of_getElem? (i := 797) (by decide +kernel), List.mem_of_getElem? (i := 798) (by decide +kernel)⟩
theorem lw_p24 : lw_okq (⟨"HiddenRelations$Basis", "height", "(I)I"⟩, 6) := ⟨⟨by decide +kernel, by decide +kernel⟩, List.mem_of_getElem? (i := 118) (by decide +kernel), List.mem_of_getElem? (i := 801) (by decide +kernel), List.mem_of_getElem? (i := 802) (by decide +kernel)⟩
theorem lw_p25 : lw_okq (⟨"HiddenRelations$Basis", "subtract", "(IIII)V"⟩, 6) := ⟨⟨by decide +kernel, by decide +kernel⟩, List.mem_of_getElem? (i := 118) (by decide +kernel), List.mem_of_getElem? (i := 807) (by decide +kernel), List.mem_of_getElem? (i := 808) (by decide +kernel)⟩
theorem lw_p26 : lw_okq (⟨"HiddenRelations$Basis", "raise", "(I)V"⟩, 6) := ⟨⟨by decide +kernel, by decide +kernel⟩, List.mem_of_getElem? (i := 118) (by decide +kernel), List.mem_of_getElem? (i := 811) (by decide +kernel), List.mem_of_getElem? (i := 812) (by decide +kernel)⟩
theorem lw_p27 : lw_okq (⟨"HiddenRelations$Basis", "reduce", "(I)V"⟩, 6) := ⟨⟨by decide +kernel, by decide +kernel⟩, List.mem_of_getElem? (i := 118) (by decide +kernel), List.mem_of_getElem? (i := 815) (by decide +kernel), List.mem_of_getElem? (i := 816) (by decide +kernel)⟩
theorem lw_p28 : lw_okq (⟨"HiddenRelations$Basis", "coefficient", "(III)I"⟩, 6) := ⟨⟨by decide +kernel, by decide +kernel⟩, List.mem_of_getElem? (i := 118) (by decide +kernel), List.mem_of_getElem? (i := 819) (by decide +kernel), List.mem_of_getElem? (i := 820) (by decide +kernel)⟩
theorem lw_p29 : lw_okq (⟨"HiddenRelations$Basis", "allDegrees", "()I"⟩, 6) := ⟨⟨by decide +kernel, by decide +kernel⟩, List.mem_of_getElem? (i := 118) (by decide +kernel), List.mem_of_getElem? (i := 823) (by decide +kernel), List.mem_of_getElem? (i := 824) (by decide +kernel)⟩
theorem lw_p30 : lw_okq (⟨"HiddenRelations$Basis", "leastRow", "()I"⟩, 6) := ⟨⟨by decide +kernel, by decide +kernel⟩, List.mem_of_getElem? (i := 118) (by decide +kernel), List.mem_of_getElem? (i := 827) (by decide +kernel), List.mem_of_getElem? (i := 828) (by decide +kernel)⟩
theorem lw_p31 : lw_okq (⟨"HiddenRelations$Basis", "greatestHeight", "()I"⟩, 6) := ⟨⟨by decide +kernel, by decide +kernel⟩, List.mem_of_getElem? (i := 118) (by decide +kernel), List.mem_of_getElem? (i := 832) (by decide +kernel), List.mem_of_getElem? (i := 833) (by decide +kernel)⟩
def lw_privs_2 : List (MethodName × Nat) := [(⟨"HiddenRelations$Reader", "acceptPower", "()V"⟩, 18), (⟨"HiddenRelations$Reader", "acceptJoin", "()V"⟩, 18), (⟨"HiddenRelations$Reader", "endPower", "()V"⟩, 18), (⟨"HiddenRelations$Reader", "endTerm", "()V"⟩, 18), (⟨"HiddenRelations", "currentBasis", "()LHiddenRelations$Basis;"⟩, 14), (⟨"HiddenRelations", "gatherChosen", "()I"⟩, 14), (⟨"HiddenRelations$Basis", "build", "([[I[III)V"⟩, 6), (⟨"HiddenRelations$Basis", "clearTerm", "(I)V"⟩, 6), (⟨"HiddenRelations$Basis", "height", "(I)I"⟩, 6), (⟨"HiddenRelations$Basis", "subtract", "(IIII)V"⟩, 6), (⟨"HiddenRelations$Basis", "raise", "(I)V"⟩, 6), (⟨"HiddenRelations$Basis", "reduce", "(I)V"⟩, 6), (⟨"HiddenRelations$Basis", "coefficient", "(III)I"⟩, 6), (⟨"HiddenRelations$Basis", "allDegrees", "()I"⟩, 6), (⟨"HiddenRelations$Basis", "leastRow", "()I"⟩, 6), (⟨"HiddenRelations$Basis", "greatestHeight", "()I"⟩, 6)]
theorem lw_r2 : ∀ q ∈ lw_privs_2, lw_okq q := List.forall_mem_cons.mpr ⟨lw_p16, List.forall_mem_cons.mpr ⟨lw_p17, List.forall_mem_cons.mpr ⟨lw_p18, List.forall_mem_cons.mpr ⟨lw_p19, List.forall_mem_cons.mpr ⟨lw_p20, List.forall_mem_cons.mpr ⟨lw_p21, List.forall_mem_cons.mpr ⟨lw_p22, List.forall_mem_cons.mpr ⟨lw_p23, List.forall_mem_cons.mpr ⟨lw_p24, List.forall_mem_cons.mpr ⟨lw_p25, List.forall_mem_cons.mpr ⟨lw_p26, List.forall_mem_cons.mpr ⟨lw_p27, List.forall_mem_cons.mpr ⟨lw_p28, List.forall_mem_cons.mpr ⟨lw_p29, List.forall_mem_cons.mpr ⟨lw_p30, List.forall_mem_cons.mpr ⟨lw_p31, fun _ h => absurd h List.not_mem_nil⟩⟩⟩⟩⟩⟩⟩⟩⟩⟩⟩⟩⟩⟩⟩⟩
theorem lw_p32 : lw_okq (⟨"HiddenRelations", "isChosen", "(I)Z"⟩, 14) := ⟨⟨by decide +kernel, by decide +kernel⟩, List.mem_of_getElem? (i := 29) (by decide +kernel), List.mem_of_getElem? (i := 841) (by decide +kernel), List.mem_of_getElem? (i := 842) (by decide +kernel)⟩
theorem lw_p33 : lw_okq (⟨"HiddenRelations$Sheet", "isMissing", "()Z"⟩, 3) := ⟨⟨by decide +kernel, by decide +kernel⟩, List.mem_of_getElem? (i := 204) (by decide +kernel), List.mem_of_getElem? (i := 865) (by decide +kernel), List.mem_of_getElem? (i := 866) (by decide +kernel)⟩
theorem lw_p34 : lw_okq (⟨"HiddenRelations$Sheet", "numberOrZero", "(I)I"⟩, 3) := ⟨⟨by decide +kernel, by decide +kernel⟩, List.mem_of_getElem? (i := 204) (by decide +kernel), List.mem_of_getElem? (i := 869) (by decide +kernel), List.mem_of_getElem? (i := 870) (by decide +kernel)⟩
theorem lw_p35 : lw_okq (⟨"HiddenRelations", "addProduct", "([I)V"⟩, 14) := ⟨⟨by decide +kernel, by decide +kernel⟩, List.mem_of_getElem? (i := 29) (by decide +kernel), List.mem_of_getElem? (i := 873) (by decide +kernel), List.mem_of_getElem? (i := 874) (by decide +kernel)⟩
theorem lw_p36 : lw_okq (⟨"HiddenRelations$Ledger", "freePlace", "()LHiddenRelations$Place;"⟩, 2) := ⟨⟨by decide +kernel, by decide +kernel⟩, List.mem_of_getElem? (i := 149) (by decide +kernel), List.mem_of_getElem? (i := 881) (by decide +kernel), List.mem_of_getElem? (i := 882) (by decide +kernel)⟩
theorem lw_p37 : lw_okq (⟨"HiddenRelations", "gatherKind", "(II[I)V"⟩, 14) := ⟨⟨by decide +kernel, by decide +kernel⟩, List.mem_of_getElem? (i := 29) (by decide +kernel), List.mem_of_getElem? (i := 885) (by decide +kernel), List.mem_of_getElem? (i := 886) (by decide +kernel)⟩
theorem lw_p38 : lw_okq (⟨"HiddenRelations$Place", "keepRow", "(LHiddenRelations$Basis;I)V"⟩, 9) := ⟨⟨by decide +kernel, by decide +kernel⟩, List.mem_of_getElem? (i := 156) (by decide +kernel), List.mem_of_getElem? (i := 889) (by decide +kernel), List.mem_of_getElem? (i := 890) (by decide +kernel)⟩
theorem lw_p39 : lw_okq (⟨"HiddenRelations$Ledger", "giveNumber", "(LHiddenRelations$Place;)I"⟩, 2) := ⟨⟨by decide +kernel, by decide +kernel⟩, List.mem_of_getElem? (i := 149) (by decide +kernel), List.mem_of_getElem? (i := 896) (by decide +kernel), List.mem_of_getElem? (i := 897) (by decide +kernel)⟩
theorem lw_p40 : lw_okq (⟨"HiddenRelations$Ledger", "find", "(I)LHiddenRelations$Place;"⟩, 2) := ⟨⟨by decide +kernel, by decide +kernel⟩, List.mem_of_getElem? (i := 149) (by decide +kernel), List.mem_of_getElem? (i := 904) (by decide +kernel), List.mem_of_getElem? (i := 905) (by decide +kernel)⟩
theorem lw_p41 : lw_okq (⟨"HiddenRelations$Place", "coefficient", "(II)I"⟩, 9) := ⟨⟨by decide +kernel, by decide +kernel⟩, List.mem_of_getElem? (i := 156) (by decide +kernel), List.mem_of_getElem? (i := 912) (by decide +kernel), List.mem_of_getElem? (i := 913) (by decide +kernel)⟩
theorem lw_p42 : lw_okq (⟨"HiddenRelations$Place", "copyPolynomial", "(I[I)V"⟩, 9) := ⟨⟨by decide +kernel, by decide +kernel⟩, List.mem_of_getElem? (i := 156) (by decide +kernel), List.mem_of_getElem? (i := 920) (by decide +kernel), List.mem_of_getElem? (i := 921) (by decide +kernel)⟩
theorem lw_p43 : lw_okq (⟨"HiddenRelations$Ledger", "size", "()I"⟩, 2) := ⟨⟨by decide +kernel, by decide +kernel⟩, List.mem_of_getElem? (i := 149) (by decide +kernel), List.mem_of_getElem? (i := 934) (by decide +kernel), List.mem_of_getElem? (i := 935) (by decide +kernel)⟩
theorem lw_p44 : lw_okq (⟨"HiddenRelations$Ledger", "numberInTurn", "(I)I"⟩, 2) := ⟨⟨by decide +kernel, by decide +kernel⟩, List.mem_of_getElem? (i := 149) (by decide +kernel), List.mem_of_getElem? (i := 942) (by decide +kernel), List.mem_of_getElem? (i := 943) (by decide +kernel)⟩
theorem lw_p45 : lw_okq (⟨"HiddenRelations$Ledger", "lowerThan", "(I)I"⟩, 2) := ⟨⟨by decide +kernel, by decide +kernel⟩, List.mem_of_getElem? (i := 149) (by decide +kernel), List.mem_of_getElem? (i := 946) (by decide +kernel), List.mem_of_getElem? (i := 947) (by decide +kernel)⟩
theorem lw_p46 : lw_okq (⟨"HiddenRelations$Sheet", "begin", "(II)V"⟩, 3) := ⟨⟨by decide +kernel, by decide +kernel⟩, List.mem_of_getElem? (i := 204) (by decide +kernel), List.mem_of_getElem? (i := 954) (by decide +kernel), List.mem_of_getElem? (i := 955) (by decide +kernel)⟩
theorem lw_p47 : lw_okq (⟨"HiddenRelations$Sheet", "hasPlaces", "(II)Z"⟩, 3) := ⟨⟨by decide +kernel, by decide +kernel⟩, List.mem_of_getElem? (i := 204) (by decide +kernel), List.mem_of_getElem? (i := 963) (by decide +kernel), List.mem_of_getElem? (i := 964) (by decide +kernel)⟩
def lw_privs_3 : List (MethodName × Nat) := [(⟨"HiddenRelations", "isChosen", "(I)Z"⟩, 14), (⟨"HiddenRelations$Sheet", "isMissing", "()Z"⟩, 3), (⟨"HiddenRelations$Sheet", "numberOrZero", "(I)I"⟩, 3), (⟨"HiddenRelations", "addProduct", "([I)V"⟩, 14), (⟨"HiddenRelations$Ledger", "freePlace", "()LHiddenRelations$Place;"⟩, 2), (⟨"HiddenRelations", "gatherKind", "(II[I)V"⟩, 14), (⟨"HiddenRelations$Place", "keepRow", "(LHiddenRelations$Basis;I)V"⟩, 9), (⟨"HiddenRelations$Ledger", "giveNumber", "(LHiddenRelations$Place;)I"⟩, 2), (⟨"HiddenRelations$Ledger", "find", "(I)LHiddenRelations$Place;"⟩, 2), (⟨"HiddenRelations$Place", "coefficient", "(II)I"⟩, 9), (⟨"HiddenRelations$Place", "copyPolynomial", "(I[I)V"⟩, 9), (⟨"HiddenRelations$Ledger", "size", "()I"⟩, 2), (⟨"HiddenRelations$Ledger", "numberInTurn", "(I)I"⟩, 2), (⟨"HiddenRelations$Ledger", "lowerThan", "(I)I"⟩, 2), (⟨"HiddenRelations$Sheet", "begin", "(II)V"⟩, 3), (⟨"HiddenRelations$Sheet", "hasPlaces", "(II)Z"⟩, 3)]
theorem lw_r3 : ∀ q ∈ lw_privs_3, lw_okq q := List.forall_mem_cons.mpr ⟨lw_p32, List.forall_mem_cons.mpr ⟨lw_p33, List.forall_mem_cons.mpr ⟨lw_p34, List.forall_mem_cons.mpr ⟨lw_p35, List.forall_mem_cons.mpr ⟨lw_p36, List.forall_mem_cons.mpr ⟨lw_p37, List.forall_mem_cons.mpr ⟨lw_p38, List.forall_mem_cons.mpr ⟨lw_p39, List.forall_mem_cons.mpr ⟨lw_p40, List.forall_mem_cons.mpr ⟨lw_p41, List.forall_mem_cons.mpr ⟨lw_p42, List.forall_mem_cons.mpr ⟨lw_p43, List.forall_mem_cons.mpr ⟨lw_p44, List.forall_mem_cons.mpr ⟨lw_p45, List.forall_mem_cons.mpr ⟨lw_p46, List.forall_mem_cons.mpr ⟨lw_p47, fun _ h => absurd h List.not_mem_nil⟩⟩⟩⟩⟩⟩⟩⟩⟩⟩⟩⟩⟩⟩⟩⟩
theorem lw_p48 : lw_okq (⟨"HiddenRelations$Sheet", "keep", "(II)V"⟩, 3) := ⟨⟨by decide +kernel, by decide +kernel⟩, List.mem_of_getElem? (i := 204) (by decide +kernel), List.mem_of_getElem? (i := 967) (by decide +kernel), List.mem_of_getElem? (i := 968) (by decide +kernel)⟩
theorem lw_p49 : lw_okq (⟨"HiddenRelations", "sheetsThere", "()I"⟩, 14) := ⟨⟨by decide +kernel, by decide +kernel⟩, List.mem_of_getElem? (i := 29) (by decide +kernel), List.mem_of_getElem? (i := 988) (by decide +kernel), List.mem_of_getElem? (i := 989) (by decide +kernel)⟩
theorem lw_p50 : lw_okq (⟨"HiddenRelations", "seriesNotZero", "()I"⟩, 14) := ⟨⟨by decide +kernel, by decide +kernel⟩, List.mem_of_getElem? (i := 29) (by decide +kernel), List.mem_of_getElem? (i := 992) (by decide +kernel), List.mem_of_getElem? (i := 993) (by decide +kernel)⟩
theorem lw_p51 : lw_okq (⟨"HiddenRelationsModel", "mod", "(J)I"⟩, 52) := ⟨⟨by decide +kernel, by decide +kernel⟩, List.mem_of_getElem? (i := 1038) (by decide +kernel), List.mem_of_getElem? (i := 1222) (by decide +kernel), List.mem_of_getElem? (i := 1223) (by decide +kernel)⟩
theorem lw_p52 : lw_okq (⟨"HiddenRelationsModel", "puts", "([II)I"⟩, 52) := ⟨⟨by decide +kernel, by decide +kernel⟩, List.mem_of_getElem? (i := 1038) (by decide +kernel), List.mem_of_getElem? (i := 1234) (by decide +kernel), List.mem_of_getElem? (i := 1235) (by decide +kernel)⟩
theorem lw_p53 : lw_okq (⟨"HiddenRelationsModel", "takes", "(I[I)V"⟩, 52) := ⟨⟨by decide +kernel, by decide +kernel⟩, List.mem_of_getElem? (i := 1038) (by decide +kernel), List.mem_of_getElem? (i := 1242) (by decide +kernel), List.mem_of_getElem? (i := 1243) (by decide +kernel)⟩
theorem lw_p54 : lw_okq (⟨"HiddenRelationsModel", "multiplies", "([I[I)V"⟩, 52) := ⟨⟨by decide +kernel, by decide +kernel⟩, List.mem_of_getElem? (i := 1038) (by decide +kernel), List.mem_of_getElem? (i := 1246) (by decide +kernel), List.mem_of_getElem? (i := 1247) (by decide +kernel)⟩
theorem lw_p55 : lw_okq (⟨"HiddenRelationsModel", "setsTo", "([II)V"⟩, 52) := ⟨⟨by decide +kernel, by decide +kernel⟩, List.mem_of_getElem? (i := 1038) (by decide +kernel), List.mem_of_getElem? (i := 1254) (by decide +kernel), List.mem_of_getElem? (i := 1255) (by decide +kernel)⟩
theorem lw_p56 : lw_okq (⟨"HiddenRelationsModel", "divides", "([I[I)V"⟩, 52) := ⟨⟨by decide +kernel, by decide +kernel⟩, List.mem_of_getElem? (i := 1038) (by decide +kernel), List.mem_of_getElem? (i := 1258) (by decide +kernel), List.mem_of_getElem? (i := 1259) (by decide +kernel)⟩
theorem lw_p57 : lw_okq (⟨"HiddenRelationsModel", "inverseOf", "(I)I"⟩, 52) := ⟨⟨by decide +kernel, by decide +kernel⟩, List.mem_of_getElem? (i := 1038) (by decide +kernel), List.mem_of_getElem? (i := 1262) (by decide +kernel), List.mem_of_getElem? (i := 1263) (by decide +kernel)⟩
theorem lw_p58 : lw_okq (⟨"HiddenRelationsModel", "begins", "()V"⟩, 52) := ⟨⟨by decide +kernel, by decide +kernel⟩, List.mem_of_getElem? (i := 1038) (by decide +kernel), List.mem_of_getElem? (i := 1289) (by decide +kernel), List.mem_of_getElem? (i := 1290) (by decide +kernel)⟩
theorem lw_p59 : lw_okq (⟨"HiddenRelationsModel", "next", "()V"⟩, 52) := ⟨⟨by decide +kernel, by decide +kernel⟩, List.mem_of_getElem? (i := 1038) (by decide +kernel), List.mem_of_getElem? (i := 1293) (by decide +kernel), List.mem_of_getElem? (i := 1294) (by decide +kernel)⟩
theorem lw_p60 : lw_okq (⟨"HiddenRelationsModel", "beginsPart", "()Z"⟩, 52) := ⟨⟨by decide +kernel, by decide +kernel⟩, List.mem_of_getElem? (i := 1038) (by decide +kernel), List.mem_of_getElem? (i := 1303) (by decide +kernel), List.mem_of_getElem? (i := 1304) (by decide +kernel)⟩
theorem lw_p61 : lw_okq (⟨"HiddenRelationsModel", "goesOn", "()Z"⟩, 52) := ⟨⟨by decide +kernel, by decide +kernel⟩, List.mem_of_getElem? (i := 1038) (by decide +kernel), List.mem_of_getElem? (i := 1307) (by decide +kernel), List.mem_of_getElem? (i := 1308) (by decide +kernel)⟩
theorem lw_p62 : lw_okq (⟨"HiddenRelationsModel", "raisesNow", "()Z"⟩, 52) := ⟨⟨by decide +kernel, by decide +kernel⟩, List.mem_of_getElem? (i := 1038) (by decide +kernel), List.mem_of_getElem? (i := 1311) (by decide +kernel), List.mem_of_getElem? (i := 1312) (by decide +kernel)⟩
theorem lw_p63 : lw_okq (⟨"HiddenRelationsModel", "raises", "(I)V"⟩, 52) := ⟨⟨by decide +kernel, by decide +kernel⟩, List.mem_of_getElem? (i := 1038) (by decide +kernel), List.mem_of_getElem? (i := 1315) (by decide +kernel), List.mem_of_getElem? (i := 1316) (by decide +kernel)⟩
def lw_privs_4 : List (MethodName × Nat) := [(⟨"HiddenRelations$Sheet", "keep", "(II)V"⟩, 3), (⟨"HiddenRelations", "sheetsThere", "()I"⟩, 14), (⟨"HiddenRelations", "seriesNotZero", "()I"⟩, 14), (⟨"HiddenRelationsModel", "mod", "(J)I"⟩, 52), (⟨"HiddenRelationsModel", "puts", "([II)I"⟩, 52), (⟨"HiddenRelationsModel", "takes", "(I[I)V"⟩, 52), (⟨"HiddenRelationsModel", "multiplies", "([I[I)V"⟩, 52), (⟨"HiddenRelationsModel", "setsTo", "([II)V"⟩, 52), (⟨"HiddenRelationsModel", "divides", "([I[I)V"⟩, 52), (⟨"HiddenRelationsModel", "inverseOf", "(I)I"⟩, 52), (⟨"HiddenRelationsModel", "begins", "()V"⟩, 52), (⟨"HiddenRelationsModel", "next", "()V"⟩, 52), (⟨"HiddenRelationsModel", "beginsPart", "()Z"⟩, 52), (⟨"HiddenRelationsModel", "goesOn", "()Z"⟩, 52), (⟨"HiddenRelationsModel", "raisesNow", "()Z"⟩, 52), (⟨"HiddenRelationsModel", "raises", "(I)V"⟩, 52)]
theorem lw_r4 : ∀ q ∈ lw_privs_4, lw_okq q := List.forall_mem_cons.mpr ⟨lw_p48, List.forall_mem_cons.mpr ⟨lw_p49, List.forall_mem_cons.mpr ⟨lw_p50, List.forall_mem_cons.mpr ⟨lw_p51, List.forall_mem_cons.mpr ⟨lw_p52, List.forall_mem_cons.mpr ⟨lw_p53, List.forall_mem_cons.mpr ⟨lw_p54, List.forall_mem_cons.mpr ⟨lw_p55, List.forall_mem_cons.mpr ⟨lw_p56, List.forall_mem_cons.mpr ⟨lw_p57, List.forall_mem_cons.mpr ⟨lw_p58, List.forall_mem_cons.mpr ⟨lw_p59, List.forall_mem_cons.mpr ⟨lw_p60, List.forall_mem_cons.mpr ⟨lw_p61, List.forall_mem_cons.mpr ⟨lw_p62, List.forall_mem_cons.mpr ⟨lw_p63, fun _ h => absurd h List.not_mem_nil⟩⟩⟩⟩⟩⟩⟩⟩⟩⟩⟩⟩⟩⟩⟩⟩
theorem lw_p64 : lw_okq (⟨"HiddenRelationsModel", "comesToTerm", "()V"⟩, 52) := ⟨⟨by decide +kernel, by decide +kernel⟩, List.mem_of_getElem? (i := 1038) (by decide +kernel), List.mem_of_getElem? (i := 1319) (by decide +kernel), List.mem_of_getElem? (i := 1320) (by decide +kernel)⟩
theorem lw_p65 : lw_okq (⟨"HiddenRelationsModel", "comesToSum", "()V"⟩, 52) := ⟨⟨by decide +kernel, by decide +kernel⟩, List.mem_of_getElem? (i := 1038) (by decide +kernel), List.mem_of_getElem? (i := 1323) (by decide +kernel), List.mem_of_getElem? (i := 1324) (by decide +kernel)⟩
theorem lw_p66 : lw_okq (⟨"HiddenRelationsModel", "looks", "()V"⟩, 52) := ⟨⟨by decide +kernel, by decide +kernel⟩, List.mem_of_getElem? (i := 1038) (by decide +kernel), List.mem_of_getElem? (i := 1346) (by decide +kernel), List.mem_of_getElem? (i := 1347) (by decide +kernel)⟩
theorem lw_p67 : lw_okq (⟨"HiddenRelationsModel", "takesChoice", "()V"⟩, 52) := ⟨⟨by decide +kernel, by decide +kernel⟩, List.mem_of_getElem? (i := 1038) (by decide +kernel), List.mem_of_getElem? (i := 1350) (by decide +kernel), List.mem_of_getElem? (i := 1351) (by decide +kernel)⟩
theorem lw_p68 : lw_okq (⟨"HiddenRelationsModel", "looksForBasis", "()V"⟩, 52) := ⟨⟨by decide +kernel, by decide +kernel⟩, List.mem_of_getElem? (i := 1038) (by decide +kernel), List.mem_of_getElem? (i := 1354) (by decide +kernel), List.mem_of_getElem? (i := 1355) (by decide +kernel)⟩
theorem lw_p69 : lw_okq (⟨"HiddenRelationsModel", "isSum", "(II)Z"⟩, 52) := ⟨⟨by decide +kernel, by decide +kernel⟩, List.mem_of_getElem? (i := 1038) (by decide +kernel), List.mem_of_getElem? (i := 1358) (by decide +kernel), List.mem_of_getElem? (i := 1359) (by decide +kernel)⟩
theorem lw_p70 : lw_okq (⟨"HiddenRelationsModel", "makesRow", "(II)V"⟩, 52) := ⟨⟨by decide +kernel, by decide +kernel⟩, List.mem_of_getElem? (i := 1038) (by decide +kernel), List.mem_of_getElem? (i := 1362) (by decide +kernel), List.mem_of_getElem? (i := 1363) (by decide +kernel)⟩
theorem lw_p71 : lw_okq (⟨"HiddenRelationsModel", "standsAhead", "(II)V"⟩, 52) := ⟨⟨by decide +kernel, by decide +kernel⟩, List.mem_of_getElem? (i := 1038) (by decide +kernel), List.mem_of_getElem? (i := 1366) (by decide +kernel), List.mem_of_getElem? (i := 1367) (by decide +kernel)⟩
theorem lw_p72 : lw_okq (⟨"HiddenRelationsModel", "lowestRow", "()I"⟩, 52) := ⟨⟨by decide +kernel, by decide +kernel⟩, List.mem_of_getElem? (i := 1038) (by decide +kernel), List.mem_of_getElem? (i := 1370) (by decide +kernel), List.mem_of_getElem? (i := 1371) (by decide +kernel)⟩
theorem lw_p73 : lw_okq (⟨"HiddenRelationsModel", "isRowOfBasis", "(I)Z"⟩, 52) := ⟨⟨by decide +kernel, by decide +kernel⟩, List.mem_of_getElem? (i := 1038) (by decide +kernel), List.mem_of_getElem? (i := 1378) (by decide +kernel), List.mem_of_getElem? (i := 1379) (by decide +kernel)⟩
theorem lw_p74 : lw_okq (⟨"HiddenRelationsModel", "worksOut", "(I)V"⟩, 52) := ⟨⟨by decide +kernel, by decide +kernel⟩, List.mem_of_getElem? (i := 1038) (by decide +kernel), List.mem_of_getElem? (i := 1382) (by decide +kernel), List.mem_of_getElem? (i := 1383) (by decide +kernel)⟩
theorem lw_p75 : lw_okq (⟨"HiddenRelationsModel", "makesSeries", "(III)V"⟩, 52) := ⟨⟨by decide +kernel, by decide +kernel⟩, List.mem_of_getElem? (i := 1038) (by decide +kernel), List.mem_of_getElem? (i := 1409) (by decide +kernel), List.mem_of_getElem? (i := 1410) (by decide +kernel)⟩
theorem lw_p76 : lw_okq (⟨"HiddenRelationsModel", "placeOf", "(I)I"⟩, 52) := ⟨⟨by decide +kernel, by decide +kernel⟩, List.mem_of_getElem? (i := 1038) (by decide +kernel), List.mem_of_getElem? (i := 1417) (by decide +kernel), List.mem_of_getElem? (i := 1418) (by decide +kernel)⟩
theorem lw_p77 : lw_okq (⟨"HiddenRelationsModel", "moves", "(I)V"⟩, 52) := ⟨⟨by decide +kernel, by decide +kernel⟩, List.mem_of_getElem? (i := 1038) (by decide +kernel), List.mem_of_getElem? (i := 1437) (by decide +kernel), List.mem_of_getElem? (i := 1438) (by decide +kernel)⟩
theorem lw_p78 : lw_okq (⟨"HiddenRelationsModel", "keeps", "(III)V"⟩, 52) := ⟨⟨by decide +kernel, by decide +kernel⟩, List.mem_of_getElem? (i := 1038) (by decide +kernel), List.mem_of_getElem? (i := 1453) (by decide +kernel), List.mem_of_getElem? (i := 1454) (by decide +kernel)⟩
def lw_privs_5 : List (MethodName × Nat) := [(⟨"HiddenRelationsModel", "comesToTerm", "()V"⟩, 52), (⟨"HiddenRelationsModel", "comesToSum", "()V"⟩, 52), (⟨"HiddenRelationsModel", "looks", "()V"⟩, 52), (⟨"HiddenRelationsModel", "takesChoice", "()V"⟩, 52), (⟨"HiddenRelationsModel", "looksForBasis", "()V"⟩, 52), (⟨"HiddenRelationsModel", "isSum", "(II)Z"⟩, 52), (⟨"HiddenRelationsModel", "makesRow", "(II)V"⟩, 52), (⟨"HiddenRelationsModel", "standsAhead", "(II)V"⟩, 52), (⟨"HiddenRelationsModel", "lowestRow", "()I"⟩, 52), (⟨"HiddenRelationsModel", "isRowOfBasis", "(I)Z"⟩, 52), (⟨"HiddenRelationsModel", "worksOut", "(I)V"⟩, 52), (⟨"HiddenRelationsModel", "makesSeries", "(III)V"⟩, 52), (⟨"HiddenRelationsModel", "placeOf", "(I)I"⟩, 52), (⟨"HiddenRelationsModel", "moves", "(I)V"⟩, 52), (⟨"HiddenRelationsModel", "keeps", "(III)V"⟩, 52)]
theorem lw_r5 : ∀ q ∈ lw_privs_5, lw_okq q := List.forall_mem_cons.mpr ⟨lw_p64, List.forall_mem_cons.mpr ⟨lw_p65, List.forall_mem_cons.mpr ⟨lw_p66, List.forall_mem_cons.mpr ⟨lw_p67, List.forall_mem_cons.mpr ⟨lw_p68, List.forall_mem_cons.mpr ⟨lw_p69, List.forall_mem_cons.mpr ⟨lw_p70, List.forall_mem_cons.mpr ⟨lw_p71, List.forall_mem_cons.mpr ⟨lw_p72, List.forall_mem_cons.mpr ⟨lw_p73, List.forall_mem_cons.mpr ⟨lw_p74, List.forall_mem_cons.mpr ⟨lw_p75, List.forall_mem_cons.mpr ⟨lw_p76, List.forall_mem_cons.mpr ⟨lw_p77, List.forall_mem_cons.mpr ⟨lw_p78, fun _ h => absurd h List.not_mem_nil⟩⟩⟩⟩⟩⟩⟩⟩⟩⟩⟩⟩⟩⟩⟩
def lw_privs : List (MethodName × Nat) := lw_privs_1 ++ (lw_privs_2 ++ (lw_privs_3 ++ (lw_privs_4 ++ (lw_privs_5))))
def lw_tbl : List Cond := k2_sels lw_privs ++ tables_1
theorem lw_privs_ok : ∀ q ∈ lw_privs, lw_okq q := by
  show ∀ q ∈ lw_privs_1 ++ (lw_privs_2 ++ (lw_privs_3 ++ (lw_privs_4 ++ (lw_privs_5)))), lw_okq q
  exact List.forall_mem_append.mpr ⟨lw_r1, List.forall_mem_append.mpr ⟨lw_r2, List.forall_mem_append.mpr ⟨lw_r3, List.forall_mem_append.mpr ⟨lw_r4, lw_r5⟩⟩⟩⟩
-- ===== the classes whose objects the cells hold, by number =====
def aT0 : u_T := fun k => match k with
  | 0 => ("HiddenRelations$Basis", "numbers", "LHiddenRelations$Numbers;", true)
  | 1 => ("HiddenRelations$Basis", "rows", "[[I", true)
  | 2 => ("HiddenRelations$Basis", "rests", "[[I", true)
  | 3 => ("HiddenRelations$Basis", "degrees", "[I", true)
  | 4 => ("HiddenRelations$Basis", "partLifts", "[I", true)
  | _ => ("HiddenRelations$Basis", "size", "I", false)
def aTy0 : Nat → FieldType := fun k => match k with
  | 0 => (.object "HiddenRelations$Numbers")
  | 1 => (.array (.array .int))
  | 2 => (.array (.array .int))
  | 3 => (.array .int)
  | 4 => (.array .int)
  | _ => .int
theorem aNm0 : ∀ a, a < 6 → ∀ b, b < 6 → a ≠ b → (aT0 a).2.1 ≠ (aT0 b).2.1 := by decide +kernel
theorem aTyOk0 : ∀ k, k < 6 → parseFieldDescriptor (aT0 k).2.2.1 = some (aTy0 k) := by decide +kernel
def aT1 : u_T := fun k => match k with
  | 0 => ("HiddenRelations$Ledger", "places", "[LHiddenRelations$Place;", true)
  | _ => ("HiddenRelations$Ledger", "given", "I", false)
def aTy1 : Nat → FieldType := fun k => match k with
  | 0 => (.array (.object "HiddenRelations$Place"))
  | _ => .int
theorem aNm1 : ∀ a, a < 2 → ∀ b, b < 2 → a ≠ b → (aT1 a).2.1 ≠ (aT1 b).2.1 := by decide +kernel
theorem aTyOk1 : ∀ k, k < 2 → parseFieldDescriptor (aT1 k).2.2.1 = some (aTy1 k) := by decide +kernel
def aT2 : u_T := fun k => match k with
  | 0 => ("HiddenRelations$Numbers", "p", "I", false)
  | _ => ("HiddenRelations$Numbers", "quotient", "[I", true)
def aTy2 : Nat → FieldType := fun k => match k with
  | 0 => .int
  | _ => (.array .int)
theorem aNm2 : ∀ a, a < 2 → ∀ b, b < 2 → a ≠ b → (aT2 a).2.1 ≠ (aT2 b).2.1 := by decide +kernel
theorem aTyOk2 : ∀ k, k < 2 → parseFieldDescriptor (aT2 k).2.2.1 = some (aTy2 k) := by decide +kernel
def aT3 : u_T := fun k => match k with
  | 0 => ("HiddenRelations$Place", "coefficients", "[[I", true)
  | 1 => ("HiddenRelations$Place", "kept", "Z", false)
  | 2 => ("HiddenRelations$Place", "number", "I", false)
  | 3 => ("HiddenRelations$Place", "kind", "I", false)
  | 4 => ("HiddenRelations$Place", "polynomials", "I", false)
  | 5 => ("HiddenRelations$Place", "used", "I", false)
  | 6 => ("HiddenRelations$Place", "height", "I", false)
  | 7 => ("HiddenRelations$Place", "holds", "I", false)
  | _ => ("HiddenRelations$Place", "p", "I", false)
def aTy3 : Nat → FieldType := fun k => match k with
  | 0 => (.array (.array .int))
  | 1 => .boolean
  | 2 => .int
  | 3 => .int
  | 4 => .int
  | 5 => .int
  | 6 => .int
  | 7 => .int
  | _ => .int
theorem aNm3 : ∀ a, a < 9 → ∀ b, b < 9 → a ≠ b → (aT3 a).2.1 ≠ (aT3 b).2.1 := by decide +kernel
theorem aTyOk3 : ∀ k, k < 9 → parseFieldDescriptor (aT3 k).2.2.1 = some (aTy3 k) := by decide +kernel
def aT4 : u_T := fun k => match k with
  | 0 => ("HiddenRelations$Reader", "numbers", "LHiddenRelations$Numbers;", true)
  | 1 => ("HiddenRelations$Reader", "tape", "[I", true)
  | 2 => ("HiddenRelations$Reader", "size", "I", false)
  | 3 => ("HiddenRelations$Reader", "next", "I", false)
  | 4 => ("HiddenRelations$Reader", "token", "I", false)
  | 5 => ("HiddenRelations$Reader", "place", "I", false)
  | 6 => ("HiddenRelations$Reader", "value", "I", false)
  | 7 => ("HiddenRelations$Reader", "state", "I", false)
  | 8 => ("HiddenRelations$Reader", "fault", "I", false)
  | 9 => ("HiddenRelations$Reader", "hole", "I", false)
  | 10 => ("HiddenRelations$Reader", "level", "I", false)
  | 11 => ("HiddenRelations$Reader", "sums", "[[I", true)
  | 12 => ("HiddenRelations$Reader", "terms", "[[I", true)
  | 13 => ("HiddenRelations$Reader", "powers", "[[I", true)
  | 14 => ("HiddenRelations$Reader", "minus", "[Z", true)
  | 15 => ("HiddenRelations$Reader", "joins", "[I", true)
  | 16 => ("HiddenRelations$Reader", "joinPlaces", "[I", true)
  | _ => ("HiddenRelations$Reader", "base", "[I", true)
def aTy4 : Nat → FieldType := fun k => match k with
  | 0 => (.object "HiddenRelations$Numbers")
  | 1 => (.array .int)
  | 2 => .int
  | 3 => .int
  | 4 => .int
  | 5 => .int
  | 6 => .int
  | 7 => .int
  | 8 => .int
  | 9 => .int
  | 10 => .int
  | 11 => (.array (.array .int))
  | 12 => (.array (.array .int))
  | 13 => (.array (.array .int))
  | 14 => (.array .boolean)
  | 15 => (.array .int)
  | 16 => (.array .int)
  | _ => (.array .int)
theorem aNm4 : ∀ a, a < 18 → ∀ b, b < 18 → a ≠ b → (aT4 a).2.1 ≠ (aT4 b).2.1 := by decide +kernel
theorem aTyOk4 : ∀ k, k < 18 → parseFieldDescriptor (aT4 k).2.2.1 = some (aTy4 k) := by decide +kernel
def aT5 : u_T := fun k => match k with
  | 0 => ("HiddenRelations$Sheet", "kept", "[I", true)
  | 1 => ("HiddenRelations$Sheet", "sort", "I", false)
  | _ => ("HiddenRelations$Sheet", "size", "I", false)
def aTy5 : Nat → FieldType := fun k => match k with
  | 0 => (.array .int)
  | 1 => .int
  | _ => .int
theorem aNm5 : ∀ a, a < 3 → ∀ b, b < 3 → a ≠ b → (aT5 a).2.1 ≠ (aT5 b).2.1 := by decide +kernel
theorem aTyOk5 : ∀ k, k < 3 → parseFieldDescriptor (aT5 k).2.2.1 = some (aTy5 k) := by decide +kernel
def aT6 : u_T := fun k => match k with
  | 0 => ("HiddenRelations", "numbers", "LHiddenRelations$Numbers;", true)
  | 1 => ("HiddenRelations", "all", "[[I", true)
  | 2 => ("HiddenRelations", "reader", "LHiddenRelations$Reader;", true)
  | 3 => ("HiddenRelations", "chosen", "I", false)
  | 4 => ("HiddenRelations", "upTo", "I", false)
  | 5 => ("HiddenRelations", "lifts", "[I", true)
  | 6 => ("HiddenRelations", "basis", "LHiddenRelations$Basis;", true)
  | 7 => ("HiddenRelations", "stale", "Z", false)
  | 8 => ("HiddenRelations", "parts", "[[I", true)
  | 9 => ("HiddenRelations", "partLifts", "[I", true)
  | 10 => ("HiddenRelations", "factor", "[I", true)
  | 11 => ("HiddenRelations", "sum", "[I", true)
  | 12 => ("HiddenRelations", "ledger", "LHiddenRelations$Ledger;", true)
  | _ => ("HiddenRelations", "sheets", "[LHiddenRelations$Sheet;", true)
def aTy6 : Nat → FieldType := fun k => match k with
  | 0 => (.object "HiddenRelations$Numbers")
  | 1 => (.array (.array .int))
  | 2 => (.object "HiddenRelations$Reader")
  | 3 => .int
  | 4 => .int
  | 5 => (.array .int)
  | 6 => (.object "HiddenRelations$Basis")
  | 7 => .boolean
  | 8 => (.array (.array .int))
  | 9 => (.array .int)
  | 10 => (.array .int)
  | 11 => (.array .int)
  | 12 => (.object "HiddenRelations$Ledger")
  | _ => (.array (.object "HiddenRelations$Sheet"))
theorem aNm6 : ∀ a, a < 14 → ∀ b, b < 14 → a ≠ b → (aT6 a).2.1 ≠ (aT6 b).2.1 := by decide +kernel
theorem aTyOk6 : ∀ k, k < 14 → parseFieldDescriptor (aT6 k).2.2.1 = some (aTy6 k) := by decide +kernel
def aT7 : u_T := fun k => match k with
  | 0 => ("HiddenRelationsModel", "p", "I", false)
  | 1 => ("HiddenRelationsModel", "terms", "[I", true)
  | 2 => ("HiddenRelationsModel", "thrown", "I", false)
  | 3 => ("HiddenRelationsModel", "made", "[I", true)
  | 4 => ("HiddenRelationsModel", "one", "[I", true)
  | 5 => ("HiddenRelationsModel", "other", "[I", true)
  | 6 => ("HiddenRelationsModel", "tape", "[I", true)
  | 7 => ("HiddenRelationsModel", "taped", "I", false)
  | 8 => ("HiddenRelationsModel", "at", "I", false)
  | 9 => ("HiddenRelationsModel", "begun", "I", false)
  | 10 => ("HiddenRelationsModel", "token", "I", false)
  | 11 => ("HiddenRelationsModel", "value", "I", false)
  | 12 => ("HiddenRelationsModel", "sums", "[I", true)
  | 13 => ("HiddenRelationsModel", "products", "[I", true)
  | 14 => ("HiddenRelationsModel", "less", "[Z", true)
  | 15 => ("HiddenRelationsModel", "waits", "[I", true)
  | 16 => ("HiddenRelationsModel", "waitsAt", "[I", true)
  | 17 => ("HiddenRelationsModel", "open", "I", false)
  | 18 => ("HiddenRelationsModel", "hole", "I", false)
  | 19 => ("HiddenRelationsModel", "part", "[I", true)
  | 20 => ("HiddenRelationsModel", "wants", "I", false)
  | 21 => ("HiddenRelationsModel", "mayRaise", "Z", false)
  | 22 => ("HiddenRelationsModel", "chosen", "I", false)
  | 23 => ("HiddenRelationsModel", "lifts", "[I", true)
  | 24 => ("HiddenRelationsModel", "order", "I", false)
  | 25 => ("HiddenRelationsModel", "many", "I", false)
  | 26 => ("HiddenRelationsModel", "to", "I", false)
  | 27 => ("HiddenRelationsModel", "series", "[I", true)
  | 28 => ("HiddenRelationsModel", "shifts", "[I", true)
  | 29 => ("HiddenRelationsModel", "basis", "[I", true)
  | 30 => ("HiddenRelationsModel", "degrees", "[I", true)
  | 31 => ("HiddenRelationsModel", "aheadMany", "I", false)
  | 32 => ("HiddenRelationsModel", "ahead", "[I", true)
  | 33 => ("HiddenRelationsModel", "left", "[I", true)
  | 34 => ("HiddenRelationsModel", "parts", "[I", true)
  | 35 => ("HiddenRelationsModel", "heads", "[I", true)
  | 36 => ("HiddenRelationsModel", "now", "[I", true)
  | 37 => ("HiddenRelationsModel", "nowOf", "[I", true)
  | 38 => ("HiddenRelationsModel", "kept", "I", false)
  | 39 => ("HiddenRelationsModel", "given", "I", false)
  | 40 => ("HiddenRelationsModel", "names", "[I", true)
  | 41 => ("HiddenRelationsModel", "kinds", "[I", true)
  | 42 => ("HiddenRelationsModel", "counts", "[I", true)
  | 43 => ("HiddenRelationsModel", "used", "[I", true)
  | 44 => ("HiddenRelationsModel", "heights", "[I", true)
  | 45 => ("HiddenRelationsModel", "holds", "[I", true)
  | 46 => ("HiddenRelationsModel", "fields", "[I", true)
  | 47 => ("HiddenRelationsModel", "proofs", "[I", true)
  | 48 => ("HiddenRelationsModel", "sizes", "[I", true)
  | 49 => ("HiddenRelationsModel", "sorts", "[I", true)
  | 50 => ("HiddenRelationsModel", "items", "[I", true)
  | _ => ("HiddenRelationsModel", "lifted", "[I", true)
def aTy7 : Nat → FieldType := fun k => match k with
  | 0 => .int
  | 1 => (.array .int)
  | 2 => .int
  | 3 => (.array .int)
  | 4 => (.array .int)
  | 5 => (.array .int)
  | 6 => (.array .int)
  | 7 => .int
  | 8 => .int
  | 9 => .int
  | 10 => .int
  | 11 => .int
  | 12 => (.array .int)
  | 13 => (.array .int)
  | 14 => (.array .boolean)
  | 15 => (.array .int)
  | 16 => (.array .int)
  | 17 => .int
  | 18 => .int
  | 19 => (.array .int)
  | 20 => .int
  | 21 => .boolean
  | 22 => .int
  | 23 => (.array .int)
  | 24 => .int
  | 25 => .int
  | 26 => .int
  | 27 => (.array .int)
  | 28 => (.array .int)
  | 29 => (.array .int)
  | 30 => (.array .int)
  | 31 => .int
  | 32 => (.array .int)
  | 33 => (.array .int)
  | 34 => (.array .int)
  | 35 => (.array .int)
  | 36 => (.array .int)
  | 37 => (.array .int)
  | 38 => .int
  | 39 => .int
  | 40 => (.array .int)
  | 41 => (.array .int)
  | 42 => (.array .int)
  | 43 => (.array .int)
  | 44 => (.array .int)
  | 45 => (.array .int)
  | 46 => (.array .int)
  | 47 => (.array .int)
  | 48 => (.array .int)
  | 49 => (.array .int)
  | 50 => (.array .int)
  | _ => (.array .int)
theorem aNm7 : ∀ a, a < 52 → ∀ b, b < 52 → a ≠ b → (aT7 a).2.1 ≠ (aT7 b).2.1 := by decide +kernel
theorem aTyOk7 : ∀ k, k < 52 → parseFieldDescriptor (aT7 k).2.2.1 = some (aTy7 k) := by decide +kernel
abbrev aCl : List vw_C := [("HiddenRelations$Basis", aT0, 6), ("HiddenRelations$Ledger", aT1, 2), ("HiddenRelations$Numbers", aT2, 2), ("HiddenRelations$Place", aT3, 9), ("HiddenRelations$Reader", aT4, 18), ("HiddenRelations$Sheet", aT5, 3), ("HiddenRelations", aT6, 14), ("HiddenRelationsModel", aT7, 52)]
/-- class names: those of the objects first -/
def aCN : Nat → String := fun k => match k with
  | 0 => "HiddenRelations$Basis"
  | 1 => "HiddenRelations$Ledger"
  | 2 => "HiddenRelations$Numbers"
  | 3 => "HiddenRelations$Place"
  | 4 => "HiddenRelations$Reader"
  | 5 => "HiddenRelations$Sheet"
  | 6 => "HiddenRelations"
  | 7 => "HiddenRelationsModel"
  | 8 => "java/lang/Integer"
  | 9 => "java/util/Arrays"
  | 10 => "java/lang/Math"
  | _ => "HiddenRelationsLaw"
def aTys : Nat → FieldType := fun k => match k with
  | 0 => .int
  | 1 => .boolean
  | 2 => .array .int
  | 3 => .object "HiddenRelations$Place"
  | 4 => .object "HiddenRelations$Sheet"
  | _ => .long
def aTyl (cA : Nat → ClassId) : List (ClassId × FieldType) := [(cA 0, aTys 0), (cA 1, aTys 1), (cA 2, aTys 2), (cA 3, aTys 3), (cA 4, aTys 4), (cA 5, aTys 5)]
def aDf : Nat → List Value := fun k => match k with
  | 0 => [.null, .null, .null, .null, .null, .int 0]
  | 1 => [.null, .int 0]
  | 2 => [.int 0, .null]
  | 3 => [.null, .int 0, .int 0, .int 0, .int 0, .int 0, .int 0, .int 0, .int 0]
  | 4 => [.null, .null, .int 0, .int 0, .int 0, .int 0, .int 0, .int 0, .int 0, .int 0, .int 0, .null, .null, .null, .null, .null, .null, .null]
  | 5 => [.null, .int 0, .int 0]
  | 6 => [.null, .null, .null, .int 0, .int 0, .null, .null, .int 0, .null, .null, .null, .null, .null, .null]
  | _ => [.int 0, .null, .int 0, .null, .null, .null, .null, .int 0, .int 0, .int 0, .int 0, .int 0, .null, .null, .null, .null, .null, .int 0, .int 0, .null, .int 0, .int 0, .int 0, .null, .int 0, .int 0, .int 0, .null, .null, .null, .null, .int 0, .null, .null, .null, .null, .null, .null, .int 0, .int 0, .null, .null, .null, .null, .null, .null, .null, .null, .null, .null, .null, .null]
/-- the words that go into a call -/
abbrev aWS : List Cond := lw_tbl.filter goodWord
theorem aT_1 {w : Cond} (i : Nat) (h : tables_1_1[i]? = some w) : w ∈ tables_1 := by
  unfold tables_1
  exact List.mem_append_left _ (List.mem_of_getElem? h)
theorem aW_1 {w : Cond} (i : Nat) (h : tables_1_1[i]? = some w) (hg : goodWord w = true) : w ∈ aWS := List.mem_filter.mpr ⟨List.mem_append_right _ (aT_1 i h), hg⟩
theorem aT_2 {w : Cond} (i : Nat) (h : tables_1_2[i]? = some w) : w ∈ tables_1 := by
  unfold tables_1
  exact List.mem_append_right _ (List.mem_append_left _ (List.mem_of_getElem? h))
theorem aW_2 {w : Cond} (i : Nat) (h : tables_1_2[i]? = some w) (hg : goodWord w = true) : w ∈ aWS := List.mem_filter.mpr ⟨List.mem_append_right _ (aT_2 i h), hg⟩
theorem aT_3 {w : Cond} (i : Nat) (h : tables_1_3[i]? = some w) : w ∈ tables_1 := by
  unfold tables_1
  exact List.mem_append_right _ (List.mem_append_right _ (List.mem_append_left _ (List.mem_of_getElem? h)))
theorem aW_3 {w : Cond} (i : Nat) (h : tables_1_3[i]? = some w) (hg : goodWord w = true) : w ∈ aWS := List.mem_filter.mpr ⟨List.mem_append_right _ (aT_3 i h), hg⟩
theorem aT_4 {w : Cond} (i : Nat) (h : tables_1_4[i]? = some w) : w ∈ tables_1 := by
  unfold tables_1
  exact List.mem_append_right _ (List.mem_append_right _ (List.mem_append_right _ (List.mem_append_left _ (List.mem_of_getElem? h))))
theorem aW_4 {w : Cond} (i : Nat) (h : tables_1_4[i]? = some w) (hg : goodWord w = true) : w ∈ aWS := List.mem_filter.mpr ⟨List.mem_append_right _ (aT_4 i h), hg⟩
theorem aT_5 {w : Cond} (i : Nat) (h : tables_1_5[i]? = some w) : w ∈ tables_1 := by
  unfold tables_1
  exact List.mem_append_right _ (List.mem_append_right _ (List.mem_append_right _ (List.mem_append_right _ (List.mem_append_left _ (List.mem_of_getElem? h)))))
theorem aW_5 {w : Cond} (i : Nat) (h : tables_1_5[i]? = some w) (hg : goodWord w = true) : w ∈ aWS := List.mem_filter.mpr ⟨List.mem_append_right _ (aT_5 i h), hg⟩
theorem aT_6 {w : Cond} (i : Nat) (h : tables_1_6[i]? = some w) : w ∈ tables_1 := by
  unfold tables_1
  exact List.mem_append_right _ (List.mem_append_right _ (List.mem_append_right _ (List.mem_append_right _ (List.mem_append_right _ (List.mem_append_left _ (List.mem_of_getElem? h))))))
theorem aW_6 {w : Cond} (i : Nat) (h : tables_1_6[i]? = some w) (hg : goodWord w = true) : w ∈ aWS := List.mem_filter.mpr ⟨List.mem_append_right _ (aT_6 i h), hg⟩
theorem aT_7 {w : Cond} (i : Nat) (h : tables_1_7[i]? = some w) : w ∈ tables_1 := by
  unfold tables_1
  exact List.mem_append_right _ (List.mem_append_right _ (List.mem_append_right _ (List.mem_append_right _ (List.mem_append_right _ (List.mem_append_right _ (List.mem_of_getElem? h))))))
theorem aW_7 {w : Cond} (i : Nat) (h : tables_1_7[i]? = some w) (hg : goodWord w = true) : w ∈ aWS := List.mem_filter.mpr ⟨List.mem_append_right _ (aT_7 i h), hg⟩
theorem aWp {w : Cond} (i : Nat) (h : (k2_sels lw_privs)[i]? = some w) (hg : goodWord w = true) : w ∈ aWS := List.mem_filter.mpr ⟨List.mem_append_left _ (List.mem_of_getElem? h), hg⟩
theorem aIn0 : ∀ w ∈ u_ws "HiddenRelations$Basis" aT0 6, w ∈ aWS := by
  intro w hw
  obtain ⟨k, hk, rfl⟩ := List.mem_map.mp hw
  have hk := List.mem_range.mp hk
  match k, hk with
  | 0, _ => exact aW_1 135 (by decide +kernel) (by decide +kernel)
  | 1, _ => exact aW_1 137 (by decide +kernel) (by decide +kernel)
  | 2, _ => exact aW_1 139 (by decide +kernel) (by decide +kernel)
  | 3, _ => exact aW_1 141 (by decide +kernel) (by decide +kernel)
  | 4, _ => exact aW_1 143 (by decide +kernel) (by decide +kernel)
  | 5, _ => exact aW_1 145 (by decide +kernel) (by decide +kernel)
  | n + 6, h => exact absurd h (by omega)
theorem aIn1 : ∀ w ∈ u_ws "HiddenRelations$Ledger" aT1 2, w ∈ aWS := by
  intro w hw
  obtain ⟨k, hk, rfl⟩ := List.mem_map.mp hw
  have hk := List.mem_range.mp hk
  match k, hk with
  | 0, _ => exact aW_1 197 (by decide +kernel) (by decide +kernel)
  | 1, _ => exact aW_1 199 (by decide +kernel) (by decide +kernel)
  | n + 2, h => exact absurd h (by omega)
theorem aIn2 : ∀ w ∈ u_ws "HiddenRelations$Numbers" aT2 2, w ∈ aWS := by
  intro w hw
  obtain ⟨k, hk, rfl⟩ := List.mem_map.mp hw
  have hk := List.mem_range.mp hk
  match k, hk with
  | 0, _ => exact aW_1 45 (by decide +kernel) (by decide +kernel)
  | 1, _ => exact aW_1 47 (by decide +kernel) (by decide +kernel)
  | n + 2, h => exact absurd h (by omega)
theorem aIn3 : ∀ w ∈ u_ws "HiddenRelations$Place" aT3 9, w ∈ aWS := by
  intro w hw
  obtain ⟨k, hk, rfl⟩ := List.mem_map.mp hw
  have hk := List.mem_range.mp hk
  match k, hk with
  | 0, _ => exact aW_1 175 (by decide +kernel) (by decide +kernel)
  | 1, _ => exact aW_1 177 (by decide +kernel) (by decide +kernel)
  | 2, _ => exact aW_1 179 (by decide +kernel) (by decide +kernel)
  | 3, _ => exact aW_1 181 (by decide +kernel) (by decide +kernel)
  | 4, _ => exact aW_1 183 (by decide +kernel) (by decide +kernel)
  | 5, _ => exact aW_1 185 (by decide +kernel) (by decide +kernel)
  | 6, _ => exact aW_1 187 (by decide +kernel) (by decide +kernel)
  | 7, _ => exact aW_1 189 (by decide +kernel) (by decide +kernel)
  | 8, _ => exact aW_1 191 (by decide +kernel) (by decide +kernel)
  | n + 9, h => exact absurd h (by omega)
theorem aIn4 : ∀ w ∈ u_ws "HiddenRelations$Reader" aT4 18, w ∈ aWS := by
  intro w hw
  obtain ⟨k, hk, rfl⟩ := List.mem_map.mp hw
  have hk := List.mem_range.mp hk
  match k, hk with
  | 0, _ => exact aW_1 79 (by decide +kernel) (by decide +kernel)
  | 1, _ => exact aW_1 81 (by decide +kernel) (by decide +kernel)
  | 2, _ => exact aW_1 83 (by decide +kernel) (by decide +kernel)
  | 3, _ => exact aW_1 85 (by decide +kernel) (by decide +kernel)
  | 4, _ => exact aW_1 87 (by decide +kernel) (by decide +kernel)
  | 5, _ => exact aW_1 89 (by decide +kernel) (by decide +kernel)
  | 6, _ => exact aW_1 91 (by decide +kernel) (by decide +kernel)
  | 7, _ => exact aW_1 93 (by decide +kernel) (by decide +kernel)
  | 8, _ => exact aW_1 95 (by decide +kernel) (by decide +kernel)
  | 9, _ => exact aW_1 97 (by decide +kernel) (by decide +kernel)
  | 10, _ => exact aW_1 99 (by decide +kernel) (by decide +kernel)
  | 11, _ => exact aW_1 101 (by decide +kernel) (by decide +kernel)
  | 12, _ => exact aW_1 103 (by decide +kernel) (by decide +kernel)
  | 13, _ => exact aW_1 105 (by decide +kernel) (by decide +kernel)
  | 14, _ => exact aW_1 107 (by decide +kernel) (by decide +kernel)
  | 15, _ => exact aW_1 109 (by decide +kernel) (by decide +kernel)
  | 16, _ => exact aW_1 111 (by decide +kernel) (by decide +kernel)
  | 17, _ => exact aW_1 113 (by decide +kernel) (by decide +kernel)
  | n + 18, h => exact absurd h (by omega)
theorem aIn5 : ∀ w ∈ u_ws "HiddenRelations$Sheet" aT5 3, w ∈ aWS := by
  intro w hw
  obtain ⟨k, hk, rfl⟩ := List.mem_map.mp hw
  have hk := List.mem_range.mp hk
  match k, hk with
  | 0, _ => exact aW_1 215 (by decide +kernel) (by decide +kernel)
  | 1, _ => exact aW_1 217 (by decide +kernel) (by decide +kernel)
  | 2, _ => exact aW_1 219 (by decide +kernel) (by decide +kernel)
  | n + 3, h => exact absurd h (by omega)
theorem aIn6 : ∀ w ∈ u_ws "HiddenRelations" aT6 14, w ∈ aWS := by
  intro w hw
  obtain ⟨k, hk, rfl⟩ := List.mem_map.mp hw
  have hk := List.mem_range.mp hk
  match k, hk with
  | 0, _ => exact aW_1 236 (by decide +kernel) (by decide +kernel)
  | 1, _ => exact aW_1 238 (by decide +kernel) (by decide +kernel)
  | 2, _ => exact aW_2 0 (by decide +kernel) (by decide +kernel)
  | 3, _ => exact aW_2 2 (by decide +kernel) (by decide +kernel)
  | 4, _ => exact aW_2 4 (by decide +kernel) (by decide +kernel)
  | 5, _ => exact aW_2 6 (by decide +kernel) (by decide +kernel)
  | 6, _ => exact aW_2 8 (by decide +kernel) (by decide +kernel)
  | 7, _ => exact aW_2 10 (by decide +kernel) (by decide +kernel)
  | 8, _ => exact aW_2 12 (by decide +kernel) (by decide +kernel)
  | 9, _ => exact aW_2 14 (by decide +kernel) (by decide +kernel)
  | 10, _ => exact aW_2 16 (by decide +kernel) (by decide +kernel)
  | 11, _ => exact aW_2 18 (by decide +kernel) (by decide +kernel)
  | 12, _ => exact aW_2 20 (by decide +kernel) (by decide +kernel)
  | 13, _ => exact aW_2 22 (by decide +kernel) (by decide +kernel)
  | n + 14, h => exact absurd h (by omega)
theorem aIn7 : ∀ w ∈ u_ws "HiddenRelationsModel" aT7 52, w ∈ aWS := by
  intro w hw
  obtain ⟨k, hk, rfl⟩ := List.mem_map.mp hw
  have hk := List.mem_range.mp hk
  match k, hk with
  | 0, _ => exact aW_5 135 (by decide +kernel) (by decide +kernel)
  | 1, _ => exact aW_5 137 (by decide +kernel) (by decide +kernel)
  | 2, _ => exact aW_5 139 (by decide +kernel) (by decide +kernel)
  | 3, _ => exact aW_5 141 (by decide +kernel) (by decide +kernel)
  | 4, _ => exact aW_5 143 (by decide +kernel) (by decide +kernel)
  | 5, _ => exact aW_5 145 (by decide +kernel) (by decide +kernel)
  | 6, _ => exact aW_5 147 (by decide +kernel) (by decide +kernel)
  | 7, _ => exact aW_5 149 (by decide +kernel) (by decide +kernel)
  | 8, _ => exact aW_5 151 (by decide +kernel) (by decide +kernel)
  | 9, _ => exact aW_5 153 (by decide +kernel) (by decide +kernel)
  | 10, _ => exact aW_5 155 (by decide +kernel) (by decide +kernel)
  | 11, _ => exact aW_5 157 (by decide +kernel) (by decide +kernel)
  | 12, _ => exact aW_5 159 (by decide +kernel) (by decide +kernel)
  | 13, _ => exact aW_5 161 (by decide +kernel) (by decide +kernel)
  | 14, _ => exact aW_5 163 (by decide +kernel) (by decide +kernel)
  | 15, _ => exact aW_5 165 (by decide +kernel) (by decide +kernel)
  | 16, _ => exact aW_5 167 (by decide +kernel) (by decide +kernel)
  | 17, _ => exact aW_5 169 (by decide +kernel) (by decide +kernel)
  | 18, _ => exact aW_5 171 (by decide +kernel) (by decide +kernel)
  | 19, _ => exact aW_5 173 (by decide +kernel) (by decide +kernel)
  | 20, _ => exact aW_5 175 (by decide +kernel) (by decide +kernel)
  | 21, _ => exact aW_5 177 (by decide +kernel) (by decide +kernel)
  | 22, _ => exact aW_5 179 (by decide +kernel) (by decide +kernel)
  | 23, _ => exact aW_5 181 (by decide +kernel) (by decide +kernel)
  | 24, _ => exact aW_5 183 (by decide +kernel) (by decide +kernel)
  | 25, _ => exact aW_5 185 (by decide +kernel) (by decide +kernel)
  | 26, _ => exact aW_5 187 (by decide +kernel) (by decide +kernel)
  | 27, _ => exact aW_5 189 (by decide +kernel) (by decide +kernel)
  | 28, _ => exact aW_5 191 (by decide +kernel) (by decide +kernel)
  | 29, _ => exact aW_5 193 (by decide +kernel) (by decide +kernel)
  | 30, _ => exact aW_5 195 (by decide +kernel) (by decide +kernel)
  | 31, _ => exact aW_5 197 (by decide +kernel) (by decide +kernel)
  | 32, _ => exact aW_5 199 (by decide +kernel) (by decide +kernel)
  | 33, _ => exact aW_5 201 (by decide +kernel) (by decide +kernel)
  | 34, _ => exact aW_5 203 (by decide +kernel) (by decide +kernel)
  | 35, _ => exact aW_5 205 (by decide +kernel) (by decide +kernel)
  | 36, _ => exact aW_5 207 (by decide +kernel) (by decide +kernel)
  | 37, _ => exact aW_5 209 (by decide +kernel) (by decide +kernel)
  | 38, _ => exact aW_5 211 (by decide +kernel) (by decide +kernel)
  | 39, _ => exact aW_5 213 (by decide +kernel) (by decide +kernel)
  | 40, _ => exact aW_5 215 (by decide +kernel) (by decide +kernel)
  | 41, _ => exact aW_5 217 (by decide +kernel) (by decide +kernel)
  | 42, _ => exact aW_5 219 (by decide +kernel) (by decide +kernel)
  | 43, _ => exact aW_5 221 (by decide +kernel) (by decide +kernel)
  | 44, _ => exact aW_5 223 (by decide +kernel) (by decide +kernel)
  | 45, _ => exact aW_5 225 (by decide +kernel) (by decide +kernel)
  | 46, _ => exact aW_5 227 (by decide +kernel) (by decide +kernel)
  | 47, _ => exact aW_5 229 (by decide +kernel) (by decide +kernel)
  | 48, _ => exact aW_5 231 (by decide +kernel) (by decide +kernel)
  | 49, _ => exact aW_5 233 (by decide +kernel) (by decide +kernel)
  | 50, _ => exact aW_5 235 (by decide +kernel) (by decide +kernel)
  | 51, _ => exact aW_5 237 (by decide +kernel) (by decide +kernel)
  | n + 52, h => exact absurd h (by omega)
/-- the words of the nest, and of arrays of references: kept by the way of any call -/
def aNW : List Cond := [
  .methodLinkNest "HiddenRelations" 9 ⟨"HiddenRelations$Numbers", "<init>", "()V"⟩ "HiddenRelations",
  .fieldLinkNest "HiddenRelations" 82 "HiddenRelations$Numbers" "p" "I" "HiddenRelations",
  .methodLinkNest "HiddenRelations" 23 ⟨"HiddenRelations$Reader", "<init>", "(LHiddenRelations$Numbers;)V"⟩ "HiddenRelations",
  .fieldLinkNest "HiddenRelations" 133 "HiddenRelations$Reader" "size" "I" "HiddenRelations",
  .methodLinkNest "HiddenRelations" 43 ⟨"HiddenRelations$Basis", "<init>", "(LHiddenRelations$Numbers;)V"⟩ "HiddenRelations",
  .fieldLinkNest "HiddenRelations$Place" 31 "HiddenRelations$Basis" "rests" "[[I" "HiddenRelations",
  .fieldLinkNest "HiddenRelations" 172 "HiddenRelations$Basis" "rests" "[[I" "HiddenRelations",
  .fieldLinkNest "HiddenRelations" 169 "HiddenRelations$Basis" "degrees" "[I" "HiddenRelations",
  .fieldLinkNest "HiddenRelations$Place" 16 "HiddenRelations$Basis" "size" "I" "HiddenRelations",
  .fieldLinkNest "HiddenRelations" 152 "HiddenRelations$Basis" "size" "I" "HiddenRelations",
  .methodLinkNest "HiddenRelations" 66 ⟨"HiddenRelations$Ledger", "<init>", "()V"⟩ "HiddenRelations",
  .methodLinkNest "HiddenRelations$Ledger" 17 ⟨"HiddenRelations$Place", "<init>", "()V"⟩ "HiddenRelations",
  .fieldLinkNest "HiddenRelations$Ledger" 18 "HiddenRelations$Place" "kept" "Z" "HiddenRelations",
  .fieldLinkNest "HiddenRelations" 243 "HiddenRelations$Place" "kept" "Z" "HiddenRelations",
  .fieldLinkNest "HiddenRelations$Ledger" 22 "HiddenRelations$Place" "number" "I" "HiddenRelations",
  .fieldLinkNest "HiddenRelations" 208 "HiddenRelations$Place" "kind" "I" "HiddenRelations",
  .fieldLinkNest "HiddenRelations" 229 "HiddenRelations$Place" "polynomials" "I" "HiddenRelations",
  .fieldLinkNest "HiddenRelations" 213 "HiddenRelations$Place" "used" "I" "HiddenRelations",
  .fieldLinkNest "HiddenRelations" 232 "HiddenRelations$Place" "height" "I" "HiddenRelations",
  .fieldLinkNest "HiddenRelations" 234 "HiddenRelations$Place" "holds" "I" "HiddenRelations",
  .fieldLinkNest "HiddenRelations" 216 "HiddenRelations$Place" "p" "I" "HiddenRelations",
  .fieldLinkNest "HiddenRelations" 292 "HiddenRelations$Ledger" "given" "I" "HiddenRelations",
  .methodLinkNest "HiddenRelations" 77 ⟨"HiddenRelations$Sheet", "<init>", "()V"⟩ "HiddenRelations",
  .fieldLinkNest "HiddenRelations" 281 "HiddenRelations$Sheet" "kept" "[I" "HiddenRelations",
  .fieldLinkNest "HiddenRelations" 278 "HiddenRelations$Sheet" "sort" "I" "HiddenRelations",
  .fieldLinkNest "HiddenRelations" 283 "HiddenRelations$Sheet" "size" "I" "HiddenRelations",
  .methodLinkNest "HiddenRelations" 78 ⟨"HiddenRelations$Numbers", "isPrime", "(I)Z"⟩ "HiddenRelations",
  .methodLinkNest "HiddenRelations" 97 ⟨"HiddenRelations$Numbers", "taken", "(I)I"⟩ "HiddenRelations",
  .methodLinkNest "HiddenRelations" 101 ⟨"HiddenRelations$Numbers", "combine", "([II[II[I)V"⟩ "HiddenRelations",
  .methodLinkNest "HiddenRelations" 105 ⟨"HiddenRelations$Numbers", "multiply", "([I[I[I)V"⟩ "HiddenRelations",
  .methodLinkNest "HiddenRelations" 109 ⟨"HiddenRelations$Numbers", "constant", "(I[I)V"⟩ "HiddenRelations",
  .methodLinkNest "HiddenRelations" 113 ⟨"HiddenRelations$Numbers", "divide", "([I[I[I)V"⟩ "HiddenRelations",
  .methodLinkNest "HiddenRelations" 116 ⟨"HiddenRelations$Numbers", "weight", "([I[I)V"⟩ "HiddenRelations",
  .methodLinkNest "HiddenRelations" 129 ⟨"HiddenRelations$Reader", "append", "(II)Z"⟩ "HiddenRelations",
  .methodLinkNest "HiddenRelations" 136 ⟨"HiddenRelations$Reader", "read", "([I)I"⟩ "HiddenRelations",
  .methodLinkNest "HiddenRelations$Reader" 112 ⟨"HiddenRelations$Numbers", "constant", "(I[I)V"⟩ "HiddenRelations",
  .methodLinkNest "HiddenRelations$Reader" 121 ⟨"HiddenRelations$Numbers", "multiply", "([I[I[I)V"⟩ "HiddenRelations",
  .methodLinkNest "HiddenRelations$Reader" 131 ⟨"HiddenRelations$Numbers", "divide", "([I[I[I)V"⟩ "HiddenRelations",
  .methodLinkNest "HiddenRelations$Reader" 134 ⟨"HiddenRelations$Numbers", "combine", "([II[II[I)V"⟩ "HiddenRelations",
  .methodLinkNest "HiddenRelations" 140 ⟨"HiddenRelations$Numbers", "leadingZeros", "([I)I"⟩ "HiddenRelations",
  .methodLinkNest "HiddenRelations" 204 ⟨"HiddenRelations$Basis", "build", "([[I[III)V"⟩ "HiddenRelations",
  .methodLinkNest "HiddenRelations$Basis" 66 ⟨"HiddenRelations$Numbers", "reciprocal", "(I)I"⟩ "HiddenRelations",
  .methodLinkNest "HiddenRelations$Basis" 71 ⟨"HiddenRelations$Numbers", "taken", "(I)I"⟩ "HiddenRelations",
  .methodLinkNest "HiddenRelations" 153 ⟨"HiddenRelations$Basis", "allDegrees", "()I"⟩ "HiddenRelations",
  .methodLinkNest "HiddenRelations" 157 ⟨"HiddenRelations$Basis", "leastRow", "()I"⟩ "HiddenRelations",
  .methodLinkNest "HiddenRelations" 160 ⟨"HiddenRelations$Basis", "height", "(I)I"⟩ "HiddenRelations",
  .methodLinkNest "HiddenRelations" 163 ⟨"HiddenRelations$Basis", "greatestHeight", "()I"⟩ "HiddenRelations",
  .methodLinkNest "HiddenRelations" 175 ⟨"HiddenRelations$Basis", "coefficient", "(III)I"⟩ "HiddenRelations",
  .methodLinkNest "HiddenRelations" 182 ⟨"HiddenRelations$Sheet", "isMissing", "()Z"⟩ "HiddenRelations",
  .methodLinkNest "HiddenRelations" 189 ⟨"HiddenRelations$Sheet", "numberOrZero", "(I)I"⟩ "HiddenRelations",
  .methodLinkNest "HiddenRelations" 196 ⟨"HiddenRelations$Ledger", "freePlace", "()LHiddenRelations$Place;"⟩ "HiddenRelations",
  .methodLinkNest "HiddenRelations" 217 ⟨"HiddenRelations$Place", "keepRow", "(LHiddenRelations$Basis;I)V"⟩ "HiddenRelations",
  .methodLinkNest "HiddenRelations$Place" 25 ⟨"HiddenRelations$Basis", "height", "(I)I"⟩ "HiddenRelations",
  .methodLinkNest "HiddenRelations$Place" 34 ⟨"HiddenRelations$Numbers", "leadingZeros", "([I)I"⟩ "HiddenRelations",
  .methodLinkNest "HiddenRelations$Place" 43 ⟨"HiddenRelations$Basis", "coefficient", "(III)I"⟩ "HiddenRelations",
  .methodLinkNest "HiddenRelations" 221 ⟨"HiddenRelations$Ledger", "giveNumber", "(LHiddenRelations$Place;)I"⟩ "HiddenRelations",
  .methodLinkNest "HiddenRelations" 225 ⟨"HiddenRelations$Ledger", "find", "(I)LHiddenRelations$Place;"⟩ "HiddenRelations",
  .methodLinkNest "HiddenRelations" 237 ⟨"HiddenRelations$Place", "coefficient", "(II)I"⟩ "HiddenRelations",
  .methodLinkNest "HiddenRelations" 240 ⟨"HiddenRelations$Place", "copyPolynomial", "(I[I)V"⟩ "HiddenRelations",
  .methodLinkNest "HiddenRelations" 246 ⟨"HiddenRelations$Ledger", "size", "()I"⟩ "HiddenRelations",
  .methodLinkNest "HiddenRelations" 248 ⟨"HiddenRelations$Ledger", "numberInTurn", "(I)I"⟩ "HiddenRelations",
  .methodLinkNest "HiddenRelations" 251 ⟨"HiddenRelations$Sheet", "begin", "(II)V"⟩ "HiddenRelations",
  .methodLinkNest "HiddenRelations" 255 ⟨"HiddenRelations$Sheet", "hasPlaces", "(II)Z"⟩ "HiddenRelations",
  .methodLinkNest "HiddenRelations" 258 ⟨"HiddenRelations$Sheet", "keep", "(II)V"⟩ "HiddenRelations"]
set_option maxRecDepth 20000 in
theorem aNW_in : ∀ w ∈ aNW, w ∈ lw_tbl := by
  have h : ∀ w ∈ aNW, w ∈ tables_1 := by
    intro w hw
    simp only [aNW, List.mem_cons, List.not_mem_nil, or_false] at hw
    rcases hw with rfl | rfl | rfl | rfl | rfl | rfl | rfl | rfl | rfl | rfl | rfl | rfl | rfl | rfl | rfl | rfl | rfl | rfl | rfl | rfl | rfl | rfl | rfl | rfl | rfl | rfl | rfl | rfl | rfl | rfl | rfl | rfl | rfl | rfl | rfl | rfl | rfl | rfl | rfl | rfl | rfl | rfl | rfl | rfl | rfl | rfl | rfl | rfl | rfl | rfl | rfl | rfl | rfl | rfl | rfl | rfl | rfl | rfl | rfl | rfl | rfl | rfl | rfl | rfl
    · exact aT_1 38 (by decide +kernel)
    · exact aT_1 43 (by decide +kernel)
    · exact aT_1 55 (by decide +kernel)
    · exact aT_1 63 (by decide +kernel)
    · exact aT_1 119 (by decide +kernel)
    · exact aT_1 127 (by decide +kernel)
    · exact aT_1 128 (by decide +kernel)
    · exact aT_1 130 (by decide +kernel)
    · exact aT_1 132 (by decide +kernel)
    · exact aT_1 134 (by decide +kernel)
    · exact aT_1 150 (by decide +kernel)
    · exact aT_1 157 (by decide +kernel)
    · exact aT_1 163 (by decide +kernel)
    · exact aT_1 164 (by decide +kernel)
    · exact aT_1 165 (by decide +kernel)
    · exact aT_1 166 (by decide +kernel)
    · exact aT_1 168 (by decide +kernel)
    · exact aT_1 169 (by decide +kernel)
    · exact aT_1 171 (by decide +kernel)
    · exact aT_1 173 (by decide +kernel)
    · exact aT_1 174 (by decide +kernel)
    · exact aT_1 196 (by decide +kernel)
    · exact aT_1 205 (by decide +kernel)
    · exact aT_1 210 (by decide +kernel)
    · exact aT_1 212 (by decide +kernel)
    · exact aT_1 214 (by decide +kernel)
    · exact aT_2 29 (by decide +kernel)
    · exact aT_2 45 (by decide +kernel)
    · exact aT_2 60 (by decide +kernel)
    · exact aT_2 69 (by decide +kernel)
    · exact aT_2 77 (by decide +kernel)
    · exact aT_2 82 (by decide +kernel)
    · exact aT_2 97 (by decide +kernel)
    · exact aT_3 208 (by decide +kernel)
    · exact aT_3 216 (by decide +kernel)
    · exact aT_3 225 (by decide +kernel)
    · exact aT_4 17 (by decide +kernel)
    · exact aT_4 26 (by decide +kernel)
    · exact aT_4 31 (by decide +kernel)
    · exact aT_4 36 (by decide +kernel)
    · exact aT_4 69 (by decide +kernel)
    · exact aT_4 84 (by decide +kernel)
    · exact aT_4 85 (by decide +kernel)
    · exact aT_4 102 (by decide +kernel)
    · exact aT_4 106 (by decide +kernel)
    · exact aT_4 110 (by decide +kernel)
    · exact aT_4 111 (by decide +kernel)
    · exact aT_4 128 (by decide +kernel)
    · exact aT_4 144 (by decide +kernel)
    · exact aT_4 148 (by decide +kernel)
    · exact aT_4 160 (by decide +kernel)
    · exact aT_4 168 (by decide +kernel)
    · exact aT_4 172 (by decide +kernel)
    · exact aT_4 173 (by decide +kernel)
    · exact aT_4 174 (by decide +kernel)
    · exact aT_4 175 (by decide +kernel)
    · exact aT_4 183 (by decide +kernel)
    · exact aT_4 191 (by decide +kernel)
    · exact aT_4 199 (by decide +kernel)
    · exact aT_4 213 (by decide +kernel)
    · exact aT_4 221 (by decide +kernel)
    · exact aT_4 233 (by decide +kernel)
    · exact aT_5 2 (by decide +kernel)
    · exact aT_5 6 (by decide +kernel)
  exact fun w hw => List.mem_append_right _ (h w hw)
/-- arrays of references -/
def aNO : List Cond := [.arrayOver (.array .int), .arrayOver (.object "HiddenRelations$Place"), .arrayOver (.object "HiddenRelations$Sheet")]
theorem aNO_in : ∀ w ∈ aNO, w ∈ lw_tbl := by
  have h : ∀ w ∈ aNO, w ∈ tables_1 := by
    intro w hw
    simp only [aNO, List.mem_cons, List.not_mem_nil, or_false] at hw
    rcases hw with rfl | rfl | rfl
    · exact aT_1 52 (by decide +kernel)
    · exact aT_1 155 (by decide +kernel)
    · exact aT_1 203 (by decide +kernel)
  exact fun w hw => List.mem_append_right _ (h w hw)
abbrev aMr : Type := Nat × MethodName × ByteArray × Nat × Option FieldType × Nat × Nat × Nat × Nat
/-- the methods, callees first: class number, name, code, locals, what it returns, kind (0 static, 1 of an object, 2 constructor), cells, slots, how many parameters -/
def aM0 : aMr := (8, ⟨"java/lang/Integer", "bitCount", "(I)I"⟩, prog_17_method_49_code, 1, (some .int), 0, 0, 0, 1)
def aM1 : aMr := (9, ⟨"java/util/Arrays", "fill", "([II)V"⟩, prog_27_method_103_code, 4, none, 0, 0, 0, 2)
def aM2 : aMr := (9, ⟨"java/util/Arrays", "rangeCheck", "(III)V"⟩, prog_27_method_30_code, 3, none, 0, 0, 0, 3)
def aM3 : aMr := (9, ⟨"java/util/Arrays", "fill", "([IIII)V"⟩, prog_27_method_104_code, 5, none, 0, 0, 0, 4)
def aM4 : aMr := (10, ⟨"java/lang/Math", "floorMod", "(II)I"⟩, prog_18_method_50_code, 3, (some .int), 0, 0, 0, 2)
def aM5 : aMr := (10, ⟨"java/lang/Math", "max", "(II)I"⟩, prog_18_method_65_code, 2, (some .int), 0, 0, 0, 2)
def aM6 : aMr := (10, ⟨"java/lang/Math", "min", "(II)I"⟩, prog_18_method_69_code, 2, (some .int), 0, 0, 0, 2)
def aM7 : aMr := (0, ⟨"HiddenRelations$Basis", "allDegrees", "()I"⟩, prog_2_method_5_code, 3, (some .int), 1, 0, 0, 0)
def aM8 : aMr := (0, ⟨"HiddenRelations$Basis", "height", "(I)I"⟩, prog_2_method_3_code, 2, (some .int), 1, 0, 0, 1)
def aM9 : aMr := (2, ⟨"HiddenRelations$Numbers", "reciprocal", "(I)I"⟩, prog_4_method_5_code, 5, (some .int), 1, 0, 0, 1)
def aM10 : aMr := (2, ⟨"HiddenRelations$Numbers", "taken", "(I)I"⟩, prog_4_method_4_code, 2, (some .int), 1, 0, 0, 1)
def aM11 : aMr := (0, ⟨"HiddenRelations$Basis", "subtract", "(IIII)V"⟩, prog_2_method_10_code, 8, none, 1, 0, 0, 4)
def aM12 : aMr := (0, ⟨"HiddenRelations$Basis", "raise", "(I)V"⟩, prog_2_method_9_code, 3, none, 1, 0, 0, 1)
def aM13 : aMr := (0, ⟨"HiddenRelations$Basis", "clearTerm", "(I)V"⟩, prog_2_method_8_code, 5, none, 1, 0, 0, 1)
def aM14 : aMr := (0, ⟨"HiddenRelations$Basis", "coefficient", "(III)I"⟩, prog_2_method_4_code, 4, (some .int), 1, 0, 0, 3)
def aM15 : aMr := (0, ⟨"HiddenRelations$Basis", "reduce", "(I)V"⟩, prog_2_method_11_code, 5, none, 1, 0, 0, 1)
def aM16 : aMr := (0, ⟨"HiddenRelations$Basis", "build", "([[I[III)V"⟩, prog_2_method_2_code, 6, none, 1, 0, 0, 4)
def aM17 : aMr := (0, ⟨"HiddenRelations$Basis", "greatestHeight", "()I"⟩, prog_2_method_7_code, 3, (some .int), 1, 0, 0, 0)
def aM18 : aMr := (0, ⟨"HiddenRelations$Basis", "<init>", "(LHiddenRelations$Numbers;)V"⟩, prog_2_method_1_code, 2, none, 2, 12, 816, 1)
def aM19 : aMr := (0, ⟨"HiddenRelations$Basis", "leastRow", "()I"⟩, prog_2_method_6_code, 3, (some .int), 1, 0, 0, 0)
def aM20 : aMr := (1, ⟨"HiddenRelations$Ledger", "find", "(I)LHiddenRelations$Place;"⟩, prog_3_method_4_code, 3, (some (.object "HiddenRelations$Place")), 1, 0, 0, 1)
def aM21 : aMr := (1, ⟨"HiddenRelations$Ledger", "freePlace", "()LHiddenRelations$Place;"⟩, prog_3_method_3_code, 2, (some (.object "HiddenRelations$Place")), 1, 0, 0, 0)
def aM22 : aMr := (1, ⟨"HiddenRelations$Ledger", "giveNumber", "(LHiddenRelations$Place;)I"⟩, prog_3_method_5_code, 2, (some .int), 1, 0, 0, 1)
def aM23 : aMr := (3, ⟨"HiddenRelations$Place", "<init>", "()V"⟩, prog_5_method_1_code, 1, none, 2, 5, 44, 0)
def aM24 : aMr := (1, ⟨"HiddenRelations$Ledger", "<init>", "()V"⟩, prog_3_method_1_code, 2, none, 2, 49, 432, 0)
def aM25 : aMr := (1, ⟨"HiddenRelations$Ledger", "lowerThan", "(I)I"⟩, prog_3_method_7_code, 4, (some .int), 1, 0, 0, 1)
def aM26 : aMr := (1, ⟨"HiddenRelations$Ledger", "numberInTurn", "(I)I"⟩, prog_3_method_6_code, 3, (some .int), 1, 0, 0, 1)
def aM27 : aMr := (1, ⟨"HiddenRelations$Ledger", "size", "()I"⟩, prog_3_method_2_code, 3, (some .int), 1, 0, 0, 0)
def aM28 : aMr := (2, ⟨"HiddenRelations$Numbers", "combine", "([II[II[I)V"⟩, prog_4_method_7_code, 9, none, 1, 0, 0, 5)
def aM29 : aMr := (2, ⟨"HiddenRelations$Numbers", "constant", "(I[I)V"⟩, prog_4_method_6_code, 3, none, 1, 0, 0, 2)
def aM30 : aMr := (2, ⟨"HiddenRelations$Numbers", "divide", "([I[I[I)V"⟩, prog_4_method_10_code, 8, none, 1, 0, 0, 3)
def aM31 : aMr := (2, ⟨"HiddenRelations$Numbers", "<init>", "()V"⟩, prog_4_method_1_code, 1, none, 2, 1, 32, 0)
def aM32 : aMr := (2, ⟨"HiddenRelations$Numbers", "isPrime", "(I)Z"⟩, prog_4_method_2_code, 2, (some .boolean), 0, 0, 0, 1)
def aM33 : aMr := (2, ⟨"HiddenRelations$Numbers", "leadingZeros", "([I)I"⟩, prog_4_method_3_code, 2, (some .int), 0, 0, 0, 1)
def aM34 : aMr := (2, ⟨"HiddenRelations$Numbers", "multiply", "([I[I[I)V"⟩, prog_4_method_9_code, 7, none, 1, 0, 0, 3)
def aM35 : aMr := (2, ⟨"HiddenRelations$Numbers", "weight", "([I[I)V"⟩, prog_4_method_8_code, 4, none, 1, 0, 0, 2)
def aM36 : aMr := (3, ⟨"HiddenRelations$Place", "coefficient", "(II)I"⟩, prog_5_method_3_code, 4, (some .int), 1, 0, 0, 2)
def aM37 : aMr := (3, ⟨"HiddenRelations$Place", "copyPolynomial", "(I[I)V"⟩, prog_5_method_4_code, 4, none, 1, 0, 0, 2)
def aM38 : aMr := (3, ⟨"HiddenRelations$Place", "keepRow", "(LHiddenRelations$Basis;I)V"⟩, prog_5_method_2_code, 5, none, 1, 0, 0, 2)
def aM39 : aMr := (4, ⟨"HiddenRelations$Reader", "open", "(I)V"⟩, prog_6_method_13_code, 2, none, 1, 0, 0, 1)
def aM40 : aMr := (4, ⟨"HiddenRelations$Reader", "stop", "()V"⟩, prog_6_method_12_code, 1, none, 1, 0, 0, 0)
def aM41 : aMr := (4, ⟨"HiddenRelations$Reader", "acceptAtom", "()V"⟩, prog_6_method_9_code, 1, none, 1, 0, 0, 0)
def aM42 : aMr := (4, ⟨"HiddenRelations$Reader", "acceptPower", "()V"⟩, prog_6_method_10_code, 2, none, 1, 0, 0, 0)
def aM43 : aMr := (4, ⟨"HiddenRelations$Reader", "endPower", "()V"⟩, prog_6_method_14_code, 1, none, 1, 0, 0, 0)
def aM44 : aMr := (4, ⟨"HiddenRelations$Reader", "endTerm", "()V"⟩, prog_6_method_15_code, 1, none, 1, 0, 0, 0)
def aM45 : aMr := (4, ⟨"HiddenRelations$Reader", "acceptJoin", "()V"⟩, prog_6_method_11_code, 1, none, 1, 0, 0, 0)
def aM46 : aMr := (4, ⟨"HiddenRelations$Reader", "accept", "()V"⟩, prog_6_method_8_code, 1, none, 1, 0, 0, 0)
def aM47 : aMr := (4, ⟨"HiddenRelations$Reader", "append", "(II)Z"⟩, prog_6_method_2_code, 4, (some .boolean), 1, 0, 0, 2)
def aM48 : aMr := (4, ⟨"HiddenRelations$Reader", "<init>", "(LHiddenRelations$Numbers;)V"⟩, prog_6_method_1_code, 2, none, 2, 23, 622, 1)
def aM49 : aMr := (4, ⟨"HiddenRelations$Reader", "isDigit", "(I)Z"⟩, prog_6_method_6_code, 1, (some .boolean), 0, 0, 0, 1)
def aM50 : aMr := (4, ⟨"HiddenRelations$Reader", "isSign", "(I)Z"⟩, prog_6_method_7_code, 1, (some .boolean), 0, 0, 0, 1)
def aM51 : aMr := (4, ⟨"HiddenRelations$Reader", "scanNumber", "()V"⟩, prog_6_method_5_code, 1, none, 1, 0, 0, 0)
def aM52 : aMr := (4, ⟨"HiddenRelations$Reader", "scan", "()V"⟩, prog_6_method_4_code, 1, none, 1, 0, 0, 0)
def aM53 : aMr := (4, ⟨"HiddenRelations$Reader", "read", "([I)I"⟩, prog_6_method_3_code, 3, (some .int), 1, 0, 0, 1)
def aM54 : aMr := (5, ⟨"HiddenRelations$Sheet", "begin", "(II)V"⟩, prog_7_method_3_code, 3, none, 1, 0, 0, 2)
def aM55 : aMr := (5, ⟨"HiddenRelations$Sheet", "hasPlaces", "(II)Z"⟩, prog_7_method_4_code, 3, (some .boolean), 1, 0, 0, 2)
def aM56 : aMr := (5, ⟨"HiddenRelations$Sheet", "<init>", "()V"⟩, prog_7_method_1_code, 1, none, 2, 1, 40, 0)
def aM57 : aMr := (5, ⟨"HiddenRelations$Sheet", "isMissing", "()Z"⟩, prog_7_method_2_code, 1, (some .boolean), 1, 0, 0, 0)
def aM58 : aMr := (5, ⟨"HiddenRelations$Sheet", "keep", "(II)V"⟩, prog_7_method_6_code, 3, none, 1, 0, 0, 2)
def aM59 : aMr := (5, ⟨"HiddenRelations$Sheet", "numberOrZero", "(I)I"⟩, prog_7_method_5_code, 2, (some .int), 1, 0, 0, 1)
def aM60 : aMr := (6, ⟨"HiddenRelations", "addProduct", "([I)V"⟩, prog_1_method_45_code, 2, none, 1, 0, 0, 1)
def aM61 : aMr := (6, ⟨"HiddenRelations", "isSeries", "(I)Z"⟩, prog_1_method_36_code, 1, (some .boolean), 0, 0, 0, 1)
def aM62 : aMr := (6, ⟨"HiddenRelations", "isTerm", "(I)Z"⟩, prog_1_method_37_code, 1, (some .boolean), 0, 0, 0, 1)
def aM63 : aMr := (6, ⟨"HiddenRelations", "at", "(II)I"⟩, prog_1_method_4_code, 3, (some .int), 1, 0, 0, 2)
def aM64 : aMr := (6, ⟨"HiddenRelations", "certificate", "(II)I"⟩, prog_1_method_23_code, 4, (some .int), 1, 0, 0, 2)
def aM65 : aMr := (6, ⟨"HiddenRelations", "choose", "(I)I"⟩, prog_1_method_13_code, 3, (some .int), 1, 0, 0, 1)
def aM66 : aMr := (6, ⟨"HiddenRelations", "isChosen", "(I)Z"⟩, prog_1_method_39_code, 2, (some .boolean), 1, 0, 0, 1)
def aM67 : aMr := (6, ⟨"HiddenRelations", "gatherChosen", "()I"⟩, prog_1_method_43_code, 3, (some .int), 1, 0, 0, 0)
def aM68 : aMr := (6, ⟨"HiddenRelations", "currentBasis", "()LHiddenRelations$Basis;"⟩, prog_1_method_42_code, 2, (some (.object "HiddenRelations$Basis")), 1, 0, 0, 0)
def aM69 : aMr := (6, ⟨"HiddenRelations", "comes", "(II)I"⟩, prog_1_method_20_code, 3, (some .int), 1, 0, 0, 2)
def aM70 : aMr := (6, ⟨"HiddenRelations", "sheetsThere", "()I"⟩, prog_1_method_40_code, 3, (some .int), 1, 0, 0, 0)
def aM71 : aMr := (6, ⟨"HiddenRelations", "seriesNotZero", "()I"⟩, prog_1_method_41_code, 3, (some .int), 1, 0, 0, 0)
def aM72 : aMr := (6, ⟨"HiddenRelations", "count", "(I)I"⟩, prog_1_method_35_code, 2, (some .int), 1, 0, 0, 1)
def aM73 : aMr := (6, ⟨"HiddenRelations", "entry", "(III)I"⟩, prog_1_method_18_code, 4, (some .int), 1, 0, 0, 3)
def aM74 : aMr := (6, ⟨"HiddenRelations", "feed", "(II)I"⟩, prog_1_method_10_code, 3, (some .int), 1, 0, 0, 2)
def aM75 : aMr := (6, ⟨"HiddenRelations", "field", "(I)I"⟩, prog_1_method_2_code, 4, (some .int), 1, 0, 0, 1)
def aM76 : aMr := (6, ⟨"HiddenRelations", "gatherKind", "(II[I)V"⟩, prog_1_method_44_code, 5, none, 1, 0, 0, 3)
def aM77 : aMr := (6, ⟨"HiddenRelations", "guess", "(IIIII)I"⟩, prog_1_method_22_code, 9, (some .int), 1, 0, 0, 5)
def aM78 : aMr := (6, ⟨"HiddenRelations", "<init>", "()V"⟩, prog_1_method_1_code, 2, none, 2, 200, 3000, 0)
def aM79 : aMr := (6, ⟨"HiddenRelations", "inverse", "(II)I"⟩, prog_1_method_7_code, 3, (some .int), 1, 0, 0, 2)
def aM80 : aMr := (6, ⟨"HiddenRelations", "isSheet", "(I)Z"⟩, prog_1_method_38_code, 1, (some .boolean), 0, 0, 0, 1)
def aM81 : aMr := (6, ⟨"HiddenRelations", "lift", "(II)I"⟩, prog_1_method_14_code, 4, (some .int), 1, 0, 0, 2)
def aM82 : aMr := (6, ⟨"HiddenRelations", "listed", "(I)I"⟩, prog_1_method_28_code, 2, (some .int), 1, 0, 0, 1)
def aM83 : aMr := (6, ⟨"HiddenRelations", "loads", "(II)I"⟩, prog_1_method_33_code, 4, (some .int), 1, 0, 0, 2)
def aM84 : aMr := (6, ⟨"HiddenRelations", "mix", "(IIIII)I"⟩, prog_1_method_5_code, 6, (some .int), 1, 0, 0, 5)
def aM85 : aMr := (6, ⟨"HiddenRelations", "move", "(IIIII)I"⟩, prog_1_method_32_code, 8, (some .int), 1, 0, 0, 5)
def aM86 : aMr := (6, ⟨"HiddenRelations", "order", "(I)I"⟩, prog_1_method_15_code, 3, (some .int), 1, 0, 0, 1)
def aM87 : aMr := (6, ⟨"HiddenRelations", "proof", "(III)I"⟩, prog_1_method_24_code, 5, (some .int), 1, 0, 0, 3)
def aM88 : aMr := (6, ⟨"HiddenRelations", "put", "(III)I"⟩, prog_1_method_30_code, 4, (some .int), 1, 0, 0, 3)
def aM89 : aMr := (6, ⟨"HiddenRelations", "relates", "(I)I"⟩, prog_1_method_21_code, 6, (some .int), 1, 0, 0, 1)
def aM90 : aMr := (6, ⟨"HiddenRelations", "rest", "(II)I"⟩, prog_1_method_19_code, 3, (some .int), 1, 0, 0, 2)
def aM91 : aMr := (6, ⟨"HiddenRelations", "row", "(II)I"⟩, prog_1_method_17_code, 4, (some .int), 1, 0, 0, 2)
def aM92 : aMr := (6, ⟨"HiddenRelations", "sheet", "(III)I"⟩, prog_1_method_29_code, 4, (some .int), 1, 0, 0, 3)
def aM93 : aMr := (6, ⟨"HiddenRelations", "shift", "(III)I"⟩, prog_1_method_9_code, 4, (some .int), 1, 0, 0, 3)
def aM94 : aMr := (6, ⟨"HiddenRelations", "spills", "(II)I"⟩, prog_1_method_34_code, 5, (some .int), 1, 0, 0, 2)
def aM95 : aMr := (6, ⟨"HiddenRelations", "strike", "(I)I"⟩, prog_1_method_27_code, 3, (some .int), 1, 0, 0, 1)
def aM96 : aMr := (6, ⟨"HiddenRelations", "term", "(III)I"⟩, prog_1_method_3_code, 5, (some .int), 1, 0, 0, 3)
def aM97 : aMr := (6, ⟨"HiddenRelations", "test", "(II)I"⟩, prog_1_method_25_code, 5, (some .int), 1, 0, 0, 2)
def aM98 : aMr := (6, ⟨"HiddenRelations", "text", "(I)I"⟩, prog_1_method_11_code, 2, (some .int), 1, 0, 0, 1)
def aM99 : aMr := (6, ⟨"HiddenRelations", "times", "(III)I"⟩, prog_1_method_6_code, 4, (some .int), 1, 0, 0, 3)
def aM100 : aMr := (6, ⟨"HiddenRelations", "told", "(I)I"⟩, prog_1_method_16_code, 3, (some .int), 1, 0, 0, 1)
def aM101 : aMr := (6, ⟨"HiddenRelations", "toldOn", "(II)I"⟩, prog_1_method_26_code, 4, (some .int), 1, 0, 0, 2)
def aM102 : aMr := (6, ⟨"HiddenRelations", "weigh", "(II)I"⟩, prog_1_method_8_code, 3, (some .int), 1, 0, 0, 2)
def aM103 : aMr := (6, ⟨"HiddenRelations", "zeros", "(I)I"⟩, prog_1_method_12_code, 2, (some .int), 1, 0, 0, 1)
def aM104 : aMr := (7, ⟨"HiddenRelationsModel", "in", "(III)Z"⟩, prog_9_method_3_code, 3, (some .boolean), 0, 0, 0, 3)
def aM105 : aMr := (7, ⟨"HiddenRelationsModel", "isSeries", "(I)Z"⟩, prog_9_method_4_code, 1, (some .boolean), 0, 0, 0, 1)
def aM106 : aMr := (7, ⟨"HiddenRelationsModel", "at", "(II)I"⟩, prog_9_method_10_code, 3, (some .int), 1, 0, 0, 2)
def aM107 : aMr := (7, ⟨"HiddenRelationsModel", "begins", "()V"⟩, prog_9_method_27_code, 2, none, 1, 0, 0, 0)
def aM108 : aMr := (7, ⟨"HiddenRelationsModel", "isDigit", "(I)Z"⟩, prog_9_method_24_code, 1, (some .boolean), 0, 0, 0, 1)
def aM109 : aMr := (7, ⟨"HiddenRelationsModel", "isSign", "(I)Z"⟩, prog_9_method_25_code, 1, (some .boolean), 0, 0, 0, 1)
def aM110 : aMr := (7, ⟨"HiddenRelationsModel", "next", "()V"⟩, prog_9_method_26_code, 2, none, 1, 0, 0, 0)
def aM111 : aMr := (7, ⟨"HiddenRelationsModel", "setsTo", "([II)V"⟩, prog_9_method_17_code, 4, none, 1, 0, 0, 2)
def aM112 : aMr := (7, ⟨"HiddenRelationsModel", "beginsPart", "()Z"⟩, prog_9_method_31_code, 1, (some .boolean), 1, 0, 0, 0)
def aM113 : aMr := (7, ⟨"HiddenRelationsModel", "placeOf", "(I)I"⟩, prog_9_method_56_code, 3, (some .int), 1, 0, 0, 1)
def aM114 : aMr := (7, ⟨"HiddenRelationsModel", "certificate", "(II)I"⟩, prog_9_method_57_code, 4, (some .int), 1, 0, 0, 2)
def aM115 : aMr := (7, ⟨"HiddenRelationsModel", "ones", "(I)I"⟩, prog_9_method_35_code, 3, (some .int), 0, 0, 0, 1)
def aM116 : aMr := (7, ⟨"HiddenRelationsModel", "choose", "(I)I"⟩, prog_9_method_43_code, 2, (some .int), 1, 0, 0, 1)
def aM117 : aMr := (7, ⟨"HiddenRelationsModel", "takesChoice", "()V"⟩, prog_9_method_36_code, 3, none, 1, 0, 0, 0)
def aM118 : aMr := (7, ⟨"HiddenRelationsModel", "mod", "(J)I"⟩, prog_9_method_5_code, 5, (some .int), 1, 0, 0, 1)
def aM119 : aMr := (7, ⟨"HiddenRelationsModel", "isSum", "(II)Z"⟩, prog_9_method_37_code, 6, (some .boolean), 1, 0, 0, 2)
def aM120 : aMr := (7, ⟨"HiddenRelationsModel", "makesRow", "(II)V"⟩, prog_9_method_39_code, 4, none, 1, 0, 0, 2)
def aM121 : aMr := (7, ⟨"HiddenRelationsModel", "inverseOf", "(I)I"⟩, prog_9_method_6_code, 4, (some .int), 1, 0, 0, 1)
def aM122 : aMr := (7, ⟨"HiddenRelationsModel", "standsAhead", "(II)V"⟩, prog_9_method_38_code, 6, none, 1, 0, 0, 2)
def aM123 : aMr := (7, ⟨"HiddenRelationsModel", "looksForBasis", "()V"⟩, prog_9_method_40_code, 5, none, 1, 0, 0, 0)
def aM124 : aMr := (7, ⟨"HiddenRelationsModel", "looks", "()V"⟩, prog_9_method_46_code, 1, none, 1, 0, 0, 0)
def aM125 : aMr := (7, ⟨"HiddenRelationsModel", "isRowOfBasis", "(I)Z"⟩, prog_9_method_48_code, 2, (some .boolean), 1, 0, 0, 1)
def aM126 : aMr := (7, ⟨"HiddenRelationsModel", "worksOut", "(I)V"⟩, prog_9_method_41_code, 6, none, 1, 0, 0, 1)
def aM127 : aMr := (7, ⟨"HiddenRelationsModel", "puts", "([II)I"⟩, prog_9_method_12_code, 4, (some .int), 1, 0, 0, 2)
def aM128 : aMr := (7, ⟨"HiddenRelationsModel", "comes", "(II)I"⟩, prog_9_method_52_code, 3, (some .int), 1, 0, 0, 2)
def aM129 : aMr := (7, ⟨"HiddenRelationsModel", "comesToSum", "()V"⟩, prog_9_method_29_code, 3, none, 1, 0, 0, 0)
def aM130 : aMr := (7, ⟨"HiddenRelationsModel", "multiplies", "([I[I)V"⟩, prog_9_method_13_code, 6, none, 1, 0, 0, 2)
def aM131 : aMr := (7, ⟨"HiddenRelationsModel", "divides", "([I[I)V"⟩, prog_9_method_14_code, 7, none, 1, 0, 0, 2)
def aM132 : aMr := (7, ⟨"HiddenRelationsModel", "comesToTerm", "()V"⟩, prog_9_method_28_code, 2, none, 1, 0, 0, 0)
def aM133 : aMr := (7, ⟨"HiddenRelationsModel", "zerosOf", "([II)I"⟩, prog_9_method_21_code, 3, (some .int), 0, 0, 0, 2)
def aM134 : aMr := (7, ⟨"HiddenRelationsModel", "count", "(I)I"⟩, prog_9_method_72_code, 4, (some .int), 1, 0, 0, 1)
def aM135 : aMr := (7, ⟨"HiddenRelationsModel", "entry", "(III)I"⟩, prog_9_method_50_code, 4, (some .int), 1, 0, 0, 3)
def aM136 : aMr := (7, ⟨"HiddenRelationsModel", "feed", "(II)I"⟩, prog_9_method_23_code, 4, (some .int), 1, 0, 0, 2)
def aM137 : aMr := (7, ⟨"HiddenRelationsModel", "isPrime", "(I)Z"⟩, prog_9_method_7_code, 2, (some .boolean), 0, 0, 0, 1)
def aM138 : aMr := (7, ⟨"HiddenRelationsModel", "field", "(I)I"⟩, prog_9_method_8_code, 4, (some .int), 1, 0, 0, 1)
def aM139 : aMr := (7, ⟨"HiddenRelationsModel", "isRow", "(I)Z"⟩, prog_9_method_64_code, 1, (some .boolean), 0, 0, 0, 1)
def aM140 : aMr := (7, ⟨"HiddenRelationsModel", "get", "(II)I"⟩, prog_9_method_68_code, 3, (some .int), 1, 0, 0, 2)
def aM141 : aMr := (7, ⟨"HiddenRelationsModel", "raises", "(I)V"⟩, prog_9_method_30_code, 4, none, 1, 0, 0, 1)
def aM142 : aMr := (7, ⟨"HiddenRelationsModel", "raisesNow", "()Z"⟩, prog_9_method_32_code, 1, (some .boolean), 1, 0, 0, 0)
def aM143 : aMr := (7, ⟨"HiddenRelationsModel", "goesOn", "()Z"⟩, prog_9_method_33_code, 2, (some .boolean), 1, 0, 0, 0)
def aM144 : aMr := (7, ⟨"HiddenRelationsModel", "takes", "(I[I)V"⟩, prog_9_method_11_code, 4, none, 1, 0, 0, 2)
def aM145 : aMr := (7, ⟨"HiddenRelationsModel", "makesSeries", "(III)V"⟩, prog_9_method_54_code, 6, none, 1, 0, 0, 3)
def aM146 : aMr := (7, ⟨"HiddenRelationsModel", "lowestRow", "()I"⟩, prog_9_method_42_code, 3, (some .int), 1, 0, 0, 0)
def aM147 : aMr := (7, ⟨"HiddenRelationsModel", "guess", "(IIIII)I"⟩, prog_9_method_55_code, 8, (some .int), 1, 0, 0, 5)
def aM148 : aMr := (7, ⟨"HiddenRelationsModel", "<init>", "()V"⟩, prog_9_method_1_code, 1, none, 2, 60, 8000, 0)
def aM149 : aMr := (7, ⟨"HiddenRelationsModel", "inverse", "(II)I"⟩, prog_9_method_18_code, 3, (some .int), 1, 0, 0, 2)
def aM150 : aMr := (7, ⟨"HiddenRelationsModel", "keeps", "(III)V"⟩, prog_9_method_66_code, 4, none, 1, 0, 0, 3)
def aM151 : aMr := (7, ⟨"HiddenRelationsModel", "lift", "(II)I"⟩, prog_9_method_44_code, 4, (some .int), 1, 0, 0, 2)
def aM152 : aMr := (7, ⟨"HiddenRelationsModel", "listed", "(I)I"⟩, prog_9_method_63_code, 2, (some .int), 1, 0, 0, 1)
def aM153 : aMr := (7, ⟨"HiddenRelationsModel", "loads", "(II)I"⟩, prog_9_method_70_code, 4, (some .int), 1, 0, 0, 2)
def aM154 : aMr := (7, ⟨"HiddenRelationsModel", "mix", "(IIIII)I"⟩, prog_9_method_15_code, 7, (some .int), 1, 0, 0, 5)
def aM155 : aMr := (7, ⟨"HiddenRelationsModel", "move", "(IIIII)I"⟩, prog_9_method_69_code, 7, (some .int), 1, 0, 0, 5)
def aM156 : aMr := (7, ⟨"HiddenRelationsModel", "moves", "(I)V"⟩, prog_9_method_61_code, 3, none, 1, 0, 0, 1)
def aM157 : aMr := (7, ⟨"HiddenRelationsModel", "order", "(I)I"⟩, prog_9_method_45_code, 3, (some .int), 1, 0, 0, 1)
def aM158 : aMr := (7, ⟨"HiddenRelationsModel", "proof", "(III)I"⟩, prog_9_method_58_code, 5, (some .int), 1, 0, 0, 3)
def aM159 : aMr := (7, ⟨"HiddenRelationsModel", "put", "(III)I"⟩, prog_9_method_67_code, 4, (some .int), 1, 0, 0, 3)
def aM160 : aMr := (7, ⟨"HiddenRelationsModel", "relates", "(I)I"⟩, prog_9_method_53_code, 5, (some .int), 1, 0, 0, 1)
def aM161 : aMr := (7, ⟨"HiddenRelationsModel", "rest", "(II)I"⟩, prog_9_method_51_code, 3, (some .int), 1, 0, 0, 2)
def aM162 : aMr := (7, ⟨"HiddenRelationsModel", "row", "(II)I"⟩, prog_9_method_49_code, 3, (some .int), 1, 0, 0, 2)
def aM163 : aMr := (7, ⟨"HiddenRelationsModel", "sheet", "(III)I"⟩, prog_9_method_65_code, 5, (some .int), 1, 0, 0, 3)
def aM164 : aMr := (7, ⟨"HiddenRelationsModel", "shift", "(III)I"⟩, prog_9_method_20_code, 5, (some .int), 1, 0, 0, 3)
def aM165 : aMr := (7, ⟨"HiddenRelationsModel", "spills", "(II)I"⟩, prog_9_method_71_code, 5, (some .int), 1, 0, 0, 2)
def aM166 : aMr := (7, ⟨"HiddenRelationsModel", "strike", "(I)I"⟩, prog_9_method_62_code, 4, (some .int), 1, 0, 0, 1)
def aM167 : aMr := (7, ⟨"HiddenRelationsModel", "term", "(III)I"⟩, prog_9_method_9_code, 5, (some .int), 1, 0, 0, 3)
def aM168 : aMr := (7, ⟨"HiddenRelationsModel", "test", "(II)I"⟩, prog_9_method_59_code, 5, (some .int), 1, 0, 0, 2)
def aM169 : aMr := (7, ⟨"HiddenRelationsModel", "text", "(I)I"⟩, prog_9_method_34_code, 4, (some .int), 1, 0, 0, 1)
def aM170 : aMr := (7, ⟨"HiddenRelationsModel", "thrown", "()I"⟩, prog_9_method_2_code, 1, (some .int), 1, 0, 0, 0)
def aM171 : aMr := (7, ⟨"HiddenRelationsModel", "times", "(III)I"⟩, prog_9_method_16_code, 4, (some .int), 1, 0, 0, 3)
def aM172 : aMr := (7, ⟨"HiddenRelationsModel", "told", "(I)I"⟩, prog_9_method_47_code, 5, (some .int), 1, 0, 0, 1)
def aM173 : aMr := (7, ⟨"HiddenRelationsModel", "toldOn", "(II)I"⟩, prog_9_method_60_code, 5, (some .int), 1, 0, 0, 2)
def aM174 : aMr := (7, ⟨"HiddenRelationsModel", "weigh", "(II)I"⟩, prog_9_method_19_code, 4, (some .int), 1, 0, 0, 2)
def aM175 : aMr := (7, ⟨"HiddenRelationsModel", "zeros", "(I)I"⟩, prog_9_method_22_code, 2, (some .int), 1, 0, 0, 1)
def aM176 : aMr := (11, x, code, maxLocals, ret, 0, 601024, 7293033, 1)
def aMt_0 : List aMr := [aM0, aM1, aM2, aM3, aM4, aM5, aM6, aM7, aM8, aM9, aM10, aM11, aM12, aM13, aM14, aM15, aM16, aM17, aM18, aM19, aM20, aM21, aM22, aM23, aM24, aM25, aM26, aM27, aM28, aM29, aM30, aM31]
def aMt_1 : List aMr := [aM32, aM33, aM34, aM35, aM36, aM37, aM38, aM39, aM40, aM41, aM42, aM43, aM44, aM45, aM46, aM47, aM48, aM49, aM50, aM51, aM52, aM53, aM54, aM55, aM56, aM57, aM58, aM59, aM60, aM61, aM62, aM63]
def aMt_2 : List aMr := [aM64, aM65, aM66, aM67, aM68, aM69, aM70, aM71, aM72, aM73, aM74, aM75, aM76, aM77, aM78, aM79, aM80, aM81, aM82, aM83, aM84, aM85, aM86, aM87, aM88, aM89, aM90, aM91, aM92, aM93, aM94, aM95]
def aMt_3 : List aMr := [aM96, aM97, aM98, aM99, aM100, aM101, aM102, aM103, aM104, aM105, aM106, aM107, aM108, aM109, aM110, aM111, aM112, aM113, aM114, aM115, aM116, aM117, aM118, aM119, aM120, aM121, aM122, aM123, aM124, aM125, aM126, aM127]
def aMt_4 : List aMr := [aM128, aM129, aM130, aM131, aM132, aM133, aM134, aM135, aM136, aM137, aM138, aM139, aM140, aM141, aM142, aM143, aM144, aM145, aM146, aM147, aM148, aM149, aM150, aM151, aM152, aM153, aM154, aM155, aM156, aM157, aM158, aM159]
def aMt_5 : List aMr := [aM160, aM161, aM162, aM163, aM164, aM165, aM166, aM167, aM168, aM169, aM170, aM171, aM172, aM173, aM174, aM175]
def aMtc : List aMr := aMt_0 ++ (aMt_1 ++ (aMt_2 ++ (aMt_3 ++ (aMt_4 ++ (aMt_5)))))
def aMt : List aMr := aMtc ++ [aM176]
def aMe (mi : Nat) : aMr := aMt.getD mi aM0
/-- what the tables say of a method that is called -/
def aMok (q : aMr) : Prop := Cond.code q.2.1 q.2.2.1 q.2.2.2.1 q.2.2.2.2.1 ∈ aWS ∧ Cond.initialized q.2.1.cls ∈ aWS ∧ (q.2.2.2.2.2.1 = 0 → Cond.static q.2.1 ∈ aWS) ∧ (q.2.2.2.2.2.1 ≠ 0 → Cond.instanceMethod q.2.1 ∈ aWS) ∧ (q.2.2.2.2.2.1 = 1 → Cond.selects q.2.1.cls q.2.1 q.2.1 ∈ aWS) ∧ (q.2.2.2.2.2.1 = 2 → q.2.1.name = "<init>" ∧ q.2.2.2.2.1 = none) ∧ q.2.1.cls = aCN q.1 ∧ plainFor q.2.1 = true ∧ (q.2.1.cls ≠ "java/lang/invoke/MethodHandle" ∧ q.2.1.cls ≠ "java/lang/invoke/VarHandle" ∧ (parseMethodDescriptor q.2.1.desc).map (fun d => d.parameters.length) = some q.2.2.2.2.2.2.2.2) ∧ q.2.2.2.1 ≤ 40
