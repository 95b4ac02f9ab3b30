-- needs: 01 02 04 05 06 08 09
/-- the byte code at pc is i, of that length -/
def bD (mi pc : Nat) (i : Instr) (len : Nat) : Bool := decide (decode (aMe mi).2.2.1 pc = .ok (i, len))
def bJ (pc : Nat) (off : Int) (t : Nat) : Bool := decide ((pc : Int) + off = (t : Int))
def bFk (mi j idx ci f : Nat) : Bool := Nat.blt j aFl.length && (match aFl.getD j (0, 0, 0, 0, 0) with | (oc, ix, c, k, _) => Nat.beq oc (aMe mi).1 && (Nat.beq ix idx && (Nat.beq c ci && Nat.beq k f)))
def bMk' (mi j idx mj : Nat) : Bool := Nat.blt j aMl.length && (match aMl.getD j (0, 0, 0, 0) with | (oc, ix, m, _) => Nat.beq oc (aMe mi).1 && (Nat.beq ix idx && Nat.beq m mj))
def bTyF (ci f : Nat) (t : FieldType) : Bool := decide (parseFieldDescriptor ((aCl.getD ci ("", aT0, 0)).2.1 f).2.2.1 = some t) && !((aCl.getD ci ("", aT0, 0)).2.1 f).2.2.2
def bPos (mi i : Nat) : Bool := Nat.blt i (aML mi)
def bTs (pc : Nat) : List Int → List Nat → Bool
  | [], [] => true
  | o :: os, t :: ts => bJ pc o t && bTs pc os ts
  | _, _ => false
def bLs (pc : Nat) : List (Int × Int) → List Nat → Bool
  | [], [] => true
  | (v, o) :: os, t :: ts => bJ pc o t && (decide (-2147483648 ≤ v ∧ v < 2147483648) && bLs pc os ts)
  | _, _ => false
/-- the entry e of the method mi at pc is right -/
def bOk (mi pc : Nat) (e : aI) : Bool := match e with
  | (.aconst_null, nx, _, _) => bD mi pc .aconst_null 1 && Nat.beq nx (pc + 1)
  | (.iconst n, nx, _, v) => bD mi pc (.iconst n) 1 && (Nat.beq nx (pc + 1) && decide (Int32.ofInt n = v))
  | (.bipush n, nx, _, v) => bD mi pc (.bipush n) 2 && (Nat.beq nx (pc + 2) && decide ((Int8.ofInt n).toInt32 = v))
  | (.sipush n, nx, _, v) => bD mi pc (.sipush n) 3 && (Nat.beq nx (pc + 3) && decide ((Int16.ofInt n).toInt32 = v))
  | (.ldc_w n, nx, a, v) => bD mi pc (.ldc_w n) 3 && (Nat.beq nx (pc + 3) && aVl.any (fun q => Nat.beq q.1 (aMe mi).1 && (Nat.beq q.2.1 n && decide (q.2.2 = v))))
  | (.lconst n, nx, _, _) => bD mi pc (.lconst n) 1 && Nat.beq nx (pc + 1)
  | (.iload i, nx, _, _) => bD mi pc (.iload i) 2 && Nat.beq nx (pc + 2)
  | (.iload_n i, nx, _, _) => bD mi pc (.iload_n i) 1 && Nat.beq nx (pc + 1)
  | (.lload_n i, nx, _, _) => bD mi pc (.lload_n i) 1 && Nat.beq nx (pc + 1)
  | (.aload i, nx, _, _) => bD mi pc (.aload i) 2 && Nat.beq nx (pc + 2)
  | (.aload_n i, nx, _, _) => bD mi pc (.aload_n i) 1 && Nat.beq nx (pc + 1)
  | (.istore i, nx, _, _) => bD mi pc (.istore i) 2 && (Nat.beq nx (pc + 2) && bPos mi i)
  | (.istore_n i, nx, _, _) => bD mi pc (.istore_n i) 1 && (Nat.beq nx (pc + 1) && bPos mi i.val)
  | (.lstore_n i, nx, _, _) => bD mi pc (.lstore_n i) 1 && (Nat.beq nx (pc + 1) && bPos mi (i.val + 1))
  | (.astore i, nx, _, _) => bD mi pc (.astore i) 2 && (Nat.beq nx (pc + 2) && bPos mi i)
  | (.astore_n i, nx, _, _) => bD mi pc (.astore_n i) 1 && (Nat.beq nx (pc + 1) && bPos mi i.val)
  | (.iinc i n, nx, _, v) => bD mi pc (.iinc i n) 3 && (Nat.beq nx (pc + 3) && (bPos mi i && decide (Int32.ofInt n = v)))
  | (.iadd, nx, _, _) => bD mi pc .iadd 1 && Nat.beq nx (pc + 1)
  | (.isub, nx, _, _) => bD mi pc .isub 1 && Nat.beq nx (pc + 1)
  | (.imul, nx, _, _) => bD mi pc .imul 1 && Nat.beq nx (pc + 1)
  | (.iand, nx, _, _) => bD mi pc .iand 1 && Nat.beq nx (pc + 1)
  | (.ior, nx, _, _) => bD mi pc .ior 1 && Nat.beq nx (pc + 1)
  | (.ixor, nx, _, _) => bD mi pc .ixor 1 && Nat.beq nx (pc + 1)
  | (.ishl, nx, _, _) => bD mi pc .ishl 1 && Nat.beq nx (pc + 1)
  | (.ishr, nx, _, _) => bD mi pc .ishr 1 && Nat.beq nx (pc + 1)
  | (.iushr, nx, _, _) => bD mi pc .iushr 1 && Nat.beq nx (pc + 1)
  | (.ineg, nx, _, _) => bD mi pc .ineg 1 && Nat.beq nx (pc + 1)
  | (.idiv, nx, _, _) => bD mi pc .idiv 1 && Nat.beq nx (pc + 1)
  | (.irem, nx, _, _) => bD mi pc .irem 1 && Nat.beq nx (pc + 1)
  | (.i2l, nx, _, _) => bD mi pc .i2l 1 && Nat.beq nx (pc + 1)
  | (.l2i, nx, _, _) => bD mi pc .l2i 1 && Nat.beq nx (pc + 1)
  | (.i2b, nx, _, _) => bD mi pc .i2b 1 && Nat.beq nx (pc + 1)
  | (.ladd, nx, _, _) => bD mi pc .ladd 1 && Nat.beq nx (pc + 1)
  | (.lmul, nx, _, _) => bD mi pc .lmul 1 && Nat.beq nx (pc + 1)
  | (.lrem, nx, _, _) => bD mi pc .lrem 1 && Nat.beq nx (pc + 1)
  | (.lcmp, nx, _, _) => bD mi pc .lcmp 1 && Nat.beq nx (pc + 1)
  | (.dup, nx, _, _) => bD mi pc .dup 1 && Nat.beq nx (pc + 1)
  | (.dup2, nx, _, _) => bD mi pc .dup2 1 && Nat.beq nx (pc + 1)
  | (.goto n, nx, _, _) => bD mi pc (.goto n) 3 && bJ pc n nx
  | (.ifCond c n, nx, a, _) => match a with | [t] => bD mi pc (.ifCond c n) 3 && (Nat.beq nx (pc + 3) && bJ pc n t) | _ => false
  | (.if_icmp c n, nx, a, _) => match a with | [t] => bD mi pc (.if_icmp c n) 3 && (Nat.beq nx (pc + 3) && bJ pc n t) | _ => false
  | (.ifnonnull n, nx, a, _) => match a with | [t] => bD mi pc (.ifnonnull n) 3 && (Nat.beq nx (pc + 3) && bJ pc n t) | _ => false
  | (.tableswitch d lo hi os, nx, a, _) => match a with | t :: ts => Nat.blt pc nx && (bD mi pc (.tableswitch d lo hi os) (nx - pc) && (bJ pc d t && (bTs pc os.toList ts && (decide (-2147483648 ≤ lo ∧ hi < 2147483648) && decide (hi + 1 - lo = (os.toList.length : Int)))))) | _ => false
  | (.lookupswitch d ps, nx, a, _) => match a with | t :: ts => Nat.blt pc nx && (bD mi pc (.lookupswitch d ps) (nx - pc) && (bJ pc d t && (bLs pc ps.toList ts && (ps.toList.zip (ps.toList.drop 1)).all (fun (a, next) => a.1 < next.1)))) | _ => false
  | (.iaload, nx, _, _) => bD mi pc .iaload 1 && Nat.beq nx (pc + 1)
  | (.baload, nx, _, _) => bD mi pc .baload 1 && Nat.beq nx (pc + 1)
  | (.aaload, nx, _, _) => bD mi pc .aaload 1 && Nat.beq nx (pc + 1)
  | (.iastore, nx, _, _) => bD mi pc .iastore 1 && Nat.beq nx (pc + 1)
  | (.bastore, nx, _, _) => bD mi pc .bastore 1 && Nat.beq nx (pc + 1)
  | (.arraylength, nx, _, _) => bD mi pc .arraylength 1 && Nat.beq nx (pc + 1)
  | (.getfield idx, nx, a, _) => match a with | [j, ci, f, _] => bD mi pc (.getfield idx) 3 && (Nat.beq nx (pc + 3) && bFk mi j idx ci f) | _ => false
  | (.putfield idx, nx, a, _) => match a with
    | [j, ci, f, 0] => bD mi pc (.putfield idx) 3 && (Nat.beq nx (pc + 3) && (bFk mi j idx ci f && bTyF ci f .int))
    | [j, ci, f, 1] => bD mi pc (.putfield idx) 3 && (Nat.beq nx (pc + 3) && (bFk mi j idx ci f && bTyF ci f .boolean))
    | _ => false
  | (.invokevirtual idx, nx, a, _) => match a with
    | [mj, na, _, ci, _, j] => bD mi pc (.invokevirtual idx) 3 && (Nat.beq nx (pc + 3) && (bMk' mi j idx mj && (Nat.blt mj mi && (Nat.beq (aMe mj).2.2.2.2.2.1 1 && (Nat.beq na ((aMe mj).2.2.2.2.2.2.2.2 + 1) && (Nat.beq (aMe mj).1 ci && Nat.blt ci 8))))))
    | _ => false
  | (.invokestatic idx, nx, a, _) => match a with
    | [mj, na, _, _, _, j] => bD mi pc (.invokestatic idx) 3 && (Nat.beq nx (pc + 3) && (bMk' mi j idx mj && (Nat.blt mj mi && (Nat.beq (aMe mj).2.2.2.2.2.1 0 && Nat.beq na (aMe mj).2.2.2.2.2.2.2.2))))
    | [1000, ix] => bD mi pc (.invokestatic idx) 3 && (Nat.beq nx (pc + 3) && (Nat.beq ix idx && aCy.any (fun q => Nat.beq q.1 (aMe mi).1 && Nat.beq q.2 idx)))
    | _ => false
  | (.return_, _, _, _) => bD mi pc .return_ 1 && decide ((aMe mi).2.2.2.2.1 = none)
  | (.ireturn, _, a, _) => match a with
    | [0] => bD mi pc .ireturn 1 && decide ((aMe mi).2.2.2.2.1 = some .int)
    | [1] => bD mi pc .ireturn 1 && decide ((aMe mi).2.2.2.2.1 = some .boolean)
    | _ => false
  | (.areturn, _, _, _) => bD mi pc .areturn 1 && (match (aMe mi).2.2.2.2.1 with | some (.object _) => true | some (.array _) => true | _ => false)
  | (.nop, _, _, _) => true
  | _ => false
/-- all entries of a method -/
def bOkM (mi : Nat) : Bool := Nat.beq (aML mi) (aMe mi).2.2.2.1 && ((List.range (aSz mi)).all (fun pc => bOk mi pc (aKd mi pc)) && (Nat.beq (aMe mi).2.2.2.2.2.2.1 0 && Nat.beq (aMe mi).2.2.2.2.2.2.2.1 0))
theorem bOk_0 : bOkM 0 = true := by decide +kernel
theorem bOk_1 : bOkM 1 = true := by decide +kernel
theorem bOk_2 : bOkM 2 = true := by decide +kernel
theorem bOk_3 : bOkM 3 = true := by decide +kernel
theorem bOk_4 : bOkM 4 = true := by decide +kernel
theorem bOk_5 : bOkM 5 = true := by decide +kernel
theorem bOk_6 : bOkM 6 = true := by decide +kernel
theorem bOk_7 : bOkM 7 = true := by decide +kernel
theorem bOk_8 : bOkM 8 = true := by decide +kernel
theorem bOk_9 : bOkM 9 = true := by decide +kernel
theorem bOk_10 : bOkM 10 = true := by decide +kernel
theorem bOk_11 : bOkM 11 = true := by decide +kernel
theorem bOk_12 : bOkM 12 = true := by decide +kernel
theorem bOk_13 : bOkM 13 = true := by decide +kernel
theorem bOk_14 : bOkM 14 = true := by decide +kernel
theorem bOk_15 : bOkM 15 = true := by decide +kernel
theorem bOk_16 : bOkM 16 = true := by decide +kernel
theorem bOk_17 : bOkM 17 = true := by decide +kernel
theorem bOk_19 : bOkM 19 = true := by decide +kernel
theorem bOk_20 : bOkM 20 = true := by decide +kernel
theorem bOk_21 : bOkM 21 = true := by decide +kernel
theorem bOk_22 : bOkM 22 = true := by decide +kernel
theorem bOk_25 : bOkM 25 = true := by decide +kernel
theorem bOk_26 : bOkM 26 = true := by decide +kernel
theorem bOk_27 : bOkM 27 = true := by decide +kernel
theorem bOk_28 : bOkM 28 = true := by decide +kernel
theorem bOk_29 : bOkM 29 = true := by decide +kernel
theorem bOk_30 : bOkM 30 = true := by decide +kernel
theorem bOk_32 : bOkM 32 = true := by decide +kernel
theorem bOk_33 : bOkM 33 = true := by decide +kernel
theorem bOk_34 : bOkM 34 = true := by decide +kernel
theorem bOk_35 : bOkM 35 = true := by decide +kernel
theorem bOk_36 : bOkM 36 = true := by decide +kernel
theorem bOk_37 : bOkM 37 = true := by decide +kernel
theorem bOk_38 : bOkM 38 = true := by decide +kernel
theorem bOk_39 : bOkM 39 = true := by decide +kernel
theorem bOk_40 : bOkM 40 = true := by decide +kernel
theorem bOk_41 : bOkM 41 = true := by decide +kernel
theorem bOk_42 : bOkM 42 = true := by decide +kernel
theorem bOk_43 : bOkM 43 = true := by decide +kernel
theorem bOk_44 : bOkM 44 = true := by decide +kernel
theorem bOk_45 : bOkM 45 = true := by decide +kernel
theorem bOk_46 : bOkM 46 = true := by decide +kernel
theorem bOk_47 : bOkM 47 = true := by decide +kernel
theorem bOk_49 : bOkM 49 = true := by decide +kernel
theorem bOk_50 : bOkM 50 = true := by decide +kernel
theorem bOk_51 : bOkM 51 = true := by decide +kernel
theorem bOk_52 : bOkM 52 = true := by decide +kernel
theorem bOk_53 : bOkM 53 = true := by decide +kernel
theorem bOk_54 : bOkM 54 = true := by decide +kernel
theorem bOk_55 : bOkM 55 = true := by decide +kernel
theorem bOk_57 : bOkM 57 = true := by decide +kernel
theorem bOk_58 : bOkM 58 = true := by decide +kernel
theorem bOk_59 : bOkM 59 = true := by decide +kernel
theorem bOk_60 : bOkM 60 = true := by decide +kernel
theorem bOk_61 : bOkM 61 = true := by decide +kernel
theorem bOk_62 : bOkM 62 = true := by decide +kernel
theorem bOk_63 : bOkM 63 = true := by decide +kernel
theorem bOk_64 : bOkM 64 = true := by decide +kernel
theorem bOk_65 : bOkM 65 = true := by decide +kernel
theorem bOk_66 : bOkM 66 = true := by decide +kernel
theorem bOk_67 : bOkM 67 = true := by decide +kernel
theorem bOk_68 : bOkM 68 = true := by decide +kernel
theorem bOk_69 : bOkM 69 = true := by decide +kernel
theorem bOk_70 : bOkM 70 = true := by decide +kernel
theorem bOk_71 : bOkM 71 = true := by decide +kernel
theorem bOk_72 : bOkM 72 = true := by decide +kernel
theorem bOk_73 : bOkM 73 = true := by decide +kernel
theorem bOk_74 : bOkM 74 = true := by decide +kernel
theorem bOk_75 : bOkM 75 = true := by decide +kernel
theorem bOk_76 : bOkM 76 = true := by decide +kernel
theorem bOk_77 : bOkM 77 = true := by decide +kernel
theorem bOk_79 : bOkM 79 = true := by decide +kernel
theorem bOk_80 : bOkM 80 = true := by decide +kernel
theorem bOk_81 : bOkM 81 = true := by decide +kernel
theorem bOk_82 : bOkM 82 = true := by decide +kernel
theorem bOk_83 : bOkM 83 = true := by decide +kernel
theorem bOk_84 : bOkM 84 = true := by decide +kernel
theorem bOk_85 : bOkM 85 = true := by decide +kernel
theorem bOk_86 : bOkM 86 = true := by decide +kernel
theorem bOk_87 : bOkM 87 = true := by decide +kernel
theorem bOk_88 : bOkM 88 = true := by decide +kernel
theorem bOk_89 : bOkM 89 = true := by decide +kernel
theorem bOk_90 : bOkM 90 = true := by decide +kernel
theorem bOk_91 : bOkM 91 = true := by decide +kernel
theorem bOk_92 : bOkM 92 = true := by decide +kernel
theorem bOk_93 : bOkM 93 = true := by decide +kernel
theorem bOk_94 : bOkM 94 = true := by decide +kernel
theorem bOk_95 : bOkM 95 = true := by decide +kernel
theorem bOk_96 : bOkM 96 = true := by decide +kernel
theorem bOk_97 : bOkM 97 = true := by decide +kernel
theorem bOk_98 : bOkM 98 = true := by decide +kernel
theorem bOk_99 : bOkM 99 = true := by decide +kernel
theorem bOk_100 : bOkM 100 = true := by decide +kernel
theorem bOk_101 : bOkM 101 = true := by decide +kernel
theorem bOk_102 : bOkM 102 = true := by decide +kernel
theorem bOk_103 : bOkM 103 = true := by decide +kernel
theorem bOk_104 : bOkM 104 = true := by decide +kernel
theorem bOk_105 : bOkM 105 = true := by decide +kernel
theorem bOk_106 : bOkM 106 = true := by decide +kernel
theorem bOk_107 : bOkM 107 = true := by decide +kernel
theorem bOk_108 : bOkM 108 = true := by decide +kernel
theorem bOk_109 : bOkM 109 = true := by decide +kernel
theorem bOk_110 : bOkM 110 = true := by decide +kernel
theorem bOk_111 : bOkM 111 = true := by decide +kernel
theorem bOk_112 : bOkM 112 = true := by decide +kernel
theorem bOk_113 : bOkM 113 = true := by decide +kernel
theorem bOk_114 : bOkM 114 = true := by decide +kernel
theorem bOk_115 : bOkM 115 = true := by decide +kernel
theorem bOk_116 : bOkM 116 = true := by decide +kernel
theorem bOk_117 : bOkM 117 = true := by decide +kernel
theorem bOk_118 : bOkM 118 = true := by decide +kernel
theorem bOk_119 : bOkM 119 = true := by decide +kernel
theorem bOk_120 : bOkM 120 = true := by decide +kernel
theorem bOk_121 : bOkM 121 = true := by decide +kernel
theorem bOk_122 : bOkM 122 = true := by decide +kernel
theorem bOk_123 : bOkM 123 = true := by decide +kernel
theorem bOk_124 : bOkM 124 = true := by decide +kernel
theorem bOk_125 : bOkM 125 = true := by decide +kernel
theorem bOk_126 : bOkM 126 = true := by decide +kernel
theorem bOk_127 : bOkM 127 = true := by decide +kernel
theorem bOk_128 : bOkM 128 = true := by decide +kernel
theorem bOk_129 : bOkM 129 = true := by decide +kernel
theorem bOk_130 : bOkM 130 = true := by decide +kernel
theorem bOk_131 : bOkM 131 = true := by decide +kernel
theorem bOk_132 : bOkM 132 = true := by decide +kernel
theorem bOk_133 : bOkM 133 = true := by decide +kernel
theorem bOk_134 : bOkM 134 = true := by decide +kernel
theorem bOk_135 : bOkM 135 = true := by decide +kernel
theorem bOk_136 : bOkM 136 = true := by decide +kernel
theorem bOk_137 : bOkM 137 = true := by decide +kernel
theorem bOk_138 : bOkM 138 = true := by decide +kernel
theorem bOk_139 : bOkM 139 = true := by decide +kernel
theorem bOk_140 : bOkM 140 = true := by decide +kernel
theorem bOk_141 : bOkM 141 = true := by decide +kernel
theorem bOk_142 : bOkM 142 = true := by decide +kernel
theorem bOk_143 : bOkM 143 = true := by decide +kernel
theorem bOk_144 : bOkM 144 = true := by decide +kernel
theorem bOk_145 : bOkM 145 = true := by decide +kernel
theorem bOk_146 : bOkM 146 = true := by decide +kernel
theorem bOk_147 : bOkM 147 = true := by decide +kernel
theorem bOk_149 : bOkM 149 = true := by decide +kernel
theorem bOk_150 : bOkM 150 = true := by decide +kernel
theorem bOk_151 : bOkM 151 = true := by decide +kernel
theorem bOk_152 : bOkM 152 = true := by decide +kernel
theorem bOk_153 : bOkM 153 = true := by decide +kernel
theorem bOk_154 : bOkM 154 = true := by decide +kernel
theorem bOk_155 : bOkM 155 = true := by decide +kernel
theorem bOk_156 : bOkM 156 = true := by decide +kernel
theorem bOk_157 : bOkM 157 = true := by decide +kernel
theorem bOk_158 : bOkM 158 = true := by decide +kernel
theorem bOk_159 : bOkM 159 = true := by decide +kernel
theorem bOk_160 : bOkM 160 = true := by decide +kernel
theorem bOk_161 : bOkM 161 = true := by decide +kernel
theorem bOk_162 : bOkM 162 = true := by decide +kernel
theorem bOk_163 : bOkM 163 = true := by decide +kernel
theorem bOk_164 : bOkM 164 = true := by decide +kernel
theorem bOk_165 : bOkM 165 = true := by decide +kernel
theorem bOk_166 : bOkM 166 = true := by decide +kernel
theorem bOk_167 : bOkM 167 = true := by decide +kernel
theorem bOk_168 : bOkM 168 = true := by decide +kernel
theorem bOk_169 : bOkM 169 = true := by decide +kernel
theorem bOk_170 : bOkM 170 = true := by decide +kernel
theorem bOk_171 : bOkM 171 = true := by decide +kernel
theorem bOk_172 : bOkM 172 = true := by decide +kernel
theorem bOk_173 : bOkM 173 = true := by decide +kernel
theorem bOk_174 : bOkM 174 = true := by decide +kernel
theorem bOk_175 : bOkM 175 = true := by decide +kernel
/-- the methods of the second machine -/
def bIn (mi : Nat) : Bool := (cond (Nat.ble 128 mi) (cond (Nat.ble 192 mi) false (cond (Nat.ble 160 mi) (cond (Nat.ble 176 mi) false true) (cond (Nat.ble 144 mi) (cond (Nat.ble 152 mi) true (cond (Nat.ble 148 mi) (cond (Nat.ble 150 mi) true (cond (Nat.ble 149 mi) true false)) true)) true))) (cond (Nat.ble 64 mi) (cond (Nat.ble 96 mi) true (cond (Nat.ble 80 mi) true (cond (Nat.ble 72 mi) (cond (Nat.ble 76 mi) (cond (Nat.ble 78 mi) (cond (Nat.ble 79 mi) true false) true) true) true))) (cond (Nat.ble 32 mi) (cond (Nat.ble 48 mi) (cond (Nat.ble 56 mi) (cond (Nat.ble 60 mi) true (cond (Nat.ble 58 mi) true (cond (Nat.ble 57 mi) true false))) (cond (Nat.ble 52 mi) true (cond (Nat.ble 50 mi) true (cond (Nat.ble 49 mi) true false)))) true) (cond (Nat.ble 16 mi) (cond (Nat.ble 24 mi) (cond (Nat.ble 28 mi) (cond (Nat.ble 30 mi) (cond (Nat.ble 31 mi) false true) true) (cond (Nat.ble 26 mi) true (cond (Nat.ble 25 mi) true false))) (cond (Nat.ble 20 mi) (cond (Nat.ble 22 mi) (cond (Nat.ble 23 mi) false true) true) (cond (Nat.ble 18 mi) (cond (Nat.ble 19 mi) true false) true))) true))))
