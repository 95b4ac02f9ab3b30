-- needs: 01 02 06 08
/-! THE SECOND MACHINE: all cells are made; a cell is (group, index), what it holds is M group index place. -/
abbrev bV : Type := Int32 ⊕ Int64 ⊕ (Nat × Nat) ⊕ Unit
abbrev cI (x : Int32) : bV := .inl x
abbrev cL (x : Int64) : bV := .inr (.inl x)
abbrev cR (g j : Nat) : bV := .inr (.inr (.inl (g, j)))
abbrev cN : bV := .inr (.inr (.inr ()))
abbrev bL : Type := List (Option bV)
/-- what the cells hold: group, index, place -/
abbrev bM : Type := Nat → Nat → Nat → Int32
abbrev bG : Type := Nat → bL → List bV → bM → Prop
abbrev bQ : Type := Option bV → bM → Prop
abbrev bCfg : Type := Nat × bL × List bV × bM
abbrev bO : Type := bCfg ⊕ (Prop × bCfg) ⊕ (List (Prop × bCfg) × bCfg) ⊕ (Nat × List bV × Nat × bCfg) ⊕ (Option bV × bM) ⊕ (Prop × Option bV × bM)
/-- one place becomes x -/
def bU (M : bM) (g j i : Nat) (x : Int32) : bM := fun g' j' i' => cond (Nat.beq g' g && (Nat.beq j' j && Nat.beq i' i)) x (M g' j' i')
/-- System.arraycopy -/
def bCp (M : bM) (g j g' j' : Nat) (sp dp n : Int32) : bM := fun a b i => cond (Nat.beq a g' && Nat.beq b j') (va_cpy (M g j) (M g' j') sp.toNatClampNeg dp.toNatClampNeg n.toNatClampNeg i) (M a b i)
def bLd (ls : bL) (i : Nat) : Option bV := match ls[i]? with
  | some v => v
  | none => none
def bTwo (v : Option bV) : Bool := match v with
  | some (.inr (.inl _)) => true
  | _ => false
def bKill (ls : bL) (i : Nat) : bL := match i with
  | 0 => ls
  | j + 1 => cond (bTwo (bLd ls j)) (ls.set j none) ls
def bSt (ls : bL) (i : Nat) (v : bV) : bL := (bKill ls i).set i (some v)
def bSt2 (ls : bL) (i : Nat) (v : bV) : bL := ((bKill ls i).set i (some v)).set (i + 1) none
def bArgs : List bV → bL
  | [] => []
  | .inr (.inl x) :: r => some (.inr (.inl x)) :: none :: bArgs r
  | v :: r => some v :: bArgs r
def bEntry (n : Nat) (args : List bV) : bL := bArgs args ++ List.replicate (n - (bArgs args).length) none
abbrev bN (nx : Nat) (ls : bL) (st : List bV) (M : bM) : bO := .inl (nx, ls, st, M)
abbrev bN1 (P : Prop) (nx : Nat) (ls : bL) (st : List bV) (M : bM) : bO := .inr (.inl (P, nx, ls, st, M))
abbrev bBr (P : Prop) (nt nf : Nat) (ls : bL) (st : List bV) (M : bM) : bO := .inr (.inr (.inl ([(P, nt, ls, st, M)], nf, ls, st, M)))
abbrev bBad : bO := .inr (.inl (False, 0, [], [], fun _ _ _ => 0))
def bSw (ts : List Nat) (lo : Int) (x : Int32) (ls : bL) (st : List bV) (M : bM) : List (Prop × bCfg) := match ts with
  | [] => []
  | t :: r => (x = Int32.ofInt lo, t, ls, st, M) :: bSw r (lo + 1) x ls st M
def bSl (ks : List (Int × Int)) (ts : List Nat) (x : Int32) (ls : bL) (st : List bV) (M : bM) : List (Prop × bCfg) := match ks, ts with
  | (v, _) :: ks, t :: r => (x = Int32.ofInt v, t, ls, st, M) :: bSl ks r x ls st M
  | _, _ => []
/-- an array of ints (t 0) or booleans (t 1) -/
def bIs (g t : Nat) : Bool := Nat.beq (bKd g) 0 && Nat.beq (bKt g) t
/-- an object of the class ci whose field f is a number -/
def bFI (g ci f : Nat) : Bool := Nat.beq (bKd g) 2 && (Nat.beq (bKt g) ci && (Nat.blt f (bKn g) && (match bFr g f 0 with | none => true | some _ => false)))
/-- the arguments are there, little stands below them, and they fit the callee's locals -/
def bCk (mj na : Nat) (st : List bV) : Bool := Nat.ble na st.length && (Nat.ble (st.drop na).length 4 && Nat.ble (bArgs (st.take na).reverse).length (aML mj))
/-- the receiver is an object of the class ci -/
def bRcv (as : List bV) (ci : Nat) : Bool := match as with
  | .inr (.inr (.inl (g, _))) :: _ => Nat.beq (bKd g) 2 && Nat.beq (bKt g) ci
  | _ => false
def bStep (e : aI) (ls : bL) (st : List bV) (M : bM) : bO := match e with
  | (.aconst_null, nx, _, _) => bN nx ls (.inr (.inr (.inr ())) :: st) M
  | (.iconst _, nx, _, v) => bN nx ls (.inl v :: st) M
  | (.bipush _, nx, _, v) => bN nx ls (.inl v :: st) M
  | (.sipush _, nx, _, v) => bN nx ls (.inl v :: st) M
  | (.ldc_w _, nx, _, v) => bN nx ls (.inl v :: st) M
  | (.lconst n, nx, _, _) => match n.val with | 0 => bN nx ls (.inr (.inl 0) :: st) M | _ => bBad
  | (.iload i, nx, _, _) => match bLd ls i with | some (.inl x) => bN nx ls (.inl x :: st) M | _ => bBad
  | (.iload_n i, nx, _, _) => match bLd ls i.val with | some (.inl x) => bN nx ls (.inl x :: st) M | _ => bBad
  | (.lload_n i, nx, _, _) => match bLd ls i.val with | some (.inr (.inl x)) => bN nx ls (.inr (.inl x) :: st) M | _ => bBad
  | (.aload i, nx, _, _) => match bLd ls i with | some (.inr (.inr (.inl x))) => bN nx ls (.inr (.inr (.inl x)) :: st) M | some (.inr (.inr (.inr _))) => bN nx ls (.inr (.inr (.inr ())) :: st) M | _ => bBad
  | (.aload_n i, nx, _, _) => match bLd ls i.val with | some (.inr (.inr (.inl x))) => bN nx ls (.inr (.inr (.inl x)) :: st) M | some (.inr (.inr (.inr _))) => bN nx ls (.inr (.inr (.inr ())) :: st) M | _ => bBad
  | (.istore i, nx, _, _) => match st with | .inl x :: r => bN nx (bSt ls i (.inl x)) r M | _ => bBad
  | (.istore_n i, nx, _, _) => match st with | .inl x :: r => bN nx (bSt ls i.val (.inl x)) r M | _ => bBad
  | (.lstore_n i, nx, _, _) => match st with | .inr (.inl x) :: r => bN nx (bSt2 ls i.val (.inr (.inl x))) r M | _ => bBad
  | (.astore i, nx, _, _) => match st with | .inr (.inr (.inl x)) :: r => bN nx (bSt ls i (.inr (.inr (.inl x)))) r M | .inr (.inr (.inr _)) :: r => bN nx (bSt ls i (.inr (.inr (.inr ())))) r M | _ => bBad
  | (.astore_n i, nx, _, _) => match st with | .inr (.inr (.inl x)) :: r => bN nx (bSt ls i.val (.inr (.inr (.inl x)))) r M | .inr (.inr (.inr _)) :: r => bN nx (bSt ls i.val (.inr (.inr (.inr ())))) r M | _ => bBad
  | (.iinc i _, nx, _, v) => match bLd ls i with | some (.inl x) => bN nx (bSt ls i (.inl (x + v))) st M | _ => bBad
  | (.iadd, nx, _, _) => match st with | .inl y :: .inl x :: r => bN nx ls (.inl (x + y) :: r) M | _ => bBad
  | (.isub, nx, _, _) => match st with | .inl y :: .inl x :: r => bN nx ls (.inl (x - y) :: r) M | _ => bBad
  | (.imul, nx, _, _) => match st with | .inl y :: .inl x :: r => bN nx ls (.inl (x * y) :: r) M | _ => bBad
  | (.iand, nx, _, _) => match st with | .inl y :: .inl x :: r => bN nx ls (.inl (x &&& y) :: r) M | _ => bBad
  | (.ior, nx, _, _) => match st with | .inl y :: .inl x :: r => bN nx ls (.inl (x ||| y) :: r) M | _ => bBad
  | (.ixor, nx, _, _) => match st with | .inl y :: .inl x :: r => bN nx ls (.inl (x ^^^ y) :: r) M | _ => bBad
  | (.ishl, nx, _, _) => match st with | .inl y :: .inl x :: r => bN nx ls (.inl (x <<< (y &&& 31)) :: r) M | _ => bBad
  | (.ishr, nx, _, _) => match st with | .inl y :: .inl x :: r => bN nx ls (.inl (x >>> (y &&& 31)) :: r) M | _ => bBad
  | (.iushr, nx, _, _) => match st with | .inl y :: .inl x :: r => bN nx ls (.inl (aUshr x y) :: r) M | _ => bBad
  | (.ineg, nx, _, _) => match st with | .inl x :: r => bN nx ls (.inl (-x) :: r) M | _ => bBad
  | (.idiv, nx, _, _) => match st with | .inl y :: .inl x :: r => bN1 (¬ y = 0) nx ls (.inl (x / y) :: r) M | _ => bBad
  | (.irem, nx, _, _) => match st with | .inl y :: .inl x :: r => bN1 (¬ y = 0) nx ls (.inl (aRem x y) :: r) M | _ => bBad
  | (.i2l, nx, _, _) => match st with | .inl x :: r => bN nx ls (.inr (.inl x.toInt64) :: r) M | _ => bBad
  | (.l2i, nx, _, _) => match st with | .inr (.inl x) :: r => bN nx ls (.inl x.toInt32 :: r) M | _ => bBad
  | (.i2b, nx, _, _) => match st with | .inl x :: r => bN nx ls (.inl x.toInt8.toInt32 :: r) M | _ => bBad
  | (.ladd, nx, _, _) => match st with | .inr (.inl y) :: .inr (.inl x) :: r => bN nx ls (.inr (.inl (x + y)) :: r) M | _ => bBad
  | (.lmul, nx, _, _) => match st with | .inr (.inl y) :: .inr (.inl x) :: r => bN nx ls (.inr (.inl (x * y)) :: r) M | _ => bBad
  | (.lrem, nx, _, _) => match st with | .inr (.inl y) :: .inr (.inl x) :: r => bN1 (¬ y = 0) nx ls (.inr (.inl (aLrem x y)) :: r) M | _ => bBad
  | (.lcmp, nx, _, _) => match st with | .inr (.inl y) :: .inr (.inl x) :: r => bN nx ls (.inl (lg_cmp x y) :: r) M | _ => bBad
  | (.dup, nx, _, _) => match st with | .inl x :: r => bN nx ls (.inl x :: .inl x :: r) M | .inr (.inr (.inl x)) :: r => bN nx ls (.inr (.inr (.inl x)) :: .inr (.inr (.inl x)) :: r) M | _ => bBad
  | (.dup2, nx, _, _) => match st with | .inl y :: .inr (.inr (.inl x)) :: r => bN nx ls (.inl y :: .inr (.inr (.inl x)) :: .inl y :: .inr (.inr (.inl x)) :: r) M | _ => bBad
  | (.goto _, nx, _, _) => bN nx ls st M
  | (.ifCond c _, nx, a, _) => match a, st with
    | [t], .inl x :: r => (match c with
      | .eq => bBr (x = 0) t nx ls r M
      | .ne => bBr (¬ x = 0) t nx ls r M
      | .lt => bBr (x < 0) t nx ls r M
      | .ge => bBr (0 ≤ x) t nx ls r M
      | .gt => bBr (0 < x) t nx ls r M
      | .le => bBr (x ≤ 0) t nx ls r M)
    | _, _ => bBad
  | (.if_icmp c _, nx, a, _) => match a, st with
    | [t], .inl y :: .inl x :: r => (match c with
      | .eq => bBr (x = y) t nx ls r M
      | .ne => bBr (¬ x = y) t nx ls r M
      | .lt => bBr (x < y) t nx ls r M
      | .ge => bBr (y ≤ x) t nx ls r M
      | .gt => bBr (y < x) t nx ls r M
      | .le => bBr (x ≤ y) t nx ls r M)
    | _, _ => bBad
  | (.ifnonnull _, nx, a, _) => match a, st with
    | [t], .inr (.inr (.inl _)) :: r => bN t ls r M
    | [_], .inr (.inr (.inr _)) :: r => bN nx ls r M
    | _, _ => bBad
  | (.tableswitch _ lo hi _, _, a, _) => match a, st with
    | d :: ts, .inl x :: r => .inr (.inr (.inl (bSw ts lo x ls r M, d, ls, r, M)))
    | _, _ => bBad
  | (.lookupswitch _ ps, _, a, _) => match a, st with
    | d :: ts, .inl x :: r => .inr (.inr (.inl (bSl ps.toList ts x ls r M, d, ls, r, M)))
    | _, _ => bBad
  | (.iaload, nx, _, _) => match st with | .inl i :: .inr (.inr (.inl (g, j))) :: r => cond (bIs g 0) (bN1 (vp_in i (bKn g)) nx ls (.inl (M g j i.toNatClampNeg) :: r) M) bBad | _ => bBad
  | (.baload, nx, _, _) => match st with | .inl i :: .inr (.inr (.inl (g, j))) :: r => cond (bIs g 1) (bN1 (vp_in i (bKn g)) nx ls (.inl (M g j i.toNatClampNeg) :: r) M) bBad | _ => bBad
  | (.aaload, nx, _, _) => match st with | .inl i :: .inr (.inr (.inl (g, j))) :: r => cond (Nat.beq (bKd g) 1) (bN1 (vp_in i (bKn g)) nx ls (.inr (.inr (.inl (bRr g j i.toNatClampNeg))) :: r) M) bBad | _ => bBad
  | (.iastore, nx, _, _) => match st with | .inl x :: .inl i :: .inr (.inr (.inl (g, j))) :: r => cond (bIs g 0) (bN1 (vp_in i (bKn g)) nx ls r (bU M g j i.toNatClampNeg x)) bBad | _ => bBad
  | (.bastore, nx, _, _) => match st with | .inl x :: .inl i :: .inr (.inr (.inl (g, j))) :: r => cond (bIs g 1) (bN1 (vp_in i (bKn g) ∧ (x = 0 ∨ x = 1)) nx ls r (bU M g j i.toNatClampNeg x)) bBad | _ => bBad
  | (.arraylength, nx, _, _) => match st with | .inr (.inr (.inl (g, _))) :: r => cond (bIs g 0) (bN nx ls (.inl (Int32.ofNat (bKn g)) :: r) M) bBad | _ => bBad
  | (.getfield _, nx, a, _) => match a, st with
    | [_, ci, f, 2], .inr (.inr (.inl (g, j))) :: r => cond (Nat.beq (bKd g) 2 && (Nat.beq (bKt g) ci && Nat.blt f (bKn g))) (match bFr g f j with | some t => bN nx ls (.inr (.inr (.inl t)) :: r) M | none => bBad) bBad
    | [_, ci, f, _], .inr (.inr (.inl (g, j))) :: r => cond (bFI g ci f) (bN nx ls (.inl (M g j f) :: r) M) bBad
    | _, _ => bBad
  | (.putfield _, nx, a, _) => match a, st with
    | [_, ci, f, 0], .inl x :: .inr (.inr (.inl (g, j))) :: r => cond (bFI g ci f) (bN nx ls r (bU M g j f x)) bBad
    | [_, ci, f, 1], .inl x :: .inr (.inr (.inl (g, j))) :: r => cond (bFI g ci f) (bN1 (x = 0 ∨ x = 1) nx ls r (bU M g j f x)) bBad
    | _, _ => bBad
  | (.invokevirtual _, nx, a, _) => match a with
    | [mj, na, rk, ci, _, _] => cond (bCk mj na st && bRcv (st.take na).reverse ci) (.inr (.inr (.inr (.inl (mj, (st.take na).reverse, rk, nx, ls, st.drop na, M))))) bBad
    | _ => bBad
  | (.invokestatic _, nx, a, _) => match a with
    | [mj, na, rk, _, _, _] => cond (bCk mj na st) (.inr (.inr (.inr (.inl (mj, (st.take na).reverse, rk, nx, ls, st.drop na, M))))) bBad
    | [1000, _] => (match st with | .inl n :: .inl dp :: .inr (.inr (.inl (g', j'))) :: .inl sp :: .inr (.inr (.inl (g, j))) :: r => cond (Nat.ble r.length 4 && (bIs g 0 && bIs g' 0)) (bN1 (¬ sp < 0 ∧ ¬ dp < 0 ∧ ¬ n < 0 ∧ sp.toNatClampNeg + n.toNatClampNeg ≤ bKn g ∧ dp.toNatClampNeg + n.toNatClampNeg ≤ bKn g') nx ls r (bCp M g j g' j' sp dp n)) bBad | _ => bBad)
    | _ => bBad
  | (.return_, _, _, _) => match st with | [] => .inr (.inr (.inr (.inr (.inl (none, M))))) | _ => bBad
  | (.ireturn, _, a, _) => match a, st with
    | [0], [.inl x] => .inr (.inr (.inr (.inr (.inl (some (.inl x), M)))))
    | [1], [.inl x] => .inr (.inr (.inr (.inr (.inr (x = 0 ∨ x = 1, some (.inl x), M)))))
    | _, _ => bBad
  | (.areturn, _, _, _) => match st with
    | [.inr (.inr (.inl t))] => .inr (.inr (.inr (.inr (.inl (some (.inr (.inr (.inl t))), M)))))
    | [.inr (.inr (.inr _))] => .inr (.inr (.inr (.inr (.inl (some (.inr (.inr (.inr ()))), M)))))
    | _ => bBad
  | _ => bBad
