-- needs: 01 02
/-! THE SMALL MACHINE: what the code does, said over cells that are numbered in the order of their making; a reference is a cell's number. -/
/-- a cell: an array (its type's number, its length, what it holds) or an object (its class's number, its fields) -/
abbrev aC : Type := (Nat × Nat × ((Nat → Int32) ⊕ (Nat → Int64) ⊕ (Nat → Option Nat))) ⊕ (Nat × List Value)
/-- all cells, and how many there are -/
abbrev aX : Type := (Nat → aC) × Nat
abbrev aL : Type := List (Option Value)
abbrev aG : Type := Nat → aL → List Value → aX → Nat → Nat → Prop
abbrev aQ : Type := Option Value → aX → Prop
/-- place in the code, locals, stack, cells, cells and slots made by this call -/
abbrev aCfg : Type := Nat × aL × List Value × aX × Nat × Nat
/-- what an instruction does: goes on; goes on if; goes on by cases, or else; calls (a condition where the kind is 10, method, arguments, kind of answer, where it goes on); ends; ends if -/
abbrev aO : Type := aCfg ⊕ (Prop × aCfg) ⊕ (List (Prop × aCfg) × aCfg) ⊕ (Prop × Nat × List Value × Nat × aCfg) ⊕ (Option Value × aX) ⊕ (Prop × Option Value × aX)
def aUp (f : Nat → aC) (a : Nat) (c : aC) : Nat → aC := fun h => if h = a then c else f h
def aPut (X : aX) (a : Nat) (c : aC) : aX := (aUp X.1 a c, X.2)
-- reading and writing a cell
def aHI (c : aC) (ci k : Nat) : Prop := match c with
  | .inr (cj, fs) => cj = ci ∧ (match fs[k]? with | some (.int _) => True | _ => False)
  | _ => False
def aFI (c : aC) (k : Nat) : Int32 := match c with
  | .inr (_, fs) => (match fs[k]? with | some (.int x) => x | _ => 0)
  | _ => 0
def aHR (c : aC) (ci k : Nat) : Prop := match c with
  | .inr (cj, fs) => cj = ci ∧ (match fs[k]? with | some (.ref _) => True | _ => False)
  | _ => False
def aFR (c : aC) (k : Nat) : Nat := match c with
  | .inr (_, fs) => (match fs[k]? with | some (.ref a) => a | _ => 0)
  | _ => 0
def aHF (c : aC) (ci k : Nat) : Prop := match c with
  | .inr (cj, fs) => cj = ci ∧ k < fs.length
  | _ => False
def aSF (c : aC) (k : Nat) (v : Value) : aC := match c with
  | .inr (cj, fs) => .inr (cj, fs.set k v)
  | c => c
def aHA (c : aC) (t : Nat) : Prop := match c with
  | .inl (t', _, _) => t' = t
  | _ => False
def aLen (c : aC) : Nat := match c with
  | .inl (_, n, _) => n
  | _ => 0
def aHE (c : aC) (t : Nat) (i : Int32) : Prop := match c with
  | .inl (t', n, .inl _) => t' = t ∧ vp_in i n
  | _ => False
def aEI (c : aC) (i : Int32) : Int32 := match c with
  | .inl (_, _, .inl f) => f i.toNatClampNeg
  | _ => 0
def aSE (c : aC) (i : Int32) (x : Int32) : aC := match c with
  | .inl (t, n, .inl f) => .inl (t, n, .inl (upd f i.toNatClampNeg x))
  | c => c
def aHL (c : aC) (i : Int32) : Prop := match c with
  | .inl (t', n, .inr (.inl _)) => t' = 5 ∧ vp_in i n
  | _ => False
def aEL (c : aC) (i : Int32) : Int64 := match c with
  | .inl (_, _, .inr (.inl f)) => f i.toNatClampNeg
  | _ => 0
def aHQ (c : aC) (t : Nat) (i : Int32) : Prop := match c with
  | .inl (t', n, .inr (.inr f)) => t' = t ∧ vp_in i n ∧ (match f i.toNatClampNeg with | some _ => True | none => False)
  | _ => False
def aER (c : aC) (i : Int32) : Nat := match c with
  | .inl (_, _, .inr (.inr f)) => (match f i.toNatClampNeg with | some a => a | none => 0)
  | _ => 0
def aHS (c : aC) (t : Nat) (i : Int32) : Prop := match c with
  | .inl (t', n, .inr (.inr _)) => t' = t ∧ vp_in i n
  | _ => False
def aSR (c : aC) (i : Int32) (a : Nat) : aC := match c with
  | .inl (t, n, .inr (.inr f)) => .inl (t, n, .inr (.inr (fun j => if j = i.toNatClampNeg then some a else f j)))
  | c => c
def aHO (c : aC) (ci : Nat) : Prop := match c with
  | .inr (cj, _) => cj = ci
  | _ => False
-- System.arraycopy over rows of ints
def aHC (c d : aC) (sp dp n : Int32) : Prop := match c, d with
  | .inl (t, n0, .inl _), .inl (t', n1, .inl _) => t = 0 ∧ t' = 0 ∧ ¬ sp < 0 ∧ ¬ dp < 0 ∧ ¬ n < 0 ∧ sp.toNatClampNeg + n.toNatClampNeg ≤ n0 ∧ dp.toNatClampNeg + n.toNatClampNeg ≤ n1
  | _, _ => False
def aCp (c d : aC) (sp dp n : Int32) : aC := match c, d with
  | .inl (_, _, .inl f), .inl (t, n1, .inl g) => .inl (t, n1, .inl (va_cpy f g sp.toNatClampNeg dp.toNatClampNeg n.toNatClampNeg))
  | _, d => d
/-- Java's remainder -/
def aRem (x y : Int32) : Int32 := x - x / y * y
def aLrem (x y : Int64) : Int64 := x - x / y * y
def aUshr (x y : Int32) : Int32 := (x.toUInt32 >>> (y.toUInt32 &&& Int32.toUInt32 31)).toInt32
-- locals
def aLd (ls : aL) (i : Nat) : Option Value := match ls[i]? with
  | some v => v
  | none => none
def aTwo (v : Option Value) : Bool := match v with
  | some (.long _) => true
  | some (.double _) => true
  | _ => false
/-- a store over the second word of a long takes it away -/
def aKill (ls : aL) (i : Nat) : aL := match i with
  | 0 => ls
  | j + 1 => cond (aTwo (aLd ls j)) (ls.set j none) ls
def aSt (ls : aL) (i : Nat) (v : Value) : aL := (aKill ls i).set i (some v)
def aSt2 (ls : aL) (i : Nat) (v : Value) : aL := ((aKill ls i).set i (some v)).set (i + 1) none
/-- the locals at a method's entry -/
def aArgs : List Value → aL
  | [] => []
  | .long x :: r => some (.long x) :: none :: aArgs r
  | .double x :: r => some (.double x) :: none :: aArgs r
  | v :: r => some v :: aArgs r
def aEntry (n : Nat) (args : List Value) : aL := aArgs args ++ List.replicate (n - (aArgs args).length) none
-- outcomes
abbrev aN (nx : Nat) (ls : aL) (st : List Value) (X : aX) (k q : Nat) : aO := .inl (nx, ls, st, X, k, q)
abbrev aN1 (P : Prop) (nx : Nat) (ls : aL) (st : List Value) (X : aX) (k q : Nat) : aO := .inr (.inl (P, nx, ls, st, X, k, q))
abbrev aBr (P : Prop) (nt nf : Nat) (ls : aL) (st : List Value) (X : aX) (k q : Nat) : aO := .inr (.inr (.inl ([(P, nt, ls, st, X, k, q)], nf, ls, st, X, k, q)))
abbrev aBad : aO := .inr (.inl (False, 0, [], [], (fun _ => .inr (0, []), 0), 0, 0))
def aSw (ts : List Nat) (lo : Int) (x : Int32) (ls : aL) (st : List Value) (X : aX) (k q : Nat) : List (Prop × aCfg) := match ts with
  | [] => []
  | t :: r => (x = Int32.ofInt lo, t, ls, st, X, k, q) :: aSw r (lo + 1) x ls st X k q
def aSl (ks : List (Int × Int)) (ts : List Nat) (x : Int32) (ls : aL) (st : List Value) (X : aX) (k q : Nat) : List (Prop × aCfg) := match ks, ts with
  | (v, _) :: ks, t :: r => (x = Int32.ofInt v, t, ls, st, X, k, q) :: aSl ks r x ls st X k q
  | _, _ => []
def aStep (e : aI) (ls : aL) (st : List Value) (X : aX) (k q : Nat) : aO := match e with
  | (.aconst_null, nx, _, _) => aN nx ls (.null :: st) X k q
  | (.iconst _, nx, _, v) => aN nx ls (.int v :: st) X k q
  | (.bipush _, nx, _, v) => aN nx ls (.int v :: st) X k q
  | (.sipush _, nx, _, v) => aN nx ls (.int v :: st) X k q
  | (.ldc_w _, nx, _, v) => aN nx ls (.int v :: st) X k q
  | (.lconst n, nx, _, _) => match n.val with | 0 => aN nx ls (.long 0 :: st) X k q | _ => aBad
  | (.iload i, nx, _, _) => match aLd ls i with | some (.int x) => aN nx ls (.int x :: st) X k q | _ => aBad
  | (.iload_n i, nx, _, _) => match aLd ls i.val with | some (.int x) => aN nx ls (.int x :: st) X k q | _ => aBad
  | (.lload_n i, nx, _, _) => match aLd ls i.val with | some (.long x) => aN nx ls (.long x :: st) X k q | _ => aBad
  | (.aload i, nx, _, _) => match aLd ls i with | some (.ref x) => aN nx ls (.ref x :: st) X k q | some .null => aN nx ls (.null :: st) X k q | _ => aBad
  | (.aload_n i, nx, _, _) => match aLd ls i.val with | some (.ref x) => aN nx ls (.ref x :: st) X k q | some .null => aN nx ls (.null :: st) X k q | _ => aBad
  | (.istore i, nx, _, _) => match st with | .int x :: r => aN nx (aSt ls i (.int x)) r X k q | _ => aBad
  | (.istore_n i, nx, _, _) => match st with | .int x :: r => aN nx (aSt ls i.val (.int x)) r X k q | _ => aBad
  | (.lstore_n i, nx, _, _) => match st with | .long x :: r => aN nx (aSt2 ls i.val (.long x)) r X k q | _ => aBad
  | (.astore i, nx, _, _) => match st with | .ref x :: r => aN nx (aSt ls i (.ref x)) r X k q | .null :: r => aN nx (aSt ls i .null) r X k q | _ => aBad
  | (.astore_n i, nx, _, _) => match st with | .ref x :: r => aN nx (aSt ls i.val (.ref x)) r X k q | .null :: r => aN nx (aSt ls i.val .null) r X k q | _ => aBad
  | (.iinc i _, nx, _, v) => match aLd ls i with | some (.int x) => aN nx (aSt ls i (.int (x + v))) st X k q | _ => aBad
  | (.iadd, nx, _, _) => match st with | .int y :: .int x :: r => aN nx ls (.int (x + y) :: r) X k q | _ => aBad
  | (.isub, nx, _, _) => match st with | .int y :: .int x :: r => aN nx ls (.int (x - y) :: r) X k q | _ => aBad
  | (.imul, nx, _, _) => match st with | .int y :: .int x :: r => aN nx ls (.int (x * y) :: r) X k q | _ => aBad
  | (.iand, nx, _, _) => match st with | .int y :: .int x :: r => aN nx ls (.int (x &&& y) :: r) X k q | _ => aBad
  | (.ior, nx, _, _) => match st with | .int y :: .int x :: r => aN nx ls (.int (x ||| y) :: r) X k q | _ => aBad
  | (.ixor, nx, _, _) => match st with | .int y :: .int x :: r => aN nx ls (.int (x ^^^ y) :: r) X k q | _ => aBad
  | (.ishl, nx, _, _) => match st with | .int y :: .int x :: r => aN nx ls (.int (x <<< (y &&& 31)) :: r) X k q | _ => aBad
  | (.ishr, nx, _, _) => match st with | .int y :: .int x :: r => aN nx ls (.int (x >>> (y &&& 31)) :: r) X k q | _ => aBad
  | (.iushr, nx, _, _) => match st with | .int y :: .int x :: r => aN nx ls (.int (aUshr x y) :: r) X k q | _ => aBad
  | (.ineg, nx, _, _) => match st with | .int x :: r => aN nx ls (.int (-x) :: r) X k q | _ => aBad
  | (.idiv, nx, _, _) => match st with | .int y :: .int x :: r => aN1 (¬ y = 0) nx ls (.int (x / y) :: r) X k q | _ => aBad
  | (.irem, nx, _, _) => match st with | .int y :: .int x :: r => aN1 (¬ y = 0) nx ls (.int (aRem x y) :: r) X k q | _ => aBad
  | (.i2l, nx, _, _) => match st with | .int x :: r => aN nx ls (.long x.toInt64 :: r) X k q | _ => aBad
  | (.l2i, nx, _, _) => match st with | .long x :: r => aN nx ls (.int x.toInt32 :: r) X k q | _ => aBad
  | (.i2b, nx, _, _) => match st with | .int x :: r => aN nx ls (.int x.toInt8.toInt32 :: r) X k q | _ => aBad
  | (.ladd, nx, _, _) => match st with | .long y :: .long x :: r => aN nx ls (.long (x + y) :: r) X k q | _ => aBad
  | (.lmul, nx, _, _) => match st with | .long y :: .long x :: r => aN nx ls (.long (x * y) :: r) X k q | _ => aBad
  | (.lrem, nx, _, _) => match st with | .long y :: .long x :: r => aN1 (¬ y = 0) nx ls (.long (aLrem x y) :: r) X k q | _ => aBad
  | (.lcmp, nx, _, _) => match st with | .long y :: .long x :: r => aN nx ls (.int (lg_cmp x y) :: r) X k q | _ => aBad
  | (.dup, nx, _, _) => match st with | .int x :: r => aN nx ls (.int x :: .int x :: r) X k q | .ref x :: r => aN nx ls (.ref x :: .ref x :: r) X k q | _ => aBad
  | (.dup2, nx, _, _) => match st with | .int y :: .ref x :: r => aN nx ls (.int y :: .ref x :: .int y :: .ref x :: r) X k q | _ => aBad
  | (.goto _, nx, _, _) => aN nx ls st X k q
  | (.ifCond c _, nx, a, _) => match a, st with
    | [t], .int x :: r => (match c with
      | .eq => aBr (x = 0) t nx ls r X k q
      | .ne => aBr (¬ x = 0) t nx ls r X k q
      | .lt => aBr (x < 0) t nx ls r X k q
      | .ge => aBr (0 ≤ x) t nx ls r X k q
      | .gt => aBr (0 < x) t nx ls r X k q
      | .le => aBr (x ≤ 0) t nx ls r X k q)
    | _, _ => aBad
  | (.if_icmp c _, nx, a, _) => match a, st with
    | [t], .int y :: .int x :: r => (match c with
      | .eq => aBr (x = y) t nx ls r X k q
      | .ne => aBr (¬ x = y) t nx ls r X k q
      | .lt => aBr (x < y) t nx ls r X k q
      | .ge => aBr (y ≤ x) t nx ls r X k q
      | .gt => aBr (y < x) t nx ls r X k q
      | .le => aBr (x ≤ y) t nx ls r X k q)
    | _, _ => aBad
  | (.ifnonnull _, nx, a, _) => match a, st with
    | [t], .ref _ :: r => aN t ls r X k q
    | [_], .null :: r => aN nx ls r X k q
    | _, _ => aBad
  | (.tableswitch _ lo hi _, _, a, _) => match a, st with
    | d :: ts, .int x :: r => .inr (.inr (.inl (aSw ts lo x ls r X k q, d, ls, r, X, k, q)))
    | _, _ => aBad
  | (.lookupswitch _ ps, _, a, _) => match a, st with
    | d :: ts, .int x :: r => .inr (.inr (.inl (aSl ps.toList ts x ls r X k q, d, ls, r, X, k, q)))
    | _, _ => aBad
  | (.iaload, nx, _, _) => match st with | .int i :: .ref a :: r => aN1 (aHE (X.1 a) 0 i) nx ls (.int (aEI (X.1 a) i) :: r) X k q | _ => aBad
  | (.baload, nx, _, _) => match st with | .int i :: .ref a :: r => aN1 (aHE (X.1 a) 1 i) nx ls (.int (aEI (X.1 a) i) :: r) X k q | _ => aBad
  | (.laload, nx, _, _) => match st with | .int i :: .ref a :: r => aN1 (aHL (X.1 a) i) nx ls (.long (aEL (X.1 a) i) :: r) X k q | _ => aBad
  | (.aaload, nx, a, _) => match a, st with | [t], .int i :: .ref a :: r => aN1 (aHQ (X.1 a) t i) nx ls (.ref (aER (X.1 a) i) :: r) X k q | _, _ => aBad
  | (.iastore, nx, _, _) => match st with | .int x :: .int i :: .ref a :: r => aN1 (aHE (X.1 a) 0 i) nx ls r (aPut X a (aSE (X.1 a) i x)) k q | _ => aBad
  | (.bastore, nx, _, _) => match st with | .int x :: .int i :: .ref a :: r => aN1 (aHE (X.1 a) 1 i ∧ (x = 0 ∨ x = 1)) nx ls r (aPut X a (aSE (X.1 a) i x)) k q | _ => aBad
  | (.aastore, nx, a, _) => match a, st with | [t], .ref v :: .int i :: .ref a :: r => aN1 (aHS (X.1 a) t i ∧ aHO (X.1 v) t) nx ls r (aPut X a (aSR (X.1 a) i v)) k q | _, _ => aBad
  | (.arraylength, nx, _, _) => match st with | .ref a :: r => aN1 (aHA (X.1 a) 0) nx ls (.int (Int32.ofNat (aLen (X.1 a))) :: r) X k q | _ => aBad
  | (.getfield _, nx, a, _) => match a, st with
    | [_, ci, f, 2], .ref a :: r => aN1 (aHR (X.1 a) ci f) nx ls (.ref (aFR (X.1 a) f) :: r) X k q
    | [_, ci, f, _], .ref a :: r => aN1 (aHI (X.1 a) ci f) nx ls (.int (aFI (X.1 a) f) :: r) X k q
    | _, _ => aBad
  | (.putfield _, nx, a, _) => match a, st with
    | [_, ci, f, 0], .int x :: .ref a :: r => aN1 (aHF (X.1 a) ci f) nx ls r (aPut X a (aSF (X.1 a) f (.int x))) k q
    | [_, ci, f, 1], .int x :: .ref a :: r => aN1 (aHF (X.1 a) ci f ∧ (x = 0 ∨ x = 1)) nx ls r (aPut X a (aSF (X.1 a) f (.int x))) k q
    | [_, ci, f, 2], .ref x :: .ref a :: r => aN1 (aHF (X.1 a) ci f) nx ls r (aPut X a (aSF (X.1 a) f (.ref x))) k q
    | _, _ => aBad
  | (.new _, nx, a, _) => match a with
    | [_, ci, mc, ms] => aN1 (k + 1 ≤ mc ∧ q + (aDf ci).length ≤ ms) nx ls (.ref X.2 :: st) (aUp X.1 X.2 (.inr (ci, aDf ci)), X.2 + 1) (k + 1) (q + (aDf ci).length)
    | _ => aBad
  | (.newarray _, nx, a, _) => match a, st with
    | [5, mc, ms], .int n :: r => aN1 (¬ n < 0 ∧ n.toNatClampNeg ≤ 2000 ∧ k + 1 ≤ mc ∧ q + n.toNatClampNeg ≤ ms) nx ls (.ref X.2 :: r) (aUp X.1 X.2 (.inl (5, n.toNatClampNeg, .inr (.inl (fun _ => 0)))), X.2 + 1) (k + 1) (q + n.toNatClampNeg)
    | [t, mc, ms], .int n :: r => aN1 (¬ n < 0 ∧ n.toNatClampNeg ≤ 2000 ∧ k + 1 ≤ mc ∧ q + n.toNatClampNeg ≤ ms) nx ls (.ref X.2 :: r) (aUp X.1 X.2 (.inl (t, n.toNatClampNeg, .inl (fun _ => 0))), X.2 + 1) (k + 1) (q + n.toNatClampNeg)
    | _, _ => aBad
  | (.anewarray _, nx, a, _) => match a, st with
    | [_, t, mc, ms], .int n :: r => aN1 (¬ n < 0 ∧ n.toNatClampNeg ≤ 2000 ∧ k + 1 ≤ mc ∧ q + n.toNatClampNeg ≤ ms) nx ls (.ref X.2 :: r) (aUp X.1 X.2 (.inl (t, n.toNatClampNeg, .inr (.inr (fun _ => none)))), X.2 + 1) (k + 1) (q + n.toNatClampNeg)
    | _, _ => aBad
  | (.multianewarray _ _, nx, a, _) => match a, st with
    | [_, mc, ms], .int m :: .int n :: r => aN1 (¬ n < 0 ∧ n.toNatClampNeg ≤ 2000 ∧ ¬ m < 0 ∧ m.toNatClampNeg ≤ 2000 ∧ k + 1 + n.toNatClampNeg ≤ mc ∧ q + n.toNatClampNeg + n.toNatClampNeg * m.toNatClampNeg ≤ ms) nx ls (.ref X.2 :: r)
        ((fun h => if h < X.2 then X.1 h else if h = X.2 then .inl (2, n.toNatClampNeg, .inr (.inr (fun i => if i < n.toNatClampNeg then some (X.2 + 1 + i) else none))) else if h < X.2 + 1 + n.toNatClampNeg then .inl (0, m.toNatClampNeg, .inl (fun _ => 0)) else X.1 h), X.2 + 1 + n.toNatClampNeg) (k + 1 + n.toNatClampNeg) (q + n.toNatClampNeg + n.toNatClampNeg * m.toNatClampNeg)
    | _, _ => aBad
  | (.invokevirtual _, nx, a, _) => match a with
    | [mj, na, rk, mc, ms, _] => cond (Nat.ble na st.length && Nat.ble (st.drop na).length 4) (.inr (.inr (.inr (.inl (True, mj, (st.take na).reverse, rk, nx, ls, st.drop na, X, k + mc, q + ms))))) aBad
    | _ => aBad
  | (.invokespecial _, nx, a, _) => match a with
    | [mj, na, rk, mc, ms, _, MC, MS] => cond (Nat.ble na st.length && Nat.ble (st.drop na).length 4) (.inr (.inr (.inr (.inl (k + mc ≤ MC ∧ q + ms ≤ MS, mj, (st.take na).reverse, rk, nx, ls, st.drop na, X, k + mc, q + ms))))) aBad
    | [1001, _] => (match st with | .ref _ :: r => cond (Nat.ble r.length 4) (aN nx ls r X k q) aBad | _ => aBad)
    | _ => aBad
  | (.invokestatic _, nx, a, _) => match a with
    | [mj, na, rk, mc, ms, _] => cond (Nat.ble na st.length && Nat.ble (st.drop na).length 4) (.inr (.inr (.inr (.inl (True, mj, (st.take na).reverse, rk, nx, ls, st.drop na, X, k + mc, q + ms))))) aBad
    | [1000, _] => (match st with | .int n :: .int dp :: .ref b :: .int sp :: .ref a :: r => cond (Nat.ble r.length 4) (aN1 (aHC (X.1 a) (X.1 b) sp dp n) nx ls r (aPut X b (aCp (X.1 a) (X.1 b) sp dp n)) k q) aBad | _ => aBad)
    | _ => aBad
  | (.return_, _, _, _) => .inr (.inr (.inr (.inr (.inl (none, X)))))
  | (.ireturn, _, a, _) => match a, st with
    | [0], [.int x] => .inr (.inr (.inr (.inr (.inl (some (.int x), X)))))
    | [1], [.int x] => .inr (.inr (.inr (.inr (.inr (x = 0 ∨ x = 1, some (.int x), X)))))
    | _, _ => aBad
  | (.areturn, _, _, _) => match st with
    | [.ref a] => .inr (.inr (.inr (.inr (.inl (some (.ref a), X)))))
    | [.null] => .inr (.inr (.inr (.inr (.inl (some .null, X)))))
    | _ => aBad
  | _ => aBad
