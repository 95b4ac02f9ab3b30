-- needs: 01 02 04 05 06 08 09 20
/-! THE MAKER: what the constructors do, over a list of cells in the order of their making; a reference is a cell's place in the list. -/
/-- an int, a cell, nothing -/
abbrev hV : Type := Int32 ⊕ (Nat ⊕ Unit)
/-- an array (its type's number, its length, what was stored: ints or booleans, or cells), an object (its class's number, its fields) -/
abbrev hC : Type := (Nat × Nat × (List (Nat × Int32) ⊕ List (Nat × Nat))) ⊕ (Nat × List hV)
abbrev hL : Type := List (Option hV)
/-- place in the code, locals, stack, cells, cells and slots made by this call -/
abbrev hS : Type := Nat × hL × List hV × List hC × Nat × Nat
def hIv : List (Nat × Int32) → Nat → Int32
  | [], _ => 0
  | (i, x) :: r, j => if j = i then x else hIv r j
def hRv : List (Nat × Nat) → Nat → Option Nat
  | [], _ => none
  | (i, x) :: r, j => if j = i then some x else hRv r j
def hLd (ls : hL) (i : Nat) : Option hV := match ls[i]? with
  | some v => v
  | none => none
def hEntry (n : Nat) (args : List hV) : hL := args.map some ++ List.replicate (n - args.length) none
/-- how many cells and slots a constructor makes -/
def hMc (mi : Nat) : Nat := match mi with
  | 18 => 12 | 24 => 49 | 31 => 1 | 23 => 5 | 48 => 23 | 56 => 1 | 78 => 112 | 148 => 34 | _ => 0
def hMs (mi : Nat) : Nat := match mi with
  | 18 => 816 | 24 => 432 | 31 => 32 | 23 => 44 | 48 => 622 | 56 => 40 | 78 => 2466 | 148 => 4860 | _ => 0
/-- a new object's fields -/
def hDf (ci : Nat) : List hV := (aDf ci).map (fun v => match v with | .int x => .inl x | _ => .inr (.inr ()))
-- the references are of cells that there are
def hOkV (n : Nat) : hV → Bool
  | .inr (.inl k) => Nat.blt k n
  | _ => true
def hOkC (n : Nat) : hC → Bool
  | .inl (_, _, .inr l) => l.all (fun q => Nat.blt q.2 n)
  | .inl (_, _, .inl _) => true
  | .inr (_, fs) => fs.all (hOkV n)
def hOkL (n : Nat) (ls : hL) : Bool := ls.all (fun v => match v with | some v => hOkV n v | none => true)
def hWf (ls : hL) (st : List hV) (X : List hC) : Bool := X.all (hOkC X.length) && (hOkL X.length ls && st.all (hOkV X.length))
abbrev hN (nx : Nat) (ls : hL) (st : List hV) (X : List hC) (k q : Nat) : Option (hS ⊕ List hC) := some (.inl (nx, ls, st, X, k, q))
/-- a value that a field of that sort takes: int, boolean, reference -/
def hFit (zt : Nat) : hV → Bool
  | .inl x => match zt with | 0 => true | 1 => decide (x = 0) || decide (x = 1) | _ => false
  | .inr (.inl _) => Nat.beq zt 2
  | .inr (.inr _) => false
def hIn (i : Int32) (n : Nat) : Bool := !decide (i < 0) && Nat.blt i.toNatClampNeg n
/-- room for c cells and z slots more -/
def hRoom (mi k q c z : Nat) : Bool := Nat.ble (k + c) (hMc mi) && Nat.ble (q + z) (hMs mi)
/-- the inner arrays -/
def hRows (N K : Nat) : List hC := List.replicate N (.inl (0, K, .inl []))
def hStep (call : Nat → List hV → List hC → Option (List hC)) (mi : Nat) (e : aI) (ls : hL) (st : List hV) (X : List hC) (k q : Nat) : Option (hS ⊕ List hC) := match e with
  | (.iconst _, nx, _, v) => hN nx ls (.inl v :: st) X k q
  | (.bipush _, nx, _, v) => hN nx ls (.inl v :: st) X k q
  | (.sipush _, nx, _, v) => hN nx ls (.inl v :: st) X k q
  | (.iload_n i, nx, _, _) => match hLd ls i.val with | some (.inl x) => hN nx ls (.inl x :: st) X k q | _ => none
  | (.aload_n i, nx, _, _) => match hLd ls i.val with | some (.inr (.inl x)) => hN nx ls (.inr (.inl x) :: st) X k q | _ => none
  | (.istore_n i, nx, _, _) => match st with | .inl x :: r => hN nx (ls.set i.val (some (.inl x))) r X k q | _ => none
  | (.iinc i _, nx, _, v) => match hLd ls i with | some (.inl x) => hN nx (ls.set i (some (.inl (x + v)))) st X k q | _ => none
  | (.goto _, nx, _, _) => hN nx ls st X k q
  | (.if_icmp .ge _, nx, a, _) => match a, st with | [t], .inl y :: .inl x :: r => (if y ≤ x then hN t ls r X k q else hN nx ls r X k q) | _, _ => none
  | (.dup, nx, _, _) => match st with | v :: r => hN nx ls (v :: v :: r) X k q | _ => none
  | (.getfield _, nx, a, _) => match a, st with
    | [_, ci, f, _], .inr (.inl o) :: r => (match X[o]? with
      | some (.inr (cj, fs)) => (match fs[f]? with | some v => cond (Nat.beq cj ci) (hN nx ls (v :: r) X k q) none | none => none)
      | _ => none)
    | _, _ => none
  | (.putfield _, nx, a, _) => match a, st with
    | [_, ci, f, zt], v :: .inr (.inl o) :: r => (match X[o]? with
      | some (.inr (cj, fs)) => cond (Nat.beq cj ci && (Nat.blt f fs.length && hFit zt v)) (hN nx ls r (X.set o (.inr (cj, fs.set f v))) k q) none
      | _ => none)
    | _, _ => none
  | (.iastore, nx, _, _) => match st with
    | .inl x :: .inl i :: .inr (.inl o) :: r => (match X[o]? with
      | some (.inl (t, n, .inl l)) => cond (Nat.beq t 0 && hIn i n) (hN nx ls r (X.set o (.inl (t, n, .inl ((i.toNatClampNeg, x) :: l)))) k q) none
      | _ => none)
    | _ => none
  | (.aastore, nx, _, _) => match st with
    | .inr (.inl w) :: .inl i :: .inr (.inl o) :: r => (match X[o]?, X[w]? with
      | some (.inl (t, n, .inr l)), some (.inr (ci, _)) => cond (((Nat.beq t 3 && Nat.beq ci 3) || (Nat.beq t 4 && Nat.beq ci 5)) && hIn i n) (hN nx ls r (X.set o (.inl (t, n, .inr ((i.toNatClampNeg, w) :: l)))) k q) none
      | _, _ => none)
    | _ => none
  | (.newarray _, nx, a, _) => match a, st with
    | t :: _, .inl n :: r => cond (!decide (n < 0) && (Nat.ble n.toNatClampNeg 100000 && (hRoom mi k q 1 n.toNatClampNeg && hWf ls r X))) (hN nx ls (.inr (.inl X.length) :: r) (X ++ [.inl (t, n.toNatClampNeg, .inl [])]) (k + 1) (q + n.toNatClampNeg)) none
    | _, _ => none
  | (.anewarray _, nx, a, _) => match a, st with
    | _ :: t :: _, .inl n :: r => cond (!decide (n < 0) && (Nat.ble n.toNatClampNeg 100000 && (hRoom mi k q 1 n.toNatClampNeg && hWf ls r X))) (hN nx ls (.inr (.inl X.length) :: r) (X ++ [.inl (t, n.toNatClampNeg, .inr [])]) (k + 1) (q + n.toNatClampNeg)) none
    | _, _ => none
  | (.multianewarray _ _, nx, _, _) => match st with
    | .inl z :: .inl n :: r => cond (!decide (n < 0) && (!decide (z < 0) && (Nat.ble n.toNatClampNeg 100000 && (Nat.ble z.toNatClampNeg 100000 && (hRoom mi k q (1 + n.toNatClampNeg) (n.toNatClampNeg + n.toNatClampNeg * z.toNatClampNeg) && hWf ls r X)))))
        (hN nx ls (.inr (.inl X.length) :: r) (X ++ .inl (2, n.toNatClampNeg, .inr ((List.range n.toNatClampNeg).map (fun i => (i, X.length + 1 + i)))) :: hRows n.toNatClampNeg z.toNatClampNeg) (k + (1 + n.toNatClampNeg)) (q + (n.toNatClampNeg + n.toNatClampNeg * z.toNatClampNeg))) none
    | _ => none
  | (.new _, nx, a, _) => match a with
    | _ :: ci :: _ => cond (hRoom mi k q 1 (hDf ci).length && hWf ls st X) (hN nx ls (.inr (.inl X.length) :: st) (X ++ [.inr (ci, hDf ci)]) (k + 1) (q + (hDf ci).length)) none
    | _ => none
  | (.invokespecial _, nx, a, _) => match a with
    | [1001, _] => (match st with | .inr (.inl _) :: r => cond (Nat.ble r.length 4) (hN nx ls r X k q) none | _ => none)
    | mj :: na :: _ => (match st.take na |>.reverse with
      | .inr (.inl o) :: as => cond (Nat.ble na st.length && (Nat.ble (st.drop na).length 4 && (Nat.ble na (aML mj) && (hRoom mi k q (hMc mj) (hMs mj) && hWf ls st X)))) (match call mj (.inr (.inl o) :: as) X with
        | some X' => cond (Nat.ble X.length X'.length) (hN nx ls (st.drop na) X' (k + hMc mj) (q + hMs mj)) none
        | none => none) none
      | _ => none)
    | _ => none
  | (.return_, _, _, _) => match st with | [] => cond (Nat.beq k (hMc mi) && Nat.beq q (hMs mi)) (some (.inr X)) none | _ => none
  | _ => none
/-- n steps at most, calls counted in -/
def hGo (n : Nat) : Nat → Nat → hL → List hV → List hC → Nat → Nat → Option (List hC) :=
  Nat.rec (fun _ _ _ _ _ _ _ => none) (fun _ ih mi pc ls st X k q =>
    match hStep (fun mj as X => ih mj 0 (hEntry (aML mj) as) [] X 0 0) mi (aCode mi pc) ls st X k q with
    | some (.inl (pc', ls', st', X', k', q')) => ih mi pc' ls' st' X' k' q'
    | some (.inr X') => some X'
    | none => none) n
theorem hGo_succ (n mi pc : Nat) (ls : hL) (st : List hV) (X : List hC) (k q : Nat) : hGo (n + 1) mi pc ls st X k q = (match hStep (fun mj as X => hGo n mj 0 (hEntry (aML mj) as) [] X 0 0) mi (aCode mi pc) ls st X k q with
    | some (.inl (pc', ls', st', X', k', q')) => hGo n mi pc' ls' st' X' k' q'
    | some (.inr X') => some X'
    | none => none) := rfl
-- the entries of the constructors
def hTyZ (ty : FieldType) (zt : Nat) : Bool := match zt with | 0 => decide (ty = .int) | 1 => decide (ty = .boolean) | 2 => ty.isReference | _ => false
def hTyF (ci f zt : Nat) : Bool := match parseFieldDescriptor ((aCl.getD ci ("", aT0, 0)).2.1 f).2.2.1 with
  | some ty => hTyZ ty zt
  | none => false
def hOk (mi pc : Nat) (e : aI) : Bool := match e with
  | (.putfield idx, nx, a, _) => match a with
    | [j, ci, f, zt] => bD mi pc (.putfield idx) 3 && (Nat.beq nx (pc + 3) && (bFk mi j idx ci f && (hTyF ci f zt && (!((aCl.getD ci ("", aT0, 0)).2.1 f).2.2.2 || (Nat.beq ci (aMe mi).1 && Nat.beq (aFl.getD j (0, 0, 0, 0, 0)).2.2.2.2 0)))))
    | _ => false
  | (.newarray t, nx, a, _) => match a with
    | t' :: _ => bD mi pc (.newarray t) 2 && (Nat.beq nx (pc + 2) && (match t with | .int => Nat.beq t' 0 | .boolean => Nat.beq t' 1 | _ => false))
    | _ => false
  | (.anewarray idx, nx, a, _) => match a with
    | _ :: t :: _ => bD mi pc (.anewarray idx) 3 && (Nat.beq nx (pc + 3) && (Nat.blt t 6 && aKl.any (fun q => Nat.beq q.1 (aMe mi).1 && (Nat.beq q.2.1 idx && (decide (aTys t = .object q.2.2) && decide (Cond.arrayOver (.object q.2.2) ∈ aNO))))))
    | _ => false
  | (.multianewarray idx d, nx, _, _) => bD mi pc (.multianewarray idx d) 4 && (Nat.beq d 2 && (Nat.beq nx (pc + 4) && aKl.any (fun q => Nat.beq q.1 (aMe mi).1 && (Nat.beq q.2.1 idx && decide (q.2.2 = "[[I")))))
  | (.new idx, nx, a, _) => match a with
    | _ :: ci :: _ => bD mi pc (.new idx) 3 && (Nat.beq nx (pc + 3) && (Nat.blt ci 8 && aKl.any (fun q => Nat.beq q.1 (aMe mi).1 && (Nat.beq q.2.1 idx && decide (q.2.2 = aCN ci)))))
    | _ => false
  | (.aastore, nx, _, _) => bD mi pc .aastore 1 && Nat.beq nx (pc + 1)
  | (.invokespecial idx, nx, a, _) => match a with
    | [1001, ix] => bD mi pc (.invokespecial idx) 3 && (Nat.beq nx (pc + 3) && (Nat.beq ix idx && aOi.any (fun q => Nat.beq q.1 (aMe mi).1 && Nat.beq q.2 idx)))
    | [mj, na, _, _, _, j, _, _] => bD mi pc (.invokespecial idx) 3 && (Nat.beq nx (pc + 3) && (bMk' mi j idx mj && (Nat.blt mj mi && (Nat.beq (aMe mj).2.2.2.2.2.1 2 && Nat.beq na ((aMe mj).2.2.2.2.2.2.2.2 + 1)))))
    | _ => false
  | e => bOk mi pc e
def hOkM (mi : Nat) : Bool := Nat.beq (aML mi) (aMe mi).2.2.2.1 && (List.range (aSz mi)).all (fun pc => hOk mi pc (aKd mi pc))
theorem hOk_18 : hOkM 18 = true := by decide +kernel
theorem hOk_23 : hOkM 23 = true := by decide +kernel
theorem hOk_24 : hOkM 24 = true := by decide +kernel
theorem hOk_31 : hOkM 31 = true := by decide +kernel
theorem hOk_48 : hOkM 48 = true := by decide +kernel
theorem hOk_56 : hOkM 56 = true := by decide +kernel
theorem hOk_78 : hOkM 78 = true := by decide +kernel
theorem hOk_148 : hOkM 148 = true := by decide +kernel
theorem hOkM_all {mi : Nat} (h : mi < 176) (hk : (aMe mi).2.2.2.2.2.1 = 2) : hOkM mi = true := by
  have h1 : (List.range 176).all (fun mi => !Nat.beq (aMe mi).2.2.2.2.2.1 2 || [18, 23, 24, 31, 48, 56, 78, 148].contains mi) = true := by decide +kernel
  have h2 := List.all_eq_true.mp h1 mi (List.mem_range.mpr h)
  rw [hk] at h2
  simp only [Nat.beq_refl, Bool.not_true, Bool.false_or, List.contains_iff_mem] at h2
  simp only [List.mem_cons, List.not_mem_nil, or_false] at h2
  rcases h2 with rfl | rfl | rfl | rfl | rfl | rfl | rfl | rfl
  · exact hOk_18
  · exact hOk_23
  · exact hOk_24
  · exact hOk_31
  · exact hOk_48
  · exact hOk_56
  · exact hOk_78
  · exact hOk_148
/-- all that is made: x, then m -/
def hMade : Option (List hC) := match hGo 700 78 0 (hEntry (aML 78) [.inr (.inl 0)]) [] [.inr (6, hDf 6)] 0 0 with
  | some X => hGo 400 148 0 (hEntry (aML 148) [.inr (.inl X.length)]) [] (X ++ [.inr (7, hDf 7)]) 0 0
  | none => none
