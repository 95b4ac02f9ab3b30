-- needs: 01 02 06 08 09 10
/-- one instruction, its entry known, some locals forgotten first -/
theorem bGo_at {mi pc : Nat} {Q : bQ} {ls ls1 : bL} {st : List bV} {M : bM} {e : aI} (hc : aCode mi pc = e) (hm : bMk (bMask mi pc) ls = ls1) (h : bRun bCall Q (bGo mi Q) (bStep e ls1 st M)) : bGo mi Q pc ls st M := by
  subst hc
  subst hm
  exact bGo_step h
theorem k_ {mi pc : Nat} {e : aI} {ls : bL} (h : aCode mi pc = e ∧ bMask mi pc = []) : bMk (bMask mi pc) ls = ls := by
  rw [h.2]
  rfl
theorem s_iconst {mi pc nx : Nat} {a : List Nat} {v : Int32} {Q : bQ} {ls ls1 : bL} {r : List bV} {M : bM} {n : Int} (hc : aCode mi pc = (.iconst n, nx, a, v)) (hm : bMk (bMask mi pc) ls = ls1) (h : bGo mi Q nx ls1 (.inl v :: r) M) : bGo mi Q pc ls r M := bGo_at hc hm h
theorem s_bipush {mi pc nx : Nat} {a : List Nat} {v : Int32} {Q : bQ} {ls ls1 : bL} {r : List bV} {M : bM} {n : Int} (hc : aCode mi pc = (.bipush n, nx, a, v)) (hm : bMk (bMask mi pc) ls = ls1) (h : bGo mi Q nx ls1 (.inl v :: r) M) : bGo mi Q pc ls r M := bGo_at hc hm h
theorem s_sipush {mi pc nx : Nat} {a : List Nat} {v : Int32} {Q : bQ} {ls ls1 : bL} {r : List bV} {M : bM} {n : Int} (hc : aCode mi pc = (.sipush n, nx, a, v)) (hm : bMk (bMask mi pc) ls = ls1) (h : bGo mi Q nx ls1 (.inl v :: r) M) : bGo mi Q pc ls r M := bGo_at hc hm h
theorem s_ldc_w {mi pc nx : Nat} {a : List Nat} {v : Int32} {Q : bQ} {ls ls1 : bL} {r : List bV} {M : bM} {n : Nat} (hc : aCode mi pc = (.ldc_w n, nx, a, v)) (hm : bMk (bMask mi pc) ls = ls1) (h : bGo mi Q nx ls1 (.inl v :: r) M) : bGo mi Q pc ls r M := bGo_at hc hm h
theorem s_null {mi pc nx : Nat} {a : List Nat} {v : Int32} {Q : bQ} {ls ls1 : bL} {r : List bV} {M : bM}  (hc : aCode mi pc = (.aconst_null, nx, a, v)) (hm : bMk (bMask mi pc) ls = ls1) (h : bGo mi Q nx ls1 (.inr (.inr (.inr ())) :: r) M) : bGo mi Q pc ls r M := bGo_at hc hm h
theorem s_lconst {mi pc nx : Nat} {a : List Nat} {v : Int32} {Q : bQ} {ls ls1 : bL} {r : List bV} {M : bM}  (hc : aCode mi pc = (.lconst 0, nx, a, v)) (hm : bMk (bMask mi pc) ls = ls1) (h : bGo mi Q nx ls1 (.inr (.inl 0) :: r) M) : bGo mi Q pc ls r M := bGo_at hc hm h
theorem s_iload {mi pc nx : Nat} {a : List Nat} {v : Int32} {Q : bQ} {ls ls1 : bL} {r : List bV} {M : bM} {i : Nat} {x : Int32} (hc : aCode mi pc = (.iload i, nx, a, v)) (hm : bMk (bMask mi pc) ls = ls1) (hl : bLd ls1 i = some (.inl x)) (h : bGo mi Q nx ls1 (.inl x :: r) M) : bGo mi Q pc ls r M := bGo_at hc hm (by
  simp only [bStep, hl]
  exact h)
theorem s_iload_n {mi pc nx : Nat} {a : List Nat} {v : Int32} {Q : bQ} {ls ls1 : bL} {r : List bV} {M : bM} {i : Fin 4} {x : Int32} (hc : aCode mi pc = (.iload_n i, nx, a, v)) (hm : bMk (bMask mi pc) ls = ls1) (hl : bLd ls1 i.val = some (.inl x)) (h : bGo mi Q nx ls1 (.inl x :: r) M) : bGo mi Q pc ls r M := bGo_at hc hm (by
  simp only [bStep, hl]
  exact h)
theorem s_lload_n {mi pc nx : Nat} {a : List Nat} {v : Int32} {Q : bQ} {ls ls1 : bL} {r : List bV} {M : bM} {i : Fin 4} {x : Int64} (hc : aCode mi pc = (.lload_n i, nx, a, v)) (hm : bMk (bMask mi pc) ls = ls1) (hl : bLd ls1 i.val = some (.inr (.inl x))) (h : bGo mi Q nx ls1 (.inr (.inl x) :: r) M) : bGo mi Q pc ls r M := bGo_at hc hm (by
  simp only [bStep, hl]
  exact h)
theorem s_aload {mi pc nx : Nat} {a : List Nat} {v : Int32} {Q : bQ} {ls ls1 : bL} {r : List bV} {M : bM} {i : Nat} {x : Nat × Nat} (hc : aCode mi pc = (.aload i, nx, a, v)) (hm : bMk (bMask mi pc) ls = ls1) (hl : bLd ls1 i = some (.inr (.inr (.inl x)))) (h : bGo mi Q nx ls1 (.inr (.inr (.inl x)) :: r) M) : bGo mi Q pc ls r M := bGo_at hc hm (by
  simp only [bStep, hl]
  exact h)
theorem s_aload_n {mi pc nx : Nat} {a : List Nat} {v : Int32} {Q : bQ} {ls ls1 : bL} {r : List bV} {M : bM} {i : Fin 4} {x : Nat × Nat} (hc : aCode mi pc = (.aload_n i, nx, a, v)) (hm : bMk (bMask mi pc) ls = ls1) (hl : bLd ls1 i.val = some (.inr (.inr (.inl x)))) (h : bGo mi Q nx ls1 (.inr (.inr (.inl x)) :: r) M) : bGo mi Q pc ls r M := bGo_at hc hm (by
  simp only [bStep, hl]
  exact h)
theorem s_aloadN {mi pc nx : Nat} {a : List Nat} {v : Int32} {Q : bQ} {ls ls1 : bL} {r : List bV} {M : bM} {i : Nat} (hc : aCode mi pc = (.aload i, nx, a, v)) (hm : bMk (bMask mi pc) ls = ls1) (hl : bLd ls1 i = some (.inr (.inr (.inr ())))) (h : bGo mi Q nx ls1 (.inr (.inr (.inr ())) :: r) M) : bGo mi Q pc ls r M := bGo_at hc hm (by
  simp only [bStep, hl]
  exact h)
theorem s_aload_nN {mi pc nx : Nat} {a : List Nat} {v : Int32} {Q : bQ} {ls ls1 : bL} {r : List bV} {M : bM} {i : Fin 4} (hc : aCode mi pc = (.aload_n i, nx, a, v)) (hm : bMk (bMask mi pc) ls = ls1) (hl : bLd ls1 i.val = some (.inr (.inr (.inr ())))) (h : bGo mi Q nx ls1 (.inr (.inr (.inr ())) :: r) M) : bGo mi Q pc ls r M := bGo_at hc hm (by
  simp only [bStep, hl]
  exact h)
theorem s_istore {mi pc nx : Nat} {a : List Nat} {v : Int32} {Q : bQ} {ls ls1 : bL} {r : List bV} {M : bM} {i : Nat} {x : Int32} (hc : aCode mi pc = (.istore i, nx, a, v)) (hm : bMk (bMask mi pc) ls = ls1) (h : bGo mi Q nx (bSt ls1 i (.inl x)) r M) : bGo mi Q pc ls (.inl x :: r) M := bGo_at hc hm h
theorem s_istore_n {mi pc nx : Nat} {a : List Nat} {v : Int32} {Q : bQ} {ls ls1 : bL} {r : List bV} {M : bM} {i : Fin 4} {x : Int32} (hc : aCode mi pc = (.istore_n i, nx, a, v)) (hm : bMk (bMask mi pc) ls = ls1) (h : bGo mi Q nx (bSt ls1 i.val (.inl x)) r M) : bGo mi Q pc ls (.inl x :: r) M := bGo_at hc hm h
theorem s_lstore_n {mi pc nx : Nat} {a : List Nat} {v : Int32} {Q : bQ} {ls ls1 : bL} {r : List bV} {M : bM} {i : Fin 4} {x : Int64} (hc : aCode mi pc = (.lstore_n i, nx, a, v)) (hm : bMk (bMask mi pc) ls = ls1) (h : bGo mi Q nx (bSt2 ls1 i.val (.inr (.inl x))) r M) : bGo mi Q pc ls (.inr (.inl x) :: r) M := bGo_at hc hm h
theorem s_astore {mi pc nx : Nat} {a : List Nat} {v : Int32} {Q : bQ} {ls ls1 : bL} {r : List bV} {M : bM} {i : Nat} {x : Nat × Nat} (hc : aCode mi pc = (.astore i, nx, a, v)) (hm : bMk (bMask mi pc) ls = ls1) (h : bGo mi Q nx (bSt ls1 i (.inr (.inr (.inl x)))) r M) : bGo mi Q pc ls (.inr (.inr (.inl x)) :: r) M := bGo_at hc hm h
theorem s_astoreN {mi pc nx : Nat} {a : List Nat} {v : Int32} {Q : bQ} {ls ls1 : bL} {r : List bV} {M : bM} {i : Nat} (hc : aCode mi pc = (.astore i, nx, a, v)) (hm : bMk (bMask mi pc) ls = ls1) (h : bGo mi Q nx (bSt ls1 i (.inr (.inr (.inr ())))) r M) : bGo mi Q pc ls (.inr (.inr (.inr ())) :: r) M := bGo_at hc hm h
theorem s_astore_n {mi pc nx : Nat} {a : List Nat} {v : Int32} {Q : bQ} {ls ls1 : bL} {r : List bV} {M : bM} {i : Fin 4} {x : Nat × Nat} (hc : aCode mi pc = (.astore_n i, nx, a, v)) (hm : bMk (bMask mi pc) ls = ls1) (h : bGo mi Q nx (bSt ls1 i.val (.inr (.inr (.inl x)))) r M) : bGo mi Q pc ls (.inr (.inr (.inl x)) :: r) M := bGo_at hc hm h
theorem s_astore_nN {mi pc nx : Nat} {a : List Nat} {v : Int32} {Q : bQ} {ls ls1 : bL} {r : List bV} {M : bM} {i : Fin 4} (hc : aCode mi pc = (.astore_n i, nx, a, v)) (hm : bMk (bMask mi pc) ls = ls1) (h : bGo mi Q nx (bSt ls1 i.val (.inr (.inr (.inr ())))) r M) : bGo mi Q pc ls (.inr (.inr (.inr ())) :: r) M := bGo_at hc hm h
theorem s_iinc {mi pc nx : Nat} {a : List Nat} {v : Int32} {Q : bQ} {ls ls1 : bL} {r : List bV} {M : bM} {i : Nat} {n : Int} {x : Int32} (hc : aCode mi pc = (.iinc i n, nx, a, v)) (hm : bMk (bMask mi pc) ls = ls1) (hl : bLd ls1 i = some (.inl x)) (h : bGo mi Q nx (bSt ls1 i (.inl (x + v))) r M) : bGo mi Q pc ls r M := bGo_at hc hm (by
  simp only [bStep, hl]
  exact h)
theorem s_iadd {mi pc nx : Nat} {a : List Nat} {v : Int32} {Q : bQ} {ls ls1 : bL} {r : List bV} {M : bM} {x y : Int32} (hc : aCode mi pc = (.iadd, nx, a, v)) (hm : bMk (bMask mi pc) ls = ls1) (h : bGo mi Q nx ls1 (.inl (x + y) :: r) M) : bGo mi Q pc ls (.inl y :: .inl x :: r) M := bGo_at hc hm h
theorem s_isub {mi pc nx : Nat} {a : List Nat} {v : Int32} {Q : bQ} {ls ls1 : bL} {r : List bV} {M : bM} {x y : Int32} (hc : aCode mi pc = (.isub, nx, a, v)) (hm : bMk (bMask mi pc) ls = ls1) (h : bGo mi Q nx ls1 (.inl (x - y) :: r) M) : bGo mi Q pc ls (.inl y :: .inl x :: r) M := bGo_at hc hm h
theorem s_imul {mi pc nx : Nat} {a : List Nat} {v : Int32} {Q : bQ} {ls ls1 : bL} {r : List bV} {M : bM} {x y : Int32} (hc : aCode mi pc = (.imul, nx, a, v)) (hm : bMk (bMask mi pc) ls = ls1) (h : bGo mi Q nx ls1 (.inl (x * y) :: r) M) : bGo mi Q pc ls (.inl y :: .inl x :: r) M := bGo_at hc hm h
theorem s_iand {mi pc nx : Nat} {a : List Nat} {v : Int32} {Q : bQ} {ls ls1 : bL} {r : List bV} {M : bM} {x y : Int32} (hc : aCode mi pc = (.iand, nx, a, v)) (hm : bMk (bMask mi pc) ls = ls1) (h : bGo mi Q nx ls1 (.inl (x &&& y) :: r) M) : bGo mi Q pc ls (.inl y :: .inl x :: r) M := bGo_at hc hm h
theorem s_ior {mi pc nx : Nat} {a : List Nat} {v : Int32} {Q : bQ} {ls ls1 : bL} {r : List bV} {M : bM} {x y : Int32} (hc : aCode mi pc = (.ior, nx, a, v)) (hm : bMk (bMask mi pc) ls = ls1) (h : bGo mi Q nx ls1 (.inl (x ||| y) :: r) M) : bGo mi Q pc ls (.inl y :: .inl x :: r) M := bGo_at hc hm h
theorem s_ixor {mi pc nx : Nat} {a : List Nat} {v : Int32} {Q : bQ} {ls ls1 : bL} {r : List bV} {M : bM} {x y : Int32} (hc : aCode mi pc = (.ixor, nx, a, v)) (hm : bMk (bMask mi pc) ls = ls1) (h : bGo mi Q nx ls1 (.inl (x ^^^ y) :: r) M) : bGo mi Q pc ls (.inl y :: .inl x :: r) M := bGo_at hc hm h
theorem s_ishl {mi pc nx : Nat} {a : List Nat} {v : Int32} {Q : bQ} {ls ls1 : bL} {r : List bV} {M : bM} {x y : Int32} (hc : aCode mi pc = (.ishl, nx, a, v)) (hm : bMk (bMask mi pc) ls = ls1) (h : bGo mi Q nx ls1 (.inl (x <<< (y &&& 31)) :: r) M) : bGo mi Q pc ls (.inl y :: .inl x :: r) M := bGo_at hc hm h
theorem s_ishr {mi pc nx : Nat} {a : List Nat} {v : Int32} {Q : bQ} {ls ls1 : bL} {r : List bV} {M : bM} {x y : Int32} (hc : aCode mi pc = (.ishr, nx, a, v)) (hm : bMk (bMask mi pc) ls = ls1) (h : bGo mi Q nx ls1 (.inl (x >>> (y &&& 31)) :: r) M) : bGo mi Q pc ls (.inl y :: .inl x :: r) M := bGo_at hc hm h
theorem s_iushr {mi pc nx : Nat} {a : List Nat} {v : Int32} {Q : bQ} {ls ls1 : bL} {r : List bV} {M : bM} {x y : Int32} (hc : aCode mi pc = (.iushr, nx, a, v)) (hm : bMk (bMask mi pc) ls = ls1) (h : bGo mi Q nx ls1 (.inl (aUshr x y) :: r) M) : bGo mi Q pc ls (.inl y :: .inl x :: r) M := bGo_at hc hm h
theorem s_ineg {mi pc nx : Nat} {a : List Nat} {v : Int32} {Q : bQ} {ls ls1 : bL} {r : List bV} {M : bM} {x : Int32} (hc : aCode mi pc = (.ineg, nx, a, v)) (hm : bMk (bMask mi pc) ls = ls1) (h : bGo mi Q nx ls1 (.inl (-x) :: r) M) : bGo mi Q pc ls (.inl x :: r) M := bGo_at hc hm h
theorem s_idiv {mi pc nx : Nat} {a : List Nat} {v : Int32} {Q : bQ} {ls ls1 : bL} {r : List bV} {M : bM} {x y : Int32} (hc : aCode mi pc = (.idiv, nx, a, v)) (hm : bMk (bMask mi pc) ls = ls1) (h : ¬ y = 0 ∧ bGo mi Q nx ls1 (.inl (x / y) :: r) M) : bGo mi Q pc ls (.inl y :: .inl x :: r) M := bGo_at hc hm h
theorem s_irem {mi pc nx : Nat} {a : List Nat} {v : Int32} {Q : bQ} {ls ls1 : bL} {r : List bV} {M : bM} {x y : Int32} (hc : aCode mi pc = (.irem, nx, a, v)) (hm : bMk (bMask mi pc) ls = ls1) (h : ¬ y = 0 ∧ bGo mi Q nx ls1 (.inl (aRem x y) :: r) M) : bGo mi Q pc ls (.inl y :: .inl x :: r) M := bGo_at hc hm h
theorem s_i2l {mi pc nx : Nat} {a : List Nat} {v : Int32} {Q : bQ} {ls ls1 : bL} {r : List bV} {M : bM} {x : Int32} (hc : aCode mi pc = (.i2l, nx, a, v)) (hm : bMk (bMask mi pc) ls = ls1) (h : bGo mi Q nx ls1 (.inr (.inl x.toInt64) :: r) M) : bGo mi Q pc ls (.inl x :: r) M := bGo_at hc hm h
theorem s_l2i {mi pc nx : Nat} {a : List Nat} {v : Int32} {Q : bQ} {ls ls1 : bL} {r : List bV} {M : bM} {x : Int64} (hc : aCode mi pc = (.l2i, nx, a, v)) (hm : bMk (bMask mi pc) ls = ls1) (h : bGo mi Q nx ls1 (.inl x.toInt32 :: r) M) : bGo mi Q pc ls (.inr (.inl x) :: r) M := bGo_at hc hm h
theorem s_i2b {mi pc nx : Nat} {a : List Nat} {v : Int32} {Q : bQ} {ls ls1 : bL} {r : List bV} {M : bM} {x : Int32} (hc : aCode mi pc = (.i2b, nx, a, v)) (hm : bMk (bMask mi pc) ls = ls1) (h : bGo mi Q nx ls1 (.inl x.toInt8.toInt32 :: r) M) : bGo mi Q pc ls (.inl x :: r) M := bGo_at hc hm h
theorem s_ladd {mi pc nx : Nat} {a : List Nat} {v : Int32} {Q : bQ} {ls ls1 : bL} {r : List bV} {M : bM} {x y : Int64} (hc : aCode mi pc = (.ladd, nx, a, v)) (hm : bMk (bMask mi pc) ls = ls1) (h : bGo mi Q nx ls1 (.inr (.inl (x + y)) :: r) M) : bGo mi Q pc ls (.inr (.inl y) :: .inr (.inl x) :: r) M := bGo_at hc hm h
theorem s_lmul {mi pc nx : Nat} {a : List Nat} {v : Int32} {Q : bQ} {ls ls1 : bL} {r : List bV} {M : bM} {x y : Int64} (hc : aCode mi pc = (.lmul, nx, a, v)) (hm : bMk (bMask mi pc) ls = ls1) (h : bGo mi Q nx ls1 (.inr (.inl (x * y)) :: r) M) : bGo mi Q pc ls (.inr (.inl y) :: .inr (.inl x) :: r) M := bGo_at hc hm h
theorem s_lrem {mi pc nx : Nat} {a : List Nat} {v : Int32} {Q : bQ} {ls ls1 : bL} {r : List bV} {M : bM} {x y : Int64} (hc : aCode mi pc = (.lrem, nx, a, v)) (hm : bMk (bMask mi pc) ls = ls1) (h : ¬ y = 0 ∧ bGo mi Q nx ls1 (.inr (.inl (aLrem x y)) :: r) M) : bGo mi Q pc ls (.inr (.inl y) :: .inr (.inl x) :: r) M := bGo_at hc hm h
theorem s_lcmp {mi pc nx : Nat} {a : List Nat} {v : Int32} {Q : bQ} {ls ls1 : bL} {r : List bV} {M : bM} {x y : Int64} (hc : aCode mi pc = (.lcmp, nx, a, v)) (hm : bMk (bMask mi pc) ls = ls1) (h : bGo mi Q nx ls1 (.inl (lg_cmp x y) :: r) M) : bGo mi Q pc ls (.inr (.inl y) :: .inr (.inl x) :: r) M := bGo_at hc hm h
theorem s_dupI {mi pc nx : Nat} {a : List Nat} {v : Int32} {Q : bQ} {ls ls1 : bL} {r : List bV} {M : bM} {x : Int32} (hc : aCode mi pc = (.dup, nx, a, v)) (hm : bMk (bMask mi pc) ls = ls1) (h : bGo mi Q nx ls1 (.inl x :: .inl x :: r) M) : bGo mi Q pc ls (.inl x :: r) M := bGo_at hc hm h
theorem s_dupR {mi pc nx : Nat} {a : List Nat} {v : Int32} {Q : bQ} {ls ls1 : bL} {r : List bV} {M : bM} {x : Nat × Nat} (hc : aCode mi pc = (.dup, nx, a, v)) (hm : bMk (bMask mi pc) ls = ls1) (h : bGo mi Q nx ls1 (.inr (.inr (.inl x)) :: .inr (.inr (.inl x)) :: r) M) : bGo mi Q pc ls (.inr (.inr (.inl x)) :: r) M := bGo_at hc hm h
theorem s_dup2 {mi pc nx : Nat} {a : List Nat} {v : Int32} {Q : bQ} {ls ls1 : bL} {r : List bV} {M : bM} {y : Int32} {x : Nat × Nat} (hc : aCode mi pc = (.dup2, nx, a, v)) (hm : bMk (bMask mi pc) ls = ls1) (h : bGo mi Q nx ls1 (.inl y :: .inr (.inr (.inl x)) :: .inl y :: .inr (.inr (.inl x)) :: r) M) : bGo mi Q pc ls (.inl y :: .inr (.inr (.inl x)) :: r) M := bGo_at hc hm h
theorem s_goto {mi pc nx : Nat} {a : List Nat} {v : Int32} {Q : bQ} {ls ls1 : bL} {r : List bV} {M : bM} {n : Int} (hc : aCode mi pc = (.goto n, nx, a, v)) (hm : bMk (bMask mi pc) ls = ls1) (h : bGo mi Q nx ls1 r M) : bGo mi Q pc ls r M := bGo_at hc hm h
theorem s_if_eq {mi pc nx : Nat} {v : Int32} {Q : bQ} {ls ls1 : bL} {r : List bV} {M : bM} {n : Int} {t : Nat} {x : Int32} (hc : aCode mi pc = (.ifCond .eq n, nx, [t], v)) (hm : bMk (bMask mi pc) ls = ls1) (h : ((x = 0) → bGo mi Q t ls1 r M) ∧ (¬ (x = 0) → bGo mi Q nx ls1 r M)) : bGo mi Q pc ls (.inl x :: r) M := bGo_at hc hm h
theorem s_icmp_eq {mi pc nx : Nat} {v : Int32} {Q : bQ} {ls ls1 : bL} {r : List bV} {M : bM} {n : Int} {t : Nat} {x y : Int32} (hc : aCode mi pc = (.if_icmp .eq n, nx, [t], v)) (hm : bMk (bMask mi pc) ls = ls1) (h : ((x = y) → bGo mi Q t ls1 r M) ∧ (¬ (x = y) → bGo mi Q nx ls1 r M)) : bGo mi Q pc ls (.inl y :: .inl x :: r) M := bGo_at hc hm h
theorem s_if_ne {mi pc nx : Nat} {v : Int32} {Q : bQ} {ls ls1 : bL} {r : List bV} {M : bM} {n : Int} {t : Nat} {x : Int32} (hc : aCode mi pc = (.ifCond .ne n, nx, [t], v)) (hm : bMk (bMask mi pc) ls = ls1) (h : ((¬ x = 0) → bGo mi Q t ls1 r M) ∧ (¬ (¬ x = 0) → bGo mi Q nx ls1 r M)) : bGo mi Q pc ls (.inl x :: r) M := bGo_at hc hm h
theorem s_icmp_ne {mi pc nx : Nat} {v : Int32} {Q : bQ} {ls ls1 : bL} {r : List bV} {M : bM} {n : Int} {t : Nat} {x y : Int32} (hc : aCode mi pc = (.if_icmp .ne n, nx, [t], v)) (hm : bMk (bMask mi pc) ls = ls1) (h : ((¬ x = y) → bGo mi Q t ls1 r M) ∧ (¬ (¬ x = y) → bGo mi Q nx ls1 r M)) : bGo mi Q pc ls (.inl y :: .inl x :: r) M := bGo_at hc hm h
theorem s_if_lt {mi pc nx : Nat} {v : Int32} {Q : bQ} {ls ls1 : bL} {r : List bV} {M : bM} {n : Int} {t : Nat} {x : Int32} (hc : aCode mi pc = (.ifCond .lt n, nx, [t], v)) (hm : bMk (bMask mi pc) ls = ls1) (h : ((x < 0) → bGo mi Q t ls1 r M) ∧ (¬ (x < 0) → bGo mi Q nx ls1 r M)) : bGo mi Q pc ls (.inl x :: r) M := bGo_at hc hm h
theorem s_icmp_lt {mi pc nx : Nat} {v : Int32} {Q : bQ} {ls ls1 : bL} {r : List bV} {M : bM} {n : Int} {t : Nat} {x y : Int32} (hc : aCode mi pc = (.if_icmp .lt n, nx, [t], v)) (hm : bMk (bMask mi pc) ls = ls1) (h : ((x < y) → bGo mi Q t ls1 r M) ∧ (¬ (x < y) → bGo mi Q nx ls1 r M)) : bGo mi Q pc ls (.inl y :: .inl x :: r) M := bGo_at hc hm h
theorem s_if_ge {mi pc nx : Nat} {v : Int32} {Q : bQ} {ls ls1 : bL} {r : List bV} {M : bM} {n : Int} {t : Nat} {x : Int32} (hc : aCode mi pc = (.ifCond .ge n, nx, [t], v)) (hm : bMk (bMask mi pc) ls = ls1) (h : ((0 ≤ x) → bGo mi Q t ls1 r M) ∧ (¬ (0 ≤ x) → bGo mi Q nx ls1 r M)) : bGo mi Q pc ls (.inl x :: r) M := bGo_at hc hm h
theorem s_icmp_ge {mi pc nx : Nat} {v : Int32} {Q : bQ} {ls ls1 : bL} {r : List bV} {M : bM} {n : Int} {t : Nat} {x y : Int32} (hc : aCode mi pc = (.if_icmp .ge n, nx, [t], v)) (hm : bMk (bMask mi pc) ls = ls1) (h : ((y ≤ x) → bGo mi Q t ls1 r M) ∧ (¬ (y ≤ x) → bGo mi Q nx ls1 r M)) : bGo mi Q pc ls (.inl y :: .inl x :: r) M := bGo_at hc hm h
theorem s_if_gt {mi pc nx : Nat} {v : Int32} {Q : bQ} {ls ls1 : bL} {r : List bV} {M : bM} {n : Int} {t : Nat} {x : Int32} (hc : aCode mi pc = (.ifCond .gt n, nx, [t], v)) (hm : bMk (bMask mi pc) ls = ls1) (h : ((0 < x) → bGo mi Q t ls1 r M) ∧ (¬ (0 < x) → bGo mi Q nx ls1 r M)) : bGo mi Q pc ls (.inl x :: r) M := bGo_at hc hm h
theorem s_icmp_gt {mi pc nx : Nat} {v : Int32} {Q : bQ} {ls ls1 : bL} {r : List bV} {M : bM} {n : Int} {t : Nat} {x y : Int32} (hc : aCode mi pc = (.if_icmp .gt n, nx, [t], v)) (hm : bMk (bMask mi pc) ls = ls1) (h : ((y < x) → bGo mi Q t ls1 r M) ∧ (¬ (y < x) → bGo mi Q nx ls1 r M)) : bGo mi Q pc ls (.inl y :: .inl x :: r) M := bGo_at hc hm h
theorem s_if_le {mi pc nx : Nat} {v : Int32} {Q : bQ} {ls ls1 : bL} {r : List bV} {M : bM} {n : Int} {t : Nat} {x : Int32} (hc : aCode mi pc = (.ifCond .le n, nx, [t], v)) (hm : bMk (bMask mi pc) ls = ls1) (h : ((x ≤ 0) → bGo mi Q t ls1 r M) ∧ (¬ (x ≤ 0) → bGo mi Q nx ls1 r M)) : bGo mi Q pc ls (.inl x :: r) M := bGo_at hc hm h
theorem s_icmp_le {mi pc nx : Nat} {v : Int32} {Q : bQ} {ls ls1 : bL} {r : List bV} {M : bM} {n : Int} {t : Nat} {x y : Int32} (hc : aCode mi pc = (.if_icmp .le n, nx, [t], v)) (hm : bMk (bMask mi pc) ls = ls1) (h : ((x ≤ y) → bGo mi Q t ls1 r M) ∧ (¬ (x ≤ y) → bGo mi Q nx ls1 r M)) : bGo mi Q pc ls (.inl y :: .inl x :: r) M := bGo_at hc hm h
theorem s_ifnonnull {mi pc nx : Nat} {v : Int32} {Q : bQ} {ls ls1 : bL} {r : List bV} {M : bM} {n : Int} {t : Nat} {x : Nat × Nat} (hc : aCode mi pc = (.ifnonnull n, nx, [t], v)) (hm : bMk (bMask mi pc) ls = ls1) (h : bGo mi Q t ls1 r M) : bGo mi Q pc ls (.inr (.inr (.inl x)) :: r) M := bGo_at hc hm h
theorem s_ifnonnullN {mi pc nx : Nat} {v : Int32} {Q : bQ} {ls ls1 : bL} {r : List bV} {M : bM} {n : Int} {t : Nat} (hc : aCode mi pc = (.ifnonnull n, nx, [t], v)) (hm : bMk (bMask mi pc) ls = ls1) (h : bGo mi Q nx ls1 r M) : bGo mi Q pc ls (.inr (.inr (.inr ())) :: r) M := bGo_at hc hm h
theorem s_tsw {mi pc nx : Nat} {v : Int32} {Q : bQ} {ls ls1 : bL} {r : List bV} {M : bM} {n lo hi : Int} {os : Array Int} {d : Nat} {ts : List Nat} {x : Int32} (hc : aCode mi pc = (.tableswitch n lo hi os, nx, d :: ts, v)) (hm : bMk (bMask mi pc) ls = ls1) (h : bAll (bGo mi Q) (d, ls1, r, M) (bSw ts lo x ls1 r M)) : bGo mi Q pc ls (.inl x :: r) M := bGo_at hc hm h
theorem s_lsw {mi pc nx : Nat} {v : Int32} {Q : bQ} {ls ls1 : bL} {r : List bV} {M : bM} {n : Int} {ps : Array (Int × Int)} {d : Nat} {ts : List Nat} {x : Int32} (hc : aCode mi pc = (.lookupswitch n ps, nx, d :: ts, v)) (hm : bMk (bMask mi pc) ls = ls1) (h : bAll (bGo mi Q) (d, ls1, r, M) (bSl ps.toList ts x ls1 r M)) : bGo mi Q pc ls (.inl x :: r) M := bGo_at hc hm h
theorem s_iaload {mi pc nx : Nat} {a : List Nat} {v : Int32} {Q : bQ} {ls ls1 : bL} {r : List bV} {M : bM} {g j : Nat} {i : Int32} (hc : aCode mi pc = (.iaload, nx, a, v)) (hm : bMk (bMask mi pc) ls = ls1) (hk : bIs g 0 = true) (h : vp_in i (bKn g) ∧ bGo mi Q nx ls1 (.inl (M g j i.toNatClampNeg) :: r) M) : bGo mi Q pc ls (.inl i :: .inr (.inr (.inl (g, j))) :: r) M := bGo_at hc hm (by
  simp only [bStep, hk, cond_true]
  exact h)
theorem s_baload {mi pc nx : Nat} {a : List Nat} {v : Int32} {Q : bQ} {ls ls1 : bL} {r : List bV} {M : bM} {g j : Nat} {i : Int32} (hc : aCode mi pc = (.baload, nx, a, v)) (hm : bMk (bMask mi pc) ls = ls1) (hk : bIs g 1 = true) (h : vp_in i (bKn g) ∧ bGo mi Q nx ls1 (.inl (M g j i.toNatClampNeg) :: r) M) : bGo mi Q pc ls (.inl i :: .inr (.inr (.inl (g, j))) :: r) M := bGo_at hc hm (by
  simp only [bStep, hk, cond_true]
  exact h)
theorem s_aaload {mi pc nx : Nat} {a : List Nat} {v : Int32} {Q : bQ} {ls ls1 : bL} {r : List bV} {M : bM} {g j : Nat} {i : Int32} (hc : aCode mi pc = (.aaload, nx, a, v)) (hm : bMk (bMask mi pc) ls = ls1) (hk : Nat.beq (bKd g) 1 = true) (h : vp_in i (bKn g) ∧ bGo mi Q nx ls1 (.inr (.inr (.inl (bRr g j i.toNatClampNeg))) :: r) M) : bGo mi Q pc ls (.inl i :: .inr (.inr (.inl (g, j))) :: r) M := bGo_at hc hm (by
  simp only [bStep, hk, cond_true]
  exact h)
theorem s_iastore {mi pc nx : Nat} {a : List Nat} {v : Int32} {Q : bQ} {ls ls1 : bL} {r : List bV} {M : bM} {g j : Nat} {i x : Int32} (hc : aCode mi pc = (.iastore, nx, a, v)) (hm : bMk (bMask mi pc) ls = ls1) (hk : bIs g 0 = true) (h : vp_in i (bKn g) ∧ bGo mi Q nx ls1 r (bU M g j i.toNatClampNeg x)) : bGo mi Q pc ls (.inl x :: .inl i :: .inr (.inr (.inl (g, j))) :: r) M := bGo_at hc hm (by
  simp only [bStep, hk, cond_true]
  exact h)
theorem s_bastore {mi pc nx : Nat} {a : List Nat} {v : Int32} {Q : bQ} {ls ls1 : bL} {r : List bV} {M : bM} {g j : Nat} {i x : Int32} (hc : aCode mi pc = (.bastore, nx, a, v)) (hm : bMk (bMask mi pc) ls = ls1) (hk : bIs g 1 = true) (h : (vp_in i (bKn g) ∧ (x = 0 ∨ x = 1)) ∧ bGo mi Q nx ls1 r (bU M g j i.toNatClampNeg x)) : bGo mi Q pc ls (.inl x :: .inl i :: .inr (.inr (.inl (g, j))) :: r) M := bGo_at hc hm (by
  simp only [bStep, hk, cond_true]
  exact h)
theorem s_alen {mi pc nx : Nat} {a : List Nat} {v : Int32} {Q : bQ} {ls ls1 : bL} {r : List bV} {M : bM} {g j : Nat} (hc : aCode mi pc = (.arraylength, nx, a, v)) (hm : bMk (bMask mi pc) ls = ls1) (hk : bIs g 0 = true) (h : bGo mi Q nx ls1 (.inl (Int32.ofNat (bKn g)) :: r) M) : bGo mi Q pc ls (.inr (.inr (.inl (g, j))) :: r) M := bGo_at hc hm (by
  simp only [bStep, hk, cond_true]
  exact h)
theorem s_getR {mi pc nx : Nat} {v : Int32} {Q : bQ} {ls ls1 : bL} {r : List bV} {M : bM} {idx l ci f g j : Nat} {t : Nat × Nat} (hc : aCode mi pc = (.getfield idx, nx, [l, ci, f, 2], v)) (hm : bMk (bMask mi pc) ls = ls1) (hk : (Nat.beq (bKd g) 2 && (Nat.beq (bKt g) ci && Nat.blt f (bKn g))) = true) (hf : bFr g f j = some t) (h : bGo mi Q nx ls1 (.inr (.inr (.inl t)) :: r) M) : bGo mi Q pc ls (.inr (.inr (.inl (g, j))) :: r) M := bGo_at hc hm (by
  simp only [bStep, hk, hf, cond_true]
  exact h)
theorem s_getI0 {mi pc nx : Nat} {v : Int32} {Q : bQ} {ls ls1 : bL} {r : List bV} {M : bM} {idx l ci f g j : Nat} (hc : aCode mi pc = (.getfield idx, nx, [l, ci, f, 0], v)) (hm : bMk (bMask mi pc) ls = ls1) (hk : bFI g ci f = true) (h : bGo mi Q nx ls1 (.inl (M g j f) :: r) M) : bGo mi Q pc ls (.inr (.inr (.inl (g, j))) :: r) M := bGo_at hc hm (by
  simp only [bStep, hk, cond_true]
  exact h)
theorem s_getI1 {mi pc nx : Nat} {v : Int32} {Q : bQ} {ls ls1 : bL} {r : List bV} {M : bM} {idx l ci f g j : Nat} (hc : aCode mi pc = (.getfield idx, nx, [l, ci, f, 1], v)) (hm : bMk (bMask mi pc) ls = ls1) (hk : bFI g ci f = true) (h : bGo mi Q nx ls1 (.inl (M g j f) :: r) M) : bGo mi Q pc ls (.inr (.inr (.inl (g, j))) :: r) M := bGo_at hc hm (by
  simp only [bStep, hk, cond_true]
  exact h)
theorem s_putI {mi pc nx : Nat} {v : Int32} {Q : bQ} {ls ls1 : bL} {r : List bV} {M : bM} {idx l ci f g j : Nat} {x : Int32} (hc : aCode mi pc = (.putfield idx, nx, [l, ci, f, 0], v)) (hm : bMk (bMask mi pc) ls = ls1) (hk : bFI g ci f = true) (h : bGo mi Q nx ls1 r (bU M g j f x)) : bGo mi Q pc ls (.inl x :: .inr (.inr (.inl (g, j))) :: r) M := bGo_at hc hm (by
  simp only [bStep, hk, cond_true]
  exact h)
theorem s_putZ {mi pc nx : Nat} {v : Int32} {Q : bQ} {ls ls1 : bL} {r : List bV} {M : bM} {idx l ci f g j : Nat} {x : Int32} (hc : aCode mi pc = (.putfield idx, nx, [l, ci, f, 1], v)) (hm : bMk (bMask mi pc) ls = ls1) (hk : bFI g ci f = true) (h : (x = 0 ∨ x = 1) ∧ bGo mi Q nx ls1 r (bU M g j f x)) : bGo mi Q pc ls (.inl x :: .inr (.inr (.inl (g, j))) :: r) M := bGo_at hc hm (by
  simp only [bStep, hk, cond_true]
  exact h)
theorem s_vcall0 {mi pc nx : Nat} {v : Int32} {Q : bQ} {ls ls1 : bL} {M : bM} {idx mj na b1 b2 b3 : Nat} {st args rest : List bV} {K : bM → Prop} (hc : aCode mi pc = (.invokevirtual idx, nx, [mj, na, 0, b1, b2, b3], v)) (hm : bMk (bMask mi pc) ls = ls1) (hk : (bCk mj na st && bRcv (st.take na).reverse b1) = true) (ha : (st.take na).reverse = args) (hr : st.drop na = rest) (h : bCall mj args M (fun v X' => bV0 v (K X'))) (hz : ∀ X', K X' → bGo mi Q nx ls1 rest X') : bGo mi Q pc ls st M := bGo_at hc hm (by
  subst ha
  subst hr
  simp only [bStep, hk, cond_true]
  exact bCall_mono (fun v X' z => bV0_mono (hz X') z) h)
theorem s_vcall1 {mi pc nx : Nat} {v : Int32} {Q : bQ} {ls ls1 : bL} {M : bM} {idx mj na b1 b2 b3 : Nat} {st args rest : List bV} {K : bM → Int32 → Prop} (hc : aCode mi pc = (.invokevirtual idx, nx, [mj, na, 1, b1, b2, b3], v)) (hm : bMk (bMask mi pc) ls = ls1) (hk : (bCk mj na st && bRcv (st.take na).reverse b1) = true) (ha : (st.take na).reverse = args) (hr : st.drop na = rest) (h : bCall mj args M (fun v X' => bV1 v (K X'))) (hz : ∀ X' x, K X' x → bGo mi Q nx ls1 (.inl x :: rest) X') : bGo mi Q pc ls st M := bGo_at hc hm (by
  subst ha
  subst hr
  simp only [bStep, hk, cond_true]
  exact bCall_mono (fun v X' z => bV1_mono (hz X') z) h)
theorem s_vcall103 {mi pc nx : Nat} {v : Int32} {Q : bQ} {ls ls1 : bL} {M : bM} {idx mj na b1 b2 b3 : Nat} {st args rest : List bV} {K : bM → Nat → Prop} (hc : aCode mi pc = (.invokevirtual idx, nx, [mj, na, 103, b1, b2, b3], v)) (hm : bMk (bMask mi pc) ls = ls1) (hk : (bCk mj na st && bRcv (st.take na).reverse b1) = true) (ha : (st.take na).reverse = args) (hr : st.drop na = rest) (h : bCall mj args M (fun v X' => bV4 v 3 (K X'))) (hz : ∀ X' x, K X' x → bGo mi Q nx ls1 (.inr (.inr (.inl (3, x))) :: rest) X') : bGo mi Q pc ls st M := bGo_at hc hm (by
  subst ha
  subst hr
  simp only [bStep, hk, cond_true]
  exact bCall_mono (fun v X' z => bV4_mono (hz X') z) h)
theorem s_vcall205 {mi pc nx : Nat} {v : Int32} {Q : bQ} {ls ls1 : bL} {M : bM} {idx mj na b1 b2 b3 : Nat} {st args rest : List bV} {K0 : bM → Prop} {K : bM → Nat → Prop} (hc : aCode mi pc = (.invokevirtual idx, nx, [mj, na, 205, b1, b2, b3], v)) (hm : bMk (bMask mi pc) ls = ls1) (hk : (bCk mj na st && bRcv (st.take na).reverse b1) = true) (ha : (st.take na).reverse = args) (hr : st.drop na = rest) (h : bCall mj args M (fun v X' => bV5 v 5 (K0 X') (K X'))) (hz0 : ∀ X', K0 X' → bGo mi Q nx ls1 (.inr (.inr (.inr ())) :: rest) X') (hz : ∀ X' x, K X' x → bGo mi Q nx ls1 (.inr (.inr (.inl (5, x))) :: rest) X') : bGo mi Q pc ls st M := bGo_at hc hm (by
  subst ha
  subst hr
  simp only [bStep, hk, cond_true]
  exact bCall_mono (fun v X' z => bV5_mono (hz0 X') (hz X') z) h)
theorem s_scall0 {mi pc nx : Nat} {v : Int32} {Q : bQ} {ls ls1 : bL} {M : bM} {idx mj na b1 b2 b3 : Nat} {st args rest : List bV} {K : bM → Prop} (hc : aCode mi pc = (.invokestatic idx, nx, [mj, na, 0, b1, b2, b3], v)) (hm : bMk (bMask mi pc) ls = ls1) (hk : bCk mj na st = true) (ha : (st.take na).reverse = args) (hr : st.drop na = rest) (h : bCall mj args M (fun v X' => bV0 v (K X'))) (hz : ∀ X', K X' → bGo mi Q nx ls1 rest X') : bGo mi Q pc ls st M := bGo_at hc hm (by
  subst ha
  subst hr
  simp only [bStep, hk, cond_true]
  exact bCall_mono (fun v X' z => bV0_mono (hz X') z) h)
theorem s_scall1 {mi pc nx : Nat} {v : Int32} {Q : bQ} {ls ls1 : bL} {M : bM} {idx mj na b1 b2 b3 : Nat} {st args rest : List bV} {K : bM → Int32 → Prop} (hc : aCode mi pc = (.invokestatic idx, nx, [mj, na, 1, b1, b2, b3], v)) (hm : bMk (bMask mi pc) ls = ls1) (hk : bCk mj na st = true) (ha : (st.take na).reverse = args) (hr : st.drop na = rest) (h : bCall mj args M (fun v X' => bV1 v (K X'))) (hz : ∀ X' x, K X' x → bGo mi Q nx ls1 (.inl x :: rest) X') : bGo mi Q pc ls st M := bGo_at hc hm (by
  subst ha
  subst hr
  simp only [bStep, hk, cond_true]
  exact bCall_mono (fun v X' z => bV1_mono (hz X') z) h)
theorem s_scall103 {mi pc nx : Nat} {v : Int32} {Q : bQ} {ls ls1 : bL} {M : bM} {idx mj na b1 b2 b3 : Nat} {st args rest : List bV} {K : bM → Nat → Prop} (hc : aCode mi pc = (.invokestatic idx, nx, [mj, na, 103, b1, b2, b3], v)) (hm : bMk (bMask mi pc) ls = ls1) (hk : bCk mj na st = true) (ha : (st.take na).reverse = args) (hr : st.drop na = rest) (h : bCall mj args M (fun v X' => bV4 v 3 (K X'))) (hz : ∀ X' x, K X' x → bGo mi Q nx ls1 (.inr (.inr (.inl (3, x))) :: rest) X') : bGo mi Q pc ls st M := bGo_at hc hm (by
  subst ha
  subst hr
  simp only [bStep, hk, cond_true]
  exact bCall_mono (fun v X' z => bV4_mono (hz X') z) h)
theorem s_scall205 {mi pc nx : Nat} {v : Int32} {Q : bQ} {ls ls1 : bL} {M : bM} {idx mj na b1 b2 b3 : Nat} {st args rest : List bV} {K0 : bM → Prop} {K : bM → Nat → Prop} (hc : aCode mi pc = (.invokestatic idx, nx, [mj, na, 205, b1, b2, b3], v)) (hm : bMk (bMask mi pc) ls = ls1) (hk : bCk mj na st = true) (ha : (st.take na).reverse = args) (hr : st.drop na = rest) (h : bCall mj args M (fun v X' => bV5 v 5 (K0 X') (K X'))) (hz0 : ∀ X', K0 X' → bGo mi Q nx ls1 (.inr (.inr (.inr ())) :: rest) X') (hz : ∀ X' x, K X' x → bGo mi Q nx ls1 (.inr (.inr (.inl (5, x))) :: rest) X') : bGo mi Q pc ls st M := bGo_at hc hm (by
  subst ha
  subst hr
  simp only [bStep, hk, cond_true]
  exact bCall_mono (fun v X' z => bV5_mono (hz0 X') (hz X') z) h)
theorem s_acopy {mi pc nx : Nat} {v : Int32} {Q : bQ} {ls ls1 : bL} {r : List bV} {M : bM} {idx ix g j g' j' : Nat} {sp dp n : Int32} (hc : aCode mi pc = (.invokestatic idx, nx, [1000, ix], v)) (hm : bMk (bMask mi pc) ls = ls1) (hk : (Nat.ble r.length 4 && (bIs g 0 && bIs g' 0)) = true) (h : (¬ sp < 0 ∧ ¬ dp < 0 ∧ ¬ n < 0 ∧ sp.toNatClampNeg + n.toNatClampNeg ≤ bKn g ∧ dp.toNatClampNeg + n.toNatClampNeg ≤ bKn g') ∧ bGo mi Q nx ls1 r (bCp M g j g' j' sp dp n)) : bGo mi Q pc ls (.inl n :: .inl dp :: .inr (.inr (.inl (g', j'))) :: .inl sp :: .inr (.inr (.inl (g, j))) :: r) M := bGo_at hc hm (by
  simp only [bStep, hk, cond_true]
  exact h)
theorem s_ret {mi pc nx : Nat} {a : List Nat} {v : Int32} {Q : bQ} {ls ls1 : bL} {M : bM}  (hc : aCode mi pc = (.return_, nx, a, v)) (hm : bMk (bMask mi pc) ls = ls1) (h : Q none M) : bGo mi Q pc ls [] M := bGo_at hc hm h
theorem s_iret {mi pc nx : Nat} {v : Int32} {Q : bQ} {ls ls1 : bL} {M : bM} {x : Int32} (hc : aCode mi pc = (.ireturn, nx, [0], v)) (hm : bMk (bMask mi pc) ls = ls1) (h : Q (some (.inl x)) M) : bGo mi Q pc ls [.inl x] M := bGo_at hc hm h
theorem s_zret {mi pc nx : Nat} {v : Int32} {Q : bQ} {ls ls1 : bL} {M : bM} {x : Int32} (hc : aCode mi pc = (.ireturn, nx, [1], v)) (hm : bMk (bMask mi pc) ls = ls1) (h : (x = 0 ∨ x = 1) ∧ Q (some (.inl x)) M) : bGo mi Q pc ls [.inl x] M := bGo_at hc hm h
theorem s_aret {mi pc nx : Nat} {a : List Nat} {v : Int32} {Q : bQ} {ls ls1 : bL} {M : bM} {x : Nat × Nat} (hc : aCode mi pc = (.areturn, nx, a, v)) (hm : bMk (bMask mi pc) ls = ls1) (h : Q (some (.inr (.inr (.inl x)))) M) : bGo mi Q pc ls [.inr (.inr (.inl x))] M := bGo_at hc hm h
theorem s_aretN {mi pc nx : Nat} {a : List Nat} {v : Int32} {Q : bQ} {ls ls1 : bL} {M : bM}  (hc : aCode mi pc = (.areturn, nx, a, v)) (hm : bMk (bMask mi pc) ls = ls1) (h : Q (some (.inr (.inr (.inr ())))) M) : bGo mi Q pc ls [.inr (.inr (.inr ()))] M := bGo_at hc hm h
