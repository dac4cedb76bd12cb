/-! THE RULES over the abstract world: one an instruction -/
section RU
variable {p : Program} {l : Launch} {e : Env} {R : Room} {s : State} {m : MethodId} {args : Array Value} {below : List Frame} {meth : Method} {c : Code} {D : va_G} {cs : Nat → ClassId} {ad : Nat → Nat} {b0 : Nat} {Q : State → Prop} {nL k : Nat} {V : VT} {lv : List (Nat × Value)} {st : List Value} {pc : Nat} {own : String} {cc : ByteArray} {ret : Option FieldType}
theorem a_sub {lv' : List (Nat × Value)} (ks : List Nat) (hl : lv_pick lv ks = lv') (kk : AW p l e R s m args below meth c D cs ad b0 Q nL k V lv' st pc) : AW p l e R s m args below meth c D cs ad b0 Q nL k V lv st pc :=
  fun H locs ls hP hS h => kk H locs ls hP hS (lv_sub h ks hl)
theorem a_wid {k' : Nat} (h : k ≤ k') (kk : AW p l e R s m args below meth c D cs ad b0 Q nL k' V lv st pc) : AW p l e R s m args below meth c D cs ad b0 Q nL k V lv st pc :=
  fun H locs ls hP hS hl => W.widen h (Nat.mul_le_mul_left 6 h) (kk H locs ls hP hS hl)
theorem a_iconst (C : Ctx p l s m args meth c D cs ad b0 own cc nL ret) {n : Int} {v : Int32} (hdg : decode cc pc = .ok (.iconst n, 1)) (hv : Int32.ofInt n = v)
    (kk : AW p l e R s m args below meth c D cs ad b0 Q nL k V lv (.int v :: st) (pc + 1)) : AW p l e R s m args below meth c D cs ad b0 Q nL k V lv (st) pc :=
  fun H locs ls hP hS hl => lv_iconst C.1 C.2.1 hdg hv (kk H locs ls hP hS hl)
theorem a_bipush (C : Ctx p l s m args meth c D cs ad b0 own cc nL ret) {n : Int} {v : Int32} (hdg : decode cc pc = .ok (.bipush n, 2)) (hv : (Int8.ofInt n).toInt32 = v)
    (kk : AW p l e R s m args below meth c D cs ad b0 Q nL k V lv (.int v :: st) (pc + 2)) : AW p l e R s m args below meth c D cs ad b0 Q nL k V lv (st) pc :=
  fun H locs ls hP hS hl => lv_bipush C.1 C.2.1 hdg hv (kk H locs ls hP hS hl)
theorem a_sipush (C : Ctx p l s m args meth c D cs ad b0 own cc nL ret) {n : Int} {v : Int32} (hdg : decode cc pc = .ok (.sipush n, 3)) (hv : (Int16.ofInt n).toInt32 = v)
    (kk : AW p l e R s m args below meth c D cs ad b0 Q nL k V lv (.int v :: st) (pc + 3)) : AW p l e R s m args below meth c D cs ad b0 Q nL k V lv (st) pc :=
  fun H locs ls hP hS hl => lv_sipush C.1 C.2.1 hdg hv (kk H locs ls hP hS hl)
theorem a_iload_n (C : Ctx p l s m args meth c D cs ad b0 own cc nL ret) {j : Fin 4} {i q : Nat} {x : Int32} (hdg : decode cc pc = .ok (.iload_n j, 1)) (hi : (j : Nat) = i) (hq : lv[q]? = some (i, .int x))
    (kk : AW p l e R s m args below meth c D cs ad b0 Q nL k V lv (.int x :: st) (pc + 1)) : AW p l e R s m args below meth c D cs ad b0 Q nL k V lv (st) pc :=
  fun H locs ls hP hS hl => lv_iload_n C.1 C.2.1 hdg hi (lv_at hl q hq) (kk H locs ls hP hS hl)
theorem a_iload (C : Ctx p l s m args meth c D cs ad b0 own cc nL ret) {i q : Nat} {x : Int32} (hdg : decode cc pc = .ok (.iload i, 2)) (hq : lv[q]? = some (i, .int x))
    (kk : AW p l e R s m args below meth c D cs ad b0 Q nL k V lv (.int x :: st) (pc + 2)) : AW p l e R s m args below meth c D cs ad b0 Q nL k V lv (st) pc :=
  fun H locs ls hP hS hl => lv_iload C.1 C.2.1 hdg (lv_at hl q hq) (kk H locs ls hP hS hl)
theorem a_aload_n (C : Ctx p l s m args meth c D cs ad b0 own cc nL ret) {j : Fin 4} {i q x : Nat} (hdg : decode cc pc = .ok (.aload_n j, 1)) (hi : (j : Nat) = i) (hq : lv[q]? = some (i, .ref x))
    (kk : AW p l e R s m args below meth c D cs ad b0 Q nL k V lv (.ref x :: st) (pc + 1)) : AW p l e R s m args below meth c D cs ad b0 Q nL k V lv (st) pc :=
  fun H locs ls hP hS hl => lv_aload_n C.1 C.2.1 hdg hi (lv_at hl q hq) (kk H locs ls hP hS hl)
theorem a_aload (C : Ctx p l s m args meth c D cs ad b0 own cc nL ret) {i q x : Nat} (hdg : decode cc pc = .ok (.aload i, 2)) (hq : lv[q]? = some (i, .ref x))
    (kk : AW p l e R s m args below meth c D cs ad b0 Q nL k V lv (.ref x :: st) (pc + 2)) : AW p l e R s m args below meth c D cs ad b0 Q nL k V lv (st) pc :=
  fun H locs ls hP hS hl => lv_aload C.1 C.2.1 hdg (lv_at hl q hq) (kk H locs ls hP hS hl)
theorem a_iadd (C : Ctx p l s m args meth c D cs ad b0 own cc nL ret) {x y : Int32} (hdg : decode cc pc = .ok (.iadd, 1)) 
    (kk : AW p l e R s m args below meth c D cs ad b0 Q nL k V lv (.int (x + y) :: st) (pc + 1)) : AW p l e R s m args below meth c D cs ad b0 Q nL k V lv (.int y :: .int x :: st) pc :=
  fun H locs ls hP hS hl => lv_iadd C.1 C.2.1 hdg  (kk H locs ls hP hS hl)
theorem a_isub (C : Ctx p l s m args meth c D cs ad b0 own cc nL ret) {x y : Int32} (hdg : decode cc pc = .ok (.isub, 1)) 
    (kk : AW p l e R s m args below meth c D cs ad b0 Q nL k V lv (.int (x - y) :: st) (pc + 1)) : AW p l e R s m args below meth c D cs ad b0 Q nL k V lv (.int y :: .int x :: st) pc :=
  fun H locs ls hP hS hl => lv_isub C.1 C.2.1 hdg  (kk H locs ls hP hS hl)
theorem a_imul (C : Ctx p l s m args meth c D cs ad b0 own cc nL ret) {x y : Int32} (hdg : decode cc pc = .ok (.imul, 1)) 
    (kk : AW p l e R s m args below meth c D cs ad b0 Q nL k V lv (.int (x * y) :: st) (pc + 1)) : AW p l e R s m args below meth c D cs ad b0 Q nL k V lv (.int y :: .int x :: st) pc :=
  fun H locs ls hP hS hl => lv_imul C.1 C.2.1 hdg  (kk H locs ls hP hS hl)
theorem a_iand (C : Ctx p l s m args meth c D cs ad b0 own cc nL ret) {x y : Int32} (hdg : decode cc pc = .ok (.iand, 1)) 
    (kk : AW p l e R s m args below meth c D cs ad b0 Q nL k V lv (.int (x &&& y) :: st) (pc + 1)) : AW p l e R s m args below meth c D cs ad b0 Q nL k V lv (.int y :: .int x :: st) pc :=
  fun H locs ls hP hS hl => lv_iand C.1 C.2.1 hdg  (kk H locs ls hP hS hl)
theorem a_ior (C : Ctx p l s m args meth c D cs ad b0 own cc nL ret) {x y : Int32} (hdg : decode cc pc = .ok (.ior, 1)) 
    (kk : AW p l e R s m args below meth c D cs ad b0 Q nL k V lv (.int (x ||| y) :: st) (pc + 1)) : AW p l e R s m args below meth c D cs ad b0 Q nL k V lv (.int y :: .int x :: st) pc :=
  fun H locs ls hP hS hl => lv_ior C.1 C.2.1 hdg  (kk H locs ls hP hS hl)
theorem a_ixor (C : Ctx p l s m args meth c D cs ad b0 own cc nL ret) {x y : Int32} (hdg : decode cc pc = .ok (.ixor, 1)) 
    (kk : AW p l e R s m args below meth c D cs ad b0 Q nL k V lv (.int (x ^^^ y) :: st) (pc + 1)) : AW p l e R s m args below meth c D cs ad b0 Q nL k V lv (.int y :: .int x :: st) pc :=
  fun H locs ls hP hS hl => lv_ixor C.1 C.2.1 hdg  (kk H locs ls hP hS hl)
theorem a_ishl (C : Ctx p l s m args meth c D cs ad b0 own cc nL ret) {x y : Int32} (hdg : decode cc pc = .ok (.ishl, 1)) 
    (kk : AW p l e R s m args below meth c D cs ad b0 Q nL k V lv (.int (x <<< (y &&& 31)) :: st) (pc + 1)) : AW p l e R s m args below meth c D cs ad b0 Q nL k V lv (.int y :: .int x :: st) pc :=
  fun H locs ls hP hS hl => lv_ishl C.1 C.2.1 hdg  (kk H locs ls hP hS hl)
theorem a_ishr (C : Ctx p l s m args meth c D cs ad b0 own cc nL ret) {x y : Int32} (hdg : decode cc pc = .ok (.ishr, 1)) 
    (kk : AW p l e R s m args below meth c D cs ad b0 Q nL k V lv (.int (x >>> (y &&& 31)) :: st) (pc + 1)) : AW p l e R s m args below meth c D cs ad b0 Q nL k V lv (.int y :: .int x :: st) pc :=
  fun H locs ls hP hS hl => lv_ishr C.1 C.2.1 hdg  (kk H locs ls hP hS hl)
theorem a_idiv (C : Ctx p l s m args meth c D cs ad b0 own cc nL ret) {x y : Int32} (hdg : decode cc pc = .ok (.idiv, 1)) (hne : ¬ y = 0)
    (kk : AW p l e R s m args below meth c D cs ad b0 Q nL k V lv (.int (x / y) :: st) (pc + 1)) : AW p l e R s m args below meth c D cs ad b0 Q nL k V lv (.int y :: .int x :: st) pc :=
  fun H locs ls hP hS hl => lv_idiv C.1 C.2.1 hdg hne (kk H locs ls hP hS hl)
theorem a_irem (C : Ctx p l s m args meth c D cs ad b0 own cc nL ret) {x y : Int32} (hdg : decode cc pc = .ok (.irem, 1)) (hne : ¬ y = 0)
    (kk : AW p l e R s m args below meth c D cs ad b0 Q nL k V lv (.int (x - x / y * y) :: st) (pc + 1)) : AW p l e R s m args below meth c D cs ad b0 Q nL k V lv (.int y :: .int x :: st) pc :=
  fun H locs ls hP hS hl => lv_irem C.1 C.2.1 hdg hne (kk H locs ls hP hS hl)
theorem a_iushr (C : Ctx p l s m args meth c D cs ad b0 own cc nL ret) {x y v : Int32} (hdg : decode cc pc = .ok (.iushr, 1)) (hv : (x.toUInt32 >>> (y.toUInt32 &&& Int32.toUInt32 31)).toInt32 = v)
    (kk : AW p l e R s m args below meth c D cs ad b0 Q nL k V lv (.int v :: st) (pc + 1)) : AW p l e R s m args below meth c D cs ad b0 Q nL k V lv (.int y :: .int x :: st) pc :=
  fun H locs ls hP hS hl => lv_iushr C.1 C.2.1 hdg hv (kk H locs ls hP hS hl)
theorem a_i2l (C : Ctx p l s m args meth c D cs ad b0 own cc nL ret) {x : Int32} {v : Int64} (hdg : decode cc pc = .ok (.i2l, 1)) (hv : x.toInt64 = v)
    (kk : AW p l e R s m args below meth c D cs ad b0 Q nL k V lv (.long v :: st) (pc + 1)) : AW p l e R s m args below meth c D cs ad b0 Q nL k V lv (.int x :: st) pc :=
  fun H locs ls hP hS hl => lv_i2l C.1 C.2.1 hdg hv (kk H locs ls hP hS hl)
theorem a_i2c (C : Ctx p l s m args meth c D cs ad b0 own cc nL ret) {x v : Int32} (hdg : decode cc pc = .ok (.i2c, 1)) (hv : (x.toUInt32 % 65536).toInt32 = v)
    (kk : AW p l e R s m args below meth c D cs ad b0 Q nL k V lv (.int v :: st) (pc + 1)) : AW p l e R s m args below meth c D cs ad b0 Q nL k V lv (.int x :: st) pc :=
  fun H locs ls hP hS hl => lv_i2c C.1 C.2.1 hdg hv (kk H locs ls hP hS hl)
theorem a_dup (C : Ctx p l s m args meth c D cs ad b0 own cc nL ret) {va : Value} (hdg : decode cc pc = .ok (.dup, 1)) (hva : va.category = 1)
    (kk : AW p l e R s m args below meth c D cs ad b0 Q nL k V lv (va :: va :: st) (pc + 1)) : AW p l e R s m args below meth c D cs ad b0 Q nL k V lv (va :: st) pc :=
  fun H locs ls hP hS hl => lv_dup C.1 C.2.1 hdg hva (kk H locs ls hP hS hl)
theorem a_dup2 (C : Ctx p l s m args meth c D cs ad b0 own cc nL ret) {va vb : Value} (hdg : decode cc pc = .ok (.dup2, 1)) (hva : va.category = 1) (hvb : vb.category = 1)
    (kk : AW p l e R s m args below meth c D cs ad b0 Q nL k V lv (va :: vb :: va :: vb :: st) (pc + 1)) : AW p l e R s m args below meth c D cs ad b0 Q nL k V lv (va :: vb :: st) pc :=
  fun H locs ls hP hS hl => lv_dup2_11 C.1 C.2.1 hdg hva hvb (kk H locs ls hP hS hl)
theorem a_pop (C : Ctx p l s m args meth c D cs ad b0 own cc nL ret) {va : Value} (hdg : decode cc pc = .ok (.pop, 1)) (hva : va.category = 1)
    (kk : AW p l e R s m args below meth c D cs ad b0 Q nL k V lv (st) (pc + 1)) : AW p l e R s m args below meth c D cs ad b0 Q nL k V lv (va :: st) pc :=
  fun H locs ls hP hS hl => lv_pop C.1 C.2.1 hdg hva (kk H locs ls hP hS hl)
theorem a_lconst (C : Ctx p l s m args meth c D cs ad b0 own cc nL ret) {n : Fin 2} {v : Int64} (hdg : decode cc pc = .ok (.lconst n, 1)) (hv : Int64.ofNat (n : Nat) = v)
    (kk : AW p l e R s m args below meth c D cs ad b0 Q nL k V lv (.long v :: st) (pc + 1)) : AW p l e R s m args below meth c D cs ad b0 Q nL k V lv (st) pc :=
  fun H locs ls hP hS hl => lv_lconst C.1 C.2.1 hdg hv (kk H locs ls hP hS hl)
theorem a_null (C : Ctx p l s m args meth c D cs ad b0 own cc nL ret)  (hdg : decode cc pc = .ok (.aconst_null, 1)) 
    (kk : AW p l e R s m args below meth c D cs ad b0 Q nL k V lv (.null :: st) (pc + 1)) : AW p l e R s m args below meth c D cs ad b0 Q nL k V lv (st) pc :=
  fun H locs ls hP hS hl => lv_null C.1 C.2.1 hdg  (kk H locs ls hP hS hl)
theorem a_i2d (C : Ctx p l s m args meth c D cs ad b0 own cc nL ret) {x : Int32} (hdg : decode cc pc = .ok (.i2d, 1)) 
    (kk : AW p l e R s m args below meth c D cs ad b0 Q nL k V lv (.double (FP.i2d x) :: st) (pc + 1)) : AW p l e R s m args below meth c D cs ad b0 Q nL k V lv (.int x :: st) pc :=
  fun H locs ls hP hS hl => lv_i2d C.1 C.2.1 hdg  (kk H locs ls hP hS hl)
theorem a_i2f (C : Ctx p l s m args meth c D cs ad b0 own cc nL ret) {x : Int32} (hdg : decode cc pc = .ok (.i2f, 1)) 
    (kk : AW p l e R s m args below meth c D cs ad b0 Q nL k V lv (.float (FP.i2f x) :: st) (pc + 1)) : AW p l e R s m args below meth c D cs ad b0 Q nL k V lv (.int x :: st) pc :=
  fun H locs ls hP hS hl => lv_i2f C.1 C.2.1 hdg  (kk H locs ls hP hS hl)
theorem a_ddiv (C : Ctx p l s m args meth c D cs ad b0 own cc nL ret) {x y : UInt64} (hdg : decode cc pc = .ok (.ddiv, 1)) (hne : vf_n64 (FP.ddiv x y))
    (kk : AW p l e R s m args below meth c D cs ad b0 Q nL k V lv (.double (FP.ddiv x y) :: st) (pc + 1)) : AW p l e R s m args below meth c D cs ad b0 Q nL k V lv (.double y :: .double x :: st) pc :=
  fun H locs ls hP hS hl => lv_ddiv C.1 C.2.1 hdg hne (kk H locs ls hP hS hl)
theorem a_fdiv (C : Ctx p l s m args meth c D cs ad b0 own cc nL ret) {x y : UInt32} (hdg : decode cc pc = .ok (.fdiv, 1)) (hne : vf_n32 (FP.fdiv x y))
    (kk : AW p l e R s m args below meth c D cs ad b0 Q nL k V lv (.float (FP.fdiv x y) :: st) (pc + 1)) : AW p l e R s m args below meth c D cs ad b0 Q nL k V lv (.float y :: .float x :: st) pc :=
  fun H locs ls hP hS hl => lv_fdiv C.1 C.2.1 hdg hne (kk H locs ls hP hS hl)
theorem a_f2d (C : Ctx p l s m args meth c D cs ad b0 own cc nL ret) {x : UInt32} (hdg : decode cc pc = .ok (.f2d, 1)) (hne : vf_n64 (FP.f2d x))
    (kk : AW p l e R s m args below meth c D cs ad b0 Q nL k V lv (.double (FP.f2d x) :: st) (pc + 1)) : AW p l e R s m args below meth c D cs ad b0 Q nL k V lv (.float x :: st) pc :=
  fun H locs ls hP hS hl => lv_f2d C.1 C.2.1 hdg hne (kk H locs ls hP hS hl)
theorem a_dconst0 (C : Ctx p l s m args meth c D cs ad b0 own cc nL ret)  (hdg : decode cc pc = .ok (.dconst 0, 1)) 
    (kk : AW p l e R s m args below meth c D cs ad b0 Q nL k V lv (.double FP.dconst0 :: st) (pc + 1)) : AW p l e R s m args below meth c D cs ad b0 Q nL k V lv (st) pc :=
  fun H locs ls hP hS hl => lv_dconst0 C.1 C.2.1 hdg  (kk H locs ls hP hS hl)
theorem a_fconst0 (C : Ctx p l s m args meth c D cs ad b0 own cc nL ret)  (hdg : decode cc pc = .ok (.fconst 0, 1)) 
    (kk : AW p l e R s m args below meth c D cs ad b0 Q nL k V lv (.float FP.fconst0 :: st) (pc + 1)) : AW p l e R s m args below meth c D cs ad b0 Q nL k V lv (st) pc :=
  fun H locs ls hP hS hl => lv_fconst0 C.1 C.2.1 hdg  (kk H locs ls hP hS hl)
theorem a_aload_nN (C : Ctx p l s m args meth c D cs ad b0 own cc nL ret) {j : Fin 4} {i q : Nat} (hdg : decode cc pc = .ok (.aload_n j, 1)) (hi : (j : Nat) = i) (hq : lv[q]? = some (i, .null))
    (kk : AW p l e R s m args below meth c D cs ad b0 Q nL k V lv (.null :: st) (pc + 1)) : AW p l e R s m args below meth c D cs ad b0 Q nL k V lv (st) pc :=
  fun H locs ls hP hS hl => lv_aload_nN C.1 C.2.1 hdg hi (lv_at hl q hq) (kk H locs ls hP hS hl)
theorem a_aloadN (C : Ctx p l s m args meth c D cs ad b0 own cc nL ret) {i q : Nat} (hdg : decode cc pc = .ok (.aload i, 2)) (hq : lv[q]? = some (i, .null))
    (kk : AW p l e R s m args below meth c D cs ad b0 Q nL k V lv (.null :: st) (pc + 2)) : AW p l e R s m args below meth c D cs ad b0 Q nL k V lv (st) pc :=
  fun H locs ls hP hS hl => lv_aloadN C.1 C.2.1 hdg (lv_at hl q hq) (kk H locs ls hP hS hl)
theorem a_ifnonnullN (C : Ctx p l s m args meth c D cs ad b0 own cc nL ret) {off : Int} (hdg : decode cc pc = .ok (.ifnonnull off, 3)) 
    (kk : AW p l e R s m args below meth c D cs ad b0 Q nL k V lv (st) (pc + 3)) : AW p l e R s m args below meth c D cs ad b0 Q nL k V lv (.null :: st) pc :=
  fun H locs ls hP hS hl => lv_ifnonnullN C.1 C.2.1 hdg  (kk H locs ls hP hS hl)
theorem a_ifnonnull (C : Ctx p l s m args meth c D cs ad b0 own cc nL ret) {x : Nat} {off : Int} {tgt : Nat} (hdg : decode cc pc = .ok (.ifnonnull off, 3)) (ht : (pc : Int) + off = (tgt : Int))
    (kk : AW p l e R s m args below meth c D cs ad b0 Q nL k V lv st tgt) : AW p l e R s m args below meth c D cs ad b0 Q nL k V lv (.ref x :: st) pc :=
  fun H locs ls hP hS hl => lv_ifnonnull C.1 C.2.1 hdg ht (kk H locs ls hP hS hl)
theorem a_ldcw (C : Ctx p l s m args meth c D cs ad b0 own cc nL ret) {idx : Nat} {v : Int32} (hdg : decode cc pc = .ok (.ldc_w idx, 3)) (hc : Cond.constant own idx v ∈ UW)
    (kk : AW p l e R s m args below meth c D cs ad b0 Q nL k V lv (.int v :: st) (pc + 3)) : AW p l e R s m args below meth c D cs ad b0 Q nL k V lv st pc :=
  fun H locs ls hP hS hl => lv_ldcw C.1 C.2.1 C.2.2.2.1 (C.2.2.2.2.1 _ hc) hdg (kk H locs ls hP hS hl)
theorem a_astore_nN (C : Ctx p l s m args meth c D cs ad b0 own cc nL ret) {j : Fin 4} {i : Nat} {lv' : List (Nat × Value)} (hdg : decode cc pc = .ok (.astore_n j, 1)) (hi : (j : Nat) = i) (hn : i < nL) (hl : (i, Value.null) :: lv.filter (fun q => !(q.1 == i) && !(q.1 + 1 == i && q.2.category == 2)) = lv')
    (kk : AW p l e R s m args below meth c D cs ad b0 Q nL k V lv' st (pc + 1)) : AW p l e R s m args below meth c D cs ad b0 Q nL k V lv (.null :: st) pc :=
  fun H locs ls hP hS h => lv_astore_nN C.1 C.2.1 hdg hi h hn hl (fun ls' h' => kk H locs ls' hP hS h')
theorem a_goto (C : Ctx p l s m args meth c D cs ad b0 own cc nL ret) {off : Int} {tgt : Nat} (hdg : decode cc pc = .ok (.goto off, 3)) (ht : (pc : Int) + off = (tgt : Int))
    (kk : AW p l e R s m args below meth c D cs ad b0 Q nL k V lv st tgt) : AW p l e R s m args below meth c D cs ad b0 Q nL k V lv st pc :=
  fun H locs ls hP hS hl => lv_goto C.1 C.2.1 hdg ht (kk H locs ls hP hS hl)
theorem a_icmp_lt (C : Ctx p l s m args meth c D cs ad b0 own cc nL ret) {x y : Int32} {off : Int} {tgt : Nat} (hdg : decode cc pc = .ok (.if_icmp .lt off, 3)) (ht : (pc : Int) + off = (tgt : Int))
    (kt : x < y → AW p l e R s m args below meth c D cs ad b0 Q nL k V lv st tgt) (kf : ¬ x < y → AW p l e R s m args below meth c D cs ad b0 Q nL k V lv st (pc + 3)) : AW p l e R s m args below meth c D cs ad b0 Q nL k V lv (.int y :: .int x :: st) pc :=
  fun H locs ls hP hS hl => lv_icmp_lt C.1 C.2.1 hdg ht (fun q => kt q H locs ls hP hS hl) (fun q => kf q H locs ls hP hS hl)
theorem a_icmp_ge (C : Ctx p l s m args meth c D cs ad b0 own cc nL ret) {x y : Int32} {off : Int} {tgt : Nat} (hdg : decode cc pc = .ok (.if_icmp .ge off, 3)) (ht : (pc : Int) + off = (tgt : Int))
    (kt : y ≤ x → AW p l e R s m args below meth c D cs ad b0 Q nL k V lv st tgt) (kf : ¬ y ≤ x → AW p l e R s m args below meth c D cs ad b0 Q nL k V lv st (pc + 3)) : AW p l e R s m args below meth c D cs ad b0 Q nL k V lv (.int y :: .int x :: st) pc :=
  fun H locs ls hP hS hl => lv_icmp_ge C.1 C.2.1 hdg ht (fun q => kt q H locs ls hP hS hl) (fun q => kf q H locs ls hP hS hl)
theorem a_icmp_gt (C : Ctx p l s m args meth c D cs ad b0 own cc nL ret) {x y : Int32} {off : Int} {tgt : Nat} (hdg : decode cc pc = .ok (.if_icmp .gt off, 3)) (ht : (pc : Int) + off = (tgt : Int))
    (kt : y < x → AW p l e R s m args below meth c D cs ad b0 Q nL k V lv st tgt) (kf : ¬ y < x → AW p l e R s m args below meth c D cs ad b0 Q nL k V lv st (pc + 3)) : AW p l e R s m args below meth c D cs ad b0 Q nL k V lv (.int y :: .int x :: st) pc :=
  fun H locs ls hP hS hl => lv_icmp_gt C.1 C.2.1 hdg ht (fun q => kt q H locs ls hP hS hl) (fun q => kf q H locs ls hP hS hl)
theorem a_icmp_le (C : Ctx p l s m args meth c D cs ad b0 own cc nL ret) {x y : Int32} {off : Int} {tgt : Nat} (hdg : decode cc pc = .ok (.if_icmp .le off, 3)) (ht : (pc : Int) + off = (tgt : Int))
    (kt : x ≤ y → AW p l e R s m args below meth c D cs ad b0 Q nL k V lv st tgt) (kf : ¬ x ≤ y → AW p l e R s m args below meth c D cs ad b0 Q nL k V lv st (pc + 3)) : AW p l e R s m args below meth c D cs ad b0 Q nL k V lv (.int y :: .int x :: st) pc :=
  fun H locs ls hP hS hl => lv_icmp_le C.1 C.2.1 hdg ht (fun q => kt q H locs ls hP hS hl) (fun q => kf q H locs ls hP hS hl)
theorem a_icmp_eq (C : Ctx p l s m args meth c D cs ad b0 own cc nL ret) {x y : Int32} {off : Int} {tgt : Nat} (hdg : decode cc pc = .ok (.if_icmp .eq off, 3)) (ht : (pc : Int) + off = (tgt : Int))
    (kt : x = y → AW p l e R s m args below meth c D cs ad b0 Q nL k V lv st tgt) (kf : ¬ x = y → AW p l e R s m args below meth c D cs ad b0 Q nL k V lv st (pc + 3)) : AW p l e R s m args below meth c D cs ad b0 Q nL k V lv (.int y :: .int x :: st) pc :=
  fun H locs ls hP hS hl => lv_icmp_eq C.1 C.2.1 hdg ht (fun q => kt q H locs ls hP hS hl) (fun q => kf q H locs ls hP hS hl)
theorem a_icmp_ne (C : Ctx p l s m args meth c D cs ad b0 own cc nL ret) {x y : Int32} {off : Int} {tgt : Nat} (hdg : decode cc pc = .ok (.if_icmp .ne off, 3)) (ht : (pc : Int) + off = (tgt : Int))
    (kt : ¬ x = y → AW p l e R s m args below meth c D cs ad b0 Q nL k V lv st tgt) (kf : x = y → AW p l e R s m args below meth c D cs ad b0 Q nL k V lv st (pc + 3)) : AW p l e R s m args below meth c D cs ad b0 Q nL k V lv (.int y :: .int x :: st) pc :=
  fun H locs ls hP hS hl => lv_icmp_ne C.1 C.2.1 hdg ht (fun q => kt q H locs ls hP hS hl) (fun q => kf q H locs ls hP hS hl)
theorem a_if_lt (C : Ctx p l s m args meth c D cs ad b0 own cc nL ret) {x : Int32} {off : Int} {tgt : Nat} (hdg : decode cc pc = .ok (.ifCond .lt off, 3)) (ht : (pc : Int) + off = (tgt : Int))
    (kt : x < 0 → AW p l e R s m args below meth c D cs ad b0 Q nL k V lv st tgt) (kf : ¬ x < 0 → AW p l e R s m args below meth c D cs ad b0 Q nL k V lv st (pc + 3)) : AW p l e R s m args below meth c D cs ad b0 Q nL k V lv (.int x :: st) pc :=
  fun H locs ls hP hS hl => lv_if_lt C.1 C.2.1 hdg ht (fun q => kt q H locs ls hP hS hl) (fun q => kf q H locs ls hP hS hl)
theorem a_if_ge (C : Ctx p l s m args meth c D cs ad b0 own cc nL ret) {x : Int32} {off : Int} {tgt : Nat} (hdg : decode cc pc = .ok (.ifCond .ge off, 3)) (ht : (pc : Int) + off = (tgt : Int))
    (kt : 0 ≤ x → AW p l e R s m args below meth c D cs ad b0 Q nL k V lv st tgt) (kf : ¬ 0 ≤ x → AW p l e R s m args below meth c D cs ad b0 Q nL k V lv st (pc + 3)) : AW p l e R s m args below meth c D cs ad b0 Q nL k V lv (.int x :: st) pc :=
  fun H locs ls hP hS hl => lv_if_ge C.1 C.2.1 hdg ht (fun q => kt q H locs ls hP hS hl) (fun q => kf q H locs ls hP hS hl)
theorem a_if_gt (C : Ctx p l s m args meth c D cs ad b0 own cc nL ret) {x : Int32} {off : Int} {tgt : Nat} (hdg : decode cc pc = .ok (.ifCond .gt off, 3)) (ht : (pc : Int) + off = (tgt : Int))
    (kt : 0 < x → AW p l e R s m args below meth c D cs ad b0 Q nL k V lv st tgt) (kf : ¬ 0 < x → AW p l e R s m args below meth c D cs ad b0 Q nL k V lv st (pc + 3)) : AW p l e R s m args below meth c D cs ad b0 Q nL k V lv (.int x :: st) pc :=
  fun H locs ls hP hS hl => lv_if_gt C.1 C.2.1 hdg ht (fun q => kt q H locs ls hP hS hl) (fun q => kf q H locs ls hP hS hl)
theorem a_if_le (C : Ctx p l s m args meth c D cs ad b0 own cc nL ret) {x : Int32} {off : Int} {tgt : Nat} (hdg : decode cc pc = .ok (.ifCond .le off, 3)) (ht : (pc : Int) + off = (tgt : Int))
    (kt : x ≤ 0 → AW p l e R s m args below meth c D cs ad b0 Q nL k V lv st tgt) (kf : ¬ x ≤ 0 → AW p l e R s m args below meth c D cs ad b0 Q nL k V lv st (pc + 3)) : AW p l e R s m args below meth c D cs ad b0 Q nL k V lv (.int x :: st) pc :=
  fun H locs ls hP hS hl => lv_if_le C.1 C.2.1 hdg ht (fun q => kt q H locs ls hP hS hl) (fun q => kf q H locs ls hP hS hl)
theorem a_if_eq (C : Ctx p l s m args meth c D cs ad b0 own cc nL ret) {x : Int32} {off : Int} {tgt : Nat} (hdg : decode cc pc = .ok (.ifCond .eq off, 3)) (ht : (pc : Int) + off = (tgt : Int))
    (kt : x = 0 → AW p l e R s m args below meth c D cs ad b0 Q nL k V lv st tgt) (kf : ¬ x = 0 → AW p l e R s m args below meth c D cs ad b0 Q nL k V lv st (pc + 3)) : AW p l e R s m args below meth c D cs ad b0 Q nL k V lv (.int x :: st) pc :=
  fun H locs ls hP hS hl => lv_if_eq C.1 C.2.1 hdg ht (fun q => kt q H locs ls hP hS hl) (fun q => kf q H locs ls hP hS hl)
theorem a_if_ne (C : Ctx p l s m args meth c D cs ad b0 own cc nL ret) {x : Int32} {off : Int} {tgt : Nat} (hdg : decode cc pc = .ok (.ifCond .ne off, 3)) (ht : (pc : Int) + off = (tgt : Int))
    (kt : ¬ x = 0 → AW p l e R s m args below meth c D cs ad b0 Q nL k V lv st tgt) (kf : x = 0 → AW p l e R s m args below meth c D cs ad b0 Q nL k V lv st (pc + 3)) : AW p l e R s m args below meth c D cs ad b0 Q nL k V lv (.int x :: st) pc :=
  fun H locs ls hP hS hl => lv_if_ne C.1 C.2.1 hdg ht (fun q => kt q H locs ls hP hS hl) (fun q => kf q H locs ls hP hS hl)
theorem a_tswIn (C : Ctx p l s m args meth c D cs ad b0 own cc nL ret) {dflt lo hi : Int} {offs : Array Int} {len : Nat} {x v : Int32} {off : Int} {tgt : Nat} (hdg : decode cc pc = .ok (.tableswitch dflt lo hi offs, len)) (hx : x = v) (h1 : ¬ v.toInt < lo) (h2 : ¬ hi < v.toInt) (ho : offs[(v.toInt - lo).toNat]? = some off) (ht : (pc : Int) + off = (tgt : Int))
    (kk : AW p l e R s m args below meth c D cs ad b0 Q nL k V lv st tgt) : AW p l e R s m args below meth c D cs ad b0 Q nL k V lv (.int x :: st) pc := by
  subst hx
  exact fun H locs ls hP hS hl => lv_tableIn C.1 C.2.1 hdg h1 h2 ho ht (kk H locs ls hP hS hl)
theorem a_tswOut (C : Ctx p l s m args meth c D cs ad b0 own cc nL ret) {dflt lo hi : Int} {offs : Array Int} {len : Nat} {x : Int32} {tgt : Nat} (hdg : decode cc pc = .ok (.tableswitch dflt lo hi offs, len)) (h : x.toInt < lo ∨ hi < x.toInt) (ht : (pc : Int) + dflt = (tgt : Int))
    (kk : AW p l e R s m args below meth c D cs ad b0 Q nL k V lv st tgt) : AW p l e R s m args below meth c D cs ad b0 Q nL k V lv (.int x :: st) pc :=
  fun H locs ls hP hS hl => lv_tableOut C.1 C.2.1 hdg h ht (kk H locs ls hP hS hl)
theorem a_lsw (C : Ctx p l s m args meth c D cs ad b0 own cc nL ret) {dflt : Int} {ps : Array (Int × Int)} {len : Nat} {x : Int32} {off : Int} {tgt : Nat} (hdg : decode cc pc = .ok (.lookupswitch dflt ps, len)) (hp : (ps.toList.zip (ps.toList.drop 1)).all (fun (a, next) => a.1 < next.1) = true) (ho : Op.lookupswitch.offset ps.toList dflt x.toInt = off) (ht : (pc : Int) + off = (tgt : Int))
    (kk : AW p l e R s m args below meth c D cs ad b0 Q nL k V lv st tgt) : AW p l e R s m args below meth c D cs ad b0 Q nL k V lv (.int x :: st) pc :=
  fun H locs ls hP hS hl => lv_lookup C.1 C.2.1 hdg hp ho ht (kk H locs ls hP hS hl)
theorem a_istore_n (C : Ctx p l s m args meth c D cs ad b0 own cc nL ret) {j : Fin 4} {i : Nat} {x : Int32} {lv' : List (Nat × Value)} (hdg : decode cc pc = .ok (.istore_n j, 1)) (hi : (j : Nat) = i) (hn : i < nL) (hl : (i, Value.int x) :: lv.filter (fun q => !(q.1 == i) && !(q.1 + 1 == i && q.2.category == 2)) = lv')
    (kk : AW p l e R s m args below meth c D cs ad b0 Q nL k V lv' st (pc + 1)) : AW p l e R s m args below meth c D cs ad b0 Q nL k V lv (.int x :: st) pc :=
  fun H locs ls hP hS h => lv_istore_n C.1 C.2.1 hdg hi h hn hl (fun ls' h' => kk H locs ls' hP hS h')
theorem a_istore (C : Ctx p l s m args meth c D cs ad b0 own cc nL ret) {i : Nat} {x : Int32} {lv' : List (Nat × Value)} (hdg : decode cc pc = .ok (.istore i, 2)) (hn : i < nL) (hl : (i, Value.int x) :: lv.filter (fun q => !(q.1 == i) && !(q.1 + 1 == i && q.2.category == 2)) = lv')
    (kk : AW p l e R s m args below meth c D cs ad b0 Q nL k V lv' st (pc + 2)) : AW p l e R s m args below meth c D cs ad b0 Q nL k V lv (.int x :: st) pc :=
  fun H locs ls hP hS h => lv_istore C.1 C.2.1 hdg h hn hl (fun ls' h' => kk H locs ls' hP hS h')
theorem a_astore_n (C : Ctx p l s m args meth c D cs ad b0 own cc nL ret) {j : Fin 4} {i : Nat} {x : Nat} {lv' : List (Nat × Value)} (hdg : decode cc pc = .ok (.astore_n j, 1)) (hi : (j : Nat) = i) (hn : i < nL) (hl : (i, Value.ref x) :: lv.filter (fun q => !(q.1 == i) && !(q.1 + 1 == i && q.2.category == 2)) = lv')
    (kk : AW p l e R s m args below meth c D cs ad b0 Q nL k V lv' st (pc + 1)) : AW p l e R s m args below meth c D cs ad b0 Q nL k V lv (.ref x :: st) pc :=
  fun H locs ls hP hS h => lv_astore_n C.1 C.2.1 hdg hi h hn hl (fun ls' h' => kk H locs ls' hP hS h')
theorem a_astore (C : Ctx p l s m args meth c D cs ad b0 own cc nL ret) {i : Nat} {x : Nat} {lv' : List (Nat × Value)} (hdg : decode cc pc = .ok (.astore i, 2)) (hn : i < nL) (hl : (i, Value.ref x) :: lv.filter (fun q => !(q.1 == i) && !(q.1 + 1 == i && q.2.category == 2)) = lv')
    (kk : AW p l e R s m args below meth c D cs ad b0 Q nL k V lv' st (pc + 2)) : AW p l e R s m args below meth c D cs ad b0 Q nL k V lv (.ref x :: st) pc :=
  fun H locs ls hP hS h => lv_astore C.1 C.2.1 hdg h hn hl (fun ls' h' => kk H locs ls' hP hS h')
theorem a_iinc (C : Ctx p l s m args meth c D cs ad b0 own cc nL ret) {i q : Nat} {n : Int} {x v : Int32} {lv' : List (Nat × Value)} (hdg : decode cc pc = .ok (.iinc i n, 3)) (hk : lv[q]? = some (i, .int x)) (hv : x + Int32.ofInt n = v) (hn : i < nL) (hl : (i, Value.int v) :: lv.filter (fun q => !(q.1 == i) && !(q.1 + 1 == i && q.2.category == 2)) = lv')
    (kk : AW p l e R s m args below meth c D cs ad b0 Q nL k V lv' st (pc + 3)) : AW p l e R s m args below meth c D cs ad b0 Q nL k V lv st pc :=
  fun H locs ls hP hS h => lv_iinc C.1 C.2.1 hdg h hk hv hn hl (fun ls' h' => kk H locs ls' hP hS h')
/-! fields -/
def FL (own : String) (idx ci j : Nat) : Prop := ∃ (C : String) (T : u_T) (N : Nat), vwC[ci]? = some (C, T, N) ∧ j < N ∧ (∀ w ∈ u_ws C T N, w ∈ UW) ∧ Cond.fieldLink own idx (T j).1 (T j).2.1 (T j).2.2.1 ∈ UW
def FP (own : String) (idx ci j : Nat) (ty : FieldType) : Prop := ∃ (C : String) (T : u_T) (N : Nat) (ty0 : Nat → FieldType), vwC[ci]? = some (C, T, N) ∧ j < N ∧ (∀ w ∈ u_ws C T N, w ∈ UW) ∧ Cond.fieldLink own idx (T j).1 (T j).2.1 (T j).2.2.1 ∈ UW ∧ (∀ k, k < N → parseFieldDescriptor (T k).2.2.1 = some (ty0 k)) ∧ (∀ a, a < N → ∀ b, b < N → a ≠ b → (T a).2.1 ≠ (T b).2.1) ∧ (T j).2.2.2 = false ∧ parseFieldDescriptor (T j).2.2.1 = some ty
theorem a_geti (C : Ctx p l s m args meth c D cs ad b0 own cc nL ret) {idx ci j a : Nat} {fs : List (Option Nat)} {x : Int32} (hdg : decode cc pc = .ok (.getfield idx, 3)) (fl : FL own idx ci j) (hs : shp[a]? = some (.inl (ci, fs))) (hf : fs[j]? = some none) (hx : V a j = x)
    (kk : AW p l e R s m args below meth c D cs ad b0 Q nL k V lv (.int x :: st) (pc + 3)) : AW p l e R s m args below meth c D cs ad b0 Q nL k V lv (.ref (ad a) :: st) pc := by
  intro H locs ls hP hS hl
  subst hx
  obtain ⟨hx, hb, -, ho, hts, -, -, -, -, -, hST⟩ := C
  obtain ⟨K, T, N, h1, h2, h3, h4⟩ := fl
  exact va_get hx hb hts h3 ho hST.1 hP a (ws_at hs) h1 j h2 (hts _ h4) (fun _ h => h) (by rw [mkF_get, hf, Nat.zero_add]; rfl) hdg (kk H locs ls hP hS hl)
theorem a_getr (C : Ctx p l s m args meth c D cs ad b0 own cc nL ret) {idx ci j a t : Nat} {fs : List (Option Nat)} (hdg : decode cc pc = .ok (.getfield idx, 3)) (fl : FL own idx ci j) (hs : shp[a]? = some (.inl (ci, fs))) (hf : fs[j]? = some (some t))
    (kk : AW p l e R s m args below meth c D cs ad b0 Q nL k V lv (.ref (ad t) :: st) (pc + 3)) : AW p l e R s m args below meth c D cs ad b0 Q nL k V lv (.ref (ad a) :: st) pc := by
  intro H locs ls hP hS hl
  obtain ⟨hx, hb, -, ho, hts, -, -, -, -, -, hST⟩ := C
  obtain ⟨K, T, N, h1, h2, h3, h4⟩ := fl
  exact va_get hx hb hts h3 ho hST.1 hP a (ws_at hs) h1 j h2 (hts _ h4) (fun _ h => h) (by rw [mkF_get, hf]; rfl) hdg (kk H locs ls hP hS hl)
theorem mkF_up (ad : Nat → Nat) (v : Nat → Int32) (x : Int32) (i : Nat) : ∀ (fs : List (Option Nat)) (j : Nat), i < j → mkF ad (upd v i x) j fs = mkF ad v j fs
  | [], j, _ => rfl
  | f :: fs, j, h => by
    have hne : ¬ j = i := by omega
    show fdV ad (upd v i x j) f :: mkF ad (upd v i x) (j + 1) fs = fdV ad (v j) f :: mkF ad v (j + 1) fs
    rw [mkF_up ad v x i fs (j + 1) (by omega)]
    simp [upd, hne]
theorem mkF_set (ad : Nat → Nat) (v : Nat → Int32) (x : Int32) : ∀ (fs : List (Option Nat)) (j i : Nat), fs[i]? = some none → (mkF ad v j fs).set i (.int x) = mkF ad (upd v (j + i) x) j fs
  | [], j, i, h => by simp at h
  | f :: fs, j, 0, h => by
    simp only [List.getElem?_cons_zero, Option.some.injEq] at h
    subst h
    show Value.int x :: mkF ad v (j + 1) fs = fdV ad (upd v (j + 0) x j) none :: mkF ad (upd v (j + 0) x) (j + 1) fs
    rw [mkF_up ad v x (j + 0) fs (j + 1) (by omega)]
    simp [upd, fdV]
  | f :: fs, j, i + 1, h => by
    rw [List.getElem?_cons_succ] at h
    have hne : ¬ j = j + (i + 1) := by omega
    have e : j + 1 + i = j + (i + 1) := by omega
    show fdV ad (v j) f :: (mkF ad v (j + 1) fs).set i (.int x) = fdV ad (upd v (j + (i + 1)) x j) f :: mkF ad (upd v (j + (i + 1)) x) (j + 1) fs
    rw [mkF_set ad v x fs (j + 1) i h, e]
    simp [upd, hne]
theorem a_puti (C : Ctx p l s m args meth c D cs ad b0 own cc nL ret) {idx ci j a : Nat} {fs : List (Option Nat)} {x : Int32} {ty : FieldType} (hdg : decode cc pc = .ok (.putfield idx, 3)) (fl : FP own idx ci j ty) (hs : shp[a]? = some (.inl (ci, fs))) (hf : fs[j]? = some none) (hn : narrow ty (.int x) = .int x) (hfit : fits ty (.int x) = true)
    (kk : AW p l e R s m args below meth c D cs ad b0 Q nL k (up2 V a j x) lv st (pc + 3)) : AW p l e R s m args below meth c D cs ad b0 Q nL k V lv (.int x :: .ref (ad a) :: st) pc := by
  intro H locs ls hP hS hl
  obtain ⟨hx, hb, -, ho, hts, -, -, -, hAd, -, hST⟩ := C
  obtain ⟨K, T, N, ty0, h1, h2, h3, h4, h5, h6, h7, h8⟩ := fl
  have hj : j < fs.length := (List.getElem?_eq_some_iff.mp hf).1
  refine va_put hx hb hts h3 ty0 h5 h6 ho hST.1 hP (ws_D hAd V) hS a (ws_at hs) h1 j h2 (hts _ h4) (fun _ h => h) h7 h8 hn hfit (by rw [mkF_len]; exact hj) hdg (fun H1 locs1 hP1 _ hS1 => ?_)
  refine kk H1 locs1 ls ?_ hS1 hl
  have e : (wsOf cs ad V).set a (ad a, .inr (ci, (mkF ad (V a) 0 fs).set j (.int x))) = wsOf cs ad (up2 V a j x) := by
    refine ws_set ?_ (fun i hi => up2_o V j x hi)
    rw [cellOf_sh hs, up2_k]
    rw [mkF_set ad (V a) x fs 0 j hf, Nat.zero_add]
    rfl
  rw [← e]
  exact hP1
/-! rows -/
theorem a_iald (C : Ctx p l s m args meth c D cs ad b0 own cc nL ret) {a len : Nat} {rf : List Nat} {i x : Int32} (hdg : decode cc pc = .ok (.iaload, 1)) (hs : shp[a]? = some (.inr (0, len, rf))) (hin : vp_in i len) (hx : V a i.toNatClampNeg = x)
    (kk : AW p l e R s m args below meth c D cs ad b0 Q nL k V lv (.int x :: st) (pc + 1)) : AW p l e R s m args below meth c D cs ad b0 Q nL k V lv (.int i :: .ref (ad a) :: st) pc :=
  fun H locs ls hP hS hl => va_iald (f := V a) (n := len) C.1 C.2.1 C.2.2.2.2.2.2.2.2.2.2.1 hP a 0 (ws_at hs) rfl hin hdg (hx ▸ kk H locs ls hP hS hl)
theorem a_cald (C : Ctx p l s m args meth c D cs ad b0 own cc nL ret) {a len : Nat} {rf : List Nat} {i x : Int32} (hdg : decode cc pc = .ok (.caload, 1)) (hs : shp[a]? = some (.inr (1, len, rf))) (hin : vp_in i len) (hx : V a i.toNatClampNeg = x)
    (kk : AW p l e R s m args below meth c D cs ad b0 Q nL k V lv (.int x :: st) (pc + 1)) : AW p l e R s m args below meth c D cs ad b0 Q nL k V lv (.int i :: .ref (ad a) :: st) pc :=
  fun H locs ls hP hS hl => va_cald (f := V a) (n := len) C.1 C.2.1 C.2.2.2.2.2.2.2.2.2.2.1 hP a 1 (ws_at hs) rfl hin hdg (hx ▸ kk H locs ls hP hS hl)
theorem a_lald (C : Ctx p l s m args meth c D cs ad b0 own cc nL ret) {a len : Nat} {rf : List Nat} {i : Int32} (hdg : decode cc pc = .ok (.laload, 1)) (hs : shp[a]? = some (.inr (2, len, rf))) (hin : vp_in i len)
    (kk : AW p l e R s m args below meth c D cs ad b0 Q nL k V lv (.long ((V a i.toNatClampNeg).toInt64) :: st) (pc + 1)) : AW p l e R s m args below meth c D cs ad b0 Q nL k V lv (.int i :: .ref (ad a) :: st) pc :=
  fun H locs ls hP hS hl => va_lald (f := fun j => (V a j).toInt64) (n := len) C.1 C.2.1 C.2.2.2.2.2.2.2.2.2.2.1 hP a 2 (ws_at hs) rfl hin hdg (kk H locs ls hP hS hl)
theorem a_dald (C : Ctx p l s m args meth c D cs ad b0 own cc nL ret) {a len : Nat} {rf : List Nat} {i : Int32} (hdg : decode cc pc = .ok (.daload, 1)) (hs : shp[a]? = some (.inr (3, len, rf))) (hin : vp_in i len)
    (kk : AW p l e R s m args below meth c D cs ad b0 Q nL k V lv (.double (u64 (V a (2 * i.toNatClampNeg)) (V a (2 * i.toNatClampNeg + 1))) :: st) (pc + 1)) : AW p l e R s m args below meth c D cs ad b0 Q nL k V lv (.int i :: .ref (ad a) :: st) pc :=
  fun H locs ls hP hS hl => va_dald (f := fun j => u64 (V a (2 * j)) (V a (2 * j + 1))) (n := len) C.1 C.2.1 C.2.2.2.2.2.2.2.2.2.2.1 hP a 3 (ws_at hs) rfl hin hdg (kk H locs ls hP hS hl)
theorem a_aald (C : Ctx p l s m args meth c D cs ad b0 own cc nL ret) {a len t : Nat} {rf : List Nat} {i : Int32} (hdg : decode cc pc = .ok (.aaload, 1)) (hs : shp[a]? = some (.inr (4, len, rf))) (hin : vp_in i len) (hr : rf[i.toNatClampNeg]? = some t)
    (kk : AW p l e R s m args below meth c D cs ad b0 Q nL k V lv (.ref (ad t) :: st) (pc + 1)) : AW p l e R s m args below meth c D cs ad b0 Q nL k V lv (.int i :: .ref (ad a) :: st) pc := by
  intro H locs ls hP hS hl
  refine va_aldq (f := fun j => (rf[j]?).map ad) (n := len) C.1 C.2.1 C.2.2.2.2.2.2.2.2.2.2.1 hP a 4 (ws_at hs) rfl hin hdg ?_
  have e : va_rf ((fun j => (rf[j]?).map ad) i.toNatClampNeg) = .ref (ad t) := by
    show va_rf ((rf[i.toNatClampNeg]?).map ad) = _
    rw [hr]
    rfl
  rw [e]
  exact kk H locs ls hP hS hl
theorem a_alen (C : Ctx p l s m args meth c D cs ad b0 own cc nL ret) {a len : Nat} {rf : List Nat} {v : Int32} (hdg : decode cc pc = .ok (.arraylength, 1)) (hs : shp[a]? = some (.inr (0, len, rf))) (hv : Int32.ofNat len = v)
    (kk : AW p l e R s m args below meth c D cs ad b0 Q nL k V lv (.int v :: st) (pc + 1)) : AW p l e R s m args below meth c D cs ad b0 Q nL k V lv (.ref (ad a) :: st) pc :=
  fun H locs ls hP hS hl => va_alen (x := (len, .inl (V a))) (ty := .int) C.1 C.2.1 C.2.2.2.2.2.2.2.2.2.2.1 hP a 0 (ws_at hs) rfl hv hdg (kk H locs ls hP hS hl)
theorem a_iast (C : Ctx p l s m args meth c D cs ad b0 own cc nL ret) {a len : Nat} {rf : List Nat} {i x : Int32} (hdg : decode cc pc = .ok (.iastore, 1)) (hs : shp[a]? = some (.inr (0, len, rf))) (hin : vp_in i len)
    (kk : AW p l e R s m args below meth c D cs ad b0 Q nL k (up2 V a i.toNatClampNeg x) lv st (pc + 1)) : AW p l e R s m args below meth c D cs ad b0 Q nL k V lv (.int x :: .int i :: .ref (ad a) :: st) pc := by
  intro H locs ls hP hS hl
  refine va_iast (f := V a) (n := len) C.1 C.2.1 C.2.2.2.2.2.2.2.2.2.2.1 hP (ws_D C.2.2.2.2.2.2.2.2.1 V) hS a 0 (ws_at hs) rfl hin hdg (fun H1 locs1 hP1 _ hS1 => ?_)
  refine kk H1 locs1 ls ?_ hS1 hl
  rw [← ws_set (k := a) (by rw [cellOf_sh hs, up2_k]) (fun j hj => up2_o V _ x hj)]
  exact hP1
theorem a_cast (C : Ctx p l s m args meth c D cs ad b0 own cc nL ret) {a len : Nat} {rf : List Nat} {i x : Int32} (hdg : decode cc pc = .ok (.castore, 1)) (hs : shp[a]? = some (.inr (1, len, rf))) (hin : vp_in i len)
    (kk : AW p l e R s m args below meth c D cs ad b0 Q nL k (up2 V a i.toNatClampNeg (vp_nar .char x)) lv st (pc + 1)) : AW p l e R s m args below meth c D cs ad b0 Q nL k V lv (.int x :: .int i :: .ref (ad a) :: st) pc := by
  intro H locs ls hP hS hl
  refine va_cast (f := V a) (n := len) C.1 C.2.1 C.2.2.2.2.2.2.2.2.2.2.1 hP (ws_D C.2.2.2.2.2.2.2.2.1 V) hS a 1 (ws_at hs) rfl hin hdg (fun H1 locs1 hP1 _ hS1 => ?_)
  refine kk H1 locs1 ls ?_ hS1 hl
  rw [← ws_set (k := a) (by rw [cellOf_sh hs, up2_k]) (fun j hj => up2_o V _ _ hj)]
  exact hP1
theorem a_last (C : Ctx p l s m args meth c D cs ad b0 own cc nL ret) {a len : Nat} {rf : List Nat} {i x : Int32} {y : Int64} (hdg : decode cc pc = .ok (.lastore, 1)) (hs : shp[a]? = some (.inr (2, len, rf))) (hin : vp_in i len) (hy : x.toInt64 = y)
    (kk : AW p l e R s m args below meth c D cs ad b0 Q nL k (up2 V a i.toNatClampNeg x) lv st (pc + 1)) : AW p l e R s m args below meth c D cs ad b0 Q nL k V lv (.long y :: .int i :: .ref (ad a) :: st) pc := by
  intro H locs ls hP hS hl
  subst hy
  refine va_last (f := fun j => (V a j).toInt64) (n := len) C.1 C.2.1 C.2.2.2.2.2.2.2.2.2.2.1 hP (ws_D C.2.2.2.2.2.2.2.2.1 V) hS a 2 (ws_at hs) rfl hin hdg (fun H1 locs1 hP1 _ hS1 => ?_)
  refine kk H1 locs1 ls ?_ hS1 hl
  rw [← ws_set (k := a) (V := V) (e := .inl (cs 2, len, .inr (.inl (vp_updL (fun j => (V a j).toInt64) i.toNatClampNeg x.toInt64)))) ?_ (fun j hj => up2_o V _ x hj)]
  · exact hP1
  · rw [cellOf_sh hs, up2_k]
    have e : (fun j => (upd (V a) i.toNatClampNeg x j).toInt64) = vp_updL (fun j => (V a j).toInt64) i.toNatClampNeg x.toInt64 := by
      funext j
      unfold upd vp_updL
      by_cases h : j = i.toNatClampNeg <;> simp [h]
    show (Sum.inl (cs 2, len, _) : va_E) = _
    rw [← e]
    rfl
theorem a_dast (C : Ctx p l s m args meth c D cs ad b0 own cc nL ret) {a : Nat} {rf : List Nat} {x : UInt64} (hdg : decode cc pc = .ok (.dastore, 1)) (hs : shp[a]? = some (.inr (3, 1, rf)))
    (kk : AW p l e R s m args below meth c D cs ad b0 Q nL k (upD V a x) lv st (pc + 1)) : AW p l e R s m args below meth c D cs ad b0 Q nL k V lv (.double x :: .int 0 :: .ref (ad a) :: st) pc := by
  intro H locs ls hP hS hl
  refine va_dast (f := fun j => u64 (V a (2 * j)) (V a (2 * j + 1))) (n := 1) C.1 C.2.1 C.2.2.2.2.2.2.2.2.2.2.1 hP (ws_D C.2.2.2.2.2.2.2.2.1 V) hS a 3 (ws_at hs) rfl (by unfold vp_in; decide) hdg (fun H1 locs1 hP1 _ hS1 => ?_)
  refine kk H1 locs1 ls ?_ hS1 hl
  rw [← ws_set (k := a) (V := V) (e := .inl (cs 3, 1, .inr (.inr (.inr (.inl (vf_upd (fun j => u64 (V a (2 * j)) (V a (2 * j + 1))) (0 : Int32).toNatClampNeg x)))))) ?_ (fun j hj => upD_o V x hj)]
  · exact hP1
  · rw [cellOf_sh hs, upD_k]
    have e : (fun j => u64 (upd (upd (V a) 0 (lo64 x)) 1 (hi64 x) (2 * j)) (upd (upd (V a) 0 (lo64 x)) 1 (hi64 x) (2 * j + 1))) = vf_upd (fun j => u64 (V a (2 * j)) (V a (2 * j + 1))) (0 : Int32).toNatClampNeg x := by
      funext j
      unfold vf_upd
      by_cases h : j = (0 : Int32).toNatClampNeg
      · rw [if_pos h]
        have h0 : j = 0 := h
        subst h0
        exact u64_halves x
      · rw [if_neg h]
        have h0 : ¬ j = 0 := h
        have h1 : ¬ 2 * j = 0 := by omega
        have h2 : ¬ 2 * j = 1 := by omega
        have h3 : ¬ 2 * j + 1 = 0 := by omega
        have h4 : ¬ 2 * j + 1 = 1 := by omega
        simp [upd, h0, h1, h2, h3, h4]
    show (Sum.inl (cs 3, 1, _) : va_E) = _
    rw [← e]
    rfl
end RU
