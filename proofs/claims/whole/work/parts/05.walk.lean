section JR
variable {p : Program} {l : Launch} {e : Env} {R : Room} {s : State} {m : MethodId} {args : Array Value} {below : List Frame} {meth : Method} {c : Code} {D : va_G} {A : Nat → Prop} {nL : Nat} {Q : State → Prop} {n : Nat} {q : Nat → Nat} {ent : Nat → (Nat → Int32) → va_E} {u : MM} {pc : Nat} {lv : List (Nat × Value)} {st : List Value} {cc : ByteArray} {own : String} {ret : Option FieldType} {cI cZ : ClassId} {ad : Nat → Nat}

theorem j_iconst (C : CX p s m args meth c cc nL own ret D cI cZ ad A) {k : Int} {v : Int32} (hd : decode cc pc = .ok (.iconst k, 1)) (hv : Int32.ofInt k = v) (kk : JX p l e R s m args below meth c D A nL Q n q ent u (pc + 1) lv (.int v :: st)) : JX p l e R s m args below meth c D A nL Q n q ent u pc lv st :=
  fun H locs ls hP hD hS hl => lv_iconst C.1 C.2.1 hd hv (kk H locs ls hP hD hS hl)

theorem j_bipush (C : CX p s m args meth c cc nL own ret D cI cZ ad A) {k : Int} {v : Int32} (hd : decode cc pc = .ok (.bipush k, 2)) (hv : (Int8.ofInt k).toInt32 = v) (kk : JX p l e R s m args below meth c D A nL Q n q ent u (pc + 2) lv (.int v :: st)) : JX p l e R s m args below meth c D A nL Q n q ent u pc lv st :=
  fun H locs ls hP hD hS hl => lv_bipush C.1 C.2.1 hd hv (kk H locs ls hP hD hS hl)

theorem j_sipush (C : CX p s m args meth c cc nL own ret D cI cZ ad A) {k : Int} {v : Int32} (hd : decode cc pc = .ok (.sipush k, 3)) (hv : (Int16.ofInt k).toInt32 = v) (kk : JX p l e R s m args below meth c D A nL Q n q ent u (pc + 3) lv (.int v :: st)) : JX p l e R s m args below meth c D A nL Q n q ent u pc lv st :=
  fun H locs ls hP hD hS hl => lv_sipush C.1 C.2.1 hd hv (kk H locs ls hP hD hS hl)

theorem j_lconst (C : CX p s m args meth c cc nL own ret D cI cZ ad A) {k : Fin 2} {v : Int64} (hd : decode cc pc = .ok (.lconst k, 1)) (hv : Int64.ofNat (k : Nat) = v) (kk : JX p l e R s m args below meth c D A nL Q n q ent u (pc + 1) lv (.long v :: st)) : JX p l e R s m args below meth c D A nL Q n q ent u pc lv st :=
  fun H locs ls hP hD hS hl => lv_lconst C.1 C.2.1 hd hv (kk H locs ls hP hD hS hl)

theorem j_ldc (C : CX p s m args meth c cc nL own ret D cI cZ ad A) {i : Nat} (v : Int32) (hw : Cond.constant own i v ∈ lw_tbl) (hd : decode cc pc = .ok (.ldc i, 2)) (kk : JX p l e R s m args below meth c D A nL Q n q ent u (pc + 2) lv (.int v :: st)) : JX p l e R s m args below meth c D A nL Q n q ent u pc lv st :=
  fun H locs ls hP hD hS hl => lv_ldc C.1 C.2.1 C.2.2.2.1 (C.w hw) hd (kk H locs ls hP hD hS hl)

theorem j_ldcw (C : CX p s m args meth c cc nL own ret D cI cZ ad A) {i : Nat} (v : Int32) (hw : Cond.constant own i v ∈ lw_tbl) (hd : decode cc pc = .ok (.ldc_w i, 3)) (kk : JX p l e R s m args below meth c D A nL Q n q ent u (pc + 3) lv (.int v :: st)) : JX p l e R s m args below meth c D A nL Q n q ent u pc lv st :=
  fun H locs ls hP hD hS hl => lv_ldcw C.1 C.2.1 C.2.2.2.1 (C.w hw) hd (kk H locs ls hP hD hS hl)

theorem j_ldc2 (C : CX p s m args meth c cc nL own ret D cI cZ ad A) {i : Nat} (v : Int64) (hw : Cond.constantLong own i v ∈ lw_tbl) (hd : decode cc pc = .ok (.ldc2_w i, 3)) (kk : JX p l e R s m args below meth c D A nL Q n q ent u (pc + 3) lv (.long v :: st)) : JX p l e R s m args below meth c D A nL Q n q ent u pc lv st :=
  fun H locs ls hP hD hS hl => lv_ldc2 C.1 C.2.1 C.2.2.2.1 (C.w hw) hd (kk H locs ls hP hD hS hl)

theorem j_ldcS (C : CX p s m args meth c cc nL own ret D cI cZ ad A) {i k : Nat} {tx : String} (hw : (own, i, tx, k) ∈ siJ) (hd : decode cc pc = .ok (.ldc i, 2)) (kk : JX p l e R s m args below meth c D A nL Q n q ent u (pc + 2) lv (.ref (ad (10 + k)) :: st)) : JX p l e R s m args below meth c D A nL Q n q ent u pc lv st :=
  fun H locs ls hP hD hS hl => va_ldcS C.1 C.2.1 C.2.2.2.1 (C.2.2.2.2.2.2.2.1.2.2.2.1 _ hw) hd (kk H locs ls hP hD hS hl)

theorem j_iload_n (C : CX p s m args meth c cc nL own ret D cI cZ ad A) (k : Nat) {i : Fin 4} {x : Int32} (hd : decode cc pc = .ok (.iload_n i, 1)) (hk : lv[k]? = some ((i : Nat), .int x)) (kk : JX p l e R s m args below meth c D A nL Q n q ent u (pc + 1) lv (.int x :: st)) : JX p l e R s m args below meth c D A nL Q n q ent u pc lv st :=
  fun H locs ls hP hD hS hl => lv_iload_n C.1 C.2.1 hd rfl (lv_at hl k hk) (kk H locs ls hP hD hS hl)

theorem j_iload (C : CX p s m args meth c cc nL own ret D cI cZ ad A) (k : Nat) {i : Nat} {x : Int32} (hd : decode cc pc = .ok (.iload i, 2)) (hk : lv[k]? = some (i, .int x)) (kk : JX p l e R s m args below meth c D A nL Q n q ent u (pc + 2) lv (.int x :: st)) : JX p l e R s m args below meth c D A nL Q n q ent u pc lv st :=
  fun H locs ls hP hD hS hl => lv_iload C.1 C.2.1 hd (lv_at hl k hk) (kk H locs ls hP hD hS hl)

theorem j_lload_n (C : CX p s m args meth c cc nL own ret D cI cZ ad A) (k : Nat) {i : Fin 4} {x : Int64} (hd : decode cc pc = .ok (.lload_n i, 1)) (hk : lv[k]? = some ((i : Nat), .long x)) (kk : JX p l e R s m args below meth c D A nL Q n q ent u (pc + 1) lv (.long x :: st)) : JX p l e R s m args below meth c D A nL Q n q ent u pc lv st :=
  fun H locs ls hP hD hS hl => lv_lload_n C.1 C.2.1 hd rfl (lv_at hl k hk) (kk H locs ls hP hD hS hl)

theorem j_lload (C : CX p s m args meth c cc nL own ret D cI cZ ad A) (k : Nat) {i : Nat} {x : Int64} (hd : decode cc pc = .ok (.lload i, 2)) (hk : lv[k]? = some (i, .long x)) (kk : JX p l e R s m args below meth c D A nL Q n q ent u (pc + 2) lv (.long x :: st)) : JX p l e R s m args below meth c D A nL Q n q ent u pc lv st :=
  fun H locs ls hP hD hS hl => lv_lload C.1 C.2.1 hd (lv_at hl k hk) (kk H locs ls hP hD hS hl)

theorem j_aload_n (C : CX p s m args meth c cc nL own ret D cI cZ ad A) (k : Nat) {i : Fin 4} {x : Nat} (hd : decode cc pc = .ok (.aload_n i, 1)) (hk : lv[k]? = some ((i : Nat), .ref x)) (kk : JX p l e R s m args below meth c D A nL Q n q ent u (pc + 1) lv (.ref x :: st)) : JX p l e R s m args below meth c D A nL Q n q ent u pc lv st :=
  fun H locs ls hP hD hS hl => lv_aload_n C.1 C.2.1 hd rfl (lv_at hl k hk) (kk H locs ls hP hD hS hl)

theorem j_aload (C : CX p s m args meth c cc nL own ret D cI cZ ad A) (k : Nat) {i : Nat} {x : Nat} (hd : decode cc pc = .ok (.aload i, 2)) (hk : lv[k]? = some (i, .ref x)) (kk : JX p l e R s m args below meth c D A nL Q n q ent u (pc + 2) lv (.ref x :: st)) : JX p l e R s m args below meth c D A nL Q n q ent u pc lv st :=
  fun H locs ls hP hD hS hl => lv_aload C.1 C.2.1 hd (lv_at hl k hk) (kk H locs ls hP hD hS hl)

theorem j_istore_n (C : CX p s m args meth c cc nL own ret D cI cZ ad A) {lv' : List (Nat × Value)} {i : Fin 4} {x : Int32} (hd : decode cc pc = .ok (.istore_n i, 1)) (hn : (i : Nat) < nL) (hl2 : ((i : Nat), Value.int x) :: lv.filter (fun q => !(q.1 == (i : Nat)) && !(q.1 + 1 == (i : Nat) && q.2.category == 2)) = lv') (kk : JX p l e R s m args below meth c D A nL Q n q ent u (pc + 1) lv' st) : JX p l e R s m args below meth c D A nL Q n q ent u pc lv (.int x :: st) :=
  fun H locs ls hP hD hS hl => lv_istore_n C.1 C.2.1 hd rfl hl hn hl2 (fun ls hl => (kk H locs ls hP hD hS hl))

theorem j_istore (C : CX p s m args meth c cc nL own ret D cI cZ ad A) {lv' : List (Nat × Value)} {i : Nat} {x : Int32} (hd : decode cc pc = .ok (.istore i, 2)) (hn : (i : Nat) < nL) (hl2 : (i, Value.int x) :: lv.filter (fun q => !(q.1 == (i : Nat)) && !(q.1 + 1 == (i : Nat) && q.2.category == 2)) = lv') (kk : JX p l e R s m args below meth c D A nL Q n q ent u (pc + 2) lv' st) : JX p l e R s m args below meth c D A nL Q n q ent u pc lv (.int x :: st) :=
  fun H locs ls hP hD hS hl => lv_istore C.1 C.2.1 hd hl hn hl2 (fun ls hl => (kk H locs ls hP hD hS hl))

theorem j_lstore_n (C : CX p s m args meth c cc nL own ret D cI cZ ad A) {lv' : List (Nat × Value)} {i : Fin 4} {x : Int64} (hd : decode cc pc = .ok (.lstore_n i, 1)) (hn : (i : Nat) + 1 < nL) (hl2 : ((i : Nat), Value.long x) :: lv.filter (fun q => !(q.1 == (i : Nat)) && (!(q.1 == (i : Nat) + 1) && !(q.1 + 1 == (i : Nat) && q.2.category == 2))) = lv') (kk : JX p l e R s m args below meth c D A nL Q n q ent u (pc + 1) lv' st) : JX p l e R s m args below meth c D A nL Q n q ent u pc lv (.long x :: st) :=
  fun H locs ls hP hD hS hl => lv_lstore_n C.1 C.2.1 hd rfl hl hn hl2 (fun ls hl => (kk H locs ls hP hD hS hl))

theorem j_lstore (C : CX p s m args meth c cc nL own ret D cI cZ ad A) {lv' : List (Nat × Value)} {i : Nat} {x : Int64} (hd : decode cc pc = .ok (.lstore i, 2)) (hn : (i : Nat) + 1 < nL) (hl2 : (i, Value.long x) :: lv.filter (fun q => !(q.1 == (i : Nat)) && (!(q.1 == (i : Nat) + 1) && !(q.1 + 1 == (i : Nat) && q.2.category == 2))) = lv') (kk : JX p l e R s m args below meth c D A nL Q n q ent u (pc + 2) lv' st) : JX p l e R s m args below meth c D A nL Q n q ent u pc lv (.long x :: st) :=
  fun H locs ls hP hD hS hl => lv_lstore C.1 C.2.1 hd hl hn hl2 (fun ls hl => (kk H locs ls hP hD hS hl))

theorem j_astore_n (C : CX p s m args meth c cc nL own ret D cI cZ ad A) {lv' : List (Nat × Value)} {i : Fin 4} {x : Nat} (hd : decode cc pc = .ok (.astore_n i, 1)) (hn : (i : Nat) < nL) (hl2 : ((i : Nat), Value.ref x) :: lv.filter (fun q => !(q.1 == (i : Nat)) && !(q.1 + 1 == (i : Nat) && q.2.category == 2)) = lv') (kk : JX p l e R s m args below meth c D A nL Q n q ent u (pc + 1) lv' st) : JX p l e R s m args below meth c D A nL Q n q ent u pc lv (.ref x :: st) :=
  fun H locs ls hP hD hS hl => lv_astore_n C.1 C.2.1 hd rfl hl hn hl2 (fun ls hl => (kk H locs ls hP hD hS hl))

theorem j_astore (C : CX p s m args meth c cc nL own ret D cI cZ ad A) {lv' : List (Nat × Value)} {i : Nat} {x : Nat} (hd : decode cc pc = .ok (.astore i, 2)) (hn : (i : Nat) < nL) (hl2 : (i, Value.ref x) :: lv.filter (fun q => !(q.1 == (i : Nat)) && !(q.1 + 1 == (i : Nat) && q.2.category == 2)) = lv') (kk : JX p l e R s m args below meth c D A nL Q n q ent u (pc + 2) lv' st) : JX p l e R s m args below meth c D A nL Q n q ent u pc lv (.ref x :: st) :=
  fun H locs ls hP hD hS hl => lv_astore C.1 C.2.1 hd hl hn hl2 (fun ls hl => (kk H locs ls hP hD hS hl))

theorem j_iinc (C : CX p s m args meth c cc nL own ret D cI cZ ad A) (k : Nat) {lv' : List (Nat × Value)} {i : Nat} {d : Int} {x v : Int32} (hd : decode cc pc = .ok (.iinc i d, 3)) (hk : lv[k]? = some (i, .int x)) (hv : x + Int32.ofInt d = v) (hn : i < nL) (hl2 : (i, Value.int v) :: lv.filter (fun q => !(q.1 == (i : Nat)) && !(q.1 + 1 == (i : Nat) && q.2.category == 2)) = lv') (kk : JX p l e R s m args below meth c D A nL Q n q ent u (pc + 3) lv' st) : JX p l e R s m args below meth c D A nL Q n q ent u pc lv st :=
  fun H locs ls hP hD hS hl => lv_iinc C.1 C.2.1 hd hl hk hv hn hl2 (fun ls hl => (kk H locs ls hP hD hS hl))

theorem j_iadd (C : CX p s m args meth c cc nL own ret D cI cZ ad A) {x y : Int32} (hd : decode cc pc = .ok (.iadd, 1)) (kk : JX p l e R s m args below meth c D A nL Q n q ent u (pc + 1) lv (.int (x + y) :: st)) : JX p l e R s m args below meth c D A nL Q n q ent u pc lv (.int y :: .int x :: st) :=
  fun H locs ls hP hD hS hl => lv_iadd C.1 C.2.1 hd (kk H locs ls hP hD hS hl)

theorem j_isub (C : CX p s m args meth c cc nL own ret D cI cZ ad A) {x y : Int32} (hd : decode cc pc = .ok (.isub, 1)) (kk : JX p l e R s m args below meth c D A nL Q n q ent u (pc + 1) lv (.int (x - y) :: st)) : JX p l e R s m args below meth c D A nL Q n q ent u pc lv (.int y :: .int x :: st) :=
  fun H locs ls hP hD hS hl => lv_isub C.1 C.2.1 hd (kk H locs ls hP hD hS hl)

theorem j_imul (C : CX p s m args meth c cc nL own ret D cI cZ ad A) {x y : Int32} (hd : decode cc pc = .ok (.imul, 1)) (kk : JX p l e R s m args below meth c D A nL Q n q ent u (pc + 1) lv (.int (x * y) :: st)) : JX p l e R s m args below meth c D A nL Q n q ent u pc lv (.int y :: .int x :: st) :=
  fun H locs ls hP hD hS hl => lv_imul C.1 C.2.1 hd (kk H locs ls hP hD hS hl)

theorem j_iand (C : CX p s m args meth c cc nL own ret D cI cZ ad A) {x y : Int32} (hd : decode cc pc = .ok (.iand, 1)) (kk : JX p l e R s m args below meth c D A nL Q n q ent u (pc + 1) lv (.int (x &&& y) :: st)) : JX p l e R s m args below meth c D A nL Q n q ent u pc lv (.int y :: .int x :: st) :=
  fun H locs ls hP hD hS hl => lv_iand C.1 C.2.1 hd (kk H locs ls hP hD hS hl)

theorem j_ior (C : CX p s m args meth c cc nL own ret D cI cZ ad A) {x y : Int32} (hd : decode cc pc = .ok (.ior, 1)) (kk : JX p l e R s m args below meth c D A nL Q n q ent u (pc + 1) lv (.int (x ||| y) :: st)) : JX p l e R s m args below meth c D A nL Q n q ent u pc lv (.int y :: .int x :: st) :=
  fun H locs ls hP hD hS hl => lv_ior C.1 C.2.1 hd (kk H locs ls hP hD hS hl)

theorem j_ixor (C : CX p s m args meth c cc nL own ret D cI cZ ad A) {x y : Int32} (hd : decode cc pc = .ok (.ixor, 1)) (kk : JX p l e R s m args below meth c D A nL Q n q ent u (pc + 1) lv (.int (x ^^^ y) :: st)) : JX p l e R s m args below meth c D A nL Q n q ent u pc lv (.int y :: .int x :: st) :=
  fun H locs ls hP hD hS hl => lv_ixor C.1 C.2.1 hd (kk H locs ls hP hD hS hl)

theorem j_ishl (C : CX p s m args meth c cc nL own ret D cI cZ ad A) {x y : Int32} (hd : decode cc pc = .ok (.ishl, 1)) (kk : JX p l e R s m args below meth c D A nL Q n q ent u (pc + 1) lv (.int (x <<< (y &&& 31)) :: st)) : JX p l e R s m args below meth c D A nL Q n q ent u pc lv (.int y :: .int x :: st) :=
  fun H locs ls hP hD hS hl => lv_ishl C.1 C.2.1 hd (kk H locs ls hP hD hS hl)

theorem j_ishr (C : CX p s m args meth c cc nL own ret D cI cZ ad A) {x y : Int32} (hd : decode cc pc = .ok (.ishr, 1)) (kk : JX p l e R s m args below meth c D A nL Q n q ent u (pc + 1) lv (.int (x >>> (y &&& 31)) :: st)) : JX p l e R s m args below meth c D A nL Q n q ent u pc lv (.int y :: .int x :: st) :=
  fun H locs ls hP hD hS hl => lv_ishr C.1 C.2.1 hd (kk H locs ls hP hD hS hl)

theorem j_iushr (C : CX p s m args meth c cc nL own ret D cI cZ ad A) {x y : Int32} (hd : decode cc pc = .ok (.iushr, 1)) (kk : JX p l e R s m args below meth c D A nL Q n q ent u (pc + 1) lv (.int ((x.toUInt32 >>> (y.toUInt32 &&& Int32.toUInt32 31)).toInt32) :: st)) : JX p l e R s m args below meth c D A nL Q n q ent u pc lv (.int y :: .int x :: st) :=
  fun H locs ls hP hD hS hl => lv_iushr C.1 C.2.1 hd rfl (kk H locs ls hP hD hS hl)

theorem j_irem (C : CX p s m args meth c cc nL own ret D cI cZ ad A) {x y : Int32} (hd : decode cc pc = .ok (.irem, 1)) (hy : ¬ y = 0) (kk : JX p l e R s m args below meth c D A nL Q n q ent u (pc + 1) lv (.int (x - x / y * y) :: st)) : JX p l e R s m args below meth c D A nL Q n q ent u pc lv (.int y :: .int x :: st) :=
  fun H locs ls hP hD hS hl => lv_irem C.1 C.2.1 hd hy (kk H locs ls hP hD hS hl)

theorem j_idiv (C : CX p s m args meth c cc nL own ret D cI cZ ad A) {x y : Int32} (hd : decode cc pc = .ok (.idiv, 1)) (hy : ¬ y = 0) (kk : JX p l e R s m args below meth c D A nL Q n q ent u (pc + 1) lv (.int (x / y) :: st)) : JX p l e R s m args below meth c D A nL Q n q ent u pc lv (.int y :: .int x :: st) :=
  fun H locs ls hP hD hS hl => lv_idiv C.1 C.2.1 hd hy (kk H locs ls hP hD hS hl)

theorem j_ladd (C : CX p s m args meth c cc nL own ret D cI cZ ad A) {x y : Int64} (hd : decode cc pc = .ok (.ladd, 1)) (kk : JX p l e R s m args below meth c D A nL Q n q ent u (pc + 1) lv (.long (x + y) :: st)) : JX p l e R s m args below meth c D A nL Q n q ent u pc lv (.long y :: .long x :: st) :=
  fun H locs ls hP hD hS hl => lv_ladd C.1 C.2.1 hd (kk H locs ls hP hD hS hl)

theorem j_lsub (C : CX p s m args meth c cc nL own ret D cI cZ ad A) {x y : Int64} (hd : decode cc pc = .ok (.lsub, 1)) (kk : JX p l e R s m args below meth c D A nL Q n q ent u (pc + 1) lv (.long (x - y) :: st)) : JX p l e R s m args below meth c D A nL Q n q ent u pc lv (.long y :: .long x :: st) :=
  fun H locs ls hP hD hS hl => lv_lsub C.1 C.2.1 hd (kk H locs ls hP hD hS hl)

theorem j_lmul (C : CX p s m args meth c cc nL own ret D cI cZ ad A) {x y : Int64} (hd : decode cc pc = .ok (.lmul, 1)) (kk : JX p l e R s m args below meth c D A nL Q n q ent u (pc + 1) lv (.long (x * y) :: st)) : JX p l e R s m args below meth c D A nL Q n q ent u pc lv (.long y :: .long x :: st) :=
  fun H locs ls hP hD hS hl => lv_lmul C.1 C.2.1 hd (kk H locs ls hP hD hS hl)

theorem j_lrem (C : CX p s m args meth c cc nL own ret D cI cZ ad A) {x y : Int64} (hd : decode cc pc = .ok (.lrem, 1)) (hy : ¬ y = 0) (kk : JX p l e R s m args below meth c D A nL Q n q ent u (pc + 1) lv (.long (x - x / y * y) :: st)) : JX p l e R s m args below meth c D A nL Q n q ent u pc lv (.long y :: .long x :: st) :=
  fun H locs ls hP hD hS hl => lv_lrem C.1 C.2.1 hd hy (kk H locs ls hP hD hS hl)

theorem j_ldiv (C : CX p s m args meth c cc nL own ret D cI cZ ad A) {x y : Int64} (hd : decode cc pc = .ok (.ldiv, 1)) (hy : ¬ y = 0) (kk : JX p l e R s m args below meth c D A nL Q n q ent u (pc + 1) lv (.long (x / y) :: st)) : JX p l e R s m args below meth c D A nL Q n q ent u pc lv (.long y :: .long x :: st) :=
  fun H locs ls hP hD hS hl => lv_ldiv C.1 C.2.1 hd hy (kk H locs ls hP hD hS hl)

theorem j_lcmp (C : CX p s m args meth c cc nL own ret D cI cZ ad A) {x y : Int64} (hd : decode cc pc = .ok (.lcmp, 1)) (kk : JX p l e R s m args below meth c D A nL Q n q ent u (pc + 1) lv (.int (lg_cmp x y) :: st)) : JX p l e R s m args below meth c D A nL Q n q ent u pc lv (.long y :: .long x :: st) :=
  fun H locs ls hP hD hS hl => W.lcmp C.1 C.2.1 hd (kk H locs ls hP hD hS hl)

theorem j_ineg (C : CX p s m args meth c cc nL own ret D cI cZ ad A) {x : Int32} (hd : decode cc pc = .ok (.ineg, 1)) (kk : JX p l e R s m args below meth c D A nL Q n q ent u (pc + 1) lv (.int (-x) :: st)) : JX p l e R s m args below meth c D A nL Q n q ent u pc lv (.int x :: st) :=
  fun H locs ls hP hD hS hl => lv_ineg C.1 C.2.1 hd (kk H locs ls hP hD hS hl)

theorem j_i2l (C : CX p s m args meth c cc nL own ret D cI cZ ad A) {x : Int32} (hd : decode cc pc = .ok (.i2l, 1)) (kk : JX p l e R s m args below meth c D A nL Q n q ent u (pc + 1) lv (.long x.toInt64 :: st)) : JX p l e R s m args below meth c D A nL Q n q ent u pc lv (.int x :: st) :=
  fun H locs ls hP hD hS hl => lv_i2l C.1 C.2.1 hd rfl (kk H locs ls hP hD hS hl)

theorem j_i2c (C : CX p s m args meth c cc nL own ret D cI cZ ad A) {x : Int32} (hd : decode cc pc = .ok (.i2c, 1)) (kk : JX p l e R s m args below meth c D A nL Q n q ent u (pc + 1) lv (.int (x.toUInt32 % 65536).toInt32 :: st)) : JX p l e R s m args below meth c D A nL Q n q ent u pc lv (.int x :: st) :=
  fun H locs ls hP hD hS hl => lv_i2c C.1 C.2.1 hd rfl (kk H locs ls hP hD hS hl)

theorem j_dup (C : CX p s m args meth c cc nL own ret D cI cZ ad A) {v : Value} (hd : decode cc pc = .ok (.dup, 1)) (hv : v.category = 1) (kk : JX p l e R s m args below meth c D A nL Q n q ent u (pc + 1) lv (v :: v :: st)) : JX p l e R s m args below meth c D A nL Q n q ent u pc lv (v :: st) :=
  fun H locs ls hP hD hS hl => lv_dup C.1 C.2.1 hd hv (kk H locs ls hP hD hS hl)

theorem j_dup2 (C : CX p s m args meth c cc nL own ret D cI cZ ad A) {v w : Value} (hd : decode cc pc = .ok (.dup2, 1)) (hv : v.category = 1) (hw : w.category = 1) (kk : JX p l e R s m args below meth c D A nL Q n q ent u (pc + 1) lv (v :: w :: v :: w :: st)) : JX p l e R s m args below meth c D A nL Q n q ent u pc lv (v :: w :: st) :=
  fun H locs ls hP hD hS hl => lv_dup2_11 C.1 C.2.1 hd hv hw (kk H locs ls hP hD hS hl)

theorem j_pop (C : CX p s m args meth c cc nL own ret D cI cZ ad A) {v : Value} (hd : decode cc pc = .ok (.pop, 1)) (hv : v.category = 1) (kk : JX p l e R s m args below meth c D A nL Q n q ent u (pc + 1) lv st) : JX p l e R s m args below meth c D A nL Q n q ent u pc lv (v :: st) :=
  fun H locs ls hP hD hS hl => lv_pop C.1 C.2.1 hd hv (kk H locs ls hP hD hS hl)

theorem j_goto (C : CX p s m args meth c cc nL own ret D cI cZ ad A) {off : Int} (tgt : Nat) (hd : decode cc pc = .ok (.goto off, 3)) (ht : (pc : Int) + off = (tgt : Int)) (kk : JX p l e R s m args below meth c D A nL Q n q ent u tgt lv st) : JX p l e R s m args below meth c D A nL Q n q ent u pc lv st :=
  fun H locs ls hP hD hS hl => lv_goto C.1 C.2.1 hd ht (kk H locs ls hP hD hS hl)

theorem j_icmp_eq (C : CX p s m args meth c cc nL own ret D cI cZ ad A) {x y : Int32} {off : Int} (tgt : Nat) (hd : decode cc pc = .ok (.if_icmp .eq off, 3)) (ht : (pc : Int) + off = (tgt : Int)) (kt : x = y → JX p l e R s m args below meth c D A nL Q n q ent u tgt lv st) (kf : ¬ x = y → JX p l e R s m args below meth c D A nL Q n q ent u (pc + 3) lv st) : JX p l e R s m args below meth c D A nL Q n q ent u pc lv (.int y :: .int x :: st) :=
  fun H locs ls hP hD hS hl => lv_icmp_eq C.1 C.2.1 hd ht (fun h => kt h H locs ls hP hD hS hl) (fun h => kf h H locs ls hP hD hS hl)

theorem j_if_eq (C : CX p s m args meth c cc nL own ret D cI cZ ad A) {x : Int32} {off : Int} (tgt : Nat) (hd : decode cc pc = .ok (.ifCond .eq off, 3)) (ht : (pc : Int) + off = (tgt : Int)) (kt : x = 0 → JX p l e R s m args below meth c D A nL Q n q ent u tgt lv st) (kf : ¬ x = 0 → JX p l e R s m args below meth c D A nL Q n q ent u (pc + 3) lv st) : JX p l e R s m args below meth c D A nL Q n q ent u pc lv (.int x :: st) :=
  fun H locs ls hP hD hS hl => lv_if_eq C.1 C.2.1 hd ht (fun h => kt h H locs ls hP hD hS hl) (fun h => kf h H locs ls hP hD hS hl)

theorem j_icmp_ne (C : CX p s m args meth c cc nL own ret D cI cZ ad A) {x y : Int32} {off : Int} (tgt : Nat) (hd : decode cc pc = .ok (.if_icmp .ne off, 3)) (ht : (pc : Int) + off = (tgt : Int)) (kt : ¬ x = y → JX p l e R s m args below meth c D A nL Q n q ent u tgt lv st) (kf : x = y → JX p l e R s m args below meth c D A nL Q n q ent u (pc + 3) lv st) : JX p l e R s m args below meth c D A nL Q n q ent u pc lv (.int y :: .int x :: st) :=
  fun H locs ls hP hD hS hl => lv_icmp_ne C.1 C.2.1 hd ht (fun h => kt h H locs ls hP hD hS hl) (fun h => kf h H locs ls hP hD hS hl)

theorem j_if_ne (C : CX p s m args meth c cc nL own ret D cI cZ ad A) {x : Int32} {off : Int} (tgt : Nat) (hd : decode cc pc = .ok (.ifCond .ne off, 3)) (ht : (pc : Int) + off = (tgt : Int)) (kt : ¬ x = 0 → JX p l e R s m args below meth c D A nL Q n q ent u tgt lv st) (kf : x = 0 → JX p l e R s m args below meth c D A nL Q n q ent u (pc + 3) lv st) : JX p l e R s m args below meth c D A nL Q n q ent u pc lv (.int x :: st) :=
  fun H locs ls hP hD hS hl => lv_if_ne C.1 C.2.1 hd ht (fun h => kt h H locs ls hP hD hS hl) (fun h => kf h H locs ls hP hD hS hl)

theorem j_icmp_lt (C : CX p s m args meth c cc nL own ret D cI cZ ad A) {x y : Int32} {off : Int} (tgt : Nat) (hd : decode cc pc = .ok (.if_icmp .lt off, 3)) (ht : (pc : Int) + off = (tgt : Int)) (kt : x < y → JX p l e R s m args below meth c D A nL Q n q ent u tgt lv st) (kf : ¬ x < y → JX p l e R s m args below meth c D A nL Q n q ent u (pc + 3) lv st) : JX p l e R s m args below meth c D A nL Q n q ent u pc lv (.int y :: .int x :: st) :=
  fun H locs ls hP hD hS hl => lv_icmp_lt C.1 C.2.1 hd ht (fun h => kt h H locs ls hP hD hS hl) (fun h => kf h H locs ls hP hD hS hl)

theorem j_if_lt (C : CX p s m args meth c cc nL own ret D cI cZ ad A) {x : Int32} {off : Int} (tgt : Nat) (hd : decode cc pc = .ok (.ifCond .lt off, 3)) (ht : (pc : Int) + off = (tgt : Int)) (kt : x < 0 → JX p l e R s m args below meth c D A nL Q n q ent u tgt lv st) (kf : ¬ x < 0 → JX p l e R s m args below meth c D A nL Q n q ent u (pc + 3) lv st) : JX p l e R s m args below meth c D A nL Q n q ent u pc lv (.int x :: st) :=
  fun H locs ls hP hD hS hl => lv_if_lt C.1 C.2.1 hd ht (fun h => kt h H locs ls hP hD hS hl) (fun h => kf h H locs ls hP hD hS hl)

theorem j_icmp_ge (C : CX p s m args meth c cc nL own ret D cI cZ ad A) {x y : Int32} {off : Int} (tgt : Nat) (hd : decode cc pc = .ok (.if_icmp .ge off, 3)) (ht : (pc : Int) + off = (tgt : Int)) (kt : y ≤ x → JX p l e R s m args below meth c D A nL Q n q ent u tgt lv st) (kf : ¬ y ≤ x → JX p l e R s m args below meth c D A nL Q n q ent u (pc + 3) lv st) : JX p l e R s m args below meth c D A nL Q n q ent u pc lv (.int y :: .int x :: st) :=
  fun H locs ls hP hD hS hl => lv_icmp_ge C.1 C.2.1 hd ht (fun h => kt h H locs ls hP hD hS hl) (fun h => kf h H locs ls hP hD hS hl)

theorem j_if_ge (C : CX p s m args meth c cc nL own ret D cI cZ ad A) {x : Int32} {off : Int} (tgt : Nat) (hd : decode cc pc = .ok (.ifCond .ge off, 3)) (ht : (pc : Int) + off = (tgt : Int)) (kt : 0 ≤ x → JX p l e R s m args below meth c D A nL Q n q ent u tgt lv st) (kf : ¬ 0 ≤ x → JX p l e R s m args below meth c D A nL Q n q ent u (pc + 3) lv st) : JX p l e R s m args below meth c D A nL Q n q ent u pc lv (.int x :: st) :=
  fun H locs ls hP hD hS hl => lv_if_ge C.1 C.2.1 hd ht (fun h => kt h H locs ls hP hD hS hl) (fun h => kf h H locs ls hP hD hS hl)

theorem j_icmp_gt (C : CX p s m args meth c cc nL own ret D cI cZ ad A) {x y : Int32} {off : Int} (tgt : Nat) (hd : decode cc pc = .ok (.if_icmp .gt off, 3)) (ht : (pc : Int) + off = (tgt : Int)) (kt : y < x → JX p l e R s m args below meth c D A nL Q n q ent u tgt lv st) (kf : ¬ y < x → JX p l e R s m args below meth c D A nL Q n q ent u (pc + 3) lv st) : JX p l e R s m args below meth c D A nL Q n q ent u pc lv (.int y :: .int x :: st) :=
  fun H locs ls hP hD hS hl => lv_icmp_gt C.1 C.2.1 hd ht (fun h => kt h H locs ls hP hD hS hl) (fun h => kf h H locs ls hP hD hS hl)

theorem j_if_gt (C : CX p s m args meth c cc nL own ret D cI cZ ad A) {x : Int32} {off : Int} (tgt : Nat) (hd : decode cc pc = .ok (.ifCond .gt off, 3)) (ht : (pc : Int) + off = (tgt : Int)) (kt : 0 < x → JX p l e R s m args below meth c D A nL Q n q ent u tgt lv st) (kf : ¬ 0 < x → JX p l e R s m args below meth c D A nL Q n q ent u (pc + 3) lv st) : JX p l e R s m args below meth c D A nL Q n q ent u pc lv (.int x :: st) :=
  fun H locs ls hP hD hS hl => lv_if_gt C.1 C.2.1 hd ht (fun h => kt h H locs ls hP hD hS hl) (fun h => kf h H locs ls hP hD hS hl)

theorem j_icmp_le (C : CX p s m args meth c cc nL own ret D cI cZ ad A) {x y : Int32} {off : Int} (tgt : Nat) (hd : decode cc pc = .ok (.if_icmp .le off, 3)) (ht : (pc : Int) + off = (tgt : Int)) (kt : x ≤ y → JX p l e R s m args below meth c D A nL Q n q ent u tgt lv st) (kf : ¬ x ≤ y → JX p l e R s m args below meth c D A nL Q n q ent u (pc + 3) lv st) : JX p l e R s m args below meth c D A nL Q n q ent u pc lv (.int y :: .int x :: st) :=
  fun H locs ls hP hD hS hl => lv_icmp_le C.1 C.2.1 hd ht (fun h => kt h H locs ls hP hD hS hl) (fun h => kf h H locs ls hP hD hS hl)

theorem j_if_le (C : CX p s m args meth c cc nL own ret D cI cZ ad A) {x : Int32} {off : Int} (tgt : Nat) (hd : decode cc pc = .ok (.ifCond .le off, 3)) (ht : (pc : Int) + off = (tgt : Int)) (kt : x ≤ 0 → JX p l e R s m args below meth c D A nL Q n q ent u tgt lv st) (kf : ¬ x ≤ 0 → JX p l e R s m args below meth c D A nL Q n q ent u (pc + 3) lv st) : JX p l e R s m args below meth c D A nL Q n q ent u pc lv (.int x :: st) :=
  fun H locs ls hP hD hS hl => lv_if_le C.1 C.2.1 hd ht (fun h => kt h H locs ls hP hD hS hl) (fun h => kf h H locs ls hP hD hS hl)

theorem j_sub {lv' : List (Nat × Value)} (ks : List Nat) (h : lv_pick lv ks = lv') (kk : JX p l e R s m args below meth c D A nL Q n q ent u pc lv' st) : JX p l e R s m args below meth c D A nL Q n q ent u pc lv st :=
  fun H locs ls hP hD hS hl => kk H locs ls hP hD hS (lv_sub hl ks h)

theorem j_get (C : CX p s m args meth c cc nL own ret D cI cZ ad A) {Cn : String} {T : u_T} {N ci i : Nat} {fs : List Value} {v : Value} (k j : Nat) (hw : ∀ w ∈ u_ws Cn T N, w.before args s = true) (hlink : Cond.fieldLink own i Cn (T j).2.1 (T j).2.2.1 ∈ lw_tbl) (hg : gw (Cond.fieldLink own i Cn (T j).2.1 (T j).2.2.1) = true) (hdc : (T j).1 = Cn) (hk : k < n) (he : ent k (u k) = .inr (ci, fs)) (hc : vwCl[ci]? = some (Cn, T, N)) (hj : j < N) (hv : fs[j]? = some v) (hd : decode cc pc = .ok (.getfield i, 3)) (kk : JX p l e R s m args below meth c D A nL Q n q ent u (pc + 3) lv (v :: st)) : JX p l e R s m args below meth c D A nL Q n q ent u pc lv (.ref (q k) :: st) :=
  fun H locs ls hP hD hS hl => va_get C.1 C.2.1 hw (fun _ h => h) C.2.2.2.1 C.2.2.2.2.2.2.1 hP k ((jw_at hk).trans (by rw [he])) hc j hj (C.w hlink hg) (fun x h9 => by rw [hdc] at h9; exact h9) hv hd (kk H locs ls hP hD hS hl)

theorem j_getN (C : CX p s m args meth c cc nL own ret D cI cZ ad A) {Cn : String} {T : u_T} {N ci i : Nat} {host : String} {fs : List Value} {v : Value} (k j : Nat) (hw : ∀ w ∈ u_ws Cn T N, w.before args s = true) (hlink : Cond.fieldLinkNest own i Cn (T j).2.1 (T j).2.2.1 host ∈ lw_tbl) (hg : gw (Cond.fieldLinkNest own i Cn (T j).2.1 (T j).2.2.1 host) = true) (hdc : (T j).1 = Cn) (hk : k < n) (he : ent k (u k) = .inr (ci, fs)) (hc : vwCl[ci]? = some (Cn, T, N)) (hj : j < N) (hv : fs[j]? = some v) (hd : decode cc pc = .ok (.getfield i, 3)) (kk : JX p l e R s m args below meth c D A nL Q n q ent u (pc + 3) lv (v :: st)) : JX p l e R s m args below meth c D A nL Q n q ent u pc lv (.ref (q k) :: st) :=
  fun H locs ls hP hD hS hl => va_getN C.1 C.2.1 hw (fun _ h => h) C.2.2.2.1 C.2.2.2.2.2.2.1 hP k ((jw_at hk).trans (by rw [he])) hc j hj (C.w hlink hg) (fun x h9 => by rw [hdc] at h9; exact h9) hv hd (kk H locs ls hP hD hS hl)

theorem j_put (C : CX p s m args meth c cc nL own ret D cI cZ ad A) {Cn : String} {T : u_T} {N ci i : Nat} {fs : List Value} {x : Int32} {ty : FieldType} {ty0 : Nat → FieldType} (k j : Nat) (hw : ∀ w ∈ u_ws Cn T N, w.before args s = true) (hlink : Cond.fieldLink own i Cn (T j).2.1 (T j).2.2.1 ∈ lw_tbl) (hg : gw (Cond.fieldLink own i Cn (T j).2.1 (T j).2.2.1) = true) (hdc : (T j).1 = Cn) (hk : k < n) (he : ent k (u k) = .inr (ci, fs)) (hc : vwCl[ci]? = some (Cn, T, N)) (hj : j < N) (hty : ∀ k, k < N → parseFieldDescriptor (T k).2.2.1 = some (ty0 k)) (hnm : ∀ a, a < N → ∀ b, b < N → a ≠ b → (T a).2.1 ≠ (T b).2.1) (hfin : (T j).2.2.2 = false) (hpd : parseFieldDescriptor (T j).2.2.1 = some ty) (hnar : narrow ty (.int x) = .int x ∧ fits ty (.int x) = true) (hlen : j < fs.length) (he2 : ent k (fun b => if b = j then x else u k b) = .inr (ci, fs.set j (.int x))) (hd : decode cc pc = .ok (.putfield i, 3)) (kk : JX p l e R s m args below meth c D A nL Q n q ent (up u k j x) (pc + 3) lv st) : JX p l e R s m args below meth c D A nL Q n q ent u pc lv (.int x :: .ref (q k) :: st) :=
  fun H locs ls hP hD hS hl => va_put C.1 C.2.1 hw (fun _ h => h) ty0 hty hnm C.2.2.2.1 C.2.2.2.2.2.2.1 hP hD hS k ((jw_at hk).trans (by rw [he])) hc j hj (C.w hlink hg) (fun x h9 => by rw [hdc] at h9; exact h9) hfin hpd hnar.1 hnar.2 hlen hd (fun H1 locs1 hP1 hD1 hS1 => by rw [jw_setR he2] at hP1 hD1; exact kk H1 locs1 ls hP1 hD1 hS1 hl)

theorem j_putN (C : CX p s m args meth c cc nL own ret D cI cZ ad A) {Cn : String} {T : u_T} {N ci i : Nat} {host : String} {fs : List Value} {x : Int32} {ty : FieldType} {ty0 : Nat → FieldType} (k j : Nat) (hw : ∀ w ∈ u_ws Cn T N, w.before args s = true) (hlink : Cond.fieldLinkNest own i Cn (T j).2.1 (T j).2.2.1 host ∈ lw_tbl) (hg : gw (Cond.fieldLinkNest own i Cn (T j).2.1 (T j).2.2.1 host) = true) (hdc : (T j).1 = Cn) (hk : k < n) (he : ent k (u k) = .inr (ci, fs)) (hc : vwCl[ci]? = some (Cn, T, N)) (hj : j < N) (hty : ∀ k, k < N → parseFieldDescriptor (T k).2.2.1 = some (ty0 k)) (hnm : ∀ a, a < N → ∀ b, b < N → a ≠ b → (T a).2.1 ≠ (T b).2.1) (hfin : (T j).2.2.2 = false) (hpd : parseFieldDescriptor (T j).2.2.1 = some ty) (hnar : narrow ty (.int x) = .int x ∧ fits ty (.int x) = true) (hlen : j < fs.length) (he2 : ent k (fun b => if b = j then x else u k b) = .inr (ci, fs.set j (.int x))) (hd : decode cc pc = .ok (.putfield i, 3)) (kk : JX p l e R s m args below meth c D A nL Q n q ent (up u k j x) (pc + 3) lv st) : JX p l e R s m args below meth c D A nL Q n q ent u pc lv (.int x :: .ref (q k) :: st) :=
  fun H locs ls hP hD hS hl => va_putN C.1 C.2.1 hw (fun _ h => h) ty0 hty hnm C.2.2.2.1 C.2.2.2.2.2.2.1 hP hD hS k ((jw_at hk).trans (by rw [he])) hc j hj (C.w hlink hg) (fun x h9 => by rw [hdc] at h9; exact h9) hfin hpd hnar.1 hnar.2 hlen hd (fun H1 locs1 hP1 hD1 hS1 => by rw [jw_setR he2] at hP1 hD1; exact kk H1 locs1 ls hP1 hD1 hS1 hl)

theorem j_iaload (C : CX p s m args meth c cc nL own ret D cI cZ ad A) {N : Nat} {i : Int32} {f : Nat → Int32} (k : Nat) (hin : vp_in i N) (hk : k < n) (he : ent k (u k) = .inl (cI, N, .inl f)) (hf : f = u k) (hd : decode cc pc = .ok (.iaload, 1)) (kk : JX p l e R s m args below meth c D A nL Q n q ent u (pc + 1) lv (.int (u k i.toNatClampNeg) :: st)) : JX p l e R s m args below meth c D A nL Q n q ent u pc lv (.int i :: .ref (q k) :: st) :=
  fun H locs ls hP hD hS hl => by subst hf; exact va_iald C.1 C.2.1 C.2.2.2.2.2.2.1 hP k 0 ((jw_at hk).trans (by rw [he])) rfl hin hd (kk H locs ls hP hD hS hl)

theorem j_zaload (C : CX p s m args meth c cc nL own ret D cI cZ ad A) {N : Nat} {i : Int32} {f : Nat → Int32} (k : Nat) (hin : vp_in i N) (hk : k < n) (he : ent k (u k) = .inl (cZ, N, .inl f)) (hf : f = u k) (hd : decode cc pc = .ok (.baload, 1)) (kk : JX p l e R s m args below meth c D A nL Q n q ent u (pc + 1) lv (.int (u k i.toNatClampNeg) :: st)) : JX p l e R s m args below meth c D A nL Q n q ent u pc lv (.int i :: .ref (q k) :: st) :=
  fun H locs ls hP hD hS hl => by subst hf; exact va_zald C.1 C.2.1 C.2.2.2.2.2.2.1 hP k 1 ((jw_at hk).trans (by rw [he])) rfl hin hd (kk H locs ls hP hD hS hl)

theorem j_iastore (C : CX p s m args meth c cc nL own ret D cI cZ ad A) {N : Nat} {i x : Int32} {f : Nat → Int32} (k : Nat) (hin : vp_in i N) (hk : k < n) (he : ∀ f, ent k f = .inl (cI, N, .inl f)) (hf : f = u k) (hd : decode cc pc = .ok (.iastore, 1)) (kk : JX p l e R s m args below meth c D A nL Q n q ent (up u k i.toNatClampNeg x) (pc + 1) lv st) : JX p l e R s m args below meth c D A nL Q n q ent u pc lv (.int x :: .int i :: .ref (q k) :: st) :=
  fun H locs ls hP hD hS hl => by subst hf; exact va_iast C.1 C.2.1 C.2.2.2.2.2.2.1 hP hD hS k 0 ((jw_at hk).trans (by rw [he])) rfl hin hd (fun H1 locs1 hP1 hD1 hS1 => by rw [jw_setR (f := fun b => if b = i.toNatClampNeg then x else u k b) (by rw [he]; rfl)] at hP1 hD1; exact kk H1 locs1 ls hP1 hD1 hS1 hl)

theorem j_zastore (C : CX p s m args meth c cc nL own ret D cI cZ ad A) {N : Nat} {i x : Int32} {f : Nat → Int32} (k : Nat) (hin : vp_in i N) (hk : k < n) (he : ∀ f, ent k f = .inl (cZ, N, .inl f)) (hf : f = u k) (hd : decode cc pc = .ok (.bastore, 1)) (kk : JX p l e R s m args below meth c D A nL Q n q ent (up u k i.toNatClampNeg (vp_nar .boolean x)) (pc + 1) lv st) : JX p l e R s m args below meth c D A nL Q n q ent u pc lv (.int x :: .int i :: .ref (q k) :: st) :=
  fun H locs ls hP hD hS hl => by subst hf; exact va_zast C.1 C.2.1 C.2.2.2.2.2.2.1 hP hD hS k 1 ((jw_at hk).trans (by rw [he])) rfl hin hd (fun H1 locs1 hP1 hD1 hS1 => by rw [jw_setR (f := fun b => if b = i.toNatClampNeg then (vp_nar .boolean x) else u k b) (by rw [he]; rfl)] at hP1 hD1; exact kk H1 locs1 ls hP1 hD1 hS1 hl)

theorem j_alen (C : CX p s m args meth c cc nL own ret D cI cZ ad A) {x : vp_A} {cA : ClassId} {t0 : Nat} {ty : FieldType} {v : Int32} (k : Nat) (hk : k < n) (he : ent k (u k) = .inl (cA, x)) (ht : ([(cI, .int), (cZ, .boolean)] : List (ClassId × FieldType))[t0]? = some (cA, ty)) (hv : Int32.ofNat x.1 = v) (hd : decode cc pc = .ok (.arraylength, 1)) (kk : JX p l e R s m args below meth c D A nL Q n q ent u (pc + 1) lv (.int v :: st)) : JX p l e R s m args below meth c D A nL Q n q ent u pc lv (.ref (q k) :: st) :=
  fun H locs ls hP hD hS hl => va_alen C.1 C.2.1 C.2.2.2.2.2.2.1 hP k t0 ((jw_at hk).trans (by rw [he])) ht hv hd (kk H locs ls hP hD hS hl)

end JR
