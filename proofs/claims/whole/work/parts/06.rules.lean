section OkRules
variable {G : gG} {d : Nat} {M : gM} {pc : Nat} {L : List (Option Value)} {st : List Value} {I : sI} {J : sJ} {P : sP} {K : sK} {n : Nat} {Q : gQ}
theorem ok_iconst {k : Int} (hd : decode M.2.1 pc = .ok (.iconst k, 1)) (h : Ok G d M (pc + 1) L (.int (Int32.ofInt k) :: st) I J P K n Q) : Ok G d M pc L st I J P K n Q :=
  fun p e s m args below meth c ls H locs n0 K0 C R hv hg hq => lv_iconst C.1 C.2.1 hd rfl (h p e s m args below meth c ls H locs n0 K0 C R hv hg hq)
theorem ok_bipush {k : Int} (hd : decode M.2.1 pc = .ok (.bipush k, 2)) (h : Ok G d M (pc + 2) L (.int (Int8.ofInt k).toInt32 :: st) I J P K n Q) : Ok G d M pc L st I J P K n Q :=
  fun p e s m args below meth c ls H locs n0 K0 C R hv hg hq => lv_bipush C.1 C.2.1 hd rfl (h p e s m args below meth c ls H locs n0 K0 C R hv hg hq)
theorem ok_sipush {k : Int} (hd : decode M.2.1 pc = .ok (.sipush k, 3)) (h : Ok G d M (pc + 3) L (.int (Int16.ofInt k).toInt32 :: st) I J P K n Q) : Ok G d M pc L st I J P K n Q :=
  fun p e s m args below meth c ls H locs n0 K0 C R hv hg hq => lv_sipush C.1 C.2.1 hd rfl (h p e s m args below meth c ls H locs n0 K0 C R hv hg hq)
theorem ok_iconstV {k : Int} (v : Int32) (hd : decode M.2.1 pc = .ok (.iconst k, 1)) (he : Int32.ofInt k = v) (h : Ok G d M (pc + 1) L (.int v :: st) I J P K n Q) : Ok G d M pc L st I J P K n Q :=
  fun p e s m args below meth c ls H locs n0 K0 C R hv hg hq => lv_iconst C.1 C.2.1 hd he (h p e s m args below meth c ls H locs n0 K0 C R hv hg hq)
theorem ok_bipushV {k : Int} (v : Int32) (hd : decode M.2.1 pc = .ok (.bipush k, 2)) (he : (Int8.ofInt k).toInt32 = v) (h : Ok G d M (pc + 2) L (.int v :: st) I J P K n Q) : Ok G d M pc L st I J P K n Q :=
  fun p e s m args below meth c ls H locs n0 K0 C R hv hg hq => lv_bipush C.1 C.2.1 hd he (h p e s m args below meth c ls H locs n0 K0 C R hv hg hq)
theorem ok_sipushV {k : Int} (v : Int32) (hd : decode M.2.1 pc = .ok (.sipush k, 3)) (he : (Int16.ofInt k).toInt32 = v) (h : Ok G d M (pc + 3) L (.int v :: st) I J P K n Q) : Ok G d M pc L st I J P K n Q :=
  fun p e s m args below meth c ls H locs n0 K0 C R hv hg hq => lv_sipush C.1 C.2.1 hd he (h p e s m args below meth c ls H locs n0 K0 C R hv hg hq)
theorem ok_lconst {k : Fin 2} (hd : decode M.2.1 pc = .ok (.lconst k, 1)) (h : Ok G d M (pc + 1) L (.long (Int64.ofNat (k : Nat)) :: st) I J P K n Q) : Ok G d M pc L st I J P K n Q :=
  fun p e s m args below meth c ls H locs n0 K0 C R hv hg hq => lv_lconst C.1 C.2.1 hd rfl (h p e s m args below meth c ls H locs n0 K0 C R hv hg hq)
theorem ok_null (hd : decode M.2.1 pc = .ok (.aconst_null, 1)) (h : Ok G d M (pc + 1) L (.null :: st) I J P K n Q) : Ok G d M pc L st I J P K n Q :=
  fun p e s m args below meth c ls H locs n0 K0 C R hv hg hq => lv_null C.1 C.2.1 hd (h p e s m args below meth c ls H locs n0 K0 C R hv hg hq)
theorem ok_iload_n {k : Fin 4} {x : Int32} (hd : decode M.2.1 pc = .ok (.iload_n k, 1)) (hl : L[(k : Nat)]? = some (some (.int x))) (h : Ok G d M (pc + 1) L (.int x :: st) I J P K n Q) : Ok G d M pc L st I J P K n Q :=
  fun p e s m args below meth c ls H locs n0 K0 C R hv hg hq => lv_iload_n C.1 C.2.1 hd rfl (hv.2.2.2 _ _ hl) (h p e s m args below meth c ls H locs n0 K0 C R hv hg hq)
theorem ok_iload {k : Nat} {x : Int32} (hd : decode M.2.1 pc = .ok (.iload k, 2)) (hl : L[k]? = some (some (.int x))) (h : Ok G d M (pc + 2) L (.int x :: st) I J P K n Q) : Ok G d M pc L st I J P K n Q :=
  fun p e s m args below meth c ls H locs n0 K0 C R hv hg hq => lv_iload C.1 C.2.1 hd (hv.2.2.2 _ _ hl) (h p e s m args below meth c ls H locs n0 K0 C R hv hg hq)
theorem ok_lload_n {k : Fin 4} {x : Int64} (hd : decode M.2.1 pc = .ok (.lload_n k, 1)) (hl : L[(k : Nat)]? = some (some (.long x))) (h : Ok G d M (pc + 1) L (.long x :: st) I J P K n Q) : Ok G d M pc L st I J P K n Q :=
  fun p e s m args below meth c ls H locs n0 K0 C R hv hg hq => lv_lload_n C.1 C.2.1 hd rfl (hv.2.2.2 _ _ hl) (h p e s m args below meth c ls H locs n0 K0 C R hv hg hq)
theorem ok_lload {k : Nat} {x : Int64} (hd : decode M.2.1 pc = .ok (.lload k, 2)) (hl : L[k]? = some (some (.long x))) (h : Ok G d M (pc + 2) L (.long x :: st) I J P K n Q) : Ok G d M pc L st I J P K n Q :=
  fun p e s m args below meth c ls H locs n0 K0 C R hv hg hq => lv_lload C.1 C.2.1 hd (hv.2.2.2 _ _ hl) (h p e s m args below meth c ls H locs n0 K0 C R hv hg hq)
theorem ok_aload_n {k : Fin 4} {x : Nat} (hd : decode M.2.1 pc = .ok (.aload_n k, 1)) (hl : L[(k : Nat)]? = some (some (.ref x))) (h : Ok G d M (pc + 1) L (.ref x :: st) I J P K n Q) : Ok G d M pc L st I J P K n Q :=
  fun p e s m args below meth c ls H locs n0 K0 C R hv hg hq => lv_aload_n C.1 C.2.1 hd rfl (hv.2.2.2 _ _ hl) (h p e s m args below meth c ls H locs n0 K0 C R hv hg hq)
theorem ok_aload {k : Nat} {x : Nat} (hd : decode M.2.1 pc = .ok (.aload k, 2)) (hl : L[k]? = some (some (.ref x))) (h : Ok G d M (pc + 2) L (.ref x :: st) I J P K n Q) : Ok G d M pc L st I J P K n Q :=
  fun p e s m args below meth c ls H locs n0 K0 C R hv hg hq => lv_aload C.1 C.2.1 hd (hv.2.2.2 _ _ hl) (h p e s m args below meth c ls H locs n0 K0 C R hv hg hq)
theorem ok_aload_nN {k : Fin 4} (hd : decode M.2.1 pc = .ok (.aload_n k, 1)) (hl : L[(k : Nat)]? = some (some .null)) (h : Ok G d M (pc + 1) L (.null :: st) I J P K n Q) : Ok G d M pc L st I J P K n Q :=
  fun p e s m args below meth c ls H locs n0 K0 C R hv hg hq => lv_aload_nN C.1 C.2.1 hd rfl (hv.2.2.2 _ _ hl) (h p e s m args below meth c ls H locs n0 K0 C R hv hg hq)
theorem ok_iadd {x y : Int32} (hd : decode M.2.1 pc = .ok (.iadd, 1)) (h : Ok G d M (pc + 1) L (.int (x + y) :: st) I J P K n Q) : Ok G d M pc L (.int y :: .int x :: st) I J P K n Q :=
  fun p e s m args below meth c ls H locs n0 K0 C R hv hg hq => lv_iadd C.1 C.2.1 hd (h p e s m args below meth c ls H locs n0 K0 C R hv hg hq)
theorem ok_isub {x y : Int32} (hd : decode M.2.1 pc = .ok (.isub, 1)) (h : Ok G d M (pc + 1) L (.int (x - y) :: st) I J P K n Q) : Ok G d M pc L (.int y :: .int x :: st) I J P K n Q :=
  fun p e s m args below meth c ls H locs n0 K0 C R hv hg hq => lv_isub C.1 C.2.1 hd (h p e s m args below meth c ls H locs n0 K0 C R hv hg hq)
theorem ok_imul {x y : Int32} (hd : decode M.2.1 pc = .ok (.imul, 1)) (h : Ok G d M (pc + 1) L (.int (x * y) :: st) I J P K n Q) : Ok G d M pc L (.int y :: .int x :: st) I J P K n Q :=
  fun p e s m args below meth c ls H locs n0 K0 C R hv hg hq => lv_imul C.1 C.2.1 hd (h p e s m args below meth c ls H locs n0 K0 C R hv hg hq)
theorem ok_iand {x y : Int32} (hd : decode M.2.1 pc = .ok (.iand, 1)) (h : Ok G d M (pc + 1) L (.int (x &&& y) :: st) I J P K n Q) : Ok G d M pc L (.int y :: .int x :: st) I J P K n Q :=
  fun p e s m args below meth c ls H locs n0 K0 C R hv hg hq => lv_iand C.1 C.2.1 hd (h p e s m args below meth c ls H locs n0 K0 C R hv hg hq)
theorem ok_ior {x y : Int32} (hd : decode M.2.1 pc = .ok (.ior, 1)) (h : Ok G d M (pc + 1) L (.int (x ||| y) :: st) I J P K n Q) : Ok G d M pc L (.int y :: .int x :: st) I J P K n Q :=
  fun p e s m args below meth c ls H locs n0 K0 C R hv hg hq => lv_ior C.1 C.2.1 hd (h p e s m args below meth c ls H locs n0 K0 C R hv hg hq)
theorem ok_ixor {x y : Int32} (hd : decode M.2.1 pc = .ok (.ixor, 1)) (h : Ok G d M (pc + 1) L (.int (x ^^^ y) :: st) I J P K n Q) : Ok G d M pc L (.int y :: .int x :: st) I J P K n Q :=
  fun p e s m args below meth c ls H locs n0 K0 C R hv hg hq => lv_ixor C.1 C.2.1 hd (h p e s m args below meth c ls H locs n0 K0 C R hv hg hq)
theorem ok_ishl {x y : Int32} (hd : decode M.2.1 pc = .ok (.ishl, 1)) (h : Ok G d M (pc + 1) L (.int (x <<< (y &&& 31)) :: st) I J P K n Q) : Ok G d M pc L (.int y :: .int x :: st) I J P K n Q :=
  fun p e s m args below meth c ls H locs n0 K0 C R hv hg hq => lv_ishl C.1 C.2.1 hd (h p e s m args below meth c ls H locs n0 K0 C R hv hg hq)
theorem ok_ishr {x y : Int32} (hd : decode M.2.1 pc = .ok (.ishr, 1)) (h : Ok G d M (pc + 1) L (.int (x >>> (y &&& 31)) :: st) I J P K n Q) : Ok G d M pc L (.int y :: .int x :: st) I J P K n Q :=
  fun p e s m args below meth c ls H locs n0 K0 C R hv hg hq => lv_ishr C.1 C.2.1 hd (h p e s m args below meth c ls H locs n0 K0 C R hv hg hq)
theorem ok_ladd {x y : Int64} (hd : decode M.2.1 pc = .ok (.ladd, 1)) (h : Ok G d M (pc + 1) L (.long (x + y) :: st) I J P K n Q) : Ok G d M pc L (.long y :: .long x :: st) I J P K n Q :=
  fun p e s m args below meth c ls H locs n0 K0 C R hv hg hq => lv_ladd C.1 C.2.1 hd (h p e s m args below meth c ls H locs n0 K0 C R hv hg hq)
theorem ok_lsub {x y : Int64} (hd : decode M.2.1 pc = .ok (.lsub, 1)) (h : Ok G d M (pc + 1) L (.long (x - y) :: st) I J P K n Q) : Ok G d M pc L (.long y :: .long x :: st) I J P K n Q :=
  fun p e s m args below meth c ls H locs n0 K0 C R hv hg hq => lv_lsub C.1 C.2.1 hd (h p e s m args below meth c ls H locs n0 K0 C R hv hg hq)
theorem ok_lmul {x y : Int64} (hd : decode M.2.1 pc = .ok (.lmul, 1)) (h : Ok G d M (pc + 1) L (.long (x * y) :: st) I J P K n Q) : Ok G d M pc L (.long y :: .long x :: st) I J P K n Q :=
  fun p e s m args below meth c ls H locs n0 K0 C R hv hg hq => lv_lmul C.1 C.2.1 hd (h p e s m args below meth c ls H locs n0 K0 C R hv hg hq)
theorem ok_idiv {x y : Int32} (hd : decode M.2.1 pc = .ok (.idiv, 1)) (hne : ¬ y = 0) (h : Ok G d M (pc + 1) L (.int (x / y) :: st) I J P K n Q) : Ok G d M pc L (.int y :: .int x :: st) I J P K n Q :=
  fun p e s m args below meth c ls H locs n0 K0 C R hv hg hq => lv_idiv C.1 C.2.1 hd hne (h p e s m args below meth c ls H locs n0 K0 C R hv hg hq)
theorem ok_irem {x y : Int32} (hd : decode M.2.1 pc = .ok (.irem, 1)) (hne : ¬ y = 0) (h : Ok G d M (pc + 1) L (.int (x - x / y * y) :: st) I J P K n Q) : Ok G d M pc L (.int y :: .int x :: st) I J P K n Q :=
  fun p e s m args below meth c ls H locs n0 K0 C R hv hg hq => lv_irem C.1 C.2.1 hd hne (h p e s m args below meth c ls H locs n0 K0 C R hv hg hq)
theorem ok_ldiv {x y : Int64} (hd : decode M.2.1 pc = .ok (.ldiv, 1)) (hne : ¬ y = 0) (h : Ok G d M (pc + 1) L (.long (x / y) :: st) I J P K n Q) : Ok G d M pc L (.long y :: .long x :: st) I J P K n Q :=
  fun p e s m args below meth c ls H locs n0 K0 C R hv hg hq => lv_ldiv C.1 C.2.1 hd hne (h p e s m args below meth c ls H locs n0 K0 C R hv hg hq)
theorem ok_lrem {x y : Int64} (hd : decode M.2.1 pc = .ok (.lrem, 1)) (hne : ¬ y = 0) (h : Ok G d M (pc + 1) L (.long (x - x / y * y) :: st) I J P K n Q) : Ok G d M pc L (.long y :: .long x :: st) I J P K n Q :=
  fun p e s m args below meth c ls H locs n0 K0 C R hv hg hq => lv_lrem C.1 C.2.1 hd hne (h p e s m args below meth c ls H locs n0 K0 C R hv hg hq)
theorem ok_ineg {x : Int32} (hd : decode M.2.1 pc = .ok (.ineg, 1)) (h : Ok G d M (pc + 1) L (.int (-x) :: st) I J P K n Q) : Ok G d M pc L (.int x :: st) I J P K n Q :=
  fun p e s m args below meth c ls H locs n0 K0 C R hv hg hq => lv_ineg C.1 C.2.1 hd (h p e s m args below meth c ls H locs n0 K0 C R hv hg hq)
theorem ok_i2l {x : Int32} (hd : decode M.2.1 pc = .ok (.i2l, 1)) (h : Ok G d M (pc + 1) L (.long x.toInt64 :: st) I J P K n Q) : Ok G d M pc L (.int x :: st) I J P K n Q :=
  fun p e s m args below meth c ls H locs n0 K0 C R hv hg hq => lv_i2l C.1 C.2.1 hd rfl (h p e s m args below meth c ls H locs n0 K0 C R hv hg hq)
theorem ok_l2i {x : Int64} (hd : decode M.2.1 pc = .ok (.l2i, 1)) (h : Ok G d M (pc + 1) L (.int x.toInt32 :: st) I J P K n Q) : Ok G d M pc L (.long x :: st) I J P K n Q :=
  fun p e s m args below meth c ls H locs n0 K0 C R hv hg hq => lv_l2i C.1 C.2.1 hd rfl (h p e s m args below meth c ls H locs n0 K0 C R hv hg hq)
theorem ok_iushr {x y : Int32} (hd : decode M.2.1 pc = .ok (.iushr, 1)) (h : Ok G d M (pc + 1) L (.int (x.toUInt32 >>> (y.toUInt32 &&& Int32.toUInt32 31)).toInt32 :: st) I J P K n Q) : Ok G d M pc L (.int y :: .int x :: st) I J P K n Q :=
  fun p e s m args below meth c ls H locs n0 K0 C R hv hg hq => lv_iushr C.1 C.2.1 hd rfl (h p e s m args below meth c ls H locs n0 K0 C R hv hg hq)
theorem ok_lshr {x : Int64} {y : Int32} (hd : decode M.2.1 pc = .ok (.lshr, 1)) (h : Ok G d M (pc + 1) L (.long (x >>> (y.toInt64 &&& 63)) :: st) I J P K n Q) : Ok G d M pc L (.int y :: .long x :: st) I J P K n Q :=
  fun p e s m args below meth c ls H locs n0 K0 C R hv hg hq => lv_lshr C.1 C.2.1 hd rfl (h p e s m args below meth c ls H locs n0 K0 C R hv hg hq)
theorem ok_lcmp {x y : Int64} (hd : decode M.2.1 pc = .ok (.lcmp, 1)) (h : Ok G d M (pc + 1) L (.int (lg_cmp x y) :: st) I J P K n Q) : Ok G d M pc L (.long y :: .long x :: st) I J P K n Q :=
  fun p e s m args below meth c ls H locs n0 K0 C R hv hg hq => W.lcmp C.1 C.2.1 hd (h p e s m args below meth c ls H locs n0 K0 C R hv hg hq)
theorem ok_dup {v : Value} (hd : decode M.2.1 pc = .ok (.dup, 1)) (hc : v.category = 1) (h : Ok G d M (pc + 1) L (v :: v :: st) I J P K n Q) : Ok G d M pc L (v :: st) I J P K n Q :=
  fun p e s m args below meth c ls H locs n0 K0 C R hv hg hq => lv_dup C.1 C.2.1 hd ((gV_cat G v).trans hc) (h p e s m args below meth c ls H locs n0 K0 C R hv hg hq)
theorem ok_dup2 {v w : Value} (hd : decode M.2.1 pc = .ok (.dup2, 1)) (hc : v.category = 1) (hc2 : w.category = 1) (h : Ok G d M (pc + 1) L (v :: w :: v :: w :: st) I J P K n Q) : Ok G d M pc L (v :: w :: st) I J P K n Q :=
  fun p e s m args below meth c ls H locs n0 K0 C R hv hg hq => lv_dup2_11 C.1 C.2.1 hd ((gV_cat G v).trans hc) ((gV_cat G w).trans hc2) (h p e s m args below meth c ls H locs n0 K0 C R hv hg hq)
theorem ok_pop {v : Value} (hd : decode M.2.1 pc = .ok (.pop, 1)) (hc : v.category = 1) (h : Ok G d M (pc + 1) L st I J P K n Q) : Ok G d M pc L (v :: st) I J P K n Q :=
  fun p e s m args below meth c ls H locs n0 K0 C R hv hg hq => lv_pop C.1 C.2.1 hd ((gV_cat G v).trans hc) (h p e s m args below meth c ls H locs n0 K0 C R hv hg hq)
theorem ok_ldc {k : Nat} {v : Int32} (hd : decode M.2.1 pc = .ok (.ldc k, 2)) (hw : Cond.constant M.1.cls k v ∈ tbG) (h : Ok G d M (pc + 2) L (.int v :: st) I J P K n Q) : Ok G d M pc L st I J P K n Q :=
  fun p e s m args below meth c ls H locs n0 K0 C R hv hg hq => lv_ldc C.1 C.2.1 C.2.2.2.2.1 (C.2.2.2.2.2.1 _ hw) hd (h p e s m args below meth c ls H locs n0 K0 C R hv hg hq)
theorem ok_ldc_w {k : Nat} {v : Int32} (hd : decode M.2.1 pc = .ok (.ldc_w k, 3)) (hw : Cond.constant M.1.cls k v ∈ tbG) (h : Ok G d M (pc + 3) L (.int v :: st) I J P K n Q) : Ok G d M pc L st I J P K n Q :=
  fun p e s m args below meth c ls H locs n0 K0 C R hv hg hq => lv_ldcw C.1 C.2.1 C.2.2.2.2.1 (C.2.2.2.2.2.1 _ hw) hd (h p e s m args below meth c ls H locs n0 K0 C R hv hg hq)
theorem ok_ldc2_w {k : Nat} {v : Int64} (hd : decode M.2.1 pc = .ok (.ldc2_w k, 3)) (hw : Cond.constantLong M.1.cls k v ∈ tbG) (h : Ok G d M (pc + 3) L (.long v :: st) I J P K n Q) : Ok G d M pc L st I J P K n Q :=
  fun p e s m args below meth c ls H locs n0 K0 C R hv hg hq => lv_ldc2 C.1 C.2.1 C.2.2.2.2.1 (C.2.2.2.2.2.1 _ hw) hd (h p e s m args below meth c ls H locs n0 K0 C R hv hg hq)
theorem ok_istore_n {k : Fin 4} {x : Int32} (hd : decode M.2.1 pc = .ok (.istore_n k, 1)) (hi : (k : Nat) < M.2.2.1) (h : Ok G d M (pc + 1) (st1 L (k : Nat) (.int x)) st I J P K n Q) : Ok G d M pc L (.int x :: st) I J P K n Q :=
  fun p e s m args below meth c ls H locs n0 K0 C R hv hg hq => lv_istore_n C.1 C.2.1 hd rfl (lvr_has hv) hi rfl (fun ls2 h2 => h p e s m args below meth c ls2 H locs n0 K0 C R (lvr_st1 hv hi h2) hg hq)
theorem ok_istore {k : Nat} {x : Int32} (hd : decode M.2.1 pc = .ok (.istore k, 2)) (hi : k < M.2.2.1) (h : Ok G d M (pc + 2) (st1 L k (.int x)) st I J P K n Q) : Ok G d M pc L (.int x :: st) I J P K n Q :=
  fun p e s m args below meth c ls H locs n0 K0 C R hv hg hq => lv_istore C.1 C.2.1 hd (lvr_has hv) hi rfl (fun ls2 h2 => h p e s m args below meth c ls2 H locs n0 K0 C R (lvr_st1 hv hi h2) hg hq)
theorem ok_astore_n {k : Fin 4} {x : Nat} (hd : decode M.2.1 pc = .ok (.astore_n k, 1)) (hi : (k : Nat) < M.2.2.1) (h : Ok G d M (pc + 1) (st1 L (k : Nat) (.ref x)) st I J P K n Q) : Ok G d M pc L (.ref x :: st) I J P K n Q :=
  fun p e s m args below meth c ls H locs n0 K0 C R hv hg hq => lv_astore_n C.1 C.2.1 hd rfl (lvr_has hv) hi rfl (fun ls2 h2 => h p e s m args below meth c ls2 H locs n0 K0 C R (lvr_st1 hv hi h2) hg hq)
theorem ok_astore {k : Nat} {x : Nat} (hd : decode M.2.1 pc = .ok (.astore k, 2)) (hi : k < M.2.2.1) (h : Ok G d M (pc + 2) (st1 L k (.ref x)) st I J P K n Q) : Ok G d M pc L (.ref x :: st) I J P K n Q :=
  fun p e s m args below meth c ls H locs n0 K0 C R hv hg hq => lv_astore C.1 C.2.1 hd (lvr_has hv) hi rfl (fun ls2 h2 => h p e s m args below meth c ls2 H locs n0 K0 C R (lvr_st1 hv hi h2) hg hq)
theorem ok_lstore_n {k : Fin 4} {x : Int64} (hd : decode M.2.1 pc = .ok (.lstore_n k, 1)) (hi : (k : Nat) + 1 < M.2.2.1) (h : Ok G d M (pc + 1) (st2 L (k : Nat) (.long x)) st I J P K n Q) : Ok G d M pc L (.long x :: st) I J P K n Q :=
  fun p e s m args below meth c ls H locs n0 K0 C R hv hg hq => lv_lstore_n C.1 C.2.1 hd rfl (lvr_has hv) hi rfl (fun ls2 h2 => h p e s m args below meth c ls2 H locs n0 K0 C R (lvr_st2 hv hi h2) hg hq)
theorem ok_lstore {k : Nat} {x : Int64} (hd : decode M.2.1 pc = .ok (.lstore k, 2)) (hi : k + 1 < M.2.2.1) (h : Ok G d M (pc + 2) (st2 L k (.long x)) st I J P K n Q) : Ok G d M pc L (.long x :: st) I J P K n Q :=
  fun p e s m args below meth c ls H locs n0 K0 C R hv hg hq => lv_lstore C.1 C.2.1 hd (lvr_has hv) hi rfl (fun ls2 h2 => h p e s m args below meth c ls2 H locs n0 K0 C R (lvr_st2 hv hi h2) hg hq)
theorem ok_astore_nN {k : Fin 4} (hd : decode M.2.1 pc = .ok (.astore_n k, 1)) (hi : (k : Nat) < M.2.2.1) (h : Ok G d M (pc + 1) (st1 L (k : Nat) .null) st I J P K n Q) : Ok G d M pc L (.null :: st) I J P K n Q :=
  fun p e s m args below meth c ls H locs n0 K0 C R hv hg hq => lv_astore_nN C.1 C.2.1 hd rfl (lvr_has hv) hi rfl (fun ls2 h2 => h p e s m args below meth c ls2 H locs n0 K0 C R (lvr_st1 (v := .null) hv hi h2) hg hq)
theorem prs_at {G : gG} {L : List (Option Value)} {i : Nat} {v : Value} (h : L[i]? = some (some v)) : ∃ k : Nat, (prs G L)[k]? = some (i, gV G v) := List.mem_iff_getElem?.mp (prs_mem h)
theorem ok_iinc {k : Nat} {z : Int} {x : Int32} (hd : decode M.2.1 pc = .ok (.iinc k z, 3)) (hi : k < M.2.2.1) (hl : L[k]? = some (some (.int x))) (h : Ok G d M (pc + 3) (st1 L k (.int (x + Int32.ofInt z))) st I J P K n Q) : Ok G d M pc L st I J P K n Q := by
  intro p e s m args below meth c ls H locs n0 K0 C R hv hg hq
  obtain ⟨j, hj⟩ := prs_at (G := G) hl
  exact lv_iinc C.1 C.2.1 hd (lvr_has hv) hj rfl hi rfl (fun ls2 h2 => h p e s m args below meth c ls2 H locs n0 K0 C R (lvr_st1 (v := .int (x + Int32.ofInt z)) hv hi h2) hg hq)
theorem ok_if_eq {off : Int} {x : Int32} (tgt : Nat) (hd : decode M.2.1 pc = .ok (.ifCond .eq off, 3)) (ht : (pc : Int) + off = (tgt : Int)) (h : ((x = 0) → Ok G d M tgt L st I J P K n Q) ∧ (¬ (x = 0) → Ok G d M (pc + 3) L st I J P K n Q)) : Ok G d M pc L (.int x :: st) I J P K n Q :=
  fun p e s m args below meth c ls H locs n0 K0 C R hv hg hq => lv_if_eq C.1 C.2.1 hd ht (fun q => h.1 q p e s m args below meth c ls H locs n0 K0 C R hv hg hq) (fun q => h.2 q p e s m args below meth c ls H locs n0 K0 C R hv hg hq)
theorem ok_if_lt {off : Int} {x : Int32} (tgt : Nat) (hd : decode M.2.1 pc = .ok (.ifCond .lt off, 3)) (ht : (pc : Int) + off = (tgt : Int)) (h : ((x < 0) → Ok G d M tgt L st I J P K n Q) ∧ (¬ (x < 0) → Ok G d M (pc + 3) L st I J P K n Q)) : Ok G d M pc L (.int x :: st) I J P K n Q :=
  fun p e s m args below meth c ls H locs n0 K0 C R hv hg hq => lv_if_lt C.1 C.2.1 hd ht (fun q => h.1 q p e s m args below meth c ls H locs n0 K0 C R hv hg hq) (fun q => h.2 q p e s m args below meth c ls H locs n0 K0 C R hv hg hq)
theorem ok_if_ge {off : Int} {x : Int32} (tgt : Nat) (hd : decode M.2.1 pc = .ok (.ifCond .ge off, 3)) (ht : (pc : Int) + off = (tgt : Int)) (h : ((0 ≤ x) → Ok G d M tgt L st I J P K n Q) ∧ (¬ (0 ≤ x) → Ok G d M (pc + 3) L st I J P K n Q)) : Ok G d M pc L (.int x :: st) I J P K n Q :=
  fun p e s m args below meth c ls H locs n0 K0 C R hv hg hq => lv_if_ge C.1 C.2.1 hd ht (fun q => h.1 q p e s m args below meth c ls H locs n0 K0 C R hv hg hq) (fun q => h.2 q p e s m args below meth c ls H locs n0 K0 C R hv hg hq)
theorem ok_if_gt {off : Int} {x : Int32} (tgt : Nat) (hd : decode M.2.1 pc = .ok (.ifCond .gt off, 3)) (ht : (pc : Int) + off = (tgt : Int)) (h : ((0 < x) → Ok G d M tgt L st I J P K n Q) ∧ (¬ (0 < x) → Ok G d M (pc + 3) L st I J P K n Q)) : Ok G d M pc L (.int x :: st) I J P K n Q :=
  fun p e s m args below meth c ls H locs n0 K0 C R hv hg hq => lv_if_gt C.1 C.2.1 hd ht (fun q => h.1 q p e s m args below meth c ls H locs n0 K0 C R hv hg hq) (fun q => h.2 q p e s m args below meth c ls H locs n0 K0 C R hv hg hq)
theorem ok_if_le {off : Int} {x : Int32} (tgt : Nat) (hd : decode M.2.1 pc = .ok (.ifCond .le off, 3)) (ht : (pc : Int) + off = (tgt : Int)) (h : ((x ≤ 0) → Ok G d M tgt L st I J P K n Q) ∧ (¬ (x ≤ 0) → Ok G d M (pc + 3) L st I J P K n Q)) : Ok G d M pc L (.int x :: st) I J P K n Q :=
  fun p e s m args below meth c ls H locs n0 K0 C R hv hg hq => lv_if_le C.1 C.2.1 hd ht (fun q => h.1 q p e s m args below meth c ls H locs n0 K0 C R hv hg hq) (fun q => h.2 q p e s m args below meth c ls H locs n0 K0 C R hv hg hq)
theorem ok_icmp_eq {off : Int} {x y : Int32} (tgt : Nat) (hd : decode M.2.1 pc = .ok (.if_icmp .eq off, 3)) (ht : (pc : Int) + off = (tgt : Int)) (h : ((x = y) → Ok G d M tgt L st I J P K n Q) ∧ (¬ (x = y) → Ok G d M (pc + 3) L st I J P K n Q)) : Ok G d M pc L (.int y :: .int x :: st) I J P K n Q :=
  fun p e s m args below meth c ls H locs n0 K0 C R hv hg hq => lv_icmp_eq C.1 C.2.1 hd ht (fun q => h.1 q p e s m args below meth c ls H locs n0 K0 C R hv hg hq) (fun q => h.2 q p e s m args below meth c ls H locs n0 K0 C R hv hg hq)
theorem ok_icmp_lt {off : Int} {x y : Int32} (tgt : Nat) (hd : decode M.2.1 pc = .ok (.if_icmp .lt off, 3)) (ht : (pc : Int) + off = (tgt : Int)) (h : ((x < y) → Ok G d M tgt L st I J P K n Q) ∧ (¬ (x < y) → Ok G d M (pc + 3) L st I J P K n Q)) : Ok G d M pc L (.int y :: .int x :: st) I J P K n Q :=
  fun p e s m args below meth c ls H locs n0 K0 C R hv hg hq => lv_icmp_lt C.1 C.2.1 hd ht (fun q => h.1 q p e s m args below meth c ls H locs n0 K0 C R hv hg hq) (fun q => h.2 q p e s m args below meth c ls H locs n0 K0 C R hv hg hq)
theorem ok_icmp_ge {off : Int} {x y : Int32} (tgt : Nat) (hd : decode M.2.1 pc = .ok (.if_icmp .ge off, 3)) (ht : (pc : Int) + off = (tgt : Int)) (h : ((y ≤ x) → Ok G d M tgt L st I J P K n Q) ∧ (¬ (y ≤ x) → Ok G d M (pc + 3) L st I J P K n Q)) : Ok G d M pc L (.int y :: .int x :: st) I J P K n Q :=
  fun p e s m args below meth c ls H locs n0 K0 C R hv hg hq => lv_icmp_ge C.1 C.2.1 hd ht (fun q => h.1 q p e s m args below meth c ls H locs n0 K0 C R hv hg hq) (fun q => h.2 q p e s m args below meth c ls H locs n0 K0 C R hv hg hq)
theorem ok_icmp_gt {off : Int} {x y : Int32} (tgt : Nat) (hd : decode M.2.1 pc = .ok (.if_icmp .gt off, 3)) (ht : (pc : Int) + off = (tgt : Int)) (h : ((y < x) → Ok G d M tgt L st I J P K n Q) ∧ (¬ (y < x) → Ok G d M (pc + 3) L st I J P K n Q)) : Ok G d M pc L (.int y :: .int x :: st) I J P K n Q :=
  fun p e s m args below meth c ls H locs n0 K0 C R hv hg hq => lv_icmp_gt C.1 C.2.1 hd ht (fun q => h.1 q p e s m args below meth c ls H locs n0 K0 C R hv hg hq) (fun q => h.2 q p e s m args below meth c ls H locs n0 K0 C R hv hg hq)
theorem ok_icmp_le {off : Int} {x y : Int32} (tgt : Nat) (hd : decode M.2.1 pc = .ok (.if_icmp .le off, 3)) (ht : (pc : Int) + off = (tgt : Int)) (h : ((x ≤ y) → Ok G d M tgt L st I J P K n Q) ∧ (¬ (x ≤ y) → Ok G d M (pc + 3) L st I J P K n Q)) : Ok G d M pc L (.int y :: .int x :: st) I J P K n Q :=
  fun p e s m args below meth c ls H locs n0 K0 C R hv hg hq => lv_icmp_le C.1 C.2.1 hd ht (fun q => h.1 q p e s m args below meth c ls H locs n0 K0 C R hv hg hq) (fun q => h.2 q p e s m args below meth c ls H locs n0 K0 C R hv hg hq)
theorem ok_if_ne {off : Int} {x : Int32} (tgt : Nat) (hd : decode M.2.1 pc = .ok (.ifCond .ne off, 3)) (ht : (pc : Int) + off = (tgt : Int)) (h : (x = 0 → Ok G d M (pc + 3) L st I J P K n Q) ∧ (¬ x = 0 → Ok G d M tgt L st I J P K n Q)) : Ok G d M pc L (.int x :: st) I J P K n Q :=
  fun p e s m args below meth c ls H locs n0 K0 C R hv hg hq => lv_if_ne C.1 C.2.1 hd ht (fun q => h.2 q p e s m args below meth c ls H locs n0 K0 C R hv hg hq) (fun q => h.1 q p e s m args below meth c ls H locs n0 K0 C R hv hg hq)
theorem ok_icmp_ne {off : Int} {x y : Int32} (tgt : Nat) (hd : decode M.2.1 pc = .ok (.if_icmp .ne off, 3)) (ht : (pc : Int) + off = (tgt : Int)) (h : (x = y → Ok G d M (pc + 3) L st I J P K n Q) ∧ (¬ x = y → Ok G d M tgt L st I J P K n Q)) : Ok G d M pc L (.int y :: .int x :: st) I J P K n Q :=
  fun p e s m args below meth c ls H locs n0 K0 C R hv hg hq => lv_icmp_ne C.1 C.2.1 hd ht (fun q => h.2 q p e s m args below meth c ls H locs n0 K0 C R hv hg hq) (fun q => h.1 q p e s m args below meth c ls H locs n0 K0 C R hv hg hq)
theorem ok_goto {off : Int} (tgt : Nat) (hd : decode M.2.1 pc = .ok (.goto off, 3)) (ht : (pc : Int) + off = (tgt : Int)) (h : Ok G d M tgt L st I J P K n Q) : Ok G d M pc L st I J P K n Q :=
  fun p e s m args below meth c ls H locs n0 K0 C R hv hg hq => lv_goto C.1 C.2.1 hd ht (h p e s m args below meth c ls H locs n0 K0 C R hv hg hq)
theorem ok_ifnonnull {off : Int} {x : Nat} (tgt : Nat) (hd : decode M.2.1 pc = .ok (.ifnonnull off, 3)) (ht : (pc : Int) + off = (tgt : Int)) (h : Ok G d M tgt L st I J P K n Q) : Ok G d M pc L (.ref x :: st) I J P K n Q :=
  fun p e s m args below meth c ls H locs n0 K0 C R hv hg hq => lv_ifnonnull C.1 C.2.1 hd ht (h p e s m args below meth c ls H locs n0 K0 C R hv hg hq)
theorem ok_ifnull {off : Int} {x : Nat} (hd : decode M.2.1 pc = .ok (.ifnull off, 3)) (h : Ok G d M (pc + 3) L st I J P K n Q) : Ok G d M pc L (.ref x :: st) I J P K n Q :=
  fun p e s m args below meth c ls H locs n0 K0 C R hv hg hq => lv_ifnull C.1 C.2.1 hd (h p e s m args below meth c ls H locs n0 K0 C R hv hg hq)
theorem ok_ifnonnullN {off : Int} (hd : decode M.2.1 pc = .ok (.ifnonnull off, 3)) (h : Ok G d M (pc + 3) L st I J P K n Q) : Ok G d M pc L (.null :: st) I J P K n Q :=
  fun p e s m args below meth c ls H locs n0 K0 C R hv hg hq => lv_ifnonnullN C.1 C.2.1 hd (h p e s m args below meth c ls H locs n0 K0 C R hv hg hq)
theorem ok_ifnullN {off : Int} (tgt : Nat) (hd : decode M.2.1 pc = .ok (.ifnull off, 3)) (ht : (pc : Int) + off = (tgt : Int)) (h : Ok G d M tgt L st I J P K n Q) : Ok G d M pc L (.null :: st) I J P K n Q :=
  fun p e s m args below meth c ls H locs n0 K0 C R hv hg hq => lv_ifnullN C.1 C.2.1 hd ht (h p e s m args below meth c ls H locs n0 K0 C R hv hg hq)
theorem ok_tswI {dflt lo hi : Int} {offs : Array Int} {len : Nat} {x : Int32} {off : Int} (tgt : Nat) (v : Int32) (hd : decode M.2.1 pc = .ok (.tableswitch dflt lo hi offs, len)) (hx : x = v) (h1 : (decide (v.toInt < lo) || decide (hi < v.toInt)) = false) (ho : offs[(v.toInt - lo).toNat]? = some off) (ht : (pc : Int) + off = (tgt : Int)) (h : Ok G d M tgt L st I J P K n Q) : Ok G d M pc L (.int x :: st) I J P K n Q := by
  subst hx
  have h2 : ¬ x.toInt < lo := by intro q; simp [q] at h1
  have h3 : ¬ hi < x.toInt := by intro q; simp [q] at h1
  exact fun p e s m args below meth c ls H locs n0 K0 C R hv hg hq => lv_tableIn C.1 C.2.1 hd h2 h3 ho ht (h p e s m args below meth c ls H locs n0 K0 C R hv hg hq)
theorem tsw_out {lo hi : Int} {x : Int32} (ws : List Int32) (hn : ∀ v ∈ ws, x ≠ v) (hw : (List.range (hi - lo + 1).toNat).all (fun j => ws.any (fun v => decide (v.toInt = lo + j))) = true) : x.toInt < lo ∨ hi < x.toInt := by
  by_cases h1 : x.toInt < lo
  · exact Or.inl h1
  by_cases h2 : hi < x.toInt
  · exact Or.inr h2
  exfalso
  have hj := List.all_eq_true.mp hw (x.toInt - lo).toNat (List.mem_range.mpr (by omega))
  obtain ⟨v, hv, he⟩ := List.any_eq_true.mp hj
  have he := of_decide_eq_true he
  refine hn v hv (Int32.toInt_inj.mp ?_)
  omega
theorem ok_tswD {dflt lo hi : Int} {offs : Array Int} {len : Nat} {x : Int32} (tgt : Nat) (ws : List Int32) (hd : decode M.2.1 pc = .ok (.tableswitch dflt lo hi offs, len)) (hn : ∀ v ∈ ws, x ≠ v) (hw : (List.range (hi - lo + 1).toNat).all (fun j => ws.any (fun v => decide (v.toInt = lo + j))) = true) (ht : (pc : Int) + dflt = (tgt : Int)) (h : Ok G d M tgt L st I J P K n Q) : Ok G d M pc L (.int x :: st) I J P K n Q :=
  fun p e s m args below meth c ls H locs n0 K0 C R hv hg hq => lv_tableOut C.1 C.2.1 hd (tsw_out ws hn hw) ht (h p e s m args below meth c ls H locs n0 K0 C R hv hg hq)
theorem ok_lsw {dflt : Int} {ps : Array (Int × Int)} {len : Nat} {x : Int32} {off : Int} (tgt : Nat) (hd : decode M.2.1 pc = .ok (.lookupswitch dflt ps, len)) (hp : (ps.toList.zip (ps.toList.drop 1)).all (fun (a, next) => a.1 < next.1) = true) (ho : Op.lookupswitch.offset ps.toList dflt x.toInt = off) (ht : (pc : Int) + off = (tgt : Int)) (h : Ok G d M tgt L st I J P K n Q) : Ok G d M pc L (.int x :: st) I J P K n Q :=
  fun p e s m args below meth c ls H locs n0 K0 C R hv hg hq => lv_lookup C.1 C.2.1 hd hp ho ht (h p e s m args below meth c ls H locs n0 K0 C R hv hg hq)
end OkRules
