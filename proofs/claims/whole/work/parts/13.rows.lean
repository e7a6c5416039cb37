theorem a_iconst {o : Om} {κ : Ka} {h : AH} {pc : Nat} {lv : List (Nat × Value)} {st : List Value} {Q : Option Value → AH → Prop} {n : Int} {v : Int32} (hv : Int32.ofInt n = v) (hd : decode κ.2.1 pc = .ok (.iconst n, 1))
    (k : AQ o κ h (pc + 1) lv (.int v :: st) Q) : AQ o κ h pc lv (st) Q :=
  AQ.pu (fun _ _ _ _ _ _ _ _ _ _ _ _ _ _ ls hC hR hS hl kk => lv_iconst hC.1 hC.2.1 hd hv (kk ls hl)) k
theorem a_bipush {o : Om} {κ : Ka} {h : AH} {pc : Nat} {lv : List (Nat × Value)} {st : List Value} {Q : Option Value → AH → Prop} {n : Int} {v : Int32} (hv : (Int8.ofInt n).toInt32 = v) (hd : decode κ.2.1 pc = .ok (.bipush n, 2))
    (k : AQ o κ h (pc + 2) lv (.int v :: st) Q) : AQ o κ h pc lv (st) Q :=
  AQ.pu (fun _ _ _ _ _ _ _ _ _ _ _ _ _ _ ls hC hR hS hl kk => lv_bipush hC.1 hC.2.1 hd hv (kk ls hl)) k
theorem a_sipush {o : Om} {κ : Ka} {h : AH} {pc : Nat} {lv : List (Nat × Value)} {st : List Value} {Q : Option Value → AH → Prop} {n : Int} {v : Int32} (hv : (Int16.ofInt n).toInt32 = v) (hd : decode κ.2.1 pc = .ok (.sipush n, 3))
    (k : AQ o κ h (pc + 3) lv (.int v :: st) Q) : AQ o κ h pc lv (st) Q :=
  AQ.pu (fun _ _ _ _ _ _ _ _ _ _ _ _ _ _ ls hC hR hS hl kk => lv_sipush hC.1 hC.2.1 hd hv (kk ls hl)) k
theorem a_lconst {o : Om} {κ : Ka} {h : AH} {pc : Nat} {lv : List (Nat × Value)} {st : List Value} {Q : Option Value → AH → Prop} {n : Fin 2} {v : Int64} (hv : Int64.ofNat (n : Nat) = v) (hd : decode κ.2.1 pc = .ok (.lconst n, 1))
    (k : AQ o κ h (pc + 1) lv (.long v :: st) Q) : AQ o κ h pc lv (st) Q :=
  AQ.pu (fun _ _ _ _ _ _ _ _ _ _ _ _ _ _ ls hC hR hS hl kk => lv_lconst hC.1 hC.2.1 hd hv (kk ls hl)) k
theorem a_ldc {o : Om} {κ : Ka} {h : AH} {pc : Nat} {lv : List (Nat × Value)} {st : List Value} {Q : Option Value → AH → Prop} {n : Nat} {v : Int32} (hw : Cond.constant κ.1.cls n v ∈ lw_tbl) (hd : decode κ.2.1 pc = .ok (.ldc n, 2))
    (k : AQ o κ h (pc + 2) lv (.int v :: st) Q) : AQ o κ h pc lv (st) Q :=
  AQ.pu (fun _ _ _ _ _ _ _ _ _ _ _ _ _ _ ls hC hR hS hl kk => lv_ldc hC.1 hC.2.1 hC.2.2.2.1 (hC.w hw rfl) hd (kk ls hl)) k
theorem a_ldc2 {o : Om} {κ : Ka} {h : AH} {pc : Nat} {lv : List (Nat × Value)} {st : List Value} {Q : Option Value → AH → Prop} {n : Nat} {v : Int64} (hw : Cond.constantLong κ.1.cls n v ∈ lw_tbl) (hd : decode κ.2.1 pc = .ok (.ldc2_w n, 3))
    (k : AQ o κ h (pc + 3) lv (.long v :: st) Q) : AQ o κ h pc lv (st) Q :=
  AQ.pu (fun _ _ _ _ _ _ _ _ _ _ _ _ _ _ ls hC hR hS hl kk => lv_ldc2 hC.1 hC.2.1 hC.2.2.2.1 (hC.w hw rfl) hd (kk ls hl)) k
theorem a_null {o : Om} {κ : Ka} {h : AH} {pc : Nat} {lv : List (Nat × Value)} {st : List Value} {Q : Option Value → AH → Prop}  (hd : decode κ.2.1 pc = .ok (.aconst_null, 1))
    (k : AQ o κ h (pc + 1) lv (.null :: st) Q) : AQ o κ h pc lv (st) Q :=
  AQ.pu (fun _ _ _ _ _ _ _ _ _ _ _ _ _ _ ls hC hR hS hl kk => lv_null hC.1 hC.2.1 hd (kk ls hl)) k
theorem a_iload_n {o : Om} {κ : Ka} {h : AH} {pc : Nat} {lv : List (Nat × Value)} {st : List Value} {Q : Option Value → AH → Prop} {n : Fin 4} {i : Nat} {x : Int32} (j : Nat) (hj : lv[j]? = some (i, .int x)) (hi : (n : Nat) = i) (hd : decode κ.2.1 pc = .ok (.iload_n n, 1))
    (k : AQ o κ h (pc + 1) lv (.int x :: st) Q) : AQ o κ h pc lv (st) Q :=
  AQ.pu (fun _ _ _ _ _ _ _ _ _ _ _ _ _ _ ls hC hR hS hl kk => lv_iload_n hC.1 hC.2.1 hd hi (slv_at hl hj) (kk ls hl)) k
theorem a_iload {o : Om} {κ : Ka} {h : AH} {pc : Nat} {lv : List (Nat × Value)} {st : List Value} {Q : Option Value → AH → Prop} {i : Nat} {x : Int32} (j : Nat) (hj : lv[j]? = some (i, .int x)) (hd : decode κ.2.1 pc = .ok (.iload i, 2))
    (k : AQ o κ h (pc + 2) lv (.int x :: st) Q) : AQ o κ h pc lv (st) Q :=
  AQ.pu (fun _ _ _ _ _ _ _ _ _ _ _ _ _ _ ls hC hR hS hl kk => lv_iload hC.1 hC.2.1 hd (slv_at hl hj) (kk ls hl)) k
theorem a_lload_n {o : Om} {κ : Ka} {h : AH} {pc : Nat} {lv : List (Nat × Value)} {st : List Value} {Q : Option Value → AH → Prop} {n : Fin 4} {i : Nat} {x : Int64} (j : Nat) (hj : lv[j]? = some (i, .long x)) (hi : (n : Nat) = i) (hd : decode κ.2.1 pc = .ok (.lload_n n, 1))
    (k : AQ o κ h (pc + 1) lv (.long x :: st) Q) : AQ o κ h pc lv (st) Q :=
  AQ.pu (fun _ _ _ _ _ _ _ _ _ _ _ _ _ _ ls hC hR hS hl kk => lv_lload_n hC.1 hC.2.1 hd hi (slv_at hl hj) (kk ls hl)) k
theorem a_lload {o : Om} {κ : Ka} {h : AH} {pc : Nat} {lv : List (Nat × Value)} {st : List Value} {Q : Option Value → AH → Prop} {i : Nat} {x : Int64} (j : Nat) (hj : lv[j]? = some (i, .long x)) (hd : decode κ.2.1 pc = .ok (.lload i, 2))
    (k : AQ o κ h (pc + 2) lv (.long x :: st) Q) : AQ o κ h pc lv (st) Q :=
  AQ.pu (fun _ _ _ _ _ _ _ _ _ _ _ _ _ _ ls hC hR hS hl kk => lv_lload hC.1 hC.2.1 hd (slv_at hl hj) (kk ls hl)) k
theorem a_aload_n {o : Om} {κ : Ka} {h : AH} {pc : Nat} {lv : List (Nat × Value)} {st : List Value} {Q : Option Value → AH → Prop} {n : Fin 4} {i : Nat} {x : Nat} (j : Nat) (hj : lv[j]? = some (i, .ref x)) (hi : (n : Nat) = i) (hd : decode κ.2.1 pc = .ok (.aload_n n, 1))
    (k : AQ o κ h (pc + 1) lv (.ref x :: st) Q) : AQ o κ h pc lv (st) Q :=
  AQ.pu (fun _ _ _ _ _ _ _ _ _ _ _ _ _ _ ls hC hR hS hl kk => lv_aload_n hC.1 hC.2.1 hd hi (slv_at hl hj) (kk ls hl)) k
theorem a_aload {o : Om} {κ : Ka} {h : AH} {pc : Nat} {lv : List (Nat × Value)} {st : List Value} {Q : Option Value → AH → Prop} {i : Nat} {x : Nat} (j : Nat) (hj : lv[j]? = some (i, .ref x)) (hd : decode κ.2.1 pc = .ok (.aload i, 2))
    (k : AQ o κ h (pc + 2) lv (.ref x :: st) Q) : AQ o κ h pc lv (st) Q :=
  AQ.pu (fun _ _ _ _ _ _ _ _ _ _ _ _ _ _ ls hC hR hS hl kk => lv_aload hC.1 hC.2.1 hd (slv_at hl hj) (kk ls hl)) k
theorem a_aload_nN {o : Om} {κ : Ka} {h : AH} {pc : Nat} {lv : List (Nat × Value)} {st : List Value} {Q : Option Value → AH → Prop} {n : Fin 4} {i : Nat} (j : Nat) (hj : lv[j]? = some (i, .null)) (hi : (n : Nat) = i) (hd : decode κ.2.1 pc = .ok (.aload_n n, 1))
    (k : AQ o κ h (pc + 1) lv (.null :: st) Q) : AQ o κ h pc lv (st) Q :=
  AQ.pu (fun _ _ _ _ _ _ _ _ _ _ _ _ _ _ ls hC hR hS hl kk => lv_aload_nN hC.1 hC.2.1 hd hi (slv_at hl hj) (kk ls hl)) k
theorem a_aloadN {o : Om} {κ : Ka} {h : AH} {pc : Nat} {lv : List (Nat × Value)} {st : List Value} {Q : Option Value → AH → Prop} {i : Nat} (j : Nat) (hj : lv[j]? = some (i, .null)) (hd : decode κ.2.1 pc = .ok (.aload i, 2))
    (k : AQ o κ h (pc + 2) lv (.null :: st) Q) : AQ o κ h pc lv (st) Q :=
  AQ.pu (fun _ _ _ _ _ _ _ _ _ _ _ _ _ _ ls hC hR hS hl kk => lv_aloadN hC.1 hC.2.1 hd (slv_at hl hj) (kk ls hl)) k
theorem a_iadd {o : Om} {κ : Ka} {h : AH} {pc : Nat} {lv : List (Nat × Value)} {st : List Value} {Q : Option Value → AH → Prop} {x y : Int32} (hd : decode κ.2.1 pc = .ok (.iadd, 1))
    (k : AQ o κ h (pc + 1) lv (.int (x + y) :: st) Q) : AQ o κ h pc lv (.int y :: .int x :: st) Q :=
  AQ.pu (fun _ _ _ _ _ _ _ _ _ _ _ _ _ _ ls hC hR hS hl kk => lv_iadd hC.1 hC.2.1 hd (kk ls hl)) k
theorem a_isub {o : Om} {κ : Ka} {h : AH} {pc : Nat} {lv : List (Nat × Value)} {st : List Value} {Q : Option Value → AH → Prop} {x y : Int32} (hd : decode κ.2.1 pc = .ok (.isub, 1))
    (k : AQ o κ h (pc + 1) lv (.int (x - y) :: st) Q) : AQ o κ h pc lv (.int y :: .int x :: st) Q :=
  AQ.pu (fun _ _ _ _ _ _ _ _ _ _ _ _ _ _ ls hC hR hS hl kk => lv_isub hC.1 hC.2.1 hd (kk ls hl)) k
theorem a_imul {o : Om} {κ : Ka} {h : AH} {pc : Nat} {lv : List (Nat × Value)} {st : List Value} {Q : Option Value → AH → Prop} {x y : Int32} (hd : decode κ.2.1 pc = .ok (.imul, 1))
    (k : AQ o κ h (pc + 1) lv (.int (x * y) :: st) Q) : AQ o κ h pc lv (.int y :: .int x :: st) Q :=
  AQ.pu (fun _ _ _ _ _ _ _ _ _ _ _ _ _ _ ls hC hR hS hl kk => lv_imul hC.1 hC.2.1 hd (kk ls hl)) k
theorem a_iand {o : Om} {κ : Ka} {h : AH} {pc : Nat} {lv : List (Nat × Value)} {st : List Value} {Q : Option Value → AH → Prop} {x y : Int32} (hd : decode κ.2.1 pc = .ok (.iand, 1))
    (k : AQ o κ h (pc + 1) lv (.int (x &&& y) :: st) Q) : AQ o κ h pc lv (.int y :: .int x :: st) Q :=
  AQ.pu (fun _ _ _ _ _ _ _ _ _ _ _ _ _ _ ls hC hR hS hl kk => lv_iand hC.1 hC.2.1 hd (kk ls hl)) k
theorem a_ior {o : Om} {κ : Ka} {h : AH} {pc : Nat} {lv : List (Nat × Value)} {st : List Value} {Q : Option Value → AH → Prop} {x y : Int32} (hd : decode κ.2.1 pc = .ok (.ior, 1))
    (k : AQ o κ h (pc + 1) lv (.int (x ||| y) :: st) Q) : AQ o κ h pc lv (.int y :: .int x :: st) Q :=
  AQ.pu (fun _ _ _ _ _ _ _ _ _ _ _ _ _ _ ls hC hR hS hl kk => lv_ior hC.1 hC.2.1 hd (kk ls hl)) k
theorem a_ixor {o : Om} {κ : Ka} {h : AH} {pc : Nat} {lv : List (Nat × Value)} {st : List Value} {Q : Option Value → AH → Prop} {x y : Int32} (hd : decode κ.2.1 pc = .ok (.ixor, 1))
    (k : AQ o κ h (pc + 1) lv (.int (x ^^^ y) :: st) Q) : AQ o κ h pc lv (.int y :: .int x :: st) Q :=
  AQ.pu (fun _ _ _ _ _ _ _ _ _ _ _ _ _ _ ls hC hR hS hl kk => lv_ixor hC.1 hC.2.1 hd (kk ls hl)) k
theorem a_ladd {o : Om} {κ : Ka} {h : AH} {pc : Nat} {lv : List (Nat × Value)} {st : List Value} {Q : Option Value → AH → Prop} {x y : Int64} (hd : decode κ.2.1 pc = .ok (.ladd, 1))
    (k : AQ o κ h (pc + 1) lv (.long (x + y) :: st) Q) : AQ o κ h pc lv (.long y :: .long x :: st) Q :=
  AQ.pu (fun _ _ _ _ _ _ _ _ _ _ _ _ _ _ ls hC hR hS hl kk => lv_ladd hC.1 hC.2.1 hd (kk ls hl)) k
theorem a_lsub {o : Om} {κ : Ka} {h : AH} {pc : Nat} {lv : List (Nat × Value)} {st : List Value} {Q : Option Value → AH → Prop} {x y : Int64} (hd : decode κ.2.1 pc = .ok (.lsub, 1))
    (k : AQ o κ h (pc + 1) lv (.long (x - y) :: st) Q) : AQ o κ h pc lv (.long y :: .long x :: st) Q :=
  AQ.pu (fun _ _ _ _ _ _ _ _ _ _ _ _ _ _ ls hC hR hS hl kk => lv_lsub hC.1 hC.2.1 hd (kk ls hl)) k
theorem a_lmul {o : Om} {κ : Ka} {h : AH} {pc : Nat} {lv : List (Nat × Value)} {st : List Value} {Q : Option Value → AH → Prop} {x y : Int64} (hd : decode κ.2.1 pc = .ok (.lmul, 1))
    (k : AQ o κ h (pc + 1) lv (.long (x * y) :: st) Q) : AQ o κ h pc lv (.long y :: .long x :: st) Q :=
  AQ.pu (fun _ _ _ _ _ _ _ _ _ _ _ _ _ _ ls hC hR hS hl kk => lv_lmul hC.1 hC.2.1 hd (kk ls hl)) k
theorem a_idiv {o : Om} {κ : Ka} {h : AH} {pc : Nat} {lv : List (Nat × Value)} {st : List Value} {Q : Option Value → AH → Prop} {x y : Int32} (hne : ¬ y = 0) (hd : decode κ.2.1 pc = .ok (.idiv, 1))
    (k : AQ o κ h (pc + 1) lv (.int (x / y) :: st) Q) : AQ o κ h pc lv (.int y :: .int x :: st) Q :=
  AQ.pu (fun _ _ _ _ _ _ _ _ _ _ _ _ _ _ ls hC hR hS hl kk => lv_idiv hC.1 hC.2.1 hd hne (kk ls hl)) k
theorem a_irem {o : Om} {κ : Ka} {h : AH} {pc : Nat} {lv : List (Nat × Value)} {st : List Value} {Q : Option Value → AH → Prop} {x y : Int32} (hne : ¬ y = 0) (hd : decode κ.2.1 pc = .ok (.irem, 1))
    (k : AQ o κ h (pc + 1) lv (.int (x - x / y * y) :: st) Q) : AQ o κ h pc lv (.int y :: .int x :: st) Q :=
  AQ.pu (fun _ _ _ _ _ _ _ _ _ _ _ _ _ _ ls hC hR hS hl kk => lv_irem hC.1 hC.2.1 hd hne (kk ls hl)) k
theorem a_ldiv {o : Om} {κ : Ka} {h : AH} {pc : Nat} {lv : List (Nat × Value)} {st : List Value} {Q : Option Value → AH → Prop} {x y : Int64} (hne : ¬ y = 0) (hd : decode κ.2.1 pc = .ok (.ldiv, 1))
    (k : AQ o κ h (pc + 1) lv (.long (x / y) :: st) Q) : AQ o κ h pc lv (.long y :: .long x :: st) Q :=
  AQ.pu (fun _ _ _ _ _ _ _ _ _ _ _ _ _ _ ls hC hR hS hl kk => lv_ldiv hC.1 hC.2.1 hd hne (kk ls hl)) k
theorem a_lrem {o : Om} {κ : Ka} {h : AH} {pc : Nat} {lv : List (Nat × Value)} {st : List Value} {Q : Option Value → AH → Prop} {x y : Int64} (hne : ¬ y = 0) (hd : decode κ.2.1 pc = .ok (.lrem, 1))
    (k : AQ o κ h (pc + 1) lv (.long (x - x / y * y) :: st) Q) : AQ o κ h pc lv (.long y :: .long x :: st) Q :=
  AQ.pu (fun _ _ _ _ _ _ _ _ _ _ _ _ _ _ ls hC hR hS hl kk => lv_lrem hC.1 hC.2.1 hd hne (kk ls hl)) k
theorem a_ineg {o : Om} {κ : Ka} {h : AH} {pc : Nat} {lv : List (Nat × Value)} {st : List Value} {Q : Option Value → AH → Prop} {x : Int32} (hd : decode κ.2.1 pc = .ok (.ineg, 1))
    (k : AQ o κ h (pc + 1) lv (.int (-x) :: st) Q) : AQ o κ h pc lv (.int x :: st) Q :=
  AQ.pu (fun _ _ _ _ _ _ _ _ _ _ _ _ _ _ ls hC hR hS hl kk => lv_ineg hC.1 hC.2.1 hd (kk ls hl)) k
theorem a_ishl {o : Om} {κ : Ka} {h : AH} {pc : Nat} {lv : List (Nat × Value)} {st : List Value} {Q : Option Value → AH → Prop} {x y : Int32} (hd : decode κ.2.1 pc = .ok (.ishl, 1))
    (k : AQ o κ h (pc + 1) lv (.int (x <<< (y &&& 31)) :: st) Q) : AQ o κ h pc lv (.int y :: .int x :: st) Q :=
  AQ.pu (fun _ _ _ _ _ _ _ _ _ _ _ _ _ _ ls hC hR hS hl kk => lv_ishl hC.1 hC.2.1 hd (kk ls hl)) k
theorem a_ishr {o : Om} {κ : Ka} {h : AH} {pc : Nat} {lv : List (Nat × Value)} {st : List Value} {Q : Option Value → AH → Prop} {x y : Int32} (hd : decode κ.2.1 pc = .ok (.ishr, 1))
    (k : AQ o κ h (pc + 1) lv (.int (x >>> (y &&& 31)) :: st) Q) : AQ o κ h pc lv (.int y :: .int x :: st) Q :=
  AQ.pu (fun _ _ _ _ _ _ _ _ _ _ _ _ _ _ ls hC hR hS hl kk => lv_ishr hC.1 hC.2.1 hd (kk ls hl)) k
theorem a_iushr {o : Om} {κ : Ka} {h : AH} {pc : Nat} {lv : List (Nat × Value)} {st : List Value} {Q : Option Value → AH → Prop} {x y : Int32} (hd : decode κ.2.1 pc = .ok (.iushr, 1))
    (k : AQ o κ h (pc + 1) lv (.int (x.toUInt32 >>> (y.toUInt32 &&& Int32.toUInt32 31)).toInt32 :: st) Q) : AQ o κ h pc lv (.int y :: .int x :: st) Q :=
  AQ.pu (fun _ _ _ _ _ _ _ _ _ _ _ _ _ _ ls hC hR hS hl kk => lv_iushr hC.1 hC.2.1 hd rfl (kk ls hl)) k
theorem a_i2l {o : Om} {κ : Ka} {h : AH} {pc : Nat} {lv : List (Nat × Value)} {st : List Value} {Q : Option Value → AH → Prop} {x : Int32} (hd : decode κ.2.1 pc = .ok (.i2l, 1))
    (k : AQ o κ h (pc + 1) lv (.long x.toInt64 :: st) Q) : AQ o κ h pc lv (.int x :: st) Q :=
  AQ.pu (fun _ _ _ _ _ _ _ _ _ _ _ _ _ _ ls hC hR hS hl kk => lv_i2l hC.1 hC.2.1 hd rfl (kk ls hl)) k
theorem a_l2i {o : Om} {κ : Ka} {h : AH} {pc : Nat} {lv : List (Nat × Value)} {st : List Value} {Q : Option Value → AH → Prop} {x : Int64} (hd : decode κ.2.1 pc = .ok (.l2i, 1))
    (k : AQ o κ h (pc + 1) lv (.int x.toInt32 :: st) Q) : AQ o κ h pc lv (.long x :: st) Q :=
  AQ.pu (fun _ _ _ _ _ _ _ _ _ _ _ _ _ _ ls hC hR hS hl kk => lv_l2i hC.1 hC.2.1 hd rfl (kk ls hl)) k
theorem a_i2b {o : Om} {κ : Ka} {h : AH} {pc : Nat} {lv : List (Nat × Value)} {st : List Value} {Q : Option Value → AH → Prop} {x : Int32} (hd : decode κ.2.1 pc = .ok (.i2b, 1))
    (k : AQ o κ h (pc + 1) lv (.int x.toInt8.toInt32 :: st) Q) : AQ o κ h pc lv (.int x :: st) Q :=
  AQ.pu (fun _ _ _ _ _ _ _ _ _ _ _ _ _ _ ls hC hR hS hl kk => lv_i2b hC.1 hC.2.1 hd rfl (kk ls hl)) k
theorem a_lcmp {o : Om} {κ : Ka} {h : AH} {pc : Nat} {lv : List (Nat × Value)} {st : List Value} {Q : Option Value → AH → Prop} {x y : Int64} (hd : decode κ.2.1 pc = .ok (.lcmp, 1))
    (k : AQ o κ h (pc + 1) lv (.int (lg_cmp x y) :: st) Q) : AQ o κ h pc lv (.long y :: .long x :: st) Q :=
  AQ.pu (fun _ _ _ _ _ _ _ _ _ _ _ _ _ _ ls hC hR hS hl kk => W.lcmp hC.1 hC.2.1 hd (kk ls hl)) k
theorem a_dup {o : Om} {κ : Ka} {h : AH} {pc : Nat} {lv : List (Nat × Value)} {st : List Value} {Q : Option Value → AH → Prop} {u : Value} (hu : u.category = 1) (hd : decode κ.2.1 pc = .ok (.dup, 1))
    (k : AQ o κ h (pc + 1) lv (u :: u :: st) Q) : AQ o κ h pc lv (u :: st) Q :=
  AQ.pu (fun _ _ _ _ _ _ _ _ _ _ _ _ _ _ ls hC hR hS hl kk => lv_dup hC.1 hC.2.1 hd (by rw [asv_cat]; exact hu) (kk ls hl)) k
theorem a_pop {o : Om} {κ : Ka} {h : AH} {pc : Nat} {lv : List (Nat × Value)} {st : List Value} {Q : Option Value → AH → Prop} {u : Value} (hu : u.category = 1) (hd : decode κ.2.1 pc = .ok (.pop, 1))
    (k : AQ o κ h (pc + 1) lv (st) Q) : AQ o κ h pc lv (u :: st) Q :=
  AQ.pu (fun _ _ _ _ _ _ _ _ _ _ _ _ _ _ ls hC hR hS hl kk => lv_pop hC.1 hC.2.1 hd (by rw [asv_cat]; exact hu) (kk ls hl)) k
theorem a_dup_x1 {o : Om} {κ : Ka} {h : AH} {pc : Nat} {lv : List (Nat × Value)} {st : List Value} {Q : Option Value → AH → Prop} {u w : Value} (hu : u.category = 1) (hw : w.category = 1) (hd : decode κ.2.1 pc = .ok (.dup_x1, 1))
    (k : AQ o κ h (pc + 1) lv (u :: w :: u :: st) Q) : AQ o κ h pc lv (u :: w :: st) Q :=
  AQ.pu (fun _ _ _ _ _ _ _ _ _ _ _ _ _ _ ls hC hR hS hl kk => lv_dup_x1 hC.1 hC.2.1 hd (by rw [asv_cat]; exact hu) (by rw [asv_cat]; exact hw) (kk ls hl)) k
theorem a_dup2 {o : Om} {κ : Ka} {h : AH} {pc : Nat} {lv : List (Nat × Value)} {st : List Value} {Q : Option Value → AH → Prop} {u w : Value} (hu : u.category = 1) (hw : w.category = 1) (hd : decode κ.2.1 pc = .ok (.dup2, 1))
    (k : AQ o κ h (pc + 1) lv (u :: w :: u :: w :: st) Q) : AQ o κ h pc lv (u :: w :: st) Q :=
  AQ.pu (fun _ _ _ _ _ _ _ _ _ _ _ _ _ _ ls hC hR hS hl kk => lv_dup2_11 hC.1 hC.2.1 hd (by rw [asv_cat]; exact hu) (by rw [asv_cat]; exact hw) (kk ls hl)) k
theorem a_dup2L {o : Om} {κ : Ka} {h : AH} {pc : Nat} {lv : List (Nat × Value)} {st : List Value} {Q : Option Value → AH → Prop} {u : Value} (hu : u.category = 2) (hd : decode κ.2.1 pc = .ok (.dup2, 1))
    (k : AQ o κ h (pc + 1) lv (u :: u :: st) Q) : AQ o κ h pc lv (u :: st) Q :=
  AQ.pu (fun _ _ _ _ _ _ _ _ _ _ _ _ _ _ ls hC hR hS hl kk => lv_dup2_2 hC.1 hC.2.1 hd (by rw [asv_cat]; exact hu) (kk ls hl)) k
theorem a_goto {o : Om} {κ : Ka} {h : AH} {pc : Nat} {lv : List (Nat × Value)} {st : List Value} {Q : Option Value → AH → Prop} {off : Int} {tgt : Nat} (hd : decode κ.2.1 pc = .ok (.goto off, 3)) (ht : (pc : Int) + off = (tgt : Int)) (k : AQ o κ h tgt lv st Q) : AQ o κ h pc lv st Q :=
  AQ.pu (fun _ _ _ _ _ _ _ _ _ _ _ _ _ _ ls hC hR hS hl kk => lv_goto hC.1 hC.2.1 hd ht (kk ls hl)) k
theorem a_istore_n {o : Om} {κ : Ka} {h : AH} {pc : Nat} {lv : List (Nat × Value)} {st : List Value} {Q : Option Value → AH → Prop} {lv1 : List (Nat × Value)} {n : Fin 4} {i : Nat} {x : Int32} (hi : (n : Nat) = i) (ks : List Nat) (hn : i < κ.2.2.1) (hp : lv_pick (lst1 lv i (.int x)) ks = lv1) (hd : decode κ.2.1 pc = .ok (.istore_n n, 1))
    (k : AQ o κ h (pc + 1) lv1 st Q) : AQ o κ h pc lv (.int x :: st) Q :=
  AQ.pu (fun _ _ _ _ _ _ _ _ _ _ _ _ _ _ ls hC hR hS hl kk => lv_istore_n hC.1 hC.2.1 hd hi hl hn rfl (fun ls1 hl1 => kk ls1 (lv_sub hl1 ks (by rw [← hp, slv_pick, slv_lst1]; rfl)))) k
theorem a_istore {o : Om} {κ : Ka} {h : AH} {pc : Nat} {lv : List (Nat × Value)} {st : List Value} {Q : Option Value → AH → Prop} {lv1 : List (Nat × Value)} {i : Nat} {x : Int32} (ks : List Nat) (hn : i < κ.2.2.1) (hp : lv_pick (lst1 lv i (.int x)) ks = lv1) (hd : decode κ.2.1 pc = .ok (.istore i, 2))
    (k : AQ o κ h (pc + 2) lv1 st Q) : AQ o κ h pc lv (.int x :: st) Q :=
  AQ.pu (fun _ _ _ _ _ _ _ _ _ _ _ _ _ _ ls hC hR hS hl kk => lv_istore hC.1 hC.2.1 hd hl hn rfl (fun ls1 hl1 => kk ls1 (lv_sub hl1 ks (by rw [← hp, slv_pick, slv_lst1]; rfl)))) k
theorem a_lstore_n {o : Om} {κ : Ka} {h : AH} {pc : Nat} {lv : List (Nat × Value)} {st : List Value} {Q : Option Value → AH → Prop} {lv1 : List (Nat × Value)} {n : Fin 4} {i : Nat} {x : Int64} (hi : (n : Nat) = i) (ks : List Nat) (hn : i + 1 < κ.2.2.1) (hp : lv_pick (lst2 lv i (.long x)) ks = lv1) (hd : decode κ.2.1 pc = .ok (.lstore_n n, 1))
    (k : AQ o κ h (pc + 1) lv1 st Q) : AQ o κ h pc lv (.long x :: st) Q :=
  AQ.pu (fun _ _ _ _ _ _ _ _ _ _ _ _ _ _ ls hC hR hS hl kk => lv_lstore_n hC.1 hC.2.1 hd hi hl hn rfl (fun ls1 hl1 => kk ls1 (lv_sub hl1 ks (by rw [← hp, slv_pick, slv_lst2]; rfl)))) k
theorem a_lstore {o : Om} {κ : Ka} {h : AH} {pc : Nat} {lv : List (Nat × Value)} {st : List Value} {Q : Option Value → AH → Prop} {lv1 : List (Nat × Value)} {i : Nat} {x : Int64} (ks : List Nat) (hn : i + 1 < κ.2.2.1) (hp : lv_pick (lst2 lv i (.long x)) ks = lv1) (hd : decode κ.2.1 pc = .ok (.lstore i, 2))
    (k : AQ o κ h (pc + 2) lv1 st Q) : AQ o κ h pc lv (.long x :: st) Q :=
  AQ.pu (fun _ _ _ _ _ _ _ _ _ _ _ _ _ _ ls hC hR hS hl kk => lv_lstore hC.1 hC.2.1 hd hl hn rfl (fun ls1 hl1 => kk ls1 (lv_sub hl1 ks (by rw [← hp, slv_pick, slv_lst2]; rfl)))) k
theorem a_astore_n {o : Om} {κ : Ka} {h : AH} {pc : Nat} {lv : List (Nat × Value)} {st : List Value} {Q : Option Value → AH → Prop} {lv1 : List (Nat × Value)} {n : Fin 4} {i x : Nat} (hi : (n : Nat) = i) (ks : List Nat) (hn : i < κ.2.2.1) (hp : lv_pick (lst1 lv i (.ref x)) ks = lv1) (hd : decode κ.2.1 pc = .ok (.astore_n n, 1))
    (k : AQ o κ h (pc + 1) lv1 st Q) : AQ o κ h pc lv (.ref x :: st) Q :=
  AQ.pu (fun _ _ _ _ _ _ _ _ _ _ _ _ _ _ ls hC hR hS hl kk => lv_astore_n hC.1 hC.2.1 hd hi hl hn rfl (fun ls1 hl1 => kk ls1 (lv_sub hl1 ks (by rw [← hp, slv_pick, slv_lst1]; rfl)))) k
theorem a_astore {o : Om} {κ : Ka} {h : AH} {pc : Nat} {lv : List (Nat × Value)} {st : List Value} {Q : Option Value → AH → Prop} {lv1 : List (Nat × Value)} {i x : Nat} (ks : List Nat) (hn : i < κ.2.2.1) (hp : lv_pick (lst1 lv i (.ref x)) ks = lv1) (hd : decode κ.2.1 pc = .ok (.astore i, 2))
    (k : AQ o κ h (pc + 2) lv1 st Q) : AQ o κ h pc lv (.ref x :: st) Q :=
  AQ.pu (fun _ _ _ _ _ _ _ _ _ _ _ _ _ _ ls hC hR hS hl kk => lv_astore hC.1 hC.2.1 hd hl hn rfl (fun ls1 hl1 => kk ls1 (lv_sub hl1 ks (by rw [← hp, slv_pick, slv_lst1]; rfl)))) k
theorem a_astore_nN {o : Om} {κ : Ka} {h : AH} {pc : Nat} {lv : List (Nat × Value)} {st : List Value} {Q : Option Value → AH → Prop} {lv1 : List (Nat × Value)} {n : Fin 4} {i : Nat} (hi : (n : Nat) = i) (ks : List Nat) (hn : i < κ.2.2.1) (hp : lv_pick (lst1 lv i (.null)) ks = lv1) (hd : decode κ.2.1 pc = .ok (.astore_n n, 1))
    (k : AQ o κ h (pc + 1) lv1 st Q) : AQ o κ h pc lv (.null :: st) Q :=
  AQ.pu (fun _ _ _ _ _ _ _ _ _ _ _ _ _ _ ls hC hR hS hl kk => lv_astore_nN hC.1 hC.2.1 hd hi hl hn rfl (fun ls1 hl1 => kk ls1 (lv_sub hl1 ks (by rw [← hp, slv_pick, slv_lst1]; rfl)))) k
theorem a_astoreN {o : Om} {κ : Ka} {h : AH} {pc : Nat} {lv : List (Nat × Value)} {st : List Value} {Q : Option Value → AH → Prop} {lv1 : List (Nat × Value)} {i : Nat} (ks : List Nat) (hn : i < κ.2.2.1) (hp : lv_pick (lst1 lv i (.null)) ks = lv1) (hd : decode κ.2.1 pc = .ok (.astore i, 2))
    (k : AQ o κ h (pc + 2) lv1 st Q) : AQ o κ h pc lv (.null :: st) Q :=
  AQ.pu (fun _ _ _ _ _ _ _ _ _ _ _ _ _ _ ls hC hR hS hl kk => lv_astoreN hC.1 hC.2.1 hd hl hn rfl (fun ls1 hl1 => kk ls1 (lv_sub hl1 ks (by rw [← hp, slv_pick, slv_lst1]; rfl)))) k
theorem a_iinc {o : Om} {κ : Ka} {h : AH} {pc : Nat} {lv : List (Nat × Value)} {st : List Value} {Q : Option Value → AH → Prop} {lv1 : List (Nat × Value)} {i : Nat} {n : Int} {x : Int32} (ks : List Nat) (j : Nat) (hj : lv[j]? = some (i, .int x)) (hn : i < κ.2.2.1) {v : Int32} (hv : x + Int32.ofInt n = v) (hp : lv_pick (lst1 lv i (.int v)) ks = lv1) (hd : decode κ.2.1 pc = .ok (.iinc i n, 3))
    (k : AQ o κ h (pc + 3) lv1 st Q) : AQ o κ h pc lv st Q :=
  AQ.pu (fun _ _ _ _ _ _ _ _ _ _ _ _ _ _ ls hC hR hS hl kk => lv_iinc (k := j) hC.1 hC.2.1 hd hl (by unfold slv; rw [List.getElem?_map, hj]; rfl) hv hn rfl (fun ls1 hl1 => kk ls1 (lv_sub hl1 ks (by rw [← hp, slv_pick, slv_lst1]; rfl)))) k
theorem a_if_eq {o : Om} {κ : Ka} {h : AH} {pc : Nat} {lv : List (Nat × Value)} {st : List Value} {Q : Option Value → AH → Prop} {x : Int32} {off : Int} {tgt : Nat} (hd : decode κ.2.1 pc = .ok (.ifCond .eq off, 3)) (ht : (pc : Int) + off = (tgt : Int))
    (kt : x = 0 → AQ o κ h tgt lv st Q) (kf : ¬ x = 0 → AQ o κ h (pc + 3) lv st Q) : AQ o κ h pc lv (.int x :: st) Q := by
  by_cases hp : x = 0
  · exact AQ.pu (fun _ _ _ _ _ _ _ _ _ _ _ _ _ _ ls hC hR hS hl kk => lv_if_eq hC.1 hC.2.1 hd ht (fun _ => kk ls hl) (fun q => absurd hp q)) (kt hp)
  · exact AQ.pu (fun _ _ _ _ _ _ _ _ _ _ _ _ _ _ ls hC hR hS hl kk => lv_if_eq hC.1 hC.2.1 hd ht (fun q => absurd q hp) (fun _ => kk ls hl)) (kf hp)
theorem a_if_ne {o : Om} {κ : Ka} {h : AH} {pc : Nat} {lv : List (Nat × Value)} {st : List Value} {Q : Option Value → AH → Prop} {x : Int32} {off : Int} {tgt : Nat} (hd : decode κ.2.1 pc = .ok (.ifCond .ne off, 3)) (ht : (pc : Int) + off = (tgt : Int))
    (kt : ¬ x = 0 → AQ o κ h tgt lv st Q) (kf : x = 0 → AQ o κ h (pc + 3) lv st Q) : AQ o κ h pc lv (.int x :: st) Q := by
  by_cases hp : x = 0
  · exact AQ.pu (fun _ _ _ _ _ _ _ _ _ _ _ _ _ _ ls hC hR hS hl kk => lv_if_ne hC.1 hC.2.1 hd ht (fun q => absurd hp q) (fun _ => kk ls hl)) (kf hp)
  · exact AQ.pu (fun _ _ _ _ _ _ _ _ _ _ _ _ _ _ ls hC hR hS hl kk => lv_if_ne hC.1 hC.2.1 hd ht (fun _ => kk ls hl) (fun q => absurd q hp)) (kt hp)
theorem a_if_lt {o : Om} {κ : Ka} {h : AH} {pc : Nat} {lv : List (Nat × Value)} {st : List Value} {Q : Option Value → AH → Prop} {x : Int32} {off : Int} {tgt : Nat} (hd : decode κ.2.1 pc = .ok (.ifCond .lt off, 3)) (ht : (pc : Int) + off = (tgt : Int))
    (kt : x < 0 → AQ o κ h tgt lv st Q) (kf : ¬ x < 0 → AQ o κ h (pc + 3) lv st Q) : AQ o κ h pc lv (.int x :: st) Q := by
  by_cases hp : x < 0
  · exact AQ.pu (fun _ _ _ _ _ _ _ _ _ _ _ _ _ _ ls hC hR hS hl kk => lv_if_lt hC.1 hC.2.1 hd ht (fun _ => kk ls hl) (fun q => absurd hp q)) (kt hp)
  · exact AQ.pu (fun _ _ _ _ _ _ _ _ _ _ _ _ _ _ ls hC hR hS hl kk => lv_if_lt hC.1 hC.2.1 hd ht (fun q => absurd q hp) (fun _ => kk ls hl)) (kf hp)
theorem a_if_ge {o : Om} {κ : Ka} {h : AH} {pc : Nat} {lv : List (Nat × Value)} {st : List Value} {Q : Option Value → AH → Prop} {x : Int32} {off : Int} {tgt : Nat} (hd : decode κ.2.1 pc = .ok (.ifCond .ge off, 3)) (ht : (pc : Int) + off = (tgt : Int))
    (kt : 0 ≤ x → AQ o κ h tgt lv st Q) (kf : ¬ 0 ≤ x → AQ o κ h (pc + 3) lv st Q) : AQ o κ h pc lv (.int x :: st) Q := by
  by_cases hp : 0 ≤ x
  · exact AQ.pu (fun _ _ _ _ _ _ _ _ _ _ _ _ _ _ ls hC hR hS hl kk => lv_if_ge hC.1 hC.2.1 hd ht (fun _ => kk ls hl) (fun q => absurd hp q)) (kt hp)
  · exact AQ.pu (fun _ _ _ _ _ _ _ _ _ _ _ _ _ _ ls hC hR hS hl kk => lv_if_ge hC.1 hC.2.1 hd ht (fun q => absurd q hp) (fun _ => kk ls hl)) (kf hp)
theorem a_if_gt {o : Om} {κ : Ka} {h : AH} {pc : Nat} {lv : List (Nat × Value)} {st : List Value} {Q : Option Value → AH → Prop} {x : Int32} {off : Int} {tgt : Nat} (hd : decode κ.2.1 pc = .ok (.ifCond .gt off, 3)) (ht : (pc : Int) + off = (tgt : Int))
    (kt : 0 < x → AQ o κ h tgt lv st Q) (kf : ¬ 0 < x → AQ o κ h (pc + 3) lv st Q) : AQ o κ h pc lv (.int x :: st) Q := by
  by_cases hp : 0 < x
  · exact AQ.pu (fun _ _ _ _ _ _ _ _ _ _ _ _ _ _ ls hC hR hS hl kk => lv_if_gt hC.1 hC.2.1 hd ht (fun _ => kk ls hl) (fun q => absurd hp q)) (kt hp)
  · exact AQ.pu (fun _ _ _ _ _ _ _ _ _ _ _ _ _ _ ls hC hR hS hl kk => lv_if_gt hC.1 hC.2.1 hd ht (fun q => absurd q hp) (fun _ => kk ls hl)) (kf hp)
theorem a_if_le {o : Om} {κ : Ka} {h : AH} {pc : Nat} {lv : List (Nat × Value)} {st : List Value} {Q : Option Value → AH → Prop} {x : Int32} {off : Int} {tgt : Nat} (hd : decode κ.2.1 pc = .ok (.ifCond .le off, 3)) (ht : (pc : Int) + off = (tgt : Int))
    (kt : x ≤ 0 → AQ o κ h tgt lv st Q) (kf : ¬ x ≤ 0 → AQ o κ h (pc + 3) lv st Q) : AQ o κ h pc lv (.int x :: st) Q := by
  by_cases hp : x ≤ 0
  · exact AQ.pu (fun _ _ _ _ _ _ _ _ _ _ _ _ _ _ ls hC hR hS hl kk => lv_if_le hC.1 hC.2.1 hd ht (fun _ => kk ls hl) (fun q => absurd hp q)) (kt hp)
  · exact AQ.pu (fun _ _ _ _ _ _ _ _ _ _ _ _ _ _ ls hC hR hS hl kk => lv_if_le hC.1 hC.2.1 hd ht (fun q => absurd q hp) (fun _ => kk ls hl)) (kf hp)
theorem a_icmp_eq {o : Om} {κ : Ka} {h : AH} {pc : Nat} {lv : List (Nat × Value)} {st : List Value} {Q : Option Value → AH → Prop} {x y : Int32} {off : Int} {tgt : Nat} (hd : decode κ.2.1 pc = .ok (.if_icmp .eq off, 3)) (ht : (pc : Int) + off = (tgt : Int))
    (kt : x = y → AQ o κ h tgt lv st Q) (kf : ¬ x = y → AQ o κ h (pc + 3) lv st Q) : AQ o κ h pc lv (.int y :: .int x :: st) Q := by
  by_cases hp : x = y
  · exact AQ.pu (fun _ _ _ _ _ _ _ _ _ _ _ _ _ _ ls hC hR hS hl kk => lv_icmp_eq hC.1 hC.2.1 hd ht (fun _ => kk ls hl) (fun q => absurd hp q)) (kt hp)
  · exact AQ.pu (fun _ _ _ _ _ _ _ _ _ _ _ _ _ _ ls hC hR hS hl kk => lv_icmp_eq hC.1 hC.2.1 hd ht (fun q => absurd q hp) (fun _ => kk ls hl)) (kf hp)
theorem a_icmp_ne {o : Om} {κ : Ka} {h : AH} {pc : Nat} {lv : List (Nat × Value)} {st : List Value} {Q : Option Value → AH → Prop} {x y : Int32} {off : Int} {tgt : Nat} (hd : decode κ.2.1 pc = .ok (.if_icmp .ne off, 3)) (ht : (pc : Int) + off = (tgt : Int))
    (kt : ¬ x = y → AQ o κ h tgt lv st Q) (kf : x = y → AQ o κ h (pc + 3) lv st Q) : AQ o κ h pc lv (.int y :: .int x :: st) Q := by
  by_cases hp : x = y
  · exact AQ.pu (fun _ _ _ _ _ _ _ _ _ _ _ _ _ _ ls hC hR hS hl kk => lv_icmp_ne hC.1 hC.2.1 hd ht (fun q => absurd hp q) (fun _ => kk ls hl)) (kf hp)
  · exact AQ.pu (fun _ _ _ _ _ _ _ _ _ _ _ _ _ _ ls hC hR hS hl kk => lv_icmp_ne hC.1 hC.2.1 hd ht (fun _ => kk ls hl) (fun q => absurd q hp)) (kt hp)
theorem a_icmp_lt {o : Om} {κ : Ka} {h : AH} {pc : Nat} {lv : List (Nat × Value)} {st : List Value} {Q : Option Value → AH → Prop} {x y : Int32} {off : Int} {tgt : Nat} (hd : decode κ.2.1 pc = .ok (.if_icmp .lt off, 3)) (ht : (pc : Int) + off = (tgt : Int))
    (kt : x < y → AQ o κ h tgt lv st Q) (kf : ¬ x < y → AQ o κ h (pc + 3) lv st Q) : AQ o κ h pc lv (.int y :: .int x :: st) Q := by
  by_cases hp : x < y
  · exact AQ.pu (fun _ _ _ _ _ _ _ _ _ _ _ _ _ _ ls hC hR hS hl kk => lv_icmp_lt hC.1 hC.2.1 hd ht (fun _ => kk ls hl) (fun q => absurd hp q)) (kt hp)
  · exact AQ.pu (fun _ _ _ _ _ _ _ _ _ _ _ _ _ _ ls hC hR hS hl kk => lv_icmp_lt hC.1 hC.2.1 hd ht (fun q => absurd q hp) (fun _ => kk ls hl)) (kf hp)
theorem a_icmp_ge {o : Om} {κ : Ka} {h : AH} {pc : Nat} {lv : List (Nat × Value)} {st : List Value} {Q : Option Value → AH → Prop} {x y : Int32} {off : Int} {tgt : Nat} (hd : decode κ.2.1 pc = .ok (.if_icmp .ge off, 3)) (ht : (pc : Int) + off = (tgt : Int))
    (kt : y ≤ x → AQ o κ h tgt lv st Q) (kf : ¬ y ≤ x → AQ o κ h (pc + 3) lv st Q) : AQ o κ h pc lv (.int y :: .int x :: st) Q := by
  by_cases hp : y ≤ x
  · exact AQ.pu (fun _ _ _ _ _ _ _ _ _ _ _ _ _ _ ls hC hR hS hl kk => lv_icmp_ge hC.1 hC.2.1 hd ht (fun _ => kk ls hl) (fun q => absurd hp q)) (kt hp)
  · exact AQ.pu (fun _ _ _ _ _ _ _ _ _ _ _ _ _ _ ls hC hR hS hl kk => lv_icmp_ge hC.1 hC.2.1 hd ht (fun q => absurd q hp) (fun _ => kk ls hl)) (kf hp)
theorem a_icmp_gt {o : Om} {κ : Ka} {h : AH} {pc : Nat} {lv : List (Nat × Value)} {st : List Value} {Q : Option Value → AH → Prop} {x y : Int32} {off : Int} {tgt : Nat} (hd : decode κ.2.1 pc = .ok (.if_icmp .gt off, 3)) (ht : (pc : Int) + off = (tgt : Int))
    (kt : y < x → AQ o κ h tgt lv st Q) (kf : ¬ y < x → AQ o κ h (pc + 3) lv st Q) : AQ o κ h pc lv (.int y :: .int x :: st) Q := by
  by_cases hp : y < x
  · exact AQ.pu (fun _ _ _ _ _ _ _ _ _ _ _ _ _ _ ls hC hR hS hl kk => lv_icmp_gt hC.1 hC.2.1 hd ht (fun _ => kk ls hl) (fun q => absurd hp q)) (kt hp)
  · exact AQ.pu (fun _ _ _ _ _ _ _ _ _ _ _ _ _ _ ls hC hR hS hl kk => lv_icmp_gt hC.1 hC.2.1 hd ht (fun q => absurd q hp) (fun _ => kk ls hl)) (kf hp)
theorem a_icmp_le {o : Om} {κ : Ka} {h : AH} {pc : Nat} {lv : List (Nat × Value)} {st : List Value} {Q : Option Value → AH → Prop} {x y : Int32} {off : Int} {tgt : Nat} (hd : decode κ.2.1 pc = .ok (.if_icmp .le off, 3)) (ht : (pc : Int) + off = (tgt : Int))
    (kt : x ≤ y → AQ o κ h tgt lv st Q) (kf : ¬ x ≤ y → AQ o κ h (pc + 3) lv st Q) : AQ o κ h pc lv (.int y :: .int x :: st) Q := by
  by_cases hp : x ≤ y
  · exact AQ.pu (fun _ _ _ _ _ _ _ _ _ _ _ _ _ _ ls hC hR hS hl kk => lv_icmp_le hC.1 hC.2.1 hd ht (fun _ => kk ls hl) (fun q => absurd hp q)) (kt hp)
  · exact AQ.pu (fun _ _ _ _ _ _ _ _ _ _ _ _ _ _ ls hC hR hS hl kk => lv_icmp_le hC.1 hC.2.1 hd ht (fun q => absurd q hp) (fun _ => kk ls hl)) (kf hp)
theorem a_ifnull_r {o : Om} {κ : Ka} {h : AH} {pc : Nat} {lv : List (Nat × Value)} {st : List Value} {Q : Option Value → AH → Prop} {x : Nat} {off : Int} (hd : decode κ.2.1 pc = .ok (.ifnull off, 3)) (k : AQ o κ h (pc + 3) lv st Q) : AQ o κ h pc lv (.ref x :: st) Q :=
  AQ.pu (fun _ _ _ _ _ _ _ _ _ _ _ _ _ _ ls hC hR hS hl kk => lv_ifnull hC.1 hC.2.1 hd (kk ls hl)) k
theorem a_ifnull_n {o : Om} {κ : Ka} {h : AH} {pc : Nat} {lv : List (Nat × Value)} {st : List Value} {Q : Option Value → AH → Prop} {off : Int} {tgt : Nat} (hd : decode κ.2.1 pc = .ok (.ifnull off, 3)) (ht : (pc : Int) + off = (tgt : Int)) (k : AQ o κ h tgt lv st Q) : AQ o κ h pc lv (.null :: st) Q :=
  AQ.pu (fun _ _ _ _ _ _ _ _ _ _ _ _ _ _ ls hC hR hS hl kk => lv_ifnullN hC.1 hC.2.1 hd ht (kk ls hl)) k
theorem a_ifnonnull_r {o : Om} {κ : Ka} {h : AH} {pc : Nat} {lv : List (Nat × Value)} {st : List Value} {Q : Option Value → AH → Prop} {x : Nat} {off : Int} {tgt : Nat} (hd : decode κ.2.1 pc = .ok (.ifnonnull off, 3)) (ht : (pc : Int) + off = (tgt : Int)) (k : AQ o κ h tgt lv st Q) : AQ o κ h pc lv (.ref x :: st) Q :=
  AQ.pu (fun _ _ _ _ _ _ _ _ _ _ _ _ _ _ ls hC hR hS hl kk => lv_ifnonnull hC.1 hC.2.1 hd ht (kk ls hl)) k
theorem a_ifnonnull_n {o : Om} {κ : Ka} {h : AH} {pc : Nat} {lv : List (Nat × Value)} {st : List Value} {Q : Option Value → AH → Prop} {off : Int} (hd : decode κ.2.1 pc = .ok (.ifnonnull off, 3)) (k : AQ o κ h (pc + 3) lv st Q) : AQ o κ h pc lv (.null :: st) Q :=
  AQ.pu (fun _ _ _ _ _ _ _ _ _ _ _ _ _ _ ls hC hR hS hl kk => lv_ifnonnullN hC.1 hC.2.1 hd (kk ls hl)) k
theorem a_acmp_ne {o : Om} {κ : Ka} {h : AH} {pc : Nat} {lv : List (Nat × Value)} {st : List Value} {Q : Option Value → AH → Prop} {x y : Nat} {off : Int} {tgt : Nat} (hd : decode κ.2.1 pc = .ok (.if_acmp .ne off, 3)) (ht : (pc : Int) + off = (tgt : Int))
    (kt : ¬ x = y → AQ o κ h tgt lv st Q) (kf : x = y → AQ o κ h (pc + 3) lv st Q) : AQ o κ h pc lv (.ref y :: .ref x :: st) Q := by
  by_cases hp : x = y
  · exact AQ.pu (fun _ _ _ _ _ _ _ _ _ _ _ _ _ _ ls hC hR hS hl kk => lv_acmp_ne (rx := some (aad o x)) (ry := some (aad o y)) hC.1 hC.2.1 hd ht (fun q => absurd (by rw [hp]) q) (fun _ => kk ls hl)) (kf hp)
  · exact AQ.pu (fun _ _ _ _ _ _ _ _ _ _ _ _ _ _ ls hC hR hS hl kk => lv_acmp_ne (rx := some (aad o x)) (ry := some (aad o y)) hC.1 hC.2.1 hd ht (fun _ => kk ls hl) (fun q => absurd (Option.some.inj q) (aad_ne hR.2.2.1 hp))) (kt hp)
theorem a_tableIn {o : Om} {κ : Ka} {h : AH} {pc : Nat} {lv : List (Nat × Value)} {st : List Value} {Q : Option Value → AH → Prop} {dflt lo hi : Int} {offs : Array Int} {len : Nat} {x : Int32} {off : Int} {tgt : Nat} (hd : decode κ.2.1 pc = .ok (.tableswitch dflt lo hi offs, len)) (h1 : ¬ x.toInt < lo) (h2 : ¬ hi < x.toInt) (ho : offs[(x.toInt - lo).toNat]? = some off) (ht : (pc : Int) + off = (tgt : Int)) (k : AQ o κ h tgt lv st Q) : AQ o κ h pc lv (.int x :: st) Q :=
  AQ.pu (fun _ _ _ _ _ _ _ _ _ _ _ _ _ _ ls hC hR hS hl kk => lv_tableIn hC.1 hC.2.1 hd h1 h2 ho ht (kk ls hl)) k
theorem a_tableOut {o : Om} {κ : Ka} {h : AH} {pc : Nat} {lv : List (Nat × Value)} {st : List Value} {Q : Option Value → AH → Prop} {dflt lo hi : Int} {offs : Array Int} {len : Nat} {x : Int32} {tgt : Nat} (hd : decode κ.2.1 pc = .ok (.tableswitch dflt lo hi offs, len)) (h1 : x.toInt < lo ∨ hi < x.toInt) (ht : (pc : Int) + dflt = (tgt : Int)) (k : AQ o κ h tgt lv st Q) : AQ o κ h pc lv (.int x :: st) Q :=
  AQ.pu (fun _ _ _ _ _ _ _ _ _ _ _ _ _ _ ls hC hR hS hl kk => lv_tableOut hC.1 hC.2.1 hd h1 ht (kk ls hl)) k
theorem a_lookup {o : Om} {κ : Ka} {h : AH} {pc : Nat} {lv : List (Nat × Value)} {st : List Value} {Q : Option Value → AH → Prop} {dflt : Int} {ps : Array (Int × Int)} {len : Nat} {x : Int32} {off : Int} {tgt : Nat} (hd : decode κ.2.1 pc = .ok (.lookupswitch dflt ps, len)) (hp : (ps.toList.zip (ps.toList.drop 1)).all (fun (a, next) => a.1 < next.1) = true) (ho : Op.lookupswitch.offset ps.toList dflt x.toInt = off) (ht : (pc : Int) + off = (tgt : Int)) (k : AQ o κ h tgt lv st Q) : AQ o κ h pc lv (.int x :: st) Q :=
  AQ.pu (fun _ _ _ _ _ _ _ _ _ _ _ _ _ _ ls hC hR hS hl kk => lv_lookup hC.1 hC.2.1 hd hp ho ht (kk ls hl)) k
theorem a_ret {o : Om} {κ : Ka} {h : AH} {pc : Nat} {lv : List (Nat × Value)} {Q : Option Value → AH → Prop} {r : Option Value} (hr : rok κ.2.2.2.1 r) (hd : decode κ.2.1 pc = .ok (retI κ.2.2.2.1, 1)) (hq : Q r h) : AQ o κ h pc lv r.toList Q := by
  refine ⟨r, h, ⟨Nat.le_refl _, Nat.le_refl _, hr, ?_⟩, hq⟩
  intro p e R s m args below meth c H locs cells slots Qw ls hC hR hS hl hc1 hc2 fin
  have := fin H locs pc ls hR hS hd
  rw [Nat.sub_self, Nat.sub_self] at this
  have e3 : (r.map (asv o)).toList = r.toList.map (asv o) := by cases r <;> rfl
  rw [e3] at this
  exact this
