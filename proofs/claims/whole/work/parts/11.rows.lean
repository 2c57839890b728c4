section KR
variable {B : KB} {X : KE} {own : String} {cc : ByteArray} {nL d : Nat} {T : TT} {pc : Nat} {lv : List (Nat × Value)} {st : List Value} {R : Type} {res : R} {a b : Option R}
theorem k_iadd (C : Cx B X own cc nL d) {x y : Int32} (hd : decode cc pc = .ok (.iadd, 1))  (k : Wk B X nL T (pc + 1) lv (.int (x + y) :: st)) : Wk B X nL T pc lv (.int y :: .int x :: st) := fun H locs ls hH hL hl => lv_iadd C.1 C.2.1 hd  (k H locs ls hH hL hl)
theorem k_isub (C : Cx B X own cc nL d) {x y : Int32} (hd : decode cc pc = .ok (.isub, 1))  (k : Wk B X nL T (pc + 1) lv (.int (x - y) :: st)) : Wk B X nL T pc lv (.int y :: .int x :: st) := fun H locs ls hH hL hl => lv_isub C.1 C.2.1 hd  (k H locs ls hH hL hl)
theorem k_imul (C : Cx B X own cc nL d) {x y : Int32} (hd : decode cc pc = .ok (.imul, 1))  (k : Wk B X nL T (pc + 1) lv (.int (x * y) :: st)) : Wk B X nL T pc lv (.int y :: .int x :: st) := fun H locs ls hH hL hl => lv_imul C.1 C.2.1 hd  (k H locs ls hH hL hl)
theorem k_iand (C : Cx B X own cc nL d) {x y : Int32} (hd : decode cc pc = .ok (.iand, 1))  (k : Wk B X nL T (pc + 1) lv (.int (x &&& y) :: st)) : Wk B X nL T pc lv (.int y :: .int x :: st) := fun H locs ls hH hL hl => lv_iand C.1 C.2.1 hd  (k H locs ls hH hL hl)
theorem k_ior (C : Cx B X own cc nL d) {x y : Int32} (hd : decode cc pc = .ok (.ior, 1))  (k : Wk B X nL T (pc + 1) lv (.int (x ||| y) :: st)) : Wk B X nL T pc lv (.int y :: .int x :: st) := fun H locs ls hH hL hl => lv_ior C.1 C.2.1 hd  (k H locs ls hH hL hl)
theorem k_ishl (C : Cx B X own cc nL d) {x y : Int32} (hd : decode cc pc = .ok (.ishl, 1))  (k : Wk B X nL T (pc + 1) lv (.int (x <<< (y &&& 31)) :: st)) : Wk B X nL T pc lv (.int y :: .int x :: st) := fun H locs ls hH hL hl => lv_ishl C.1 C.2.1 hd  (k H locs ls hH hL hl)
theorem k_ishr (C : Cx B X own cc nL d) {x y : Int32} (hd : decode cc pc = .ok (.ishr, 1))  (k : Wk B X nL T (pc + 1) lv (.int (x >>> (y &&& 31)) :: st)) : Wk B X nL T pc lv (.int y :: .int x :: st) := fun H locs ls hH hL hl => lv_ishr C.1 C.2.1 hd  (k H locs ls hH hL hl)
theorem k_ladd (C : Cx B X own cc nL d) {x y : Int64} (hd : decode cc pc = .ok (.ladd, 1))  (k : Wk B X nL T (pc + 1) lv (.long (x + y) :: st)) : Wk B X nL T pc lv (.long y :: .long x :: st) := fun H locs ls hH hL hl => lv_ladd C.1 C.2.1 hd  (k H locs ls hH hL hl)
theorem k_lsub (C : Cx B X own cc nL d) {x y : Int64} (hd : decode cc pc = .ok (.lsub, 1))  (k : Wk B X nL T (pc + 1) lv (.long (x - y) :: st)) : Wk B X nL T pc lv (.long y :: .long x :: st) := fun H locs ls hH hL hl => lv_lsub C.1 C.2.1 hd  (k H locs ls hH hL hl)
theorem k_lmul (C : Cx B X own cc nL d) {x y : Int64} (hd : decode cc pc = .ok (.lmul, 1))  (k : Wk B X nL T (pc + 1) lv (.long (x * y) :: st)) : Wk B X nL T pc lv (.long y :: .long x :: st) := fun H locs ls hH hL hl => lv_lmul C.1 C.2.1 hd  (k H locs ls hH hL hl)
theorem k_idiv (C : Cx B X own cc nL d) {x y : Int32} (hd : decode cc pc = .ok (.idiv, 1)) (h : (if y = 0 then none else a) = some res) (k : a = some res → Wk B X nL T (pc + 1) lv (.int (x / y) :: st)) : Wk B X nL T pc lv (.int y :: .int x :: st) := fun H locs ls hH hL hl => by
  by_cases c : y = 0
  · rw [if_pos c] at h; cases h
  · rw [if_neg c] at h; exact lv_idiv C.1 C.2.1 hd c (k h H locs ls hH hL hl)
theorem k_idivc (C : Cx B X own cc nL d) {x y : Int32} (hd : decode cc pc = .ok (.idiv, 1)) (c : ¬ y = 0) (k : Wk B X nL T (pc + 1) lv (.int (x / y) :: st)) : Wk B X nL T pc lv (.int y :: .int x :: st) := fun H locs ls hH hL hl => lv_idiv C.1 C.2.1 hd c (k H locs ls hH hL hl)
theorem k_irem (C : Cx B X own cc nL d) {x y : Int32} (hd : decode cc pc = .ok (.irem, 1)) (h : (if y = 0 then none else a) = some res) (k : a = some res → Wk B X nL T (pc + 1) lv (.int (x - x / y * y) :: st)) : Wk B X nL T pc lv (.int y :: .int x :: st) := fun H locs ls hH hL hl => by
  by_cases c : y = 0
  · rw [if_pos c] at h; cases h
  · rw [if_neg c] at h; exact lv_irem C.1 C.2.1 hd c (k h H locs ls hH hL hl)
theorem k_iremc (C : Cx B X own cc nL d) {x y : Int32} (hd : decode cc pc = .ok (.irem, 1)) (c : ¬ y = 0) (k : Wk B X nL T (pc + 1) lv (.int (x - x / y * y) :: st)) : Wk B X nL T pc lv (.int y :: .int x :: st) := fun H locs ls hH hL hl => lv_irem C.1 C.2.1 hd c (k H locs ls hH hL hl)
theorem k_ldiv (C : Cx B X own cc nL d) {x y : Int64} (hd : decode cc pc = .ok (.ldiv, 1)) (h : (if y = 0 then none else a) = some res) (k : a = some res → Wk B X nL T (pc + 1) lv (.long (x / y) :: st)) : Wk B X nL T pc lv (.long y :: .long x :: st) := fun H locs ls hH hL hl => by
  by_cases c : y = 0
  · rw [if_pos c] at h; cases h
  · rw [if_neg c] at h; exact lv_ldiv C.1 C.2.1 hd c (k h H locs ls hH hL hl)
theorem k_ldivc (C : Cx B X own cc nL d) {x y : Int64} (hd : decode cc pc = .ok (.ldiv, 1)) (c : ¬ y = 0) (k : Wk B X nL T (pc + 1) lv (.long (x / y) :: st)) : Wk B X nL T pc lv (.long y :: .long x :: st) := fun H locs ls hH hL hl => lv_ldiv C.1 C.2.1 hd c (k H locs ls hH hL hl)
theorem k_lrem (C : Cx B X own cc nL d) {x y : Int64} (hd : decode cc pc = .ok (.lrem, 1)) (h : (if y = 0 then none else a) = some res) (k : a = some res → Wk B X nL T (pc + 1) lv (.long (x - x / y * y) :: st)) : Wk B X nL T pc lv (.long y :: .long x :: st) := fun H locs ls hH hL hl => by
  by_cases c : y = 0
  · rw [if_pos c] at h; cases h
  · rw [if_neg c] at h; exact lv_lrem C.1 C.2.1 hd c (k h H locs ls hH hL hl)
theorem k_lremc (C : Cx B X own cc nL d) {x y : Int64} (hd : decode cc pc = .ok (.lrem, 1)) (c : ¬ y = 0) (k : Wk B X nL T (pc + 1) lv (.long (x - x / y * y) :: st)) : Wk B X nL T pc lv (.long y :: .long x :: st) := fun H locs ls hH hL hl => lv_lrem C.1 C.2.1 hd c (k H locs ls hH hL hl)
theorem k_iconst (C : Cx B X own cc nL d) {n : Int} {v : Int32} (hd : decode cc pc = .ok (.iconst n, 1)) (hv : Int32.ofInt n = v) (k : Wk B X nL T (pc + 1) lv (.int v :: st)) : Wk B X nL T pc lv (st) := fun H locs ls hH hL hl => lv_iconst C.1 C.2.1 hd hv (k H locs ls hH hL hl)
theorem k_bipush (C : Cx B X own cc nL d) {n : Int} {v : Int32} (hd : decode cc pc = .ok (.bipush n, 2)) (hv : (Int8.ofInt n).toInt32 = v) (k : Wk B X nL T (pc + 2) lv (.int v :: st)) : Wk B X nL T pc lv (st) := fun H locs ls hH hL hl => lv_bipush C.1 C.2.1 hd hv (k H locs ls hH hL hl)
theorem k_sipush (C : Cx B X own cc nL d) {n : Int} {v : Int32} (hd : decode cc pc = .ok (.sipush n, 3)) (hv : (Int16.ofInt n).toInt32 = v) (k : Wk B X nL T (pc + 3) lv (.int v :: st)) : Wk B X nL T pc lv (st) := fun H locs ls hH hL hl => lv_sipush C.1 C.2.1 hd hv (k H locs ls hH hL hl)
theorem k_lconst (C : Cx B X own cc nL d) {n : Fin 2} {v : Int64} (hd : decode cc pc = .ok (.lconst n, 1)) (hv : Int64.ofNat (n : Nat) = v) (k : Wk B X nL T (pc + 1) lv (.long v :: st)) : Wk B X nL T pc lv (st) := fun H locs ls hH hL hl => lv_lconst C.1 C.2.1 hd hv (k H locs ls hH hL hl)
theorem k_ldc (C : Cx B X own cc nL d) {i : Nat} {v : Int32} (hd : decode cc pc = .ok (.ldc i, 2)) (hw : Cond.constant own i v ∈ GW) (k : Wk B X nL T (pc + 2) lv (.int v :: st)) : Wk B X nL T pc lv st := fun H locs ls hH hL hl => lv_ldc C.1 C.2.1 C.2.2.2.1 (C.2.2.2.2.1 _ hw) hd (k H locs ls hH hL hl)
theorem k_ldc2_w (C : Cx B X own cc nL d) {i : Nat} {v : Int64} (hd : decode cc pc = .ok (.ldc2_w i, 3)) (hw : Cond.constantLong own i v ∈ GW) (k : Wk B X nL T (pc + 3) lv (.long v :: st)) : Wk B X nL T pc lv st := fun H locs ls hH hL hl => lv_ldc2 C.1 C.2.1 C.2.2.2.1 (C.2.2.2.2.1 _ hw) hd (k H locs ls hH hL hl)
theorem k_iload_n (C : Cx B X own cc nL d) {kf : Fin 4} {x : Int32} (hd : decode cc pc = .ok (.iload_n kf, 1)) (j : Nat) (hj : lv[j]? = some ((kf : Nat), .int x)) (k : Wk B X nL T (pc + 1) lv (.int x :: st)) : Wk B X nL T pc lv st := fun H locs ls hH hL hl => lv_iload_n C.1 C.2.1 hd rfl (lv_at hl j hj) (k H locs ls hH hL hl)
theorem k_iload (C : Cx B X own cc nL d) {i : Nat} {x : Int32} (hd : decode cc pc = .ok (.iload i, 2)) (j : Nat) (hj : lv[j]? = some (i, .int x)) (k : Wk B X nL T (pc + 2) lv (.int x :: st)) : Wk B X nL T pc lv st := fun H locs ls hH hL hl => lv_iload C.1 C.2.1 hd (lv_at hl j hj) (k H locs ls hH hL hl)
theorem k_lload_n (C : Cx B X own cc nL d) {kf : Fin 4} {x : Int64} (hd : decode cc pc = .ok (.lload_n kf, 1)) (j : Nat) (hj : lv[j]? = some ((kf : Nat), .long x)) (k : Wk B X nL T (pc + 1) lv (.long x :: st)) : Wk B X nL T pc lv st := fun H locs ls hH hL hl => lv_lload_n C.1 C.2.1 hd rfl (lv_at hl j hj) (k H locs ls hH hL hl)
theorem k_lload (C : Cx B X own cc nL d) {i : Nat} {x : Int64} (hd : decode cc pc = .ok (.lload i, 2)) (j : Nat) (hj : lv[j]? = some (i, .long x)) (k : Wk B X nL T (pc + 2) lv (.long x :: st)) : Wk B X nL T pc lv st := fun H locs ls hH hL hl => lv_lload C.1 C.2.1 hd (lv_at hl j hj) (k H locs ls hH hL hl)
theorem k_aload_n (C : Cx B X own cc nL d) {kf : Fin 4} {x : Nat} (hd : decode cc pc = .ok (.aload_n kf, 1)) (j : Nat) (hj : lv[j]? = some ((kf : Nat), .ref x)) (k : Wk B X nL T (pc + 1) lv (.ref x :: st)) : Wk B X nL T pc lv st := fun H locs ls hH hL hl => lv_aload_n C.1 C.2.1 hd rfl (lv_at hl j hj) (k H locs ls hH hL hl)
theorem k_aload (C : Cx B X own cc nL d) {i : Nat} {x : Nat} (hd : decode cc pc = .ok (.aload i, 2)) (j : Nat) (hj : lv[j]? = some (i, .ref x)) (k : Wk B X nL T (pc + 2) lv (.ref x :: st)) : Wk B X nL T pc lv st := fun H locs ls hH hL hl => lv_aload C.1 C.2.1 hd (lv_at hl j hj) (k H locs ls hH hL hl)
theorem k_istore_n (C : Cx B X own cc nL d) {kf : Fin 4} {x : Int32} (lv' : List (Nat × Value)) (hd : decode cc pc = .ok (.istore_n kf, 1)) (hn : (kf : Nat) < nL) (hf : ((kf : Nat), Value.int x) :: lv.filter (fun q => !(q.1 == (kf : Nat)) && !(q.1 + 1 == (kf : Nat) && q.2.category == 2)) = lv') (k : Wk B X nL T (pc + 1) lv' st) : Wk B X nL T pc lv (.int x :: st) := fun H locs ls hH hL hl => lv_istore_n C.1 C.2.1 hd rfl hl hn hf (fun ls' hl' => k H locs ls' hH hL hl')
theorem k_istore (C : Cx B X own cc nL d) {i : Nat} {x : Int32} (lv' : List (Nat × Value)) (hd : decode cc pc = .ok (.istore i, 2)) (hn : i < nL) (hf : (i, Value.int x) :: lv.filter (fun q => !(q.1 == i) && !(q.1 + 1 == i && q.2.category == 2)) = lv') (k : Wk B X nL T (pc + 2) lv' st) : Wk B X nL T pc lv (.int x :: st) := fun H locs ls hH hL hl => lv_istore C.1 C.2.1 hd hl hn hf (fun ls' hl' => k H locs ls' hH hL hl')
theorem k_lstore_n (C : Cx B X own cc nL d) {kf : Fin 4} {x : Int64} (lv' : List (Nat × Value)) (hd : decode cc pc = .ok (.lstore_n kf, 1)) (hn : (kf : Nat) + 1 < nL) (hf : ((kf : Nat), Value.long x) :: lv.filter (fun q => !(q.1 == (kf : Nat)) && (!(q.1 == (kf : Nat) + 1) && !(q.1 + 1 == (kf : Nat) && q.2.category == 2))) = lv') (k : Wk B X nL T (pc + 1) lv' st) : Wk B X nL T pc lv (.long x :: st) := fun H locs ls hH hL hl => lv_lstore_n C.1 C.2.1 hd rfl hl hn hf (fun ls' hl' => k H locs ls' hH hL hl')
theorem k_lstore (C : Cx B X own cc nL d) {i : Nat} {x : Int64} (lv' : List (Nat × Value)) (hd : decode cc pc = .ok (.lstore i, 2)) (hn : i + 1 < nL) (hf : (i, Value.long x) :: lv.filter (fun q => !(q.1 == i) && (!(q.1 == i + 1) && !(q.1 + 1 == i && q.2.category == 2))) = lv') (k : Wk B X nL T (pc + 2) lv' st) : Wk B X nL T pc lv (.long x :: st) := fun H locs ls hH hL hl => lv_lstore C.1 C.2.1 hd hl hn hf (fun ls' hl' => k H locs ls' hH hL hl')
theorem k_astore_n (C : Cx B X own cc nL d) {kf : Fin 4} {x : Nat} (lv' : List (Nat × Value)) (hd : decode cc pc = .ok (.astore_n kf, 1)) (hn : (kf : Nat) < nL) (hf : ((kf : Nat), Value.ref x) :: lv.filter (fun q => !(q.1 == (kf : Nat)) && !(q.1 + 1 == (kf : Nat) && q.2.category == 2)) = lv') (k : Wk B X nL T (pc + 1) lv' st) : Wk B X nL T pc lv (.ref x :: st) := fun H locs ls hH hL hl => lv_astore_n C.1 C.2.1 hd rfl hl hn hf (fun ls' hl' => k H locs ls' hH hL hl')
theorem k_astore (C : Cx B X own cc nL d) {i : Nat} {x : Nat} (lv' : List (Nat × Value)) (hd : decode cc pc = .ok (.astore i, 2)) (hn : i < nL) (hf : (i, Value.ref x) :: lv.filter (fun q => !(q.1 == i) && !(q.1 + 1 == i && q.2.category == 2)) = lv') (k : Wk B X nL T (pc + 2) lv' st) : Wk B X nL T pc lv (.ref x :: st) := fun H locs ls hH hL hl => lv_astore C.1 C.2.1 hd hl hn hf (fun ls' hl' => k H locs ls' hH hL hl')
theorem k_iinc (C : Cx B X own cc nL d) {i : Nat} {n : Int} {x : Int32} (v : Int32) (lv' : List (Nat × Value)) (hd : decode cc pc = .ok (.iinc i n, 3)) (j : Nat) (hj : lv[j]? = some (i, .int x)) (hv : x + Int32.ofInt n = v) (hn : i < nL) (hf : (i, Value.int v) :: lv.filter (fun q => !(q.1 == i) && !(q.1 + 1 == i && q.2.category == 2)) = lv') (k : Wk B X nL T (pc + 3) lv' st) : Wk B X nL T pc lv st := fun H locs ls hH hL hl => lv_iinc C.1 C.2.1 hd hl hj hv hn hf (fun ls' hl' => k H locs ls' hH hL hl')
theorem k_sub {lv' : List (Nat × Value)} (ps : List Nat) (hp : lv_pick lv ps = lv') (k : Wk B X nL T pc lv' st) : Wk B X nL T pc lv st := fun H locs ls hH hL hl => k H locs ls hH hL (lv_sub hl ps hp)
theorem k_i2l (C : Cx B X own cc nL d) {x : Int32} (hd : decode cc pc = .ok (.i2l, 1)) (k : Wk B X nL T (pc + 1) lv (.long (x.toInt64) :: st)) : Wk B X nL T pc lv (.int x :: st) := fun H locs ls hH hL hl => lv_i2l C.1 C.2.1 hd rfl (k H locs ls hH hL hl)
theorem k_l2i (C : Cx B X own cc nL d) {x : Int64} (hd : decode cc pc = .ok (.l2i, 1)) (k : Wk B X nL T (pc + 1) lv (.int (x.toInt32) :: st)) : Wk B X nL T pc lv (.long x :: st) := fun H locs ls hH hL hl => lv_l2i C.1 C.2.1 hd rfl (k H locs ls hH hL hl)
theorem k_i2b (C : Cx B X own cc nL d) {x : Int32} (hd : decode cc pc = .ok (.i2b, 1)) (k : Wk B X nL T (pc + 1) lv (.int (x.toInt8.toInt32) :: st)) : Wk B X nL T pc lv (.int x :: st) := fun H locs ls hH hL hl => lv_i2b C.1 C.2.1 hd rfl (k H locs ls hH hL hl)
theorem k_i2c (C : Cx B X own cc nL d) {x : Int32} (hd : decode cc pc = .ok (.i2c, 1)) (k : Wk B X nL T (pc + 1) lv (.int ((x.toUInt32 % 65536).toInt32) :: st)) : Wk B X nL T pc lv (.int x :: st) := fun H locs ls hH hL hl => lv_i2c C.1 C.2.1 hd rfl (k H locs ls hH hL hl)
theorem k_lcmp (C : Cx B X own cc nL d) {x y : Int64} (hd : decode cc pc = .ok (.lcmp, 1)) (k : Wk B X nL T (pc + 1) lv (.int (lg_cmp x y) :: st)) : Wk B X nL T pc lv (.long y :: .long x :: st) := fun H locs ls hH hL hl => W.lcmp C.1 C.2.1 hd (k H locs ls hH hL hl)
theorem k_dup (C : Cx B X own cc nL d) {va : Value} (hd : decode cc pc = .ok (.dup, 1)) (hv : va.category = 1) (k : Wk B X nL T (pc + 1) lv (va :: va :: st)) : Wk B X nL T pc lv (va :: st) := fun H locs ls hH hL hl => lv_dup C.1 C.2.1 hd hv (k H locs ls hH hL hl)
theorem k_pop (C : Cx B X own cc nL d) {va : Value} (hd : decode cc pc = .ok (.pop, 1)) (hv : va.category = 1) (k : Wk B X nL T (pc + 1) lv (st)) : Wk B X nL T pc lv (va :: st) := fun H locs ls hH hL hl => lv_pop C.1 C.2.1 hd hv (k H locs ls hH hL hl)
theorem k_dup2 (C : Cx B X own cc nL d) {va vb : Value} (hd : decode cc pc = .ok (.dup2, 1)) (hv : va.category = 1) (hw : vb.category = 1) (k : Wk B X nL T (pc + 1) lv (va :: vb :: va :: vb :: st)) : Wk B X nL T pc lv (va :: vb :: st) := fun H locs ls hH hL hl => lv_dup2_11 C.1 C.2.1 hd hv hw (k H locs ls hH hL hl)
theorem k_dup2w (C : Cx B X own cc nL d) {va : Value} (hd : decode cc pc = .ok (.dup2, 1)) (hv : va.category = 2) (k : Wk B X nL T (pc + 1) lv (va :: va :: st)) : Wk B X nL T pc lv (va :: st) := fun H locs ls hH hL hl => lv_dup2_2 C.1 C.2.1 hd hv (k H locs ls hH hL hl)
theorem k_goto (C : Cx B X own cc nL d) {off : Int} (tgt : Nat) (hd : decode cc pc = .ok (.goto off, 3)) (ht : (pc : Int) + off = (tgt : Int)) (k : Wk B X nL T tgt lv st) : Wk B X nL T pc lv st := fun H locs ls hH hL hl => lv_goto C.1 C.2.1 hd ht (k H locs ls hH hL hl)
theorem k_if_eq (C : Cx B X own cc nL d) {x : Int32} {off : Int} (tgt : Nat) (hd : decode cc pc = .ok (.ifCond .eq off, 3)) (ht : (pc : Int) + off = (tgt : Int)) (h : (if x = 0 then a else b) = some res) (kt : x = 0 → a = some res → Wk B X nL T tgt lv st) (kf : ¬ x = 0 → b = some res → Wk B X nL T (pc + 3) lv st) : Wk B X nL T pc lv (.int x :: st) := fun H locs ls hH hL hl => lv_if_eq C.1 C.2.1 hd ht (fun c => kt c (by rw [if_pos c] at h; exact h) H locs ls hH hL hl) (fun c => kf c (by rw [if_neg c] at h; exact h) H locs ls hH hL hl)
theorem k_icmp_eq (C : Cx B X own cc nL d) {x y : Int32} {off : Int} (tgt : Nat) (hd : decode cc pc = .ok (.if_icmp .eq off, 3)) (ht : (pc : Int) + off = (tgt : Int)) (h : (if x = y then a else b) = some res) (kt : x = y → a = some res → Wk B X nL T tgt lv st) (kf : ¬ x = y → b = some res → Wk B X nL T (pc + 3) lv st) : Wk B X nL T pc lv (.int y :: .int x :: st) := fun H locs ls hH hL hl => lv_icmp_eq C.1 C.2.1 hd ht (fun c => kt c (by rw [if_pos c] at h; exact h) H locs ls hH hL hl) (fun c => kf c (by rw [if_neg c] at h; exact h) H locs ls hH hL hl)
theorem k_if_ne (C : Cx B X own cc nL d) {x : Int32} {off : Int} (tgt : Nat) (hd : decode cc pc = .ok (.ifCond .ne off, 3)) (ht : (pc : Int) + off = (tgt : Int)) (h : (if x = 0 then b else a) = some res) (kt : ¬ x = 0 → a = some res → Wk B X nL T tgt lv st) (kf : x = 0 → b = some res → Wk B X nL T (pc + 3) lv st) : Wk B X nL T pc lv (.int x :: st) := fun H locs ls hH hL hl => lv_if_ne C.1 C.2.1 hd ht (fun c => kt c (by rw [if_neg c] at h; exact h) H locs ls hH hL hl) (fun c => kf c (by rw [if_pos c] at h; exact h) H locs ls hH hL hl)
theorem k_icmp_ne (C : Cx B X own cc nL d) {x y : Int32} {off : Int} (tgt : Nat) (hd : decode cc pc = .ok (.if_icmp .ne off, 3)) (ht : (pc : Int) + off = (tgt : Int)) (h : (if x = y then b else a) = some res) (kt : ¬ x = y → a = some res → Wk B X nL T tgt lv st) (kf : x = y → b = some res → Wk B X nL T (pc + 3) lv st) : Wk B X nL T pc lv (.int y :: .int x :: st) := fun H locs ls hH hL hl => lv_icmp_ne C.1 C.2.1 hd ht (fun c => kt c (by rw [if_neg c] at h; exact h) H locs ls hH hL hl) (fun c => kf c (by rw [if_pos c] at h; exact h) H locs ls hH hL hl)
theorem k_if_lt (C : Cx B X own cc nL d) {x : Int32} {off : Int} (tgt : Nat) (hd : decode cc pc = .ok (.ifCond .lt off, 3)) (ht : (pc : Int) + off = (tgt : Int)) (h : (if x < 0 then a else b) = some res) (kt : x < 0 → a = some res → Wk B X nL T tgt lv st) (kf : ¬ x < 0 → b = some res → Wk B X nL T (pc + 3) lv st) : Wk B X nL T pc lv (.int x :: st) := fun H locs ls hH hL hl => lv_if_lt C.1 C.2.1 hd ht (fun c => kt c (by rw [if_pos c] at h; exact h) H locs ls hH hL hl) (fun c => kf c (by rw [if_neg c] at h; exact h) H locs ls hH hL hl)
theorem k_icmp_lt (C : Cx B X own cc nL d) {x y : Int32} {off : Int} (tgt : Nat) (hd : decode cc pc = .ok (.if_icmp .lt off, 3)) (ht : (pc : Int) + off = (tgt : Int)) (h : (if x < y then a else b) = some res) (kt : x < y → a = some res → Wk B X nL T tgt lv st) (kf : ¬ x < y → b = some res → Wk B X nL T (pc + 3) lv st) : Wk B X nL T pc lv (.int y :: .int x :: st) := fun H locs ls hH hL hl => lv_icmp_lt C.1 C.2.1 hd ht (fun c => kt c (by rw [if_pos c] at h; exact h) H locs ls hH hL hl) (fun c => kf c (by rw [if_neg c] at h; exact h) H locs ls hH hL hl)
theorem k_if_ge (C : Cx B X own cc nL d) {x : Int32} {off : Int} (tgt : Nat) (hd : decode cc pc = .ok (.ifCond .ge off, 3)) (ht : (pc : Int) + off = (tgt : Int)) (h : (if 0 ≤ x then a else b) = some res) (kt : 0 ≤ x → a = some res → Wk B X nL T tgt lv st) (kf : ¬ 0 ≤ x → b = some res → Wk B X nL T (pc + 3) lv st) : Wk B X nL T pc lv (.int x :: st) := fun H locs ls hH hL hl => lv_if_ge C.1 C.2.1 hd ht (fun c => kt c (by rw [if_pos c] at h; exact h) H locs ls hH hL hl) (fun c => kf c (by rw [if_neg c] at h; exact h) H locs ls hH hL hl)
theorem k_icmp_ge (C : Cx B X own cc nL d) {x y : Int32} {off : Int} (tgt : Nat) (hd : decode cc pc = .ok (.if_icmp .ge off, 3)) (ht : (pc : Int) + off = (tgt : Int)) (h : (if y ≤ x then a else b) = some res) (kt : y ≤ x → a = some res → Wk B X nL T tgt lv st) (kf : ¬ y ≤ x → b = some res → Wk B X nL T (pc + 3) lv st) : Wk B X nL T pc lv (.int y :: .int x :: st) := fun H locs ls hH hL hl => lv_icmp_ge C.1 C.2.1 hd ht (fun c => kt c (by rw [if_pos c] at h; exact h) H locs ls hH hL hl) (fun c => kf c (by rw [if_neg c] at h; exact h) H locs ls hH hL hl)
theorem k_if_gt (C : Cx B X own cc nL d) {x : Int32} {off : Int} (tgt : Nat) (hd : decode cc pc = .ok (.ifCond .gt off, 3)) (ht : (pc : Int) + off = (tgt : Int)) (h : (if 0 < x then a else b) = some res) (kt : 0 < x → a = some res → Wk B X nL T tgt lv st) (kf : ¬ 0 < x → b = some res → Wk B X nL T (pc + 3) lv st) : Wk B X nL T pc lv (.int x :: st) := fun H locs ls hH hL hl => lv_if_gt C.1 C.2.1 hd ht (fun c => kt c (by rw [if_pos c] at h; exact h) H locs ls hH hL hl) (fun c => kf c (by rw [if_neg c] at h; exact h) H locs ls hH hL hl)
theorem k_icmp_gt (C : Cx B X own cc nL d) {x y : Int32} {off : Int} (tgt : Nat) (hd : decode cc pc = .ok (.if_icmp .gt off, 3)) (ht : (pc : Int) + off = (tgt : Int)) (h : (if y < x then a else b) = some res) (kt : y < x → a = some res → Wk B X nL T tgt lv st) (kf : ¬ y < x → b = some res → Wk B X nL T (pc + 3) lv st) : Wk B X nL T pc lv (.int y :: .int x :: st) := fun H locs ls hH hL hl => lv_icmp_gt C.1 C.2.1 hd ht (fun c => kt c (by rw [if_pos c] at h; exact h) H locs ls hH hL hl) (fun c => kf c (by rw [if_neg c] at h; exact h) H locs ls hH hL hl)
theorem k_if_le (C : Cx B X own cc nL d) {x : Int32} {off : Int} (tgt : Nat) (hd : decode cc pc = .ok (.ifCond .le off, 3)) (ht : (pc : Int) + off = (tgt : Int)) (h : (if x ≤ 0 then a else b) = some res) (kt : x ≤ 0 → a = some res → Wk B X nL T tgt lv st) (kf : ¬ x ≤ 0 → b = some res → Wk B X nL T (pc + 3) lv st) : Wk B X nL T pc lv (.int x :: st) := fun H locs ls hH hL hl => lv_if_le C.1 C.2.1 hd ht (fun c => kt c (by rw [if_pos c] at h; exact h) H locs ls hH hL hl) (fun c => kf c (by rw [if_neg c] at h; exact h) H locs ls hH hL hl)
theorem k_icmp_le (C : Cx B X own cc nL d) {x y : Int32} {off : Int} (tgt : Nat) (hd : decode cc pc = .ok (.if_icmp .le off, 3)) (ht : (pc : Int) + off = (tgt : Int)) (h : (if x ≤ y then a else b) = some res) (kt : x ≤ y → a = some res → Wk B X nL T tgt lv st) (kf : ¬ x ≤ y → b = some res → Wk B X nL T (pc + 3) lv st) : Wk B X nL T pc lv (.int y :: .int x :: st) := fun H locs ls hH hL hl => lv_icmp_le C.1 C.2.1 hd ht (fun c => kt c (by rw [if_pos c] at h; exact h) H locs ls hH hL hl) (fun c => kf c (by rw [if_neg c] at h; exact h) H locs ls hH hL hl)
theorem k_tabIn (C : Cx B X own cc nL d) {dflt lo hi : Int} {offs : Array Int} {len : Nat} {x : Int32} {off : Int} (tgt : Nat) (v : Int32) (hd : decode cc pc = .ok (.tableswitch dflt lo hi offs, len)) (e : x = v) (h1 : ¬ v.toInt < lo) (h2 : ¬ hi < v.toInt) (ho : offs[(v.toInt - lo).toNat]? = some off) (ht : (pc : Int) + off = (tgt : Int)) (k : Wk B X nL T tgt lv st) : Wk B X nL T pc lv (.int x :: st) := fun H locs ls hH hL hl => by
  subst e
  exact lv_tableIn C.1 C.2.1 hd h1 h2 ho ht (k H locs ls hH hL hl)
theorem k_tabOut (C : Cx B X own cc nL d) {dflt lo hi : Int} {offs : Array Int} {len : Nat} {x : Int32} (tgt : Nat) (hd : decode cc pc = .ok (.tableswitch dflt lo hi offs, len)) (h1 : x.toInt < lo ∨ hi < x.toInt) (ht : (pc : Int) + dflt = (tgt : Int)) (k : Wk B X nL T tgt lv st) : Wk B X nL T pc lv (.int x :: st) := fun H locs ls hH hL hl => lv_tableOut C.1 C.2.1 hd h1 ht (k H locs ls hH hL hl)
/-- an array of ints, bytes, booleans of n cells; an array of references -/
def isI (B : KB) (g f n : Nat) : Prop := (g, f) ∈ IX ∧ f ≠ 0 ∧ ∀ z, warr B g f z = wIA B n z
def isB (B : KB) (g f n : Nat) : Prop := (g, f) ∈ IX ∧ f ≠ 0 ∧ ∀ z, warr B g f z = wBA B n z
def isZ (B : KB) (g f n : Nat) : Prop := (g, f) ∈ IX ∧ f ≠ 0 ∧ ∀ z, warr B g f z = wZA B n z
def isQ (B : KB) (g f t n : Nat) (w : Nat → Nat) : Prop := (g, f) ∈ IX ∧ f ≠ 0 ∧ ∀ z, warr B g f z = wRA B t n (fun k => some (w k))
theorem wc_arr {g f : Nat} (hf : f ≠ 0) : wc B T g f = warr B g f (T.1 g f) := if_neg hf
theorem wc_sA {g f j : Nat} {x : Int32} (hf : f ≠ 0) : ∀ g' f' : Nat, ¬ (g' = g ∧ f' = f) → wc B (sA T g f j x) g' f' = wc B T g' f' := by
  intro g' f' hn
  by_cases h0 : f' = 0
  · subst h0
    simp only [wc, sA, if_true]
  · rw [wc_arr h0, wc_arr h0]
    have e : (sA T g f j x).1 g' f' = T.1 g' f' := by
      by_cases hg : g' = g
      · subst hg
        have hf' : ¬ f' = f := fun e => hn ⟨rfl, e⟩
        simp [sA, hf']
      · simp [sA, hg]
    rw [e]
theorem sA_at {g f j : Nat} {x : Int32} : (sA T g f j x).1 g f = upd (T.1 g f) j x := by
  funext i
  simp [sA, upd]
theorem wc_cpA {g0 f0 sp g f dp n : Nat} (hf : f ≠ 0) : ∀ g' f' : Nat, ¬ (g' = g ∧ f' = f) → wc B (cpA T g0 f0 sp g f dp n) g' f' = wc B T g' f' := by
  intro g' f' hn
  by_cases h0 : f' = 0
  · subst h0
    simp only [wc, cpA, if_true]
  · rw [wc_arr h0, wc_arr h0]
    have e : (cpA T g0 f0 sp g f dp n).1 g' f' = T.1 g' f' := by
      by_cases hg : g' = g
      · subst hg
        have hf' : ¬ f' = f := fun e => hn ⟨rfl, e⟩
        simp [cpA, hf']
      · simp [cpA, hg]
    rw [e]
theorem cpA_at {g0 f0 sp g f dp n : Nat} : (cpA T g0 f0 sp g f dp n).1 g f = va_cpy (T.1 g0 f0) (T.1 g f) sp dp n := by simp [cpA]
theorem Hh.S {H : Heap} {locs : List Loc} (hH : Hh B T H) (hL : ∀ q ∈ locs, B.2.2.2.2.size ≤ q.base) : va_S (fun q : Nat => B.2.2.2.2.size ≤ q) B.2.2.2.2 H locs := ⟨hH.2.2.1.1, fun q h _ => hH.2.2.1.2 q h, hL⟩
theorem Hh.back {T' : TT} {H1 : Heap} {locs1 : List Loc} {q0 g f : Nat} {e : va_E} (hset : (wl B T).set q0 (B.1 g f, wc B T' g f) = wl B T') (he : wc B T' g f = e) (hk : kok (T'.2.2.2 6).1 (T'.2.2.2 6).2) (hP : va_P (B.2.1, B.2.2.1) vwCl ((wl B T).set q0 (B.1 g f, e)) H1) (hD : va_D (fun q : Nat => B.2.2.2.2.size ≤ q) ((wl B T).set q0 (B.1 g f, e))) (hS : va_S (fun q : Nat => B.2.2.2.2.size ≤ q) B.2.2.2.2 H1 locs1) : Hh B T' H1 ∧ ∀ q ∈ locs1, B.2.2.2.2.size ≤ q.base := by
  subst he
  rw [hset] at hP hD
  exact ⟨⟨hP, hD, ⟨hS.1, fun q h => hS.2.1 q h (Nat.not_le.mpr h)⟩, hk⟩, hS.2.2⟩
theorem k_ialdr (C : Cx B X own cc nL d) {g f n : Nat} (hI : isI B g f n) {i : Int32} (hd : decode cc pc = .ok (.iaload, 1)) (hin : inb i n) (k : Wk B X nL T (pc + 1) lv (.int (T.1 g f i.toNatClampNeg) :: st)) : Wk B X nL T pc lv (.int i :: .ref (B.1 g f) :: st) := fun H locs ls hH hL hl => by
  obtain ⟨q0, hq, -⟩ := wl_at B T hI.1
  rw [wc_arr hI.2.1, hI.2.2] at hq
  exact va_iald C.1 C.2.1 C.2.2.2.2.2.1.1 hH.1 q0 0 hq rfl hin hd (k H locs ls hH hL hl)
theorem k_iald (C : Cx B X own cc nL d) {g f n : Nat} (hI : isI B g f n) {i : Int32} (hd : decode cc pc = .ok (.iaload, 1)) (h : (if inb i n then a else none) = some res) (k : a = some res → Wk B X nL T (pc + 1) lv (.int (T.1 g f i.toNatClampNeg) :: st)) : Wk B X nL T pc lv (.int i :: .ref (B.1 g f) :: st) := by
  by_cases c : inb i n
  · rw [if_pos c] at h
    exact k_ialdr C hI hd c (k h)
  · rw [if_neg c] at h
    cases h
theorem k_ialdc (C : Cx B X own cc nL d) {g f n : Nat} (hI : isI B g f n) {i : Int32} (j : Nat) (hd : decode cc pc = .ok (.iaload, 1)) (hj : i.toNatClampNeg = j) (c : inb i n) (k : Wk B X nL T (pc + 1) lv (.int (T.1 g f j) :: st)) : Wk B X nL T pc lv (.int i :: .ref (B.1 g f) :: st) := by
  subst hj
  exact k_ialdr C hI hd c k
theorem k_iastr (C : Cx B X own cc nL d) {g f n : Nat} (hI : isI B g f n) {i x : Int32} (hd : decode cc pc = .ok (.iastore, 1)) (hin : inb i n) (k : Wk B X nL (sA T g f i.toNatClampNeg x) (pc + 1) lv st) : Wk B X nL T pc lv (.int x :: .int i :: .ref (B.1 g f) :: st) := fun H locs ls hH hL hl => by
  obtain ⟨q0, hq, hset⟩ := wl_at B T hI.1
  rw [wc_arr hI.2.1, hI.2.2] at hq
  refine va_iast C.1 C.2.1 C.2.2.2.2.2.1.1 hH.1 hH.2.1 (hH.S hL) q0 0 hq rfl hin hd (fun H1 locs1 hP hD hS => ?_)
  have h9 := Hh.back (T' := sA T g f i.toNatClampNeg x) (hset _ (wc_sA hI.2.1)) (by rw [wc_arr hI.2.1, hI.2.2, sA_at]; rfl) hH.2.2.2 hP hD hS
  exact k H1 locs1 ls h9.1 h9.2 hl
theorem k_iast (C : Cx B X own cc nL d) {g f n : Nat} (hI : isI B g f n) {i x : Int32} (hd : decode cc pc = .ok (.iastore, 1)) (h : (if inb i n then a else none) = some res) (k : a = some res → Wk B X nL (sA T g f i.toNatClampNeg x) (pc + 1) lv st) : Wk B X nL T pc lv (.int x :: .int i :: .ref (B.1 g f) :: st) := by
  by_cases c : inb i n
  · rw [if_pos c] at h
    exact k_iastr C hI hd c (k h)
  · rw [if_neg c] at h
    cases h
theorem k_iastc (C : Cx B X own cc nL d) {g f n : Nat} (hI : isI B g f n) {i x : Int32} (j : Nat) (hd : decode cc pc = .ok (.iastore, 1)) (hj : i.toNatClampNeg = j) (c : inb i n) (k : Wk B X nL (sA T g f j x) (pc + 1) lv st) : Wk B X nL T pc lv (.int x :: .int i :: .ref (B.1 g f) :: st) := by
  subst hj
  exact k_iastr C hI hd c k
theorem k_ilen (C : Cx B X own cc nL d) {g f n : Nat} (hI : isI B g f n) (v : Int32) (hd : decode cc pc = .ok (.arraylength, 1)) (hv : Int32.ofNat n = v) (k : Wk B X nL T (pc + 1) lv (.int v :: st)) : Wk B X nL T pc lv (.ref (B.1 g f) :: st) := fun H locs ls hH hL hl => by
  obtain ⟨q0, hq, -⟩ := wl_at B T hI.1
  rw [wc_arr hI.2.1, hI.2.2] at hq
  exact va_alen C.1 C.2.1 C.2.2.2.2.2.1.1 hH.1 q0 0 hq rfl hv hd (k H locs ls hH hL hl)
theorem k_baldr (C : Cx B X own cc nL d) {g f n : Nat} (hI : isB B g f n) {i : Int32} (hd : decode cc pc = .ok (.baload, 1)) (hin : inb i n) (k : Wk B X nL T (pc + 1) lv (.int (T.1 g f i.toNatClampNeg) :: st)) : Wk B X nL T pc lv (.int i :: .ref (B.1 g f) :: st) := fun H locs ls hH hL hl => by
  obtain ⟨q0, hq, -⟩ := wl_at B T hI.1
  rw [wc_arr hI.2.1, hI.2.2] at hq
  exact va_bald C.1 C.2.1 C.2.2.2.2.2.1.1 hH.1 q0 1 hq rfl hin hd (k H locs ls hH hL hl)
theorem k_bald (C : Cx B X own cc nL d) {g f n : Nat} (hI : isB B g f n) {i : Int32} (hd : decode cc pc = .ok (.baload, 1)) (h : (if inb i n then a else none) = some res) (k : a = some res → Wk B X nL T (pc + 1) lv (.int (T.1 g f i.toNatClampNeg) :: st)) : Wk B X nL T pc lv (.int i :: .ref (B.1 g f) :: st) := by
  by_cases c : inb i n
  · rw [if_pos c] at h
    exact k_baldr C hI hd c (k h)
  · rw [if_neg c] at h
    cases h
theorem k_baldc (C : Cx B X own cc nL d) {g f n : Nat} (hI : isB B g f n) {i : Int32} (j : Nat) (hd : decode cc pc = .ok (.baload, 1)) (hj : i.toNatClampNeg = j) (c : inb i n) (k : Wk B X nL T (pc + 1) lv (.int (T.1 g f j) :: st)) : Wk B X nL T pc lv (.int i :: .ref (B.1 g f) :: st) := by
  subst hj
  exact k_baldr C hI hd c k
theorem k_bastr (C : Cx B X own cc nL d) {g f n : Nat} (hI : isB B g f n) {i x : Int32} (hd : decode cc pc = .ok (.bastore, 1)) (hin : inb i n) (k : Wk B X nL (sA T g f i.toNatClampNeg (vp_nar .byte x)) (pc + 1) lv st) : Wk B X nL T pc lv (.int x :: .int i :: .ref (B.1 g f) :: st) := fun H locs ls hH hL hl => by
  obtain ⟨q0, hq, hset⟩ := wl_at B T hI.1
  rw [wc_arr hI.2.1, hI.2.2] at hq
  refine va_bast C.1 C.2.1 C.2.2.2.2.2.1.1 hH.1 hH.2.1 (hH.S hL) q0 1 hq rfl hin hd (fun H1 locs1 hP hD hS => ?_)
  have h9 := Hh.back (T' := sA T g f i.toNatClampNeg (vp_nar .byte x)) (hset _ (wc_sA hI.2.1)) (by rw [wc_arr hI.2.1, hI.2.2, sA_at]; rfl) hH.2.2.2 hP hD hS
  exact k H1 locs1 ls h9.1 h9.2 hl
theorem k_bast (C : Cx B X own cc nL d) {g f n : Nat} (hI : isB B g f n) {i x : Int32} (hd : decode cc pc = .ok (.bastore, 1)) (h : (if inb i n then a else none) = some res) (k : a = some res → Wk B X nL (sA T g f i.toNatClampNeg (vp_nar .byte x)) (pc + 1) lv st) : Wk B X nL T pc lv (.int x :: .int i :: .ref (B.1 g f) :: st) := by
  by_cases c : inb i n
  · rw [if_pos c] at h
    exact k_bastr C hI hd c (k h)
  · rw [if_neg c] at h
    cases h
theorem k_bastc (C : Cx B X own cc nL d) {g f n : Nat} (hI : isB B g f n) {i x : Int32} (j : Nat) (hd : decode cc pc = .ok (.bastore, 1)) (hj : i.toNatClampNeg = j) (c : inb i n) (k : Wk B X nL (sA T g f j (vp_nar .byte x)) (pc + 1) lv st) : Wk B X nL T pc lv (.int x :: .int i :: .ref (B.1 g f) :: st) := by
  subst hj
  exact k_bastr C hI hd c k
theorem k_blen (C : Cx B X own cc nL d) {g f n : Nat} (hI : isB B g f n) (v : Int32) (hd : decode cc pc = .ok (.arraylength, 1)) (hv : Int32.ofNat n = v) (k : Wk B X nL T (pc + 1) lv (.int v :: st)) : Wk B X nL T pc lv (.ref (B.1 g f) :: st) := fun H locs ls hH hL hl => by
  obtain ⟨q0, hq, -⟩ := wl_at B T hI.1
  rw [wc_arr hI.2.1, hI.2.2] at hq
  exact va_alen C.1 C.2.1 C.2.2.2.2.2.1.1 hH.1 q0 1 hq rfl hv hd (k H locs ls hH hL hl)
theorem k_zaldr (C : Cx B X own cc nL d) {g f n : Nat} (hI : isZ B g f n) {i : Int32} (hd : decode cc pc = .ok (.baload, 1)) (hin : inb i n) (k : Wk B X nL T (pc + 1) lv (.int (T.1 g f i.toNatClampNeg) :: st)) : Wk B X nL T pc lv (.int i :: .ref (B.1 g f) :: st) := fun H locs ls hH hL hl => by
  obtain ⟨q0, hq, -⟩ := wl_at B T hI.1
  rw [wc_arr hI.2.1, hI.2.2] at hq
  exact va_zald C.1 C.2.1 C.2.2.2.2.2.1.1 hH.1 q0 2 hq rfl hin hd (k H locs ls hH hL hl)
theorem k_zald (C : Cx B X own cc nL d) {g f n : Nat} (hI : isZ B g f n) {i : Int32} (hd : decode cc pc = .ok (.baload, 1)) (h : (if inb i n then a else none) = some res) (k : a = some res → Wk B X nL T (pc + 1) lv (.int (T.1 g f i.toNatClampNeg) :: st)) : Wk B X nL T pc lv (.int i :: .ref (B.1 g f) :: st) := by
  by_cases c : inb i n
  · rw [if_pos c] at h
    exact k_zaldr C hI hd c (k h)
  · rw [if_neg c] at h
    cases h
theorem k_zaldc (C : Cx B X own cc nL d) {g f n : Nat} (hI : isZ B g f n) {i : Int32} (j : Nat) (hd : decode cc pc = .ok (.baload, 1)) (hj : i.toNatClampNeg = j) (c : inb i n) (k : Wk B X nL T (pc + 1) lv (.int (T.1 g f j) :: st)) : Wk B X nL T pc lv (.int i :: .ref (B.1 g f) :: st) := by
  subst hj
  exact k_zaldr C hI hd c k
theorem k_zastr (C : Cx B X own cc nL d) {g f n : Nat} (hI : isZ B g f n) {i x : Int32} (hd : decode cc pc = .ok (.bastore, 1)) (hin : inb i n) (k : Wk B X nL (sA T g f i.toNatClampNeg (vp_nar .boolean x)) (pc + 1) lv st) : Wk B X nL T pc lv (.int x :: .int i :: .ref (B.1 g f) :: st) := fun H locs ls hH hL hl => by
  obtain ⟨q0, hq, hset⟩ := wl_at B T hI.1
  rw [wc_arr hI.2.1, hI.2.2] at hq
  refine va_zast C.1 C.2.1 C.2.2.2.2.2.1.1 hH.1 hH.2.1 (hH.S hL) q0 2 hq rfl hin hd (fun H1 locs1 hP hD hS => ?_)
  have h9 := Hh.back (T' := sA T g f i.toNatClampNeg (vp_nar .boolean x)) (hset _ (wc_sA hI.2.1)) (by rw [wc_arr hI.2.1, hI.2.2, sA_at]; rfl) hH.2.2.2 hP hD hS
  exact k H1 locs1 ls h9.1 h9.2 hl
theorem k_zast (C : Cx B X own cc nL d) {g f n : Nat} (hI : isZ B g f n) {i x : Int32} (hd : decode cc pc = .ok (.bastore, 1)) (h : (if inb i n then a else none) = some res) (k : a = some res → Wk B X nL (sA T g f i.toNatClampNeg (vp_nar .boolean x)) (pc + 1) lv st) : Wk B X nL T pc lv (.int x :: .int i :: .ref (B.1 g f) :: st) := by
  by_cases c : inb i n
  · rw [if_pos c] at h
    exact k_zastr C hI hd c (k h)
  · rw [if_neg c] at h
    cases h
theorem k_zastc (C : Cx B X own cc nL d) {g f n : Nat} (hI : isZ B g f n) {i x : Int32} (j : Nat) (hd : decode cc pc = .ok (.bastore, 1)) (hj : i.toNatClampNeg = j) (c : inb i n) (k : Wk B X nL (sA T g f j (vp_nar .boolean x)) (pc + 1) lv st) : Wk B X nL T pc lv (.int x :: .int i :: .ref (B.1 g f) :: st) := by
  subst hj
  exact k_zastr C hI hd c k
theorem k_zlen (C : Cx B X own cc nL d) {g f n : Nat} (hI : isZ B g f n) (v : Int32) (hd : decode cc pc = .ok (.arraylength, 1)) (hv : Int32.ofNat n = v) (k : Wk B X nL T (pc + 1) lv (.int v :: st)) : Wk B X nL T pc lv (.ref (B.1 g f) :: st) := fun H locs ls hH hL hl => by
  obtain ⟨q0, hq, -⟩ := wl_at B T hI.1
  rw [wc_arr hI.2.1, hI.2.2] at hq
  exact va_alen C.1 C.2.1 C.2.2.2.2.2.1.1 hH.1 q0 2 hq rfl hv hd (k H locs ls hH hL hl)
theorem k_qaldr (C : Cx B X own cc nL d) {g f t n : Nat} {w : Nat → Nat} (hI : isQ B g f t n w) {ty : FieldType} (ht : (ktys B)[t]? = some (B.2.2.2.1 t, ty)) (hty : ty.isReference = true) {i : Int32} (hd : decode cc pc = .ok (.aaload, 1)) (hin : inb i n) (k : Wk B X nL T (pc + 1) lv (.ref (w i.toNatClampNeg) :: st)) : Wk B X nL T pc lv (.int i :: .ref (B.1 g f) :: st) := fun H locs ls hH hL hl => by
  obtain ⟨q0, hq, -⟩ := wl_at B T hI.1
  rw [wc_arr hI.2.1, hI.2.2] at hq
  have hlt : i.toNatClampNeg < n := Nat.not_le.mp fun q => hin (Or.inr q)
  exact W.aald (v := va_rf (some (w i.toNatClampNeg))) (ty := ty) C.1 C.2.1 (hH.1 q0 _ hq) ((C.2.2.2.2.2.1.1.2 t _ ht).1 n (fun j => va_rf (some (w j)))) hty (fun q => by cases q) (by show ¬ (i < 0 ∨ (arrV _ _ _).slots.size ≤ _); rw [arrV_size]; exact hin) (by show (arrV _ _ _).slots[_]? = _; rw [arrV_read _ _ hlt]) rfl rfl hd (k H locs ls hH hL hl)
theorem k_qald (C : Cx B X own cc nL d) {g f t n : Nat} {w : Nat → Nat} (hI : isQ B g f t n w) {ty : FieldType} (ht : (ktys B)[t]? = some (B.2.2.2.1 t, ty)) (hty : ty.isReference = true) {i : Int32} (hd : decode cc pc = .ok (.aaload, 1)) (h : (if inb i n then a else none) = some res) (k : inb i n → a = some res → Wk B X nL T (pc + 1) lv (.ref (w i.toNatClampNeg) :: st)) : Wk B X nL T pc lv (.int i :: .ref (B.1 g f) :: st) := by
  by_cases c : inb i n
  · rw [if_pos c] at h
    exact k_qaldr C hI ht hty hd c (k c h)
  · rw [if_neg c] at h
    cases h
theorem k_qlen (C : Cx B X own cc nL d) {g f t n : Nat} {w : Nat → Nat} (hI : isQ B g f t n w) {ty : FieldType} (ht : (ktys B)[t]? = some (B.2.2.2.1 t, ty)) (v : Int32) (hd : decode cc pc = .ok (.arraylength, 1)) (hv : Int32.ofNat n = v) (k : Wk B X nL T (pc + 1) lv (.int v :: st)) : Wk B X nL T pc lv (.ref (B.1 g f) :: st) := fun H locs ls hH hL hl => by
  obtain ⟨q0, hq, -⟩ := wl_at B T hI.1
  rw [wc_arr hI.2.1, hI.2.2] at hq
  exact va_alen C.1 C.2.1 C.2.2.2.2.2.1.1 hH.1 q0 t hq ht hv hd (k H locs ls hH hL hl)
theorem k_copy (C : Cx B X own cc nL d) (hdp : 1 ≤ d) {g0 f0 n0 g f n1 idx : Nat} (h0 : isI B g0 f0 n0) (h1 : isI B g f n1) {sp dp n : Int32} (hlink : Cond.methodLink own idx arraycopyName ∈ GW) (hnat : Cond.native arraycopyName ∈ GW) (hstat : Cond.static arraycopyName ∈ GW) (hini : Cond.initialized "java/lang/System" ∈ GW) (hst : (st.map fun v => v.category).sum ≤ 8) (hd : decode cc pc = .ok (.invokestatic idx, 3))
    (h : (if ¬ sp < 0 ∧ ¬ dp < 0 ∧ ¬ n < 0 ∧ sp.toNatClampNeg + n.toNatClampNeg ≤ n0 ∧ dp.toNatClampNeg + n.toNatClampNeg ≤ n1 then a else none) = some res) (k : a = some res → Wk B X nL (cpA T g0 f0 sp.toNatClampNeg g f dp.toNatClampNeg n.toNatClampNeg) (pc + 3) lv st) : Wk B X nL T pc lv (.int n :: .int dp :: .ref (B.1 g f) :: .int sp :: .ref (B.1 g0 f0) :: st) := fun H locs ls hH hL hl => by
  by_cases c : ¬ sp < 0 ∧ ¬ dp < 0 ∧ ¬ n < 0 ∧ sp.toNatClampNeg + n.toNatClampNeg ≤ n0 ∧ dp.toNatClampNeg + n.toNatClampNeg ≤ n1
  · rw [if_pos c] at h
    obtain ⟨q0, hq0, -⟩ := wl_at B T h0.1
    obtain ⟨q1, hq, hset⟩ := wl_at B T h1.1
    rw [wc_arr h0.2.1, h0.2.2] at hq0
    rw [wc_arr h1.2.1, h1.2.2] at hq
    have hts := C.2.2.2.2.1
    refine va_copyi C.1 C.2.1 (by rw [C.2.2.1]; exact hl.1.symm) C.2.2.2.1 (hts _ hlink) (hts _ hnat) (hts _ hstat) (hts _ hini) C.2.2.2.2.2.1.1 hH.1 hH.2.1 (hH.S hL) q0 q1 0 0 (ty := .int) hq0 hq rfl rfl rfl c.1 c.2.1 c.2.2.1 c.2.2.2.1 c.2.2.2.2 (fun _ _ => rfl) (Nat.le_trans hdp C.2.2.2.2.2.2.1) ?_ hd (fun H1 locs1 hP hD hS => ?_)
    · have e : nativeFrameWords "java/lang/System" "arraycopy" 5 + 11 ≤ 56 := by decide
      have e2 := C.2.2.2.2.2.2.2.1
      omega
    · have h9 := Hh.back (T' := cpA T g0 f0 sp.toNatClampNeg g f dp.toNatClampNeg n.toNatClampNeg) (hset _ (wc_cpA h1.2.1)) (by rw [wc_arr h1.2.1, h1.2.2, cpA_at]; rfl) hH.2.2.2 hP hD hS
      exact k h H1 locs1 ls h9.1 h9.2 hl
  · rw [if_neg c] at h
    cases h
theorem k_mmax (C : Cx B X own cc nL d) (hdp : 1 ≤ d) {idx : Nat} {x y : Int32} (hlink : Cond.methodLink own idx Lib.Math.max.name ∈ GW) (hstat : Cond.static Lib.Math.max.name ∈ GW) (hini : Cond.initialized "java/lang/Math" ∈ GW) (hcode : Cond.code Lib.Math.max.name Lib.Math.max.code 2 (some .int) ∈ GW) (hst : (st.map fun v => v.category).sum ≤ 8) (hd : decode cc pc = .ok (.invokestatic idx, 3)) (k : Wk B X nL T (pc + 3) lv (.int (if x < y then y else x) :: st)) : Wk B X nL T pc lv (.int y :: .int x :: st) := fun H locs ls hH hL hl => by
  have hts := C.2.2.2.2.1
  refine va_mmax C.1 C.2.1 (by rw [C.2.2.1]; exact hl.1.symm) C.2.2.2.1 (hts _ hlink) (hts _ hstat) (hts _ hini) (hts _ hcode) (Nat.le_trans hdp C.2.2.2.2.2.2.1) ?_ C.2.2.2.2.2.2.2.2.1 C.2.2.2.2.2.2.2.2.2 hd (k H locs ls hH hL hl)
  have e2 := C.2.2.2.2.2.2.2.1
  omega
theorem k_mmin (C : Cx B X own cc nL d) (hdp : 1 ≤ d) {idx : Nat} {x y : Int32} (hlink : Cond.methodLink own idx Lib.Math.min.name ∈ GW) (hstat : Cond.static Lib.Math.min.name ∈ GW) (hini : Cond.initialized "java/lang/Math" ∈ GW) (hcode : Cond.code Lib.Math.min.name Lib.Math.min.code 2 (some .int) ∈ GW) (hst : (st.map fun v => v.category).sum ≤ 8) (hd : decode cc pc = .ok (.invokestatic idx, 3)) (k : Wk B X nL T (pc + 3) lv (.int (if y < x then y else x) :: st)) : Wk B X nL T pc lv (.int y :: .int x :: st) := fun H locs ls hH hL hl => by
  have hts := C.2.2.2.2.1
  refine va_mmin C.1 C.2.1 (by rw [C.2.2.1]; exact hl.1.symm) C.2.2.2.1 (hts _ hlink) (hts _ hstat) (hts _ hini) (hts _ hcode) (Nat.le_trans hdp C.2.2.2.2.2.2.1) ?_ C.2.2.2.2.2.2.2.2.1 C.2.2.2.2.2.2.2.2.2 hd (k H locs ls hH hL hl)
  have e2 := C.2.2.2.2.2.2.2.1
  omega
theorem k_iret (C : Cx B X own cc nL d) {v r : Int32} {T1 : TT} (E : Cr B X (some .int) (some (.int r)) T1) (hr : v = r) (hT : T = T1) (hd : decode cc pc = .ok (.ireturn, 1)) : Wk B X nL T pc lv [.int v] := fun H locs ls hH hL hl => by
  subst hr; subst hT
  rw [E.2.2]
  exact W.iret C.1 C.2.1 E.1 (fun t ht _ => ⟨rfl, by rw [ht]; exact hH⟩) hL hd E.2.1
theorem k_zret (C : Cx B X own cc nL d) {v r : Int32} {T1 : TT} {ty : FieldType} (E : Cr B X (some ty) (some (.int r)) T1) (hn : narrow ty (.int v) = .int v) (hr : v = r) (hT : T = T1) (hd : decode cc pc = .ok (.ireturn, 1)) : Wk B X nL T pc lv [.int v] := fun H locs ls hH hL hl => by
  subst hr; subst hT
  rw [E.2.2]
  exact W.zret C.1 C.2.1 E.1 hn (fun t ht _ => ⟨rfl, by rw [ht]; exact hH⟩) hL hd E.2.1
theorem k_lret (C : Cx B X own cc nL d) {v r : Int64} {T1 : TT} (E : Cr B X (some .long) (some (.long r)) T1) (hr : v = r) (hT : T = T1) (hd : decode cc pc = .ok (.lreturn, 1)) : Wk B X nL T pc lv [.long v] := fun H locs ls hH hL hl => by
  subst hr; subst hT
  rw [E.2.2]
  exact W.lret C.1 C.2.1 E.1 (fun t ht _ => ⟨rfl, by rw [ht]; exact hH⟩) hL hd E.2.1
theorem k_vret (C : Cx B X own cc nL d) {T1 : TT} (E : Cr B X none none T1) (hT : T = T1) (hd : decode cc pc = .ok (.return_, 1)) : Wk B X nL T pc lv [] := fun H locs ls hH hL hl => by
  subst hT
  rw [E.2.2]
  exact W.vret C.1 C.2.1 E.1 (fun t ht _ => ⟨rfl, by rw [ht]; exact hH⟩) hL hd E.2.1
theorem k_aret (C : Cx B X own cc nL d) {v r : Nat} {T1 : TT} {nm : String} (E : Cr B X (some (.object nm)) (some (.ref r)) T1) (hr : v = r) (hT : T = T1) (hd : decode cc pc = .ok (.areturn, 1)) : Wk B X nL T pc lv [.ref v] := fun H locs ls hH hL hl => by
  subst hr; subst hT
  rw [E.2.2]
  exact W.aret C.1 C.2.1 E.1 (Or.inl ⟨_, rfl⟩) (Or.inr ⟨_, rfl⟩) (fun t ht _ => ⟨rfl, by rw [ht]; exact hH⟩) hL hd E.2.1
theorem k_get (C : Cx B X own cc nL d) {g ci k idx N : Nat} {Cn ref : String} {Tb : u_T} {fs : List Value} {v : Value} (hx : (g, 0) ∈ IX) (hw : wc B T g 0 = .inr (ci, fs)) (hc : vwCl[ci]? = some (Cn, Tb, N)) (hin : ∀ w ∈ u_ws Cn Tb N, w ∈ GW) (hk : k < N) (href : (Tb k).1 = ref) (hlink : Cond.fieldLink own idx ref (Tb k).2.1 (Tb k).2.2.1 ∈ GW) (hv : fs[k]? = some v) (hd : decode cc pc = .ok (.getfield idx, 3)) (kk : Wk B X nL T (pc + 3) lv (v :: st)) : Wk B X nL T pc lv (.ref (B.1 g 0) :: st) := fun H locs ls hH hL hl => by
  subst href
  obtain ⟨q0, hq, -⟩ := wl_at B T hx
  rw [hw] at hq
  exact va_get C.1 C.2.1 C.2.2.2.2.1 hin C.2.2.2.1 C.2.2.2.2.2.1.1 hH.1 q0 hq hc k hk (C.2.2.2.2.1 _ hlink) (fun _ h => h) hv hd (kk H locs ls hH hL hl)
theorem k_put (C : Cx B X own cc nL d) {T' : TT} {g ci k idx N : Nat} {Cn ref : String} {Tb : u_T} {fs : List Value} {v : Value} {ty0 : Nat → FieldType} {ty : FieldType} (hx : (g, 0) ∈ IX) (hw : wc B T g 0 = .inr (ci, fs)) (hc : vwCl[ci]? = some (Cn, Tb, N)) (hin : ∀ w ∈ u_ws Cn Tb N, w ∈ GW) (hty : ∀ k, k < N → parseFieldDescriptor (Tb k).2.2.1 = some (ty0 k)) (hnm : ∀ a, a < N → ∀ b, b < N → a ≠ b → (Tb a).2.1 ≠ (Tb b).2.1) (hk : k < N) (href : (Tb k).1 = ref) (hlink : Cond.fieldLink own idx ref (Tb k).2.1 (Tb k).2.2.1 ∈ GW) (hfin : (Tb k).2.2.2 = false) (hpd : parseFieldDescriptor (Tb k).2.2.1 = some ty) (hn : narrow ty v = v) (hfit : fits ty v = true) (hl9 : k < fs.length)
    (hw' : wc B T' g 0 = .inr (ci, fs.set k v)) (ho : ∀ g' f' : Nat, ¬ (g' = g ∧ f' = 0) → wc B T' g' f' = wc B T g' f') (hkk : kok (T.2.2.2 6).1 (T.2.2.2 6).2 → kok (T'.2.2.2 6).1 (T'.2.2.2 6).2) (hd : decode cc pc = .ok (.putfield idx, 3)) (kk : Wk B X nL T' (pc + 3) lv st) : Wk B X nL T pc lv (v :: .ref (B.1 g 0) :: st) := fun H locs ls hH hL hl => by
  subst href
  obtain ⟨q0, hq, hset⟩ := wl_at B T hx
  rw [hw] at hq
  refine va_put C.1 C.2.1 C.2.2.2.2.1 hin ty0 hty hnm C.2.2.2.1 C.2.2.2.2.2.1.1 hH.1 hH.2.1 (hH.S hL) q0 hq hc k hk (C.2.2.2.2.1 _ hlink) (fun _ h => h) hfin hpd hn hfit hl9 hd (fun H1 locs1 hP hD hS => ?_)
  have h9 := Hh.back (T' := T') (hset _ ho) hw' (hkk hH.2.2.2) hP hD hS
  exact kk H1 locs1 ls h9.1 h9.2 hl
end KR
