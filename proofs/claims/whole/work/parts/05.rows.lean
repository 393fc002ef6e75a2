section ZR
variable {p : Program} {l : Launch} {e : Env} {R : Room} {s : State} {m : MethodId} {args : Array Value} {below : List Frame} {meth : Method} {c : Code} {Q : State → Prop}
variable {G : zG} {sh ad : Nat → Nat} {n : Nat} {M : zMem} {A : Nat → Prop} {own : String} {cc : ByteArray} {nL : Nat} {cells slots : Nat} {pc : Nat} {lv : List (Nat × Value)} {st : List Value}

theorem z_iconst (cx : zX p l s m args meth c G sh ad n A own cc nL) {i : Int} {v : Int32} (hd : decode cc pc = .ok (.iconst i, 1)) (hv : Int32.ofInt i = v) (kk : zJ p l e R s m args below meth c G sh ad n A nL Q cells slots M (pc + 1) lv (.int v :: st)) : zJ p l e R s m args below meth c G sh ad n A nL Q cells slots M pc lv st := fun H locs ls hP hS hl => lv_iconst cx.1.1 cx.1.2.1 hd hv (kk H locs ls hP hS hl)
theorem z_bipush (cx : zX p l s m args meth c G sh ad n A own cc nL) {i : Int} {v : Int32} (hd : decode cc pc = .ok (.bipush i, 2)) (hv : (Int8.ofInt i).toInt32 = v) (kk : zJ p l e R s m args below meth c G sh ad n A nL Q cells slots M (pc + 2) lv (.int v :: st)) : zJ p l e R s m args below meth c G sh ad n A nL Q cells slots M pc lv st := fun H locs ls hP hS hl => lv_bipush cx.1.1 cx.1.2.1 hd hv (kk H locs ls hP hS hl)
theorem z_sipush (cx : zX p l s m args meth c G sh ad n A own cc nL) {i : Int} {v : Int32} (hd : decode cc pc = .ok (.sipush i, 3)) (hv : (Int16.ofInt i).toInt32 = v) (kk : zJ p l e R s m args below meth c G sh ad n A nL Q cells slots M (pc + 3) lv (.int v :: st)) : zJ p l e R s m args below meth c G sh ad n A nL Q cells slots M pc lv st := fun H locs ls hP hS hl => lv_sipush cx.1.1 cx.1.2.1 hd hv (kk H locs ls hP hS hl)
theorem z_lconst (cx : zX p l s m args meth c G sh ad n A own cc nL) {i : Fin 2} {v : Int64} (hd : decode cc pc = .ok (.lconst i, 1)) (hv : Int64.ofNat (i : Nat) = v) (kk : zJ p l e R s m args below meth c G sh ad n A nL Q cells slots M (pc + 1) lv (.long v :: st)) : zJ p l e R s m args below meth c G sh ad n A nL Q cells slots M pc lv st := fun H locs ls hP hS hl => lv_lconst cx.1.1 cx.1.2.1 hd hv (kk H locs ls hP hS hl)
theorem z_iload_n (cx : zX p l s m args meth c G sh ad n A own cc nL) {k : Fin 4} {x : Int32} (hd : decode cc pc = .ok (.iload_n k, 1)) (i : Nat) (hv : lv[i]? = some ((k : Nat), .int x)) (kk : zJ p l e R s m args below meth c G sh ad n A nL Q cells slots M (pc + 1) lv (.int x :: st)) : zJ p l e R s m args below meth c G sh ad n A nL Q cells slots M pc lv st := fun H locs ls hP hS hl => lv_iload_n cx.1.1 cx.1.2.1 hd rfl (lv_at hl i hv) (kk H locs ls hP hS hl)
theorem z_iload (cx : zX p l s m args meth c G sh ad n A own cc nL) {k : Nat} {x : Int32} (hd : decode cc pc = .ok (.iload k, 2)) (i : Nat) (hv : lv[i]? = some (k, .int x)) (kk : zJ p l e R s m args below meth c G sh ad n A nL Q cells slots M (pc + 2) lv (.int x :: st)) : zJ p l e R s m args below meth c G sh ad n A nL Q cells slots M pc lv st := fun H locs ls hP hS hl => lv_iload cx.1.1 cx.1.2.1 hd (lv_at hl i hv) (kk H locs ls hP hS hl)
theorem z_istore_n (cx : zX p l s m args meth c G sh ad n A own cc nL) {k0 : Fin 4} {x : Int32} (k : Nat) (lv2 : List (Nat × Value)) (hd : decode cc pc = .ok (.istore_n k0, 1)) (hk : (k0 : Nat) = k) (hn : k < nL) (hv : (k, Value.int x) :: lv.filter (fun q => !(q.1 == k) && !(q.1 + 1 == k && q.2.category == 2)) = lv2) (kk : zJ p l e R s m args below meth c G sh ad n A nL Q cells slots M (pc + 1) lv2 st) : zJ p l e R s m args below meth c G sh ad n A nL Q cells slots M pc lv (.int x :: st) := fun H locs ls hP hS hl => lv_istore_n cx.1.1 cx.1.2.1 hd hk hl hn hv (fun ls2 hl2 => kk H locs ls2 hP hS hl2)
theorem z_istore (cx : zX p l s m args meth c G sh ad n A own cc nL) {x : Int32} (k : Nat) (lv2 : List (Nat × Value)) (hd : decode cc pc = .ok (.istore k, 2)) (hn : k < nL) (hv : (k, Value.int x) :: lv.filter (fun q => !(q.1 == k) && !(q.1 + 1 == k && q.2.category == 2)) = lv2) (kk : zJ p l e R s m args below meth c G sh ad n A nL Q cells slots M (pc + 2) lv2 st) : zJ p l e R s m args below meth c G sh ad n A nL Q cells slots M pc lv (.int x :: st) := fun H locs ls hP hS hl => lv_istore cx.1.1 cx.1.2.1 hd hl hn hv (fun ls2 hl2 => kk H locs ls2 hP hS hl2)
theorem z_lload_n (cx : zX p l s m args meth c G sh ad n A own cc nL) {k : Fin 4} {x : Int64} (hd : decode cc pc = .ok (.lload_n k, 1)) (i : Nat) (hv : lv[i]? = some ((k : Nat), .long x)) (kk : zJ p l e R s m args below meth c G sh ad n A nL Q cells slots M (pc + 1) lv (.long x :: st)) : zJ p l e R s m args below meth c G sh ad n A nL Q cells slots M pc lv st := fun H locs ls hP hS hl => lv_lload_n cx.1.1 cx.1.2.1 hd rfl (lv_at hl i hv) (kk H locs ls hP hS hl)
theorem z_lload (cx : zX p l s m args meth c G sh ad n A own cc nL) {k : Nat} {x : Int64} (hd : decode cc pc = .ok (.lload k, 2)) (i : Nat) (hv : lv[i]? = some (k, .long x)) (kk : zJ p l e R s m args below meth c G sh ad n A nL Q cells slots M (pc + 2) lv (.long x :: st)) : zJ p l e R s m args below meth c G sh ad n A nL Q cells slots M pc lv st := fun H locs ls hP hS hl => lv_lload cx.1.1 cx.1.2.1 hd (lv_at hl i hv) (kk H locs ls hP hS hl)
theorem z_lstore_n (cx : zX p l s m args meth c G sh ad n A own cc nL) {k0 : Fin 4} {x : Int64} (k : Nat) (lv2 : List (Nat × Value)) (hd : decode cc pc = .ok (.lstore_n k0, 1)) (hk : (k0 : Nat) = k) (hn : k + 1 < nL) (hv : (k, Value.long x) :: lv.filter (fun q => !(q.1 == k) && (!(q.1 == k + 1) && !(q.1 + 1 == k && q.2.category == 2))) = lv2) (kk : zJ p l e R s m args below meth c G sh ad n A nL Q cells slots M (pc + 1) lv2 st) : zJ p l e R s m args below meth c G sh ad n A nL Q cells slots M pc lv (.long x :: st) := fun H locs ls hP hS hl => lv_lstore_n cx.1.1 cx.1.2.1 hd hk hl hn hv (fun ls2 hl2 => kk H locs ls2 hP hS hl2)
theorem z_lstore (cx : zX p l s m args meth c G sh ad n A own cc nL) {x : Int64} (k : Nat) (lv2 : List (Nat × Value)) (hd : decode cc pc = .ok (.lstore k, 2)) (hn : k + 1 < nL) (hv : (k, Value.long x) :: lv.filter (fun q => !(q.1 == k) && (!(q.1 == k + 1) && !(q.1 + 1 == k && q.2.category == 2))) = lv2) (kk : zJ p l e R s m args below meth c G sh ad n A nL Q cells slots M (pc + 2) lv2 st) : zJ p l e R s m args below meth c G sh ad n A nL Q cells slots M pc lv (.long x :: st) := fun H locs ls hP hS hl => lv_lstore cx.1.1 cx.1.2.1 hd hl hn hv (fun ls2 hl2 => kk H locs ls2 hP hS hl2)
theorem z_aload_n (cx : zX p l s m args meth c G sh ad n A own cc nL) {k : Fin 4} {x : Nat} (hd : decode cc pc = .ok (.aload_n k, 1)) (i : Nat) (hv : lv[i]? = some ((k : Nat), .ref x)) (kk : zJ p l e R s m args below meth c G sh ad n A nL Q cells slots M (pc + 1) lv (.ref x :: st)) : zJ p l e R s m args below meth c G sh ad n A nL Q cells slots M pc lv st := fun H locs ls hP hS hl => lv_aload_n cx.1.1 cx.1.2.1 hd rfl (lv_at hl i hv) (kk H locs ls hP hS hl)
theorem z_aload (cx : zX p l s m args meth c G sh ad n A own cc nL) {k : Nat} {x : Nat} (hd : decode cc pc = .ok (.aload k, 2)) (i : Nat) (hv : lv[i]? = some (k, .ref x)) (kk : zJ p l e R s m args below meth c G sh ad n A nL Q cells slots M (pc + 2) lv (.ref x :: st)) : zJ p l e R s m args below meth c G sh ad n A nL Q cells slots M pc lv st := fun H locs ls hP hS hl => lv_aload cx.1.1 cx.1.2.1 hd (lv_at hl i hv) (kk H locs ls hP hS hl)
theorem z_astore_n (cx : zX p l s m args meth c G sh ad n A own cc nL) {k0 : Fin 4} {x : Nat} (k : Nat) (lv2 : List (Nat × Value)) (hd : decode cc pc = .ok (.astore_n k0, 1)) (hk : (k0 : Nat) = k) (hn : k < nL) (hv : (k, Value.ref x) :: lv.filter (fun q => !(q.1 == k) && !(q.1 + 1 == k && q.2.category == 2)) = lv2) (kk : zJ p l e R s m args below meth c G sh ad n A nL Q cells slots M (pc + 1) lv2 st) : zJ p l e R s m args below meth c G sh ad n A nL Q cells slots M pc lv (.ref x :: st) := fun H locs ls hP hS hl => lv_astore_n cx.1.1 cx.1.2.1 hd hk hl hn hv (fun ls2 hl2 => kk H locs ls2 hP hS hl2)
theorem z_astore (cx : zX p l s m args meth c G sh ad n A own cc nL) {x : Nat} (k : Nat) (lv2 : List (Nat × Value)) (hd : decode cc pc = .ok (.astore k, 2)) (hn : k < nL) (hv : (k, Value.ref x) :: lv.filter (fun q => !(q.1 == k) && !(q.1 + 1 == k && q.2.category == 2)) = lv2) (kk : zJ p l e R s m args below meth c G sh ad n A nL Q cells slots M (pc + 2) lv2 st) : zJ p l e R s m args below meth c G sh ad n A nL Q cells slots M pc lv (.ref x :: st) := fun H locs ls hP hS hl => lv_astore cx.1.1 cx.1.2.1 hd hl hn hv (fun ls2 hl2 => kk H locs ls2 hP hS hl2)
theorem z_iinc (cx : zX p l s m args meth c G sh ad n A own cc nL) {i : Int} {x : Int32} (k : Nat) (ci : Int32) (lv2 : List (Nat × Value)) (hd : decode cc pc = .ok (.iinc k i, 3)) (j : Nat) (hj : lv[j]? = some (k, .int x)) (hi : Int32.ofInt i = ci) (hn : k < nL) (hv : (k, Value.int (x + ci)) :: lv.filter (fun q => !(q.1 == k) && !(q.1 + 1 == k && q.2.category == 2)) = lv2) (kk : zJ p l e R s m args below meth c G sh ad n A nL Q cells slots M (pc + 3) lv2 st) : zJ p l e R s m args below meth c G sh ad n A nL Q cells slots M pc lv st := fun H locs ls hP hS hl => lv_iinc cx.1.1 cx.1.2.1 hd hl hj (by rw [hi]) hn hv (fun ls2 hl2 => kk H locs ls2 hP hS hl2)
theorem z_iadd (cx : zX p l s m args meth c G sh ad n A own cc nL) {x y : Int32} (hd : decode cc pc = .ok (.iadd, 1)) (kk : zJ p l e R s m args below meth c G sh ad n A nL Q cells slots M (pc + 1) lv (.int (x + y) :: st)) : zJ p l e R s m args below meth c G sh ad n A nL Q cells slots M pc lv (.int y :: .int x :: st) := fun H locs ls hP hS hl => lv_iadd cx.1.1 cx.1.2.1 hd (kk H locs ls hP hS hl)
theorem z_isub (cx : zX p l s m args meth c G sh ad n A own cc nL) {x y : Int32} (hd : decode cc pc = .ok (.isub, 1)) (kk : zJ p l e R s m args below meth c G sh ad n A nL Q cells slots M (pc + 1) lv (.int (x - y) :: st)) : zJ p l e R s m args below meth c G sh ad n A nL Q cells slots M pc lv (.int y :: .int x :: st) := fun H locs ls hP hS hl => lv_isub cx.1.1 cx.1.2.1 hd (kk H locs ls hP hS hl)
theorem z_imul (cx : zX p l s m args meth c G sh ad n A own cc nL) {x y : Int32} (hd : decode cc pc = .ok (.imul, 1)) (kk : zJ p l e R s m args below meth c G sh ad n A nL Q cells slots M (pc + 1) lv (.int (x * y) :: st)) : zJ p l e R s m args below meth c G sh ad n A nL Q cells slots M pc lv (.int y :: .int x :: st) := fun H locs ls hP hS hl => lv_imul cx.1.1 cx.1.2.1 hd (kk H locs ls hP hS hl)
theorem z_iand (cx : zX p l s m args meth c G sh ad n A own cc nL) {x y : Int32} (hd : decode cc pc = .ok (.iand, 1)) (kk : zJ p l e R s m args below meth c G sh ad n A nL Q cells slots M (pc + 1) lv (.int (x &&& y) :: st)) : zJ p l e R s m args below meth c G sh ad n A nL Q cells slots M pc lv (.int y :: .int x :: st) := fun H locs ls hP hS hl => lv_iand cx.1.1 cx.1.2.1 hd (kk H locs ls hP hS hl)
theorem z_ior (cx : zX p l s m args meth c G sh ad n A own cc nL) {x y : Int32} (hd : decode cc pc = .ok (.ior, 1)) (kk : zJ p l e R s m args below meth c G sh ad n A nL Q cells slots M (pc + 1) lv (.int (x ||| y) :: st)) : zJ p l e R s m args below meth c G sh ad n A nL Q cells slots M pc lv (.int y :: .int x :: st) := fun H locs ls hP hS hl => lv_ior cx.1.1 cx.1.2.1 hd (kk H locs ls hP hS hl)
theorem z_ixor (cx : zX p l s m args meth c G sh ad n A own cc nL) {x y : Int32} (hd : decode cc pc = .ok (.ixor, 1)) (kk : zJ p l e R s m args below meth c G sh ad n A nL Q cells slots M (pc + 1) lv (.int (x ^^^ y) :: st)) : zJ p l e R s m args below meth c G sh ad n A nL Q cells slots M pc lv (.int y :: .int x :: st) := fun H locs ls hP hS hl => lv_ixor cx.1.1 cx.1.2.1 hd (kk H locs ls hP hS hl)
theorem z_ishl (cx : zX p l s m args meth c G sh ad n A own cc nL) {x y : Int32} (hd : decode cc pc = .ok (.ishl, 1)) (kk : zJ p l e R s m args below meth c G sh ad n A nL Q cells slots M (pc + 1) lv (.int (x <<< (y &&& 31)) :: st)) : zJ p l e R s m args below meth c G sh ad n A nL Q cells slots M pc lv (.int y :: .int x :: st) := fun H locs ls hP hS hl => lv_ishl cx.1.1 cx.1.2.1 hd (kk H locs ls hP hS hl)
theorem z_ishr (cx : zX p l s m args meth c G sh ad n A own cc nL) {x y : Int32} (hd : decode cc pc = .ok (.ishr, 1)) (kk : zJ p l e R s m args below meth c G sh ad n A nL Q cells slots M (pc + 1) lv (.int (x >>> (y &&& 31)) :: st)) : zJ p l e R s m args below meth c G sh ad n A nL Q cells slots M pc lv (.int y :: .int x :: st) := fun H locs ls hP hS hl => lv_ishr cx.1.1 cx.1.2.1 hd (kk H locs ls hP hS hl)
theorem z_land (cx : zX p l s m args meth c G sh ad n A own cc nL) {x y : Int64} (hd : decode cc pc = .ok (.land, 1)) (kk : zJ p l e R s m args below meth c G sh ad n A nL Q cells slots M (pc + 1) lv (.long (x &&& y) :: st)) : zJ p l e R s m args below meth c G sh ad n A nL Q cells slots M pc lv (.long y :: .long x :: st) := fun H locs ls hP hS hl => lv_land cx.1.1 cx.1.2.1 hd (kk H locs ls hP hS hl)
theorem z_lor (cx : zX p l s m args meth c G sh ad n A own cc nL) {x y : Int64} (hd : decode cc pc = .ok (.lor, 1)) (kk : zJ p l e R s m args below meth c G sh ad n A nL Q cells slots M (pc + 1) lv (.long (x ||| y) :: st)) : zJ p l e R s m args below meth c G sh ad n A nL Q cells slots M pc lv (.long y :: .long x :: st) := fun H locs ls hP hS hl => lv_lor cx.1.1 cx.1.2.1 hd (kk H locs ls hP hS hl)
theorem z_lxor (cx : zX p l s m args meth c G sh ad n A own cc nL) {x y : Int64} (hd : decode cc pc = .ok (.lxor, 1)) (kk : zJ p l e R s m args below meth c G sh ad n A nL Q cells slots M (pc + 1) lv (.long (x ^^^ y) :: st)) : zJ p l e R s m args below meth c G sh ad n A nL Q cells slots M pc lv (.long y :: .long x :: st) := fun H locs ls hP hS hl => lv_lxor cx.1.1 cx.1.2.1 hd (kk H locs ls hP hS hl)
theorem z_ladd (cx : zX p l s m args meth c G sh ad n A own cc nL) {x y : Int64} (hd : decode cc pc = .ok (.ladd, 1)) (kk : zJ p l e R s m args below meth c G sh ad n A nL Q cells slots M (pc + 1) lv (.long (x + y) :: st)) : zJ p l e R s m args below meth c G sh ad n A nL Q cells slots M pc lv (.long y :: .long x :: st) := fun H locs ls hP hS hl => lv_ladd cx.1.1 cx.1.2.1 hd (kk H locs ls hP hS hl)
theorem z_lsub (cx : zX p l s m args meth c G sh ad n A own cc nL) {x y : Int64} (hd : decode cc pc = .ok (.lsub, 1)) (kk : zJ p l e R s m args below meth c G sh ad n A nL Q cells slots M (pc + 1) lv (.long (x - y) :: st)) : zJ p l e R s m args below meth c G sh ad n A nL Q cells slots M pc lv (.long y :: .long x :: st) := fun H locs ls hP hS hl => lv_lsub cx.1.1 cx.1.2.1 hd (kk H locs ls hP hS hl)
theorem z_idiv (cx : zX p l s m args meth c G sh ad n A own cc nL) {x y : Int32} (hd : decode cc pc = .ok (.idiv, 1)) (hne : ¬ y = 0) (kk : zJ p l e R s m args below meth c G sh ad n A nL Q cells slots M (pc + 1) lv (.int (x / y) :: st)) : zJ p l e R s m args below meth c G sh ad n A nL Q cells slots M pc lv (.int y :: .int x :: st) := fun H locs ls hP hS hl => lv_idiv cx.1.1 cx.1.2.1 hd hne (kk H locs ls hP hS hl)
theorem z_irem (cx : zX p l s m args meth c G sh ad n A own cc nL) {x y : Int32} (hd : decode cc pc = .ok (.irem, 1)) (hne : ¬ y = 0) (kk : zJ p l e R s m args below meth c G sh ad n A nL Q cells slots M (pc + 1) lv (.int (x - x / y * y) :: st)) : zJ p l e R s m args below meth c G sh ad n A nL Q cells slots M pc lv (.int y :: .int x :: st) := fun H locs ls hP hS hl => lv_irem cx.1.1 cx.1.2.1 hd hne (kk H locs ls hP hS hl)
theorem z_ineg (cx : zX p l s m args meth c G sh ad n A own cc nL) {x : Int32} (hd : decode cc pc = .ok (.ineg, 1)) (kk : zJ p l e R s m args below meth c G sh ad n A nL Q cells slots M (pc + 1) lv (.int (-x) :: st)) : zJ p l e R s m args below meth c G sh ad n A nL Q cells slots M pc lv (.int x :: st) := fun H locs ls hP hS hl => lv_ineg cx.1.1 cx.1.2.1 hd (kk H locs ls hP hS hl)
theorem z_iushr (cx : zX p l s m args meth c G sh ad n A own cc nL) {x y : Int32} (hd : decode cc pc = .ok (.iushr, 1)) (kk : zJ p l e R s m args below meth c G sh ad n A nL Q cells slots M (pc + 1) lv (.int (x.toUInt32 >>> (y.toUInt32 &&& Int32.toUInt32 31)).toInt32 :: st)) : zJ p l e R s m args below meth c G sh ad n A nL Q cells slots M pc lv (.int y :: .int x :: st) := fun H locs ls hP hS hl => lv_iushr cx.1.1 cx.1.2.1 hd rfl (kk H locs ls hP hS hl)
theorem z_lushr (cx : zX p l s m args meth c G sh ad n A own cc nL) {x : Int64} {y : Int32} (hd : decode cc pc = .ok (.lushr, 1)) (kk : zJ p l e R s m args below meth c G sh ad n A nL Q cells slots M (pc + 1) lv (.long (x.toUInt64 >>> (y.toInt64.toUInt64 &&& Int64.toUInt64 63)).toInt64 :: st)) : zJ p l e R s m args below meth c G sh ad n A nL Q cells slots M pc lv (.int y :: .long x :: st) := fun H locs ls hP hS hl => lv_lushr cx.1.1 cx.1.2.1 hd rfl (kk H locs ls hP hS hl)
theorem z_lshl (cx : zX p l s m args meth c G sh ad n A own cc nL) {x : Int64} {y : Int32} (hd : decode cc pc = .ok (.lshl, 1)) (kk : zJ p l e R s m args below meth c G sh ad n A nL Q cells slots M (pc + 1) lv (.long (x <<< (y.toInt64 &&& 63)) :: st)) : zJ p l e R s m args below meth c G sh ad n A nL Q cells slots M pc lv (.int y :: .long x :: st) := fun H locs ls hP hS hl => lv_lshl cx.1.1 cx.1.2.1 hd rfl (kk H locs ls hP hS hl)
theorem z_i2l (cx : zX p l s m args meth c G sh ad n A own cc nL) {x : Int32} (hd : decode cc pc = .ok (.i2l, 1)) (kk : zJ p l e R s m args below meth c G sh ad n A nL Q cells slots M (pc + 1) lv (.long x.toInt64 :: st)) : zJ p l e R s m args below meth c G sh ad n A nL Q cells slots M pc lv (.int x :: st) := fun H locs ls hP hS hl => lv_i2l cx.1.1 cx.1.2.1 hd rfl (kk H locs ls hP hS hl)
theorem z_l2i (cx : zX p l s m args meth c G sh ad n A own cc nL) {x : Int64} (hd : decode cc pc = .ok (.l2i, 1)) (kk : zJ p l e R s m args below meth c G sh ad n A nL Q cells slots M (pc + 1) lv (.int x.toInt32 :: st)) : zJ p l e R s m args below meth c G sh ad n A nL Q cells slots M pc lv (.long x :: st) := fun H locs ls hP hS hl => lv_l2i cx.1.1 cx.1.2.1 hd rfl (kk H locs ls hP hS hl)
theorem z_lcmp (cx : zX p l s m args meth c G sh ad n A own cc nL) {x y : Int64} (hd : decode cc pc = .ok (.lcmp, 1)) (kk : zJ p l e R s m args below meth c G sh ad n A nL Q cells slots M (pc + 1) lv (.int (lg_cmp x y) :: st)) : zJ p l e R s m args below meth c G sh ad n A nL Q cells slots M pc lv (.long y :: .long x :: st) := fun H locs ls hP hS hl => W.lcmp cx.1.1 cx.1.2.1 hd (kk H locs ls hP hS hl)
theorem z_dup (cx : zX p l s m args meth c G sh ad n A own cc nL) {va : Value} (hd : decode cc pc = .ok (.dup, 1)) (h1 : va.category = 1) (kk : zJ p l e R s m args below meth c G sh ad n A nL Q cells slots M (pc + 1) lv (va :: va :: st)) : zJ p l e R s m args below meth c G sh ad n A nL Q cells slots M pc lv (va :: st) := fun H locs ls hP hS hl => lv_dup cx.1.1 cx.1.2.1 hd h1 (kk H locs ls hP hS hl)
theorem z_pop (cx : zX p l s m args meth c G sh ad n A own cc nL) {va : Value} (hd : decode cc pc = .ok (.pop, 1)) (h1 : va.category = 1) (kk : zJ p l e R s m args below meth c G sh ad n A nL Q cells slots M (pc + 1) lv st) : zJ p l e R s m args below meth c G sh ad n A nL Q cells slots M pc lv (va :: st) := fun H locs ls hP hS hl => lv_pop cx.1.1 cx.1.2.1 hd h1 (kk H locs ls hP hS hl)
theorem z_dup2 (cx : zX p l s m args meth c G sh ad n A own cc nL) {va vb : Value} (hd : decode cc pc = .ok (.dup2, 1)) (h1 : va.category = 1) (h2 : vb.category = 1) (kk : zJ p l e R s m args below meth c G sh ad n A nL Q cells slots M (pc + 1) lv (va :: vb :: va :: vb :: st)) : zJ p l e R s m args below meth c G sh ad n A nL Q cells slots M pc lv (va :: vb :: st) := fun H locs ls hP hS hl => lv_dup2_11 cx.1.1 cx.1.2.1 hd h1 h2 (kk H locs ls hP hS hl)
theorem z_goto (cx : zX p l s m args meth c G sh ad n A own cc nL) {off : Int} (tgt : Nat) (hd : decode cc pc = .ok (.goto off, 3)) (ht : (pc : Int) + off = (tgt : Int)) (kk : zJ p l e R s m args below meth c G sh ad n A nL Q cells slots M tgt lv st) : zJ p l e R s m args below meth c G sh ad n A nL Q cells slots M pc lv st := fun H locs ls hP hS hl => lv_goto cx.1.1 cx.1.2.1 hd ht (kk H locs ls hP hS hl)
theorem z_if_eq (cx : zX p l s m args meth c G sh ad n A own cc nL) {x : Int32} {off : Int} {al : Type} {F1 F2 : Option al} {res : al} (tgt : Nat) (hd : decode cc pc = .ok (.ifCond .eq off, 3)) (ht : (pc : Int) + off = (tgt : Int)) (hF : (if x = 0 then F1 else F2) = some res) (kt : F1 = some res → zJ p l e R s m args below meth c G sh ad n A nL Q cells slots M tgt lv st) (kf : F2 = some res → zJ p l e R s m args below meth c G sh ad n A nL Q cells slots M (pc + 3) lv st) : zJ p l e R s m args below meth c G sh ad n A nL Q cells slots M pc lv (.int x :: st) := by
  intro H locs ls hP hS hl
  refine lv_if_eq cx.1.1 cx.1.2.1 hd ht (fun q => ?_) (fun q => ?_)
  · have q2 : x = 0 := q
    exact kt (by rw [if_pos q2] at hF; exact hF) H locs ls hP hS hl
  · have q2 : ¬ (x = 0) := q
    exact kf (by rw [if_neg q2] at hF; exact hF) H locs ls hP hS hl
theorem z_icmp_eq (cx : zX p l s m args meth c G sh ad n A own cc nL) {x y : Int32} {off : Int} {al : Type} {F1 F2 : Option al} {res : al} (tgt : Nat) (hd : decode cc pc = .ok (.if_icmp .eq off, 3)) (ht : (pc : Int) + off = (tgt : Int)) (hF : (if x = y then F1 else F2) = some res) (kt : F1 = some res → zJ p l e R s m args below meth c G sh ad n A nL Q cells slots M tgt lv st) (kf : F2 = some res → zJ p l e R s m args below meth c G sh ad n A nL Q cells slots M (pc + 3) lv st) : zJ p l e R s m args below meth c G sh ad n A nL Q cells slots M pc lv (.int y :: .int x :: st) := by
  intro H locs ls hP hS hl
  refine lv_icmp_eq cx.1.1 cx.1.2.1 hd ht (fun q => ?_) (fun q => ?_)
  · have q2 : x = y := q
    exact kt (by rw [if_pos q2] at hF; exact hF) H locs ls hP hS hl
  · have q2 : ¬ (x = y) := q
    exact kf (by rw [if_neg q2] at hF; exact hF) H locs ls hP hS hl
theorem z_if_ne (cx : zX p l s m args meth c G sh ad n A own cc nL) {x : Int32} {off : Int} {al : Type} {F1 F2 : Option al} {res : al} (tgt : Nat) (hd : decode cc pc = .ok (.ifCond .ne off, 3)) (ht : (pc : Int) + off = (tgt : Int)) (hF : (if x = 0 then F2 else F1) = some res) (kt : F1 = some res → zJ p l e R s m args below meth c G sh ad n A nL Q cells slots M tgt lv st) (kf : F2 = some res → zJ p l e R s m args below meth c G sh ad n A nL Q cells slots M (pc + 3) lv st) : zJ p l e R s m args below meth c G sh ad n A nL Q cells slots M pc lv (.int x :: st) := by
  intro H locs ls hP hS hl
  refine lv_if_ne cx.1.1 cx.1.2.1 hd ht (fun q => ?_) (fun q => ?_)
  · exact kt (by rw [if_neg q] at hF; exact hF) H locs ls hP hS hl
  · exact kf (by rw [if_pos q] at hF; exact hF) H locs ls hP hS hl
theorem z_icmp_ne (cx : zX p l s m args meth c G sh ad n A own cc nL) {x y : Int32} {off : Int} {al : Type} {F1 F2 : Option al} {res : al} (tgt : Nat) (hd : decode cc pc = .ok (.if_icmp .ne off, 3)) (ht : (pc : Int) + off = (tgt : Int)) (hF : (if x = y then F2 else F1) = some res) (kt : F1 = some res → zJ p l e R s m args below meth c G sh ad n A nL Q cells slots M tgt lv st) (kf : F2 = some res → zJ p l e R s m args below meth c G sh ad n A nL Q cells slots M (pc + 3) lv st) : zJ p l e R s m args below meth c G sh ad n A nL Q cells slots M pc lv (.int y :: .int x :: st) := by
  intro H locs ls hP hS hl
  refine lv_icmp_ne cx.1.1 cx.1.2.1 hd ht (fun q => ?_) (fun q => ?_)
  · exact kt (by rw [if_neg q] at hF; exact hF) H locs ls hP hS hl
  · exact kf (by rw [if_pos q] at hF; exact hF) H locs ls hP hS hl
theorem z_if_lt (cx : zX p l s m args meth c G sh ad n A own cc nL) {x : Int32} {off : Int} {al : Type} {F1 F2 : Option al} {res : al} (tgt : Nat) (hd : decode cc pc = .ok (.ifCond .lt off, 3)) (ht : (pc : Int) + off = (tgt : Int)) (hF : (if x < 0 then F1 else F2) = some res) (kt : F1 = some res → zJ p l e R s m args below meth c G sh ad n A nL Q cells slots M tgt lv st) (kf : F2 = some res → zJ p l e R s m args below meth c G sh ad n A nL Q cells slots M (pc + 3) lv st) : zJ p l e R s m args below meth c G sh ad n A nL Q cells slots M pc lv (.int x :: st) := by
  intro H locs ls hP hS hl
  refine lv_if_lt cx.1.1 cx.1.2.1 hd ht (fun q => ?_) (fun q => ?_)
  · have q2 : x < 0 := q
    exact kt (by rw [if_pos q2] at hF; exact hF) H locs ls hP hS hl
  · have q2 : ¬ (x < 0) := q
    exact kf (by rw [if_neg q2] at hF; exact hF) H locs ls hP hS hl
theorem z_icmp_lt (cx : zX p l s m args meth c G sh ad n A own cc nL) {x y : Int32} {off : Int} {al : Type} {F1 F2 : Option al} {res : al} (tgt : Nat) (hd : decode cc pc = .ok (.if_icmp .lt off, 3)) (ht : (pc : Int) + off = (tgt : Int)) (hF : (if x < y then F1 else F2) = some res) (kt : F1 = some res → zJ p l e R s m args below meth c G sh ad n A nL Q cells slots M tgt lv st) (kf : F2 = some res → zJ p l e R s m args below meth c G sh ad n A nL Q cells slots M (pc + 3) lv st) : zJ p l e R s m args below meth c G sh ad n A nL Q cells slots M pc lv (.int y :: .int x :: st) := by
  intro H locs ls hP hS hl
  refine lv_icmp_lt cx.1.1 cx.1.2.1 hd ht (fun q => ?_) (fun q => ?_)
  · have q2 : x < y := q
    exact kt (by rw [if_pos q2] at hF; exact hF) H locs ls hP hS hl
  · have q2 : ¬ (x < y) := q
    exact kf (by rw [if_neg q2] at hF; exact hF) H locs ls hP hS hl
theorem z_if_ge (cx : zX p l s m args meth c G sh ad n A own cc nL) {x : Int32} {off : Int} {al : Type} {F1 F2 : Option al} {res : al} (tgt : Nat) (hd : decode cc pc = .ok (.ifCond .ge off, 3)) (ht : (pc : Int) + off = (tgt : Int)) (hF : (if 0 ≤ x then F1 else F2) = some res) (kt : F1 = some res → zJ p l e R s m args below meth c G sh ad n A nL Q cells slots M tgt lv st) (kf : F2 = some res → zJ p l e R s m args below meth c G sh ad n A nL Q cells slots M (pc + 3) lv st) : zJ p l e R s m args below meth c G sh ad n A nL Q cells slots M pc lv (.int x :: st) := by
  intro H locs ls hP hS hl
  refine lv_if_ge cx.1.1 cx.1.2.1 hd ht (fun q => ?_) (fun q => ?_)
  · have q2 : 0 ≤ x := q
    exact kt (by rw [if_pos q2] at hF; exact hF) H locs ls hP hS hl
  · have q2 : ¬ (0 ≤ x) := q
    exact kf (by rw [if_neg q2] at hF; exact hF) H locs ls hP hS hl
theorem z_icmp_ge (cx : zX p l s m args meth c G sh ad n A own cc nL) {x y : Int32} {off : Int} {al : Type} {F1 F2 : Option al} {res : al} (tgt : Nat) (hd : decode cc pc = .ok (.if_icmp .ge off, 3)) (ht : (pc : Int) + off = (tgt : Int)) (hF : (if y ≤ x then F1 else F2) = some res) (kt : F1 = some res → zJ p l e R s m args below meth c G sh ad n A nL Q cells slots M tgt lv st) (kf : F2 = some res → zJ p l e R s m args below meth c G sh ad n A nL Q cells slots M (pc + 3) lv st) : zJ p l e R s m args below meth c G sh ad n A nL Q cells slots M pc lv (.int y :: .int x :: st) := by
  intro H locs ls hP hS hl
  refine lv_icmp_ge cx.1.1 cx.1.2.1 hd ht (fun q => ?_) (fun q => ?_)
  · have q2 : y ≤ x := q
    exact kt (by rw [if_pos q2] at hF; exact hF) H locs ls hP hS hl
  · have q2 : ¬ (y ≤ x) := q
    exact kf (by rw [if_neg q2] at hF; exact hF) H locs ls hP hS hl
theorem z_if_gt (cx : zX p l s m args meth c G sh ad n A own cc nL) {x : Int32} {off : Int} {al : Type} {F1 F2 : Option al} {res : al} (tgt : Nat) (hd : decode cc pc = .ok (.ifCond .gt off, 3)) (ht : (pc : Int) + off = (tgt : Int)) (hF : (if 0 < x then F1 else F2) = some res) (kt : F1 = some res → zJ p l e R s m args below meth c G sh ad n A nL Q cells slots M tgt lv st) (kf : F2 = some res → zJ p l e R s m args below meth c G sh ad n A nL Q cells slots M (pc + 3) lv st) : zJ p l e R s m args below meth c G sh ad n A nL Q cells slots M pc lv (.int x :: st) := by
  intro H locs ls hP hS hl
  refine lv_if_gt cx.1.1 cx.1.2.1 hd ht (fun q => ?_) (fun q => ?_)
  · have q2 : 0 < x := q
    exact kt (by rw [if_pos q2] at hF; exact hF) H locs ls hP hS hl
  · have q2 : ¬ (0 < x) := q
    exact kf (by rw [if_neg q2] at hF; exact hF) H locs ls hP hS hl
theorem z_icmp_gt (cx : zX p l s m args meth c G sh ad n A own cc nL) {x y : Int32} {off : Int} {al : Type} {F1 F2 : Option al} {res : al} (tgt : Nat) (hd : decode cc pc = .ok (.if_icmp .gt off, 3)) (ht : (pc : Int) + off = (tgt : Int)) (hF : (if y < x then F1 else F2) = some res) (kt : F1 = some res → zJ p l e R s m args below meth c G sh ad n A nL Q cells slots M tgt lv st) (kf : F2 = some res → zJ p l e R s m args below meth c G sh ad n A nL Q cells slots M (pc + 3) lv st) : zJ p l e R s m args below meth c G sh ad n A nL Q cells slots M pc lv (.int y :: .int x :: st) := by
  intro H locs ls hP hS hl
  refine lv_icmp_gt cx.1.1 cx.1.2.1 hd ht (fun q => ?_) (fun q => ?_)
  · have q2 : y < x := q
    exact kt (by rw [if_pos q2] at hF; exact hF) H locs ls hP hS hl
  · have q2 : ¬ (y < x) := q
    exact kf (by rw [if_neg q2] at hF; exact hF) H locs ls hP hS hl
theorem z_if_le (cx : zX p l s m args meth c G sh ad n A own cc nL) {x : Int32} {off : Int} {al : Type} {F1 F2 : Option al} {res : al} (tgt : Nat) (hd : decode cc pc = .ok (.ifCond .le off, 3)) (ht : (pc : Int) + off = (tgt : Int)) (hF : (if x ≤ 0 then F1 else F2) = some res) (kt : F1 = some res → zJ p l e R s m args below meth c G sh ad n A nL Q cells slots M tgt lv st) (kf : F2 = some res → zJ p l e R s m args below meth c G sh ad n A nL Q cells slots M (pc + 3) lv st) : zJ p l e R s m args below meth c G sh ad n A nL Q cells slots M pc lv (.int x :: st) := by
  intro H locs ls hP hS hl
  refine lv_if_le cx.1.1 cx.1.2.1 hd ht (fun q => ?_) (fun q => ?_)
  · have q2 : x ≤ 0 := q
    exact kt (by rw [if_pos q2] at hF; exact hF) H locs ls hP hS hl
  · have q2 : ¬ (x ≤ 0) := q
    exact kf (by rw [if_neg q2] at hF; exact hF) H locs ls hP hS hl
theorem z_icmp_le (cx : zX p l s m args meth c G sh ad n A own cc nL) {x y : Int32} {off : Int} {al : Type} {F1 F2 : Option al} {res : al} (tgt : Nat) (hd : decode cc pc = .ok (.if_icmp .le off, 3)) (ht : (pc : Int) + off = (tgt : Int)) (hF : (if x ≤ y then F1 else F2) = some res) (kt : F1 = some res → zJ p l e R s m args below meth c G sh ad n A nL Q cells slots M tgt lv st) (kf : F2 = some res → zJ p l e R s m args below meth c G sh ad n A nL Q cells slots M (pc + 3) lv st) : zJ p l e R s m args below meth c G sh ad n A nL Q cells slots M pc lv (.int y :: .int x :: st) := by
  intro H locs ls hP hS hl
  refine lv_icmp_le cx.1.1 cx.1.2.1 hd ht (fun q => ?_) (fun q => ?_)
  · have q2 : x ≤ y := q
    exact kt (by rw [if_pos q2] at hF; exact hF) H locs ls hP hS hl
  · have q2 : ¬ (x ≤ y) := q
    exact kf (by rw [if_neg q2] at hF; exact hF) H locs ls hP hS hl
theorem z_nm {al : Type} {v : Int32} {k : Int32 → Option al} {res : al} (hF : zl v k = some res) (kk : ∀ x, k x = some res → zJ p l e R s m args below meth c G sh ad n A nL Q cells slots M pc lv (.int x :: st)) : zJ p l e R s m args below meth c G sh ad n A nL Q cells slots M pc lv (.int v :: st) := kk v hF
theorem z_nml {al : Type} {v : Int64} {k : Int64 → Option al} {res : al} (hF : zl v k = some res) (kk : ∀ x, k x = some res → zJ p l e R s m args below meth c G sh ad n A nL Q cells slots M pc lv (.long x :: st)) : zJ p l e R s m args below meth c G sh ad n A nL Q cells slots M pc lv (.long v :: st) := kk v hF
theorem z_nmM {al : Type} {v : zMem} {k : zMem → Option al} {res : al} (hF : zl v k = some res) (kk : ∀ x, k x = some res → zJ p l e R s m args below meth c G sh ad n A nL Q cells slots x pc lv st) : zJ p l e R s m args below meth c G sh ad n A nL Q cells slots v pc lv st := kk v hF
theorem z_ldc (cx : zX p l s m args meth c G sh ad n A own cc nL) {i : Nat} {v : Int32} (hw : Cond.constant own i v ∈ tbG) (hd : decode cc pc = .ok (.ldc i, 2)) (kk : zJ p l e R s m args below meth c G sh ad n A nL Q cells slots M (pc + 2) lv (.int v :: st)) : zJ p l e R s m args below meth c G sh ad n A nL Q cells slots M pc lv st := fun H locs ls hP hS hl => lv_ldc cx.1.1 cx.1.2.1 cx.1.2.2.2.1 (cx.1.2.2.2.2 _ hw) hd (kk H locs ls hP hS hl)
theorem z_ldcw (cx : zX p l s m args meth c G sh ad n A own cc nL) {i : Nat} {v : Int32} (hw : Cond.constant own i v ∈ tbG) (hd : decode cc pc = .ok (.ldc_w i, 3)) (kk : zJ p l e R s m args below meth c G sh ad n A nL Q cells slots M (pc + 3) lv (.int v :: st)) : zJ p l e R s m args below meth c G sh ad n A nL Q cells slots M pc lv st := fun H locs ls hP hS hl => lv_ldcw cx.1.1 cx.1.2.1 cx.1.2.2.2.1 (cx.1.2.2.2.2 _ hw) hd (kk H locs ls hP hS hl)
theorem z_ldc2 (cx : zX p l s m args meth c G sh ad n A own cc nL) {i : Nat} {v : Int64} (hw : Cond.constantLong own i v ∈ tbG) (hd : decode cc pc = .ok (.ldc2_w i, 3)) (kk : zJ p l e R s m args below meth c G sh ad n A nL Q cells slots M (pc + 3) lv (.long v :: st)) : zJ p l e R s m args below meth c G sh ad n A nL Q cells slots M pc lv st := fun H locs ls hP hS hl => lv_ldc2 cx.1.1 cx.1.2.1 cx.1.2.2.2.1 (cx.1.2.2.2.2 _ hw) hd (kk H locs ls hP hS hl)
theorem z_tabOut (cx : zX p l s m args meth c G sh ad n A own cc nL) {dflt lo hi : Int} {offs : Array Int} {len : Nat} {x : Int32} (tgt : Nat) (hd : decode cc pc = .ok (.tableswitch dflt lo hi offs, len)) (h : x.toInt < lo ∨ hi < x.toInt) (ht : (pc : Int) + dflt = (tgt : Int)) (kk : zJ p l e R s m args below meth c G sh ad n A nL Q cells slots M tgt lv st) : zJ p l e R s m args below meth c G sh ad n A nL Q cells slots M pc lv (.int x :: st) := fun H locs ls hP hS hl => lv_tableOut cx.1.1 cx.1.2.1 hd h ht (kk H locs ls hP hS hl)
theorem z_tabIn (cx : zX p l s m args meth c G sh ad n A own cc nL) {dflt lo hi : Int} {offs : Array Int} {len : Nat} {x : Int32} {off : Int} (tgt : Nat) (hd : decode cc pc = .ok (.tableswitch dflt lo hi offs, len)) (h1 : ¬ x.toInt < lo) (h2 : ¬ hi < x.toInt) (ho : offs[(x.toInt - lo).toNat]? = some off) (ht : (pc : Int) + off = (tgt : Int)) (kk : zJ p l e R s m args below meth c G sh ad n A nL Q cells slots M tgt lv st) : zJ p l e R s m args below meth c G sh ad n A nL Q cells slots M pc lv (.int x :: st) := fun H locs ls hP hS hl => lv_tableIn cx.1.1 cx.1.2.1 hd h1 h2 ho ht (kk H locs ls hP hS hl)
/-- fewer locals, in another order -/
theorem z_lv (ks : List Nat) (lv2 : List (Nat × Value)) (h : lv_pick lv ks = lv2) (kk : zJ p l e R s m args below meth c G sh ad n A nL Q cells slots M pc lv2 st) : zJ p l e R s m args below meth c G sh ad n A nL Q cells slots M pc lv st := fun H locs ls hP hS hl => kk H locs ls hP hS (lv_sub hl ks h)
/-! fields -/
theorem z_get (cx : zX p l s m args meth c G sh ad n A own cc nL) {ci cd j idx k : Nat} {v : Value} (hT : zT sh n k cd) (hf : ∃ (C : String) (T : u_T) (N : Nat), vwCl[ci]? = some (C, T, N) ∧ j < N ∧ (∀ w ∈ u_ws C T N, w ∈ tbG) ∧ Cond.fieldLink own idx (T j).1 (T j).2.1 (T j).2.2.1 ∈ tbG ∧ ∃ fs, zE G ad k (M.1 k) (M.2.1 k) (M.2.2 k) cd = .inr (ci, fs) ∧ fs[j]? = some v) (hd : decode cc pc = .ok (.getfield idx, 3)) (kk : zJ p l e R s m args below meth c G sh ad n A nL Q cells slots M (pc + 3) lv (v :: st)) : zJ p l e R s m args below meth c G sh ad n A nL Q cells slots M pc lv (.ref (ad k) :: st) := by
  intro H locs ls hP hS hl
  obtain ⟨C, T, N, hc, hj, hu, hw, fs, he, hv⟩ := hf
  have hat := zws_at (G := G) (sh := sh) (ad := ad) (M := M) hT.2.1
  rw [hT.1, he] at hat
  exact va_get cx.1.1 cx.1.2.1 cx.1.2.2.2.2 hu cx.1.2.2.2.1 cx.2.2.1.1 hP k hat hc j hj (cx.1.2.2.2.2 _ hw) (fun _ h => h) hv hd (kk H locs ls hP hS hl)
theorem z_getI (cx : zX p l s m args meth c G sh ad n A own cc nL) {ci cd j idx k : Nat} (hT : zT sh n k cd) (hf : zGetI own idx ci cd j) (hd : decode cc pc = .ok (.getfield idx, 3)) (kk : zJ p l e R s m args below meth c G sh ad n A nL Q cells slots M (pc + 3) lv (.int (M.1 k j) :: st)) : zJ p l e R s m args below meth c G sh ad n A nL Q cells slots M pc lv (.ref (ad k) :: st) := by
  obtain ⟨C, T, N, h1, h2, h3, h4, h5⟩ := hf
  exact z_get cx hT ⟨C, T, N, h1, h2, h3, h4, h5 _ _ _ _ _ _⟩ hd kk
theorem z_getL (cx : zX p l s m args meth c G sh ad n A own cc nL) {ci cd j idx k : Nat} (hT : zT sh n k cd) (hf : zGetL own idx ci cd j) (hd : decode cc pc = .ok (.getfield idx, 3)) (kk : zJ p l e R s m args below meth c G sh ad n A nL Q cells slots M (pc + 3) lv (.long (M.2.1 k j) :: st)) : zJ p l e R s m args below meth c G sh ad n A nL Q cells slots M pc lv (.ref (ad k) :: st) := by
  obtain ⟨C, T, N, h1, h2, h3, h4, h5⟩ := hf
  exact z_get cx hT ⟨C, T, N, h1, h2, h3, h4, h5 _ _ _ _ _ _⟩ hd kk
theorem z_getR (cx : zX p l s m args meth c G sh ad n A own cc nL) {ci cd j idx k off : Nat} (hT : zT sh n k cd) (hf : zGetR own idx ci cd j off) (k2 : Nat) (hk2 : k + off = k2) (hd : decode cc pc = .ok (.getfield idx, 3)) (kk : zJ p l e R s m args below meth c G sh ad n A nL Q cells slots M (pc + 3) lv (.ref (ad k2) :: st)) : zJ p l e R s m args below meth c G sh ad n A nL Q cells slots M pc lv (.ref (ad k) :: st) := by
  subst hk2
  obtain ⟨C, T, N, h1, h2, h3, h4, h5⟩ := hf
  exact z_get cx hT ⟨C, T, N, h1, h2, h3, h4, h5 _ _ _ _ _ _⟩ hd kk
theorem z_getD (cx : zX p l s m args meth c G sh ad n A own cc nL) {ci cd j idx k : Nat} (hT : zT sh n k cd) (hf : zGetD own idx ci cd j) (hd : decode cc pc = .ok (.getfield idx, 3)) (kk : zJ p l e R s m args below meth c G sh ad n A nL Q cells slots M (pc + 3) lv (.ref (ad (M.2.2 k j)) :: st)) : zJ p l e R s m args below meth c G sh ad n A nL Q cells slots M pc lv (.ref (ad k) :: st) := by
  obtain ⟨C, T, N, h1, h2, h3, h4, h5⟩ := hf
  exact z_get cx hT ⟨C, T, N, h1, h2, h3, h4, h5 _ _ _ _ _ _⟩ hd kk
theorem z_put (cx : zX p l s m args meth c G sh ad n A own cc nL) {ci cd j idx k : Nat} {v : Value} {ty : FieldType} {M' : zMem} (hT : zT sh n k cd) (hC : zCls ci) (hf : ∃ (C : String) (T : u_T) (N : Nat), vwCl[ci]? = some (C, T, N) ∧ j < N ∧ (∀ w ∈ u_ws C T N, w ∈ tbG) ∧ Cond.fieldLink own idx (T j).1 (T j).2.1 (T j).2.2.1 ∈ tbG) (hp : ∃ (C : String) (T : u_T) (N : Nat), vwCl[ci]? = some (C, T, N) ∧ (T j).2.2.2 = false ∧ parseFieldDescriptor (T j).2.2.1 = some ty) (hn : narrow ty v = v) (hft : fits ty v = true)
    (hM : ∀ a, a ≠ k → M'.1 a = M.1 a ∧ M'.2.1 a = M.2.1 a ∧ M'.2.2 a = M.2.2 a) (hs : ∃ fs, zE G ad k (M.1 k) (M.2.1 k) (M.2.2 k) cd = .inr (ci, fs) ∧ j < fs.length ∧ zE G ad k (M'.1 k) (M'.2.1 k) (M'.2.2 k) cd = .inr (ci, fs.set j v)) (hd : decode cc pc = .ok (.putfield idx, 3)) (kk : zJ p l e R s m args below meth c G sh ad n A nL Q cells slots M' (pc + 3) lv st) : zJ p l e R s m args below meth c G sh ad n A nL Q cells slots M pc lv (v :: .ref (ad k) :: st) := by
  intro H locs ls hP hS hl
  obtain ⟨C, T, N, hc, hj, hu, hw⟩ := hf
  obtain ⟨C1, T1, N1, ty0, hc1, hty, hnm⟩ := hC
  cases Option.some.inj (hc1.symm.trans hc)
  obtain ⟨C2, T2, N2, hc2, hfin, hpd⟩ := hp
  cases Option.some.inj (hc2.symm.trans hc)
  obtain ⟨fs, he, hl2, he2⟩ := hs
  have hat := zws_at (G := G) (sh := sh) (ad := ad) (M := M) hT.2.1
  rw [hT.1, he] at hat
  refine va_put cx.1.1 cx.1.2.1 cx.1.2.2.2.2 hu ty0 hty hnm cx.1.2.2.2.1 cx.2.2.1.1 hP (zD cx.2.2.2.1) hS k hat hc j hj (cx.1.2.2.2.2 _ hw) (fun _ h => h) hfin hpd hn hft hl2 hd (fun H1 locs1 hP1 _ hS1 => kk H1 locs1 ls ?_ hS1 hl)
  rw [zws_set hT.2.1 hM (by rw [hT.1]; exact he2)] at hP1
  exact hP1
theorem zI_off {M : zMem} {k j : Nat} {v : Int32} : ∀ a, a ≠ k → (zI M k j v).1 a = M.1 a ∧ (zI M k j v).2.1 a = M.2.1 a ∧ (zI M k j v).2.2 a = M.2.2 a := fun a h => ⟨if_neg h, rfl, rfl⟩
theorem zL_off {M : zMem} {k j : Nat} {v : Int64} : ∀ a, a ≠ k → (zL M k j v).1 a = M.1 a ∧ (zL M k j v).2.1 a = M.2.1 a ∧ (zL M k j v).2.2 a = M.2.2 a := fun a h => ⟨rfl, if_neg h, rfl⟩
theorem zR_off {M : zMem} {k j : Nat} {v : Nat} : ∀ a, a ≠ k → (zR M k j v).1 a = M.1 a ∧ (zR M k j v).2.1 a = M.2.1 a ∧ (zR M k j v).2.2 a = M.2.2 a := fun a h => ⟨rfl, rfl, if_neg h⟩
theorem z_putI (cx : zX p l s m args meth c G sh ad n A own cc nL) {ci cd j idx k : Nat} {v : Int32} (hT : zT sh n k cd) (hf : zPutI own idx ci cd j) (hd : decode cc pc = .ok (.putfield idx, 3)) (kk : zJ p l e R s m args below meth c G sh ad n A nL Q cells slots (zI M k j v) (pc + 3) lv st) : zJ p l e R s m args below meth c G sh ad n A nL Q cells slots M pc lv (.int v :: .ref (ad k) :: st) := by
  obtain ⟨h1, ⟨C, T, N, g1, g2, g3, g4, -⟩, h3, h4⟩ := hf
  obtain ⟨fs, e1, e2, e3⟩ := h4 G ad k (M.1 k) (M.2.1 k) (M.2.2 k) v
  refine z_put cx hT h1 ⟨C, T, N, g1, g2, g3, g4⟩ h3 rfl rfl zI_off ⟨fs, e1, e2, ?_⟩ hd kk
  rw [← e3]
  simp [zI]
theorem z_putL (cx : zX p l s m args meth c G sh ad n A own cc nL) {ci cd j idx k : Nat} {v : Int64} (hT : zT sh n k cd) (hf : zPutL own idx ci cd j) (hd : decode cc pc = .ok (.putfield idx, 3)) (kk : zJ p l e R s m args below meth c G sh ad n A nL Q cells slots (zL M k j v) (pc + 3) lv st) : zJ p l e R s m args below meth c G sh ad n A nL Q cells slots M pc lv (.long v :: .ref (ad k) :: st) := by
  obtain ⟨h1, ⟨C, T, N, g1, g2, g3, g4, -⟩, h3, h4⟩ := hf
  obtain ⟨fs, e1, e2, e3⟩ := h4 G ad k (M.1 k) (M.2.1 k) (M.2.2 k) v
  refine z_put cx hT h1 ⟨C, T, N, g1, g2, g3, g4⟩ h3 rfl rfl zL_off ⟨fs, e1, e2, ?_⟩ hd kk
  rw [← e3]
  simp [zL]
theorem z_putD (cx : zX p l s m args meth c G sh ad n A own cc nL) {ci cd j idx k v : Nat} (hT : zT sh n k cd) (hf : zPutD own idx ci cd j) (hd : decode cc pc = .ok (.putfield idx, 3)) (kk : zJ p l e R s m args below meth c G sh ad n A nL Q cells slots (zR M k j v) (pc + 3) lv st) : zJ p l e R s m args below meth c G sh ad n A nL Q cells slots M pc lv (.ref (ad v) :: .ref (ad k) :: st) := by
  obtain ⟨h1, ⟨C, T, N, g1, g2, g3, g4, -⟩, ⟨C2, T2, N2, cn, k1, k2, k3⟩, h4⟩ := hf
  obtain ⟨fs, e1, e2, e3⟩ := h4 G ad k (M.1 k) (M.2.1 k) (M.2.2 k) v
  refine z_put cx hT h1 ⟨C, T, N, g1, g2, g3, g4⟩ ⟨C2, T2, N2, k1, k2, k3⟩ rfl rfl zR_off ⟨fs, e1, e2, ?_⟩ hd kk
  rw [← e3]
  simp [zR]
/-! arrays -/
theorem z_iald (cx : zX p l s m args meth c G sh ad n A own cc nL) {cd len k : Nat} {i : Int32} (hT : zT sh n k cd) (ha : zArrI cd len) (hi : vp_in i len) (j : Nat) (hj : i.toNatClampNeg = j) (hd : decode cc pc = .ok (.iaload, 1)) (kk : zJ p l e R s m args below meth c G sh ad n A nL Q cells slots M (pc + 1) lv (.int (M.1 k j) :: st)) : zJ p l e R s m args below meth c G sh ad n A nL Q cells slots M pc lv (.int i :: .ref (ad k) :: st) := by
  subst hj
  intro H locs ls hP hS hl
  have hat := zws_at (G := G) (sh := sh) (ad := ad) (M := M) hT.2.1
  rw [hT.1, ha] at hat
  exact va_iald cx.1.1 cx.1.2.1 cx.2.2.1.1 hP k 0 hat rfl hi hd (kk H locs ls hP hS hl)
theorem z_lald (cx : zX p l s m args meth c G sh ad n A own cc nL) {cd len k : Nat} {i : Int32} (hT : zT sh n k cd) (ha : zArrL cd len) (hi : vp_in i len) (j : Nat) (hj : i.toNatClampNeg = j) (hd : decode cc pc = .ok (.laload, 1)) (kk : zJ p l e R s m args below meth c G sh ad n A nL Q cells slots M (pc + 1) lv (.long (M.2.1 k j) :: st)) : zJ p l e R s m args below meth c G sh ad n A nL Q cells slots M pc lv (.int i :: .ref (ad k) :: st) := by
  subst hj
  intro H locs ls hP hS hl
  have hat := zws_at (G := G) (sh := sh) (ad := ad) (M := M) hT.2.1
  rw [hT.1, ha] at hat
  exact va_lald cx.1.1 cx.1.2.1 cx.2.2.1.1 hP k 1 hat rfl hi hd (kk H locs ls hP hS hl)
theorem z_iast (cx : zX p l s m args meth c G sh ad n A own cc nL) {cd len k : Nat} {i x : Int32} (hT : zT sh n k cd) (ha : zArrI cd len) (hi : vp_in i len) (j : Nat) (hj : i.toNatClampNeg = j) (hd : decode cc pc = .ok (.iastore, 1)) (kk : zJ p l e R s m args below meth c G sh ad n A nL Q cells slots (zI M k j x) (pc + 1) lv st) : zJ p l e R s m args below meth c G sh ad n A nL Q cells slots M pc lv (.int x :: .int i :: .ref (ad k) :: st) := by
  subst hj
  intro H locs ls hP hS hl
  have hat := zws_at (G := G) (sh := sh) (ad := ad) (M := M) hT.2.1
  rw [hT.1, ha] at hat
  refine va_iast cx.1.1 cx.1.2.1 cx.2.2.1.1 hP (zD cx.2.2.2.1) hS k 0 hat rfl hi hd (fun H1 locs1 hP1 _ hS1 => kk H1 locs1 ls ?_ hS1 hl)
  rw [zws_set (M' := zI M k i.toNatClampNeg x) hT.2.1 zI_off (by rw [hT.1, ha]; simp [zI])] at hP1
  exact hP1
theorem z_last (cx : zX p l s m args meth c G sh ad n A own cc nL) {cd len k : Nat} {i : Int32} {x : Int64} (hT : zT sh n k cd) (ha : zArrL cd len) (hi : vp_in i len) (j : Nat) (hj : i.toNatClampNeg = j) (hd : decode cc pc = .ok (.lastore, 1)) (kk : zJ p l e R s m args below meth c G sh ad n A nL Q cells slots (zL M k j x) (pc + 1) lv st) : zJ p l e R s m args below meth c G sh ad n A nL Q cells slots M pc lv (.long x :: .int i :: .ref (ad k) :: st) := by
  subst hj
  intro H locs ls hP hS hl
  have hat := zws_at (G := G) (sh := sh) (ad := ad) (M := M) hT.2.1
  rw [hT.1, ha] at hat
  refine va_last cx.1.1 cx.1.2.1 cx.2.2.1.1 hP (zD cx.2.2.2.1) hS k 1 hat rfl hi hd (fun H1 locs1 hP1 _ hS1 => kk H1 locs1 ls ?_ hS1 hl)
  rw [zws_set (M' := zL M k i.toNatClampNeg x) hT.2.1 zL_off (by rw [hT.1, ha]; simp [zL])] at hP1
  exact hP1
theorem z_aald (cx : zX p l s m args meth c G sh ad n A own cc nL) {cd len kd o t k : Nat} {i : Int32} (hT : zT sh n k cd) (ha : zArrR cd len kd o t) (hi : vp_in i len) (k2 : Nat) (hk2 : k + (o + t * i.toNatClampNeg) = k2) (hd : decode cc pc = .ok (.aaload, 1)) (kk : zJ p l e R s m args below meth c G sh ad n A nL Q cells slots M (pc + 1) lv (.ref (ad k2) :: st)) : zJ p l e R s m args below meth c G sh ad n A nL Q cells slots M pc lv (.int i :: .ref (ad k) :: st) := by
  subst hk2
  intro H locs ls hP hS hl
  obtain ⟨hkd, ha⟩ := ha
  have hat := zws_at (G := G) (sh := sh) (ad := ad) (M := M) hT.2.1
  rw [hT.1, ha] at hat
  have hlt : i.toNatClampNeg < len := Nat.not_le.mp fun q => hi (Or.inr q)
  obtain ⟨ty, hty, hr⟩ : ∃ ty, (zTys G)[kd]? = some (G.2.1 kd, ty) ∧ ty.isReference = true := by
    rcases hkd with rfl | rfl | rfl | rfl <;> exact ⟨_, rfl, rfl⟩
  exact W.aald (v := va_rf (some (ad (k + (o + t * i.toNatClampNeg))))) (ty := ty) cx.1.1 cx.1.2.1 (hP k _ hat) ((cx.2.2.1.1.2 kd _ hty).1 len (fun j => va_rf (some (ad (k + (o + t * j)))))) hr (fun q => by cases q) (by show ¬ (i < 0 ∨ (arrV _ _ _).slots.size ≤ _); rw [arrV_size]; exact hi) (by show (arrV _ _ _).slots[_]? = _; rw [arrV_read _ _ hlt]) rfl rfl hd (kk H locs ls hP hS hl)
theorem z_alenI (cx : zX p l s m args meth c G sh ad n A own cc nL) {cd len k : Nat} (hT : zT sh n k cd) (ha : zArrI cd len) (hd : decode cc pc = .ok (.arraylength, 1)) (kk : zJ p l e R s m args below meth c G sh ad n A nL Q cells slots M (pc + 1) lv (.int (nI len) :: st)) : zJ p l e R s m args below meth c G sh ad n A nL Q cells slots M pc lv (.ref (ad k) :: st) := by
  intro H locs ls hP hS hl
  have hat := zws_at (G := G) (sh := sh) (ad := ad) (M := M) hT.2.1
  rw [hT.1, ha] at hat
  exact va_alen cx.1.1 cx.1.2.1 cx.2.2.1.1 hP k 0 hat (ty := .int) rfl rfl hd (kk H locs ls hP hS hl)
/-! statics -/
theorem z_east (cx : zX p l s m args meth c G sh ad n A own cc nL) {idx : Nat} (hw : Cond.fieldLinkNest own idx "SunnyPans" "EAST" "[I" "SunnyPans" ∈ tbN) (hd : decode cc pc = .ok (.getstatic idx, 3)) (kk : zJ p l e R s m args below meth c G sh ad n A nL Q cells slots M (pc + 3) lv (.ref (G.2.2 0) :: st)) : zJ p l e R s m args below meth c G sh ad n A nL Q cells slots M pc lv st := fun H locs ls hP hS hl => va_getsN cx.1.1 cx.1.2.1 cx.2.2.1.2.2.1.1 hS cx.1.2.2.2.1 (va_Nw.use rfl (cx.2.2.1.2.1 _ hw)) (fun _ h => h) hd (kk H locs ls hP hS hl)
theorem z_south (cx : zX p l s m args meth c G sh ad n A own cc nL) {idx : Nat} (hw : Cond.fieldLinkNest own idx "SunnyPans" "SOUTH" "[I" "SunnyPans" ∈ tbN) (hd : decode cc pc = .ok (.getstatic idx, 3)) (kk : zJ p l e R s m args below meth c G sh ad n A nL Q cells slots M (pc + 3) lv (.ref (G.2.2 1) :: st)) : zJ p l e R s m args below meth c G sh ad n A nL Q cells slots M pc lv st := fun H locs ls hP hS hl => va_getsN cx.1.1 cx.1.2.1 cx.2.2.1.2.2.1.2.2.1 hS cx.1.2.2.2.1 (va_Nw.use rfl (cx.2.2.1.2.1 _ hw)) (fun _ h => h) hd (kk H locs ls hP hS hl)
theorem z_eastAt (cx : zX p l s m args meth c G sh ad n A own cc nL) {i : Int32} (hi : vp_in i 8) (hd : decode cc pc = .ok (.iaload, 1)) (kk : zJ p l e R s m args below meth c G sh ad n A nL Q cells slots M (pc + 1) lv (.int (zEast i.toNatClampNeg) :: st)) : zJ p l e R s m args below meth c G sh ad n A nL Q cells slots M pc lv (.int i :: .ref (G.2.2 0) :: st) := fun H locs ls hP hS hl => va_ti cx.1.1 cx.1.2.1 cx.2.2.1.2.2.1.2.1 hS hi rfl hd (kk H locs ls hP hS hl)
theorem z_southAt (cx : zX p l s m args meth c G sh ad n A own cc nL) {i : Int32} (hi : vp_in i 8) (hd : decode cc pc = .ok (.iaload, 1)) (kk : zJ p l e R s m args below meth c G sh ad n A nL Q cells slots M (pc + 1) lv (.int (zSouth i.toNatClampNeg) :: st)) : zJ p l e R s m args below meth c G sh ad n A nL Q cells slots M pc lv (.int i :: .ref (G.2.2 1) :: st) := fun H locs ls hP hS hl => va_ti cx.1.1 cx.1.2.1 cx.2.2.1.2.2.1.2.2.2 hS hi rfl hd (kk H locs ls hP hS hl)


def zmax (x y : Int32) : Int32 := if x < y then y else x
def zmin (x y : Int32) : Int32 := if y < x then y else x
def zabs (x : Int32) : Int32 := if 0 ≤ x then x else 0 - x
theorem z_mmax (cx : zX p l s m args meth c G sh ad n A own cc nL) {idx : Nat} {x y : Int32} (hw : Cond.methodLink own idx Lib.Math.max.name ∈ tbG ∧ Cond.static Lib.Math.max.name ∈ tbG ∧ Cond.initialized "java/lang/Math" ∈ tbG ∧ Cond.code Lib.Math.max.name Lib.Math.max.code 2 (some .int) ∈ tbG) (hR : 1 ≤ R.frames ∧ (st.map fun v => v.category).sum + 13 ≤ R.locals ∧ cells ≤ R.cells ∧ slots ≤ R.slots) (hd : decode cc pc = .ok (.invokestatic idx, 3)) (kk : zJ p l e R s m args below meth c G sh ad n A nL Q cells slots M (pc + 3) lv (.int (zmax x y) :: st)) : zJ p l e R s m args below meth c G sh ad n A nL Q cells slots M pc lv (.int y :: .int x :: st) := fun H locs ls hP hS hl =>
  va_mmax cx.1.1 cx.1.2.1 (by rw [cx.1.2.2.1, hl.1]) cx.1.2.2.2.1 (cx.1.2.2.2.2 _ hw.1) (cx.1.2.2.2.2 _ hw.2.1) (cx.1.2.2.2.2 _ hw.2.2.1) (cx.1.2.2.2.2 _ hw.2.2.2) hR.1 hR.2.1 hR.2.2.1 hR.2.2.2 hd (kk H locs ls hP hS hl)
theorem z_mmin (cx : zX p l s m args meth c G sh ad n A own cc nL) {idx : Nat} {x y : Int32} (hw : Cond.methodLink own idx Lib.Math.min.name ∈ tbG ∧ Cond.static Lib.Math.min.name ∈ tbG ∧ Cond.initialized "java/lang/Math" ∈ tbG ∧ Cond.code Lib.Math.min.name Lib.Math.min.code 2 (some .int) ∈ tbG) (hR : 1 ≤ R.frames ∧ (st.map fun v => v.category).sum + 13 ≤ R.locals ∧ cells ≤ R.cells ∧ slots ≤ R.slots) (hd : decode cc pc = .ok (.invokestatic idx, 3)) (kk : zJ p l e R s m args below meth c G sh ad n A nL Q cells slots M (pc + 3) lv (.int (zmin x y) :: st)) : zJ p l e R s m args below meth c G sh ad n A nL Q cells slots M pc lv (.int y :: .int x :: st) := fun H locs ls hP hS hl =>
  va_mmin cx.1.1 cx.1.2.1 (by rw [cx.1.2.2.1, hl.1]) cx.1.2.2.2.1 (cx.1.2.2.2.2 _ hw.1) (cx.1.2.2.2.2 _ hw.2.1) (cx.1.2.2.2.2 _ hw.2.2.1) (cx.1.2.2.2.2 _ hw.2.2.2) hR.1 hR.2.1 hR.2.2.1 hR.2.2.2 hd (kk H locs ls hP hS hl)
theorem z_mabs (cx : zX p l s m args meth c G sh ad n A own cc nL) {idx : Nat} {x : Int32} (hw : Cond.methodLink own idx Lib.Math.abs.name ∈ tbG ∧ Cond.static Lib.Math.abs.name ∈ tbG ∧ Cond.initialized "java/lang/Math" ∈ tbG ∧ Cond.code Lib.Math.abs.name Lib.Math.abs.code 1 (some .int) ∈ tbG) (hR : 1 ≤ R.frames ∧ (st.map fun v => v.category).sum + 13 ≤ R.locals ∧ cells ≤ R.cells ∧ slots ≤ R.slots) (hd : decode cc pc = .ok (.invokestatic idx, 3)) (kk : zJ p l e R s m args below meth c G sh ad n A nL Q cells slots M (pc + 3) lv (.int (zabs x) :: st)) : zJ p l e R s m args below meth c G sh ad n A nL Q cells slots M pc lv (.int x :: st) := fun H locs ls hP hS hl =>
  va_mabs cx.1.1 cx.1.2.1 (by rw [cx.1.2.2.1, hl.1]) cx.1.2.2.2.1 (cx.1.2.2.2.2 _ hw.1) (cx.1.2.2.2.2 _ hw.2.1) (cx.1.2.2.2.2 _ hw.2.2.1) (cx.1.2.2.2.2 _ hw.2.2.2) hR.1 hR.2.1 hR.2.2.1 hR.2.2.2 hd (kk H locs ls hP hS hl)
theorem zCI_off {M : zMem} {a b d f g : Nat} : ∀ q, q ≠ d → (zCI M a b d f g).1 q = M.1 q ∧ (zCI M a b d f g).2.1 q = M.2.1 q ∧ (zCI M a b d f g).2.2 q = M.2.2 q := fun q h => ⟨if_neg h, rfl, rfl⟩
theorem zCL_off {M : zMem} {a b d f g : Nat} : ∀ q, q ≠ d → (zCL M a b d f g).1 q = M.1 q ∧ (zCL M a b d f g).2.1 q = M.2.1 q ∧ (zCL M a b d f g).2.2 q = M.2.2 q := fun q h => ⟨rfl, if_neg h, rfl⟩
theorem z_copyI (cx : zX p l s m args meth c G sh ad n A own cc nL) {idx c0 n0 c1 n1 k0 k1 : Nat} {sp dp m0 : Int32} (hT0 : zT sh n k0 c0) (ha0 : zArrI c0 n0) (hT1 : zT sh n k1 c1) (ha1 : zArrI c1 n1) (hw : Cond.methodLink own idx arraycopyName ∈ tbG ∧ Cond.native arraycopyName ∈ tbG ∧ Cond.static arraycopyName ∈ tbG ∧ Cond.initialized "java/lang/System" ∈ tbG) (h1 : ¬ sp < 0) (h2 : ¬ dp < 0) (h3 : ¬ m0 < 0) (h4 : sp.toNatClampNeg + m0.toNatClampNeg ≤ n0) (h5 : dp.toNatClampNeg + m0.toNatClampNeg ≤ n1)
    (hR : 1 ≤ R.frames ∧ (st.map fun v => v.category).sum + (nativeFrameWords "java/lang/System" "arraycopy" 5 + 11) ≤ R.locals) (hd : decode cc pc = .ok (.invokestatic idx, 3)) (kk : zJ p l e R s m args below meth c G sh ad n A nL Q cells slots (zCI M k0 sp.toNatClampNeg k1 dp.toNatClampNeg m0.toNatClampNeg) (pc + 3) lv st) : zJ p l e R s m args below meth c G sh ad n A nL Q cells slots M pc lv (.int m0 :: .int dp :: .ref (ad k1) :: .int sp :: .ref (ad k0) :: st) := by
  intro H locs ls hP hS hl
  have hat0 := zws_at (G := G) (sh := sh) (ad := ad) (M := M) hT0.2.1
  rw [hT0.1, ha0] at hat0
  have hat1 := zws_at (G := G) (sh := sh) (ad := ad) (M := M) hT1.2.1
  rw [hT1.1, ha1] at hat1
  refine va_copyi cx.1.1 cx.1.2.1 (by rw [cx.1.2.2.1, hl.1]) cx.1.2.2.2.1 (cx.1.2.2.2.2 _ hw.1) (cx.1.2.2.2.2 _ hw.2.1) (cx.1.2.2.2.2 _ hw.2.2.1) (cx.1.2.2.2.2 _ hw.2.2.2) cx.2.2.1.1 hP (zD cx.2.2.2.1) hS k0 k1 0 0 hat0 hat1 rfl rfl rfl h1 h2 h3 h4 h5 (fun _ _ => rfl) hR.1 hR.2 hd (fun H1 locs1 hP1 _ hS1 => kk H1 locs1 ls ?_ hS1 hl)
  rw [zws_set (M' := zCI M k0 sp.toNatClampNeg k1 dp.toNatClampNeg m0.toNatClampNeg) hT1.2.1 zCI_off (by rw [hT1.1, ha1]; simp [zCI])] at hP1
  exact hP1
theorem z_copyL (cx : zX p l s m args meth c G sh ad n A own cc nL) {idx c0 n0 c1 n1 k0 k1 : Nat} {sp dp m0 : Int32} (hT0 : zT sh n k0 c0) (ha0 : zArrL c0 n0) (hT1 : zT sh n k1 c1) (ha1 : zArrL c1 n1) (hw : Cond.methodLink own idx arraycopyName ∈ tbG ∧ Cond.native arraycopyName ∈ tbG ∧ Cond.static arraycopyName ∈ tbG ∧ Cond.initialized "java/lang/System" ∈ tbG) (h1 : ¬ sp < 0) (h2 : ¬ dp < 0) (h3 : ¬ m0 < 0) (h4 : sp.toNatClampNeg + m0.toNatClampNeg ≤ n0) (h5 : dp.toNatClampNeg + m0.toNatClampNeg ≤ n1)
    (hR : 1 ≤ R.frames ∧ (st.map fun v => v.category).sum + (nativeFrameWords "java/lang/System" "arraycopy" 5 + 11) ≤ R.locals) (hd : decode cc pc = .ok (.invokestatic idx, 3)) (kk : zJ p l e R s m args below meth c G sh ad n A nL Q cells slots (zCL M k0 sp.toNatClampNeg k1 dp.toNatClampNeg m0.toNatClampNeg) (pc + 3) lv st) : zJ p l e R s m args below meth c G sh ad n A nL Q cells slots M pc lv (.int m0 :: .int dp :: .ref (ad k1) :: .int sp :: .ref (ad k0) :: st) := by
  intro H locs ls hP hS hl
  have hat0 := zws_at (G := G) (sh := sh) (ad := ad) (M := M) hT0.2.1
  rw [hT0.1, ha0] at hat0
  have hat1 := zws_at (G := G) (sh := sh) (ad := ad) (M := M) hT1.2.1
  rw [hT1.1, ha1] at hat1
  refine va_copyl cx.1.1 cx.1.2.1 (by rw [cx.1.2.2.1, hl.1]) cx.1.2.2.2.1 (cx.1.2.2.2.2 _ hw.1) (cx.1.2.2.2.2 _ hw.2.1) (cx.1.2.2.2.2 _ hw.2.2.1) (cx.1.2.2.2.2 _ hw.2.2.2) cx.2.2.1.1 hP (zD cx.2.2.2.1) hS k0 k1 1 1 hat0 hat1 rfl rfl rfl h1 h2 h3 h4 h5 (fun _ _ => rfl) hR.1 hR.2 hd (fun H1 locs1 hP1 _ hS1 => kk H1 locs1 ls ?_ hS1 hl)
  rw [zws_set (M' := zCL M k0 sp.toNatClampNeg k1 dp.toNatClampNeg m0.toNatClampNeg) hT1.2.1 zCL_off (by rw [hT1.1, ha1]; simp [zCL])] at hP1
  exact hP1
/-! calls -/
abbrev zRm (rm R : Room) (maxL : Nat) : Prop := rm.cells = 0 ∧ rm.slots = 0 ∧ rm.frames + 1 ≤ R.frames ∧ 8 + (maxL + 11) + rm.locals ≤ R.locals
def zCV (own : String) (idx : Nat) (C : String) (y : MethodName) (b : ByteArray) (maxL : Nat) (ret : Option FieldType) (na : Nat) : Prop := GoodIn tbG (wsV own idx C y (.code y b maxL ret :: tbG)) ∧ (y.cls = C ∧ y.cls ≠ "java/lang/invoke/MethodHandle" ∧ y.cls ≠ "java/lang/invoke/VarHandle" ∧ (parseMethodDescriptor y.desc).map (fun d => d.parameters.length) = some na)
def zCS (own : String) (idx : Nat) (y : MethodName) (b : ByteArray) (maxL : Nat) (ret : Option FieldType) (na : Nat) : Prop := GoodIn tbG (va_wsS own idx y (.code y b maxL ret :: tbG)) ∧ (y.cls ≠ "java/lang/invoke/MethodHandle" ∧ y.cls ≠ "java/lang/invoke/VarHandle" ∧ (parseMethodDescriptor y.desc).map (fun d => d.parameters.length) = some na)
/-- a nest mate's private method -/
def zCN (own : String) (idx : Nat) (y : MethodName) (b : ByteArray) (maxL : Nat) (ret : Option FieldType) (na : Nat) : Prop := Cond.methodLinkNest own idx y "SunnyPans" ∈ tbN ∧ Cond.initialized y.cls ∈ tbG ∧ Cond.code y b maxL ret ∈ tbG ∧ (y.cls ≠ "java/lang/invoke/MethodHandle" ∧ y.cls ≠ "java/lang/invoke/VarHandle" ∧ (parseMethodDescriptor y.desc).map (fun d => d.parameters.length) = some na)
theorem zGood {y : MethodName} {b : ByteArray} {maxL : Nat} {ret : Option FieldType} (h : Cond.code y b maxL ret ∈ tbG) : GoodIn tbG (.code y b maxL ret :: tbG) := fun w hw => (List.mem_cons.mp hw).elim (fun q => by rw [q]; exact tbG_good _ h) (fun q => tbG_good _ q)
theorem zCV_of {own C : String} {idx maxL na : Nat} {y : MethodName} {b : ByteArray} {ret : Option FieldType} (h1 : Cond.methodLink own idx y ∈ tbG) (h2 : Cond.instanceMethod y ∈ tbG) (h3 : Cond.selects C y y ∈ tbG) (h4 : Cond.initialized C ∈ tbG) (h5 : Cond.code y b maxL ret ∈ tbG) (h6 : y.cls = C ∧ y.cls ≠ "java/lang/invoke/MethodHandle" ∧ y.cls ≠ "java/lang/invoke/VarHandle" ∧ (parseMethodDescriptor y.desc).map (fun d => d.parameters.length) = some na) : zCV own idx C y b maxL ret na := by
  refine ⟨?_, h6⟩
  unfold wsV
  refine goodIn_app (fun w hw => ?_) (zGood h5)
  simp only [List.mem_cons, List.not_mem_nil, or_false] at hw
  rcases hw with rfl | rfl | rfl | rfl
  · exact tbG_good _ h1
  · exact tbG_good _ h2
  · exact tbG_good _ h3
  · exact tbG_good _ h4
theorem zCS_of {own : String} {idx maxL na : Nat} {y : MethodName} {b : ByteArray} {ret : Option FieldType} (h1 : Cond.methodLink own idx y ∈ tbG) (h2 : Cond.static y ∈ tbG) (h4 : Cond.initialized y.cls ∈ tbG) (h5 : Cond.code y b maxL ret ∈ tbG) (h6 : y.cls ≠ "java/lang/invoke/MethodHandle" ∧ y.cls ≠ "java/lang/invoke/VarHandle" ∧ (parseMethodDescriptor y.desc).map (fun d => d.parameters.length) = some na) : zCS own idx y b maxL ret na := by
  refine ⟨?_, h6⟩
  unfold va_wsS
  refine goodIn_app (fun w hw => ?_) (zGood h5)
  simp only [List.mem_cons, List.not_mem_nil, or_false] at hw
  rcases hw with rfl | rfl | rfl
  · exact tbG_good _ h1
  · exact tbG_good _ h2
  · exact tbG_good _ h4
theorem zKat {H : Heap} {locs : List Loc} (cx : zX p l s m args meth c G sh ad n A own cc nL) (hS : va_S A s.heap H locs) {U : State} (hU : U.heap = H) (hW : s.WarmedH U.vm) : zK G (zA ad n H.size) U U.heap := by
  obtain ⟨-, -, hK, hA, hA2, -⟩ := cx
  have h1 := (hK.kept hS.2.1).moved hW
  rw [hU]
  refine h1.narrow (fun q hq => ?_)
  rcases hq with ⟨k, hk, rfl⟩ | hq
  · exact hA.2 k hk
  · exact hA2 q (Nat.le_trans hS.1 hq)
theorem zAin {H : Heap} {locs : List Loc} (cx : zX p l s m args meth c G sh ad n A own cc nL) (hS : va_S A s.heap H locs) : ∀ q, zA ad n H.size q → A q := by
  intro q hq
  obtain ⟨-, -, -, hA, hA2, -⟩ := cx
  rcases hq with ⟨k, hk, rfl⟩ | hq
  · exact hA.2 k hk
  · exact hA2 q (Nat.le_trans hS.1 hq)
theorem zcall {H : Heap} {locs : List Loc} {ls : Array Slot} {A1 : Nat → Prop} {a : Array Value} {st0 rest : List Value} {M' : zMem} {out : Option Value} (hr : va_Run p l e R s m args below meth c H locs cells slots 0 0 (F0 m pc ls st0) rest (zQ G sh ad n M' out A1 a) A1) (hS : va_S A s.heap H locs) (hA : ∀ q, A1 q → A q) (hl : lv_has ls nL lv) (kk : zJ p l e R s m args below meth c G sh ad n A nL Q cells slots M' (pc + 3) lv (out.toList ++ rest)) : W p l e R s m args below meth c H locs cells slots Q (F0 m pc ls st0) := by
  intro T hT X
  obtain ⟨v, st₀, t, T', L, h0, X', hL, e1, e2, ⟨⟨hv, hP⟩, hz, hk⟩, st⟩ := hr T hT X
  have hv2 : v = out := by injection hv
  subst hv2
  rw [h0] at hz hk
  obtain ⟨t2, a1, b1⟩ := kk T'.heap (locs ++ L) ls (by rw [e1]; exact hP) ⟨Nat.le_trans hS.1 (by rw [e1]; exact hz), fun q h1 h2 => by rw [e1, hk q (Nat.lt_of_lt_of_le h1 hS.1) (fun z => h2 (hA q z))]; exact hS.2.1 q h1 h2, fun q hq => by
      rcases List.mem_append.mp hq with h | h
      · exact hS.2.2 q h
      · exact hA _ (hL q h)⟩ hl T' rfl X'
  exact ⟨t2, st t2 a1, b1⟩
theorem z_callV (cx : zX p l s m args meth c G sh ad n A own cc nL) {C : String} {y : MethodName} {b : ByteArray} {maxL na idx k cd : Nat} {ret : Option FieldType} {rm : Room} {As rest : List Value} {out : Option Value} {M' : zMem} (hM : zM l y b maxL ret rm G sh ad n M (.ref (ad k) :: As) out M') (hT : zT sh n k cd) (hO : zObj C cd) (hw : zCV own idx C y b maxL ret na) (hR : zRm rm R maxL) (hAs : As.length = na) (hst : st = As.reverse ++ .ref (ad k) :: rest) (hc : cells ≤ R.cells ∧ slots ≤ R.slots) (hrest : (rest.map fun v => v.category).sum ≤ 8) (hd : decode cc pc = .ok (.invokevirtual idx, 3)) (kk : zJ p l e R s m args below meth c G sh ad n A nL Q cells slots M' (pc + 3) lv (out.toList ++ rest)) : zJ p l e R s m args below meth c G sh ad n A nL Q cells slots M pc lv st := by
  subst hst
  intro H locs ls hP hS hl
  obtain ⟨ci, q, hq, hC, hz⟩ := hO
  obtain ⟨fs, hfs⟩ := hz G ad k (M.1 k) (M.2.1 k) (M.2.2 k)
  have hat := zws_at (G := G) (sh := sh) (ad := ad) (M := M) hT.2.1
  rw [hT.1, hfs] at hat
  have hrecv := va_recv cx.2.2.1.1 hP hq hat
  rw [hC] at hrecv
  exact zcall (va_runV (As := As) (rest := rest) cx.1 (hM H.size) (cwV na cx.1.2.2.2.2 hw.1 rfl hR.1 hR.2.1 hw.2 hR.2.2) ⟨zP_blind, hrecv, fun U hU hW => ⟨rfl, by rw [hU], by rw [hU]; exact hP, zKat cx hS hU hW⟩⟩ rfl hAs hl.1 rfl (lv_room hrest) hd hc) hS (zAin cx hS) hl kk
theorem z_callS (cx : zX p l s m args meth c G sh ad n A own cc nL) {y : MethodName} {b : ByteArray} {maxL na idx : Nat} {ret : Option FieldType} {rm : Room} {As rest : List Value} {out : Option Value} {M' : zMem} (hM : zM l y b maxL ret rm G sh ad n M As out M') (hw : zCS own idx y b maxL ret na) (hR : zRm rm R maxL) (hAs : As.length = na) (hst : st = As.reverse ++ rest) (hc : cells ≤ R.cells ∧ slots ≤ R.slots) (hrest : (rest.map fun v => v.category).sum ≤ 8) (hd : decode cc pc = .ok (.invokestatic idx, 3)) (kk : zJ p l e R s m args below meth c G sh ad n A nL Q cells slots M' (pc + 3) lv (out.toList ++ rest)) : zJ p l e R s m args below meth c G sh ad n A nL Q cells slots M pc lv st := by
  subst hst
  intro H locs ls hP hS hl
  exact zcall (va_runS (As := As) (rest := rest) cx.1 (hM H.size) (va_cwS na cx.1.2.2.2.2 hw.1 rfl hR.1 hR.2.1 hw.2 hR.2.2) ⟨zP_blind, fun U hU hW => ⟨rfl, by rw [hU], by rw [hU]; exact hP, zKat cx hS hU hW⟩⟩ rfl hAs hl.1 rfl (lv_room hrest) hd hc) hS (zAin cx hS) hl kk
theorem z_callSN (cx : zX p l s m args meth c G sh ad n A own cc nL) {y : MethodName} {b : ByteArray} {maxL na idx : Nat} {ret : Option FieldType} {rm : Room} {As rest : List Value} {out : Option Value} {M' : zMem} (hM : zM l y b maxL ret rm G sh ad n M As out M') (hw : zCN own idx y b maxL ret na) (hs : Cond.static y ∈ tbG) (hR : zRm rm R maxL) (hAs : As.length = na) (hst : st = As.reverse ++ rest) (hc : cells ≤ R.cells ∧ slots ≤ R.slots) (hrest : (rest.map fun v => v.category).sum ≤ 8) (hd : decode cc pc = .ok (.invokestatic idx, 3)) (kk : zJ p l e R s m args below meth c G sh ad n A nL Q cells slots M' (pc + 3) lv (out.toList ++ rest)) : zJ p l e R s m args below meth c G sh ad n A nL Q cells slots M pc lv st := by
  subst hst
  intro H locs ls hP hS hl
  exact zcall (va_runSN (As := As) (rest := rest) cx.1 (hM H.size) ⟨va_cnB na cx.1.2.2.2.2 (zGood hw.2.2.1) rfl hR.1 hR.2.1 (cx.2.2.1.2.1 _ hw.1) (cx.1.2.2.2.2 _ hw.2.1) hw.2.2.2 hR.2.2, cx.1.2.2.2.2 _ hs, trivial⟩ ⟨zP_blind, fun U hU hW => ⟨rfl, by rw [hU], by rw [hU]; exact hP, zKat cx hS hU hW⟩⟩ rfl hAs hl.1 rfl (lv_room hrest) hd hc) hS (zAin cx hS) hl kk
theorem z_callVN (cx : zX p l s m args meth c G sh ad n A own cc nL) {C : String} {y : MethodName} {b : ByteArray} {maxL na idx k cd : Nat} {ret : Option FieldType} {rm : Room} {As rest : List Value} {out : Option Value} {M' : zMem} (hM : zM l y b maxL ret rm G sh ad n M (.ref (ad k) :: As) out M') (hT : zT sh n k cd) (hO : zObj C cd) (hw : zCN own idx y b maxL ret na) (hs : Cond.instanceMethod y ∈ tbG ∧ Cond.selects C y y ∈ tbG) (hR : zRm rm R maxL) (hAs : As.length = na) (hst : st = As.reverse ++ .ref (ad k) :: rest) (hc : cells ≤ R.cells ∧ slots ≤ R.slots) (hrest : (rest.map fun v => v.category).sum ≤ 8) (hd : decode cc pc = .ok (.invokevirtual idx, 3)) (kk : zJ p l e R s m args below meth c G sh ad n A nL Q cells slots M' (pc + 3) lv (out.toList ++ rest)) : zJ p l e R s m args below meth c G sh ad n A nL Q cells slots M pc lv st := by
  subst hst
  intro H locs ls hP hS hl
  obtain ⟨ci, q, hq, hC, hz⟩ := hO
  obtain ⟨fs, hfs⟩ := hz G ad k (M.1 k) (M.2.1 k) (M.2.2 k)
  have hat := zws_at (G := G) (sh := sh) (ad := ad) (M := M) hT.2.1
  rw [hT.1, hfs] at hat
  have hrecv := va_recv cx.2.2.1.1 hP hq hat
  rw [hC] at hrecv
  exact zcall (va_runVN (As := As) (rest := rest) cx.1 (hM H.size) ⟨va_cnB na cx.1.2.2.2.2 (zGood hw.2.2.1) rfl hR.1 hR.2.1 (cx.2.2.1.2.1 _ hw.1) (cx.1.2.2.2.2 _ hw.2.1) hw.2.2.2 hR.2.2, cx.1.2.2.2.2 _ hs.1, cx.1.2.2.2.2 _ hs.2⟩ ⟨zP_blind, hrecv, fun U hU hW => ⟨rfl, by rw [hU], by rw [hU]; exact hP, zKat cx hS hU hW⟩⟩ rfl hAs hl.1 rfl (lv_room hrest) hd hc) hS (zAin cx hS) hl kk
end ZR
section ZE
variable {p : Program} {l : Launch} {e : Env} {s : State} {m : MethodId} {args : Array Value} {below : List Frame} {meth : Method} {c : Code}
variable {G : zG} {sh ad : Nat → Nat} {n : Nat} {M M' : zMem} {A : Nat → Prop} {own : String} {cc : ByteArray} {nL pc : Nat} {lv : List (Nat × Value)} {ret : Option FieldType} {R : Room}
theorem z_iret (cx : zX p l s m args meth c G sh ad n A own cc nL) {ty : FieldType} {v : Int32} {r : Int32} (hr : meth.sig.returnType = some ty) (hn : narrow ty (.int v) = .int v) (hF : some (v, M) = some (r, M')) (hd : decode cc pc = .ok (.ireturn, 1)) : zJ p l e R s m args below meth c G sh ad n A nL (MQ below (zQ G sh ad n M' (some (.int r)) A) args s 0 0 A) 0 0 M pc lv [.int v] := by
  cases hF
  intro H locs ls hP hS hl
  exact W.zret (v := v) cx.1.1 cx.1.2.1 hr hn (fun t ht hW => ⟨⟨rfl, by rw [ht]; exact hP⟩, hS.F ht⟩) hS.2.2 hd cx.2.1
theorem z_lret (cx : zX p l s m args meth c G sh ad n A own cc nL) {v : Int64} {r : Int64} (hr : meth.sig.returnType = some .long) (hF : some (v, M) = some (r, M')) (hd : decode cc pc = .ok (.lreturn, 1)) : zJ p l e R s m args below meth c G sh ad n A nL (MQ below (zQ G sh ad n M' (some (.long r)) A) args s 0 0 A) 0 0 M pc lv [.long v] := by
  cases hF
  intro H locs ls hP hS hl
  exact W.lret (v := v) cx.1.1 cx.1.2.1 hr (fun t ht hW => ⟨⟨rfl, by rw [ht]; exact hP⟩, hS.F ht⟩) hS.2.2 hd cx.2.1
theorem z_vret (cx : zX p l s m args meth c G sh ad n A own cc nL) (hr : meth.sig.returnType = none) (hF : some M = some M') (hd : decode cc pc = .ok (.return_, 1)) : zJ p l e R s m args below meth c G sh ad n A nL (MQ below (zQ G sh ad n M' none A) args s 0 0 A) 0 0 M pc lv [] := by
  cases hF
  intro H locs ls hP hS hl
  exact W.vret cx.1.1 cx.1.2.1 hr (fun t ht hW => ⟨⟨rfl, by rw [ht]; exact hP⟩, hS.F ht⟩) hS.2.2 hd cx.2.1
/-- a contract out of a walk -/
theorem zM_of {y : MethodName} {b : ByteArray} {maxL : Nat} {rm : Room} {avs : List Value} {out : Option Value} (hA : zInj ad n) (hy : plainName y.cls = true) (hlen : (lg_sl avs).length ≤ maxL) (hlv : lv_args 0 avs = lv)
    (body : ∀ (p : Program) (e : Env) (s : State) (m : MethodId) (args : Array Value) (below : List Frame) (meth : Method) (c : Code) (A : Nat → Prop), zX p l s m args meth c G sh ad n A y.cls b maxL → meth.sig.returnType = ret → zJ p l e rm s m args below meth c G sh ad n A maxL (MQ below (zQ G sh ad n M' out A) args s 0 0 A) 0 0 M 0 lv []) : zM l y b maxL ret rm G sh ad n M avs out M' := by
  intro sz
  refine Met.ofW (cc := b) (maxL := maxL) (ret := ret) hy rfl ?_
  intro p e s m args below meth c s₁ B hml hv
  obtain ⟨rfl, hsz, hP, hK⟩ := hv
  subst hsz
  have hts := atoms_spec (ws := .code y b maxL ret :: tbG) B.pre
  have hown : s.vm.findClass y.cls = some m.cls := findClass_of_methodNamed B.named
  have hx : zX p l s m avs.toArray meth c G sh ad n (zA ad n s.heap.size) y.cls b maxL := ⟨⟨B.exec, B.bytes, hml, hown, fun w hw => hts w (List.mem_cons_of_mem _ hw)⟩, B.notSynchronized, hK, ⟨hA, fun k hk => Or.inl ⟨k, hk, rfl⟩⟩, fun q h => Or.inr h, fun q h => h⟩
  have hl := lv_entry avs (n := maxL) hlen
  rw [lg_entry_eq]
  rw [hlv] at hl
  exact body p e s m avs.toArray below meth c _ hx B.returns s.heap [] _ hP va_S.rf hl
theorem nb0 : narrow .boolean (.int 0) = .int 0 := by decide +kernel
theorem nb1 : narrow .boolean (.int 1) = .int 1 := by decide +kernel
theorem nbx {v : Int32} (h : (v == 0 || v == 1) = true) : narrow .boolean (.int v) = .int v := by
  rcases Bool.or_eq_true _ _ |>.mp h with q | q
  · rw [eq_of_beq q]; exact nb0
  · rw [eq_of_beq q]; exact nb1
theorem zvp {i : Int32} {n : Nat} (h : decide (0 ≤ i ∧ i.toNatClampNeg < n) = true) : vp_in i n := by
  have q := of_decide_eq_true h
  intro z
  rcases z with z | z
  · exact absurd q.1 (Int32.not_le.mpr z)
  · omega
noncomputable def zFuel : Nat := Classical.choose (⟨2000000, rfl⟩ : ∃ n : Nat, n = 2000000)
theorem zFuel_eq : zFuel = 2000000 := Classical.choose_spec (⟨2000000, rfl⟩ : ∃ n : Nat, n = 2000000)
theorem zT_g {sh : Nat → Nat} {n k cd : Nat} (h : (sh k == cd) = true) (hb : ∀ k, sh k = cd → k + zB cd ≤ n) (h1 : 0 < zB cd) : zT sh n k cd := by
  have e := eq_of_beq h
  have := hb k e
  exact ⟨e, by omega, this⟩
end ZE
