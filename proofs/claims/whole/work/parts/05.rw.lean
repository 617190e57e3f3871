section KR
variable {X : Xt} {own : String} {cc : ByteArray} {nL fr lo mc ms cs sl pc : Nat} {Q : State → Prop} {w : Wd} {lv lv2 : List (Nat × Value)} {st : List Value}
theorem k_sub (ks : List Nat) (h : lv_pick lv ks = lv2) (kk : Wk X cs sl Q w lv2 pc st) : Wk X cs sl Q w lv pc st := fun H locs ls hW hl => kk H locs ls hW (lv_sub hl ks h)
theorem k_aload_n (C : Ok X own cc nL fr lo mc ms) {k : Fin 4} {x : Nat} {v : Value} (d : decode cc pc = .ok (.aload_n k, 1)) (j : Nat) (hj : lv[j]? = some (k.val, v)) (hv : v = .ref x) (n : Nat) (hn : n = pc + 1) (kk : Wk X cs sl Q w lv n (v :: st)) : Wk X cs sl Q w lv pc st := by
  subst hn; subst hv; exact fun H locs ls hW hl => lv_aload_n C.1 C.2.1 d rfl (lv_at hl j hj) (kk H locs ls hW hl)
theorem k_iload_n (C : Ok X own cc nL fr lo mc ms) {k : Fin 4} {x : Int32} (d : decode cc pc = .ok (.iload_n k, 1)) (j : Nat) (hj : lv[j]? = some (k.val, .int x)) (n : Nat) (hn : n = pc + 1) (kk : Wk X cs sl Q w lv n (.int x :: st)) : Wk X cs sl Q w lv pc st := by
  subst hn; exact fun H locs ls hW hl => lv_iload_n C.1 C.2.1 d rfl (lv_at hl j hj) (kk H locs ls hW hl)
theorem k_lload_n (C : Ok X own cc nL fr lo mc ms) {k : Fin 4} {x : Int64} (d : decode cc pc = .ok (.lload_n k, 1)) (j : Nat) (hj : lv[j]? = some (k.val, .long x)) (n : Nat) (hn : n = pc + 1) (kk : Wk X cs sl Q w lv n (.long x :: st)) : Wk X cs sl Q w lv pc st := by
  subst hn; exact fun H locs ls hW hl => lv_lload_n C.1 C.2.1 d rfl (lv_at hl j hj) (kk H locs ls hW hl)
theorem k_aload (C : Ok X own cc nL fr lo mc ms) {i : Nat} {x : Nat} {v : Value} (d : decode cc pc = .ok (.aload i, 2)) (j : Nat) (hj : lv[j]? = some (i, v)) (hv : v = .ref x) (n : Nat) (hn : n = pc + 2) (kk : Wk X cs sl Q w lv n (v :: st)) : Wk X cs sl Q w lv pc st := by
  subst hn; subst hv; exact fun H locs ls hW hl => lv_aload C.1 C.2.1 d (lv_at hl j hj) (kk H locs ls hW hl)
theorem k_iload (C : Ok X own cc nL fr lo mc ms) {i : Nat} {x : Int32} (d : decode cc pc = .ok (.iload i, 2)) (j : Nat) (hj : lv[j]? = some (i, .int x)) (n : Nat) (hn : n = pc + 2) (kk : Wk X cs sl Q w lv n (.int x :: st)) : Wk X cs sl Q w lv pc st := by
  subst hn; exact fun H locs ls hW hl => lv_iload C.1 C.2.1 d (lv_at hl j hj) (kk H locs ls hW hl)
theorem k_lload (C : Ok X own cc nL fr lo mc ms) {i : Nat} {x : Int64} (d : decode cc pc = .ok (.lload i, 2)) (j : Nat) (hj : lv[j]? = some (i, .long x)) (n : Nat) (hn : n = pc + 2) (kk : Wk X cs sl Q w lv n (.long x :: st)) : Wk X cs sl Q w lv pc st := by
  subst hn; exact fun H locs ls hW hl => lv_lload C.1 C.2.1 d (lv_at hl j hj) (kk H locs ls hW hl)
theorem k_istore_n (C : Ok X own cc nL fr lo mc ms) {k : Fin 4} {i : Nat} {x : Int32} (d : decode cc pc = .ok (.istore_n k, 1)) (hi : k.val = i) (hb : i < nL) (lv2 : List (Nat × Value)) (hl2 : (i, Value.int x) :: lv.filter (fun q => !(q.1 == i) && !(q.1 + 1 == i && q.2.category == 2)) = lv2) (n : Nat) (hn : n = pc + 1) (kk : Wk X cs sl Q w lv2 n st) : Wk X cs sl Q w lv pc (.int x :: st) := by
  subst hn; have e := C.2.2.2.2.2.2.2.2.2.2; exact fun H locs ls hW hl => lv_istore_n C.1 C.2.1 d hi hl (by rw [e]; exact hb) hl2 (fun ls2 h2 => kk H locs ls2 hW h2)
theorem k_istore (C : Ok X own cc nL fr lo mc ms) {i : Nat} {x : Int32} (d : decode cc pc = .ok (.istore i, 2)) (hb : i < nL) (lv2 : List (Nat × Value)) (hl2 : (i, Value.int x) :: lv.filter (fun q => !(q.1 == i) && !(q.1 + 1 == i && q.2.category == 2)) = lv2) (n : Nat) (hn : n = pc + 2) (kk : Wk X cs sl Q w lv2 n st) : Wk X cs sl Q w lv pc (.int x :: st) := by
  subst hn; have e := C.2.2.2.2.2.2.2.2.2.2; exact fun H locs ls hW hl => lv_istore C.1 C.2.1 d hl (by rw [e]; exact hb) hl2 (fun ls2 h2 => kk H locs ls2 hW h2)
theorem k_lstore_n (C : Ok X own cc nL fr lo mc ms) {k : Fin 4} {i : Nat} {x : Int64} (d : decode cc pc = .ok (.lstore_n k, 1)) (hi : k.val = i) (hb : i + 1 < nL) (lv2 : List (Nat × Value)) (hl2 : (i, Value.long x) :: lv.filter (fun q => !(q.1 == i) && (!(q.1 == i + 1) && !(q.1 + 1 == i && q.2.category == 2))) = lv2) (n : Nat) (hn : n = pc + 1) (kk : Wk X cs sl Q w lv2 n st) : Wk X cs sl Q w lv pc (.long x :: st) := by
  subst hn; have e := C.2.2.2.2.2.2.2.2.2.2; exact fun H locs ls hW hl => lv_lstore_n C.1 C.2.1 d hi hl (by rw [e]; exact hb) hl2 (fun ls2 h2 => kk H locs ls2 hW h2)
theorem k_lstore (C : Ok X own cc nL fr lo mc ms) {i : Nat} {x : Int64} (d : decode cc pc = .ok (.lstore i, 2)) (hb : i + 1 < nL) (lv2 : List (Nat × Value)) (hl2 : (i, Value.long x) :: lv.filter (fun q => !(q.1 == i) && (!(q.1 == i + 1) && !(q.1 + 1 == i && q.2.category == 2))) = lv2) (n : Nat) (hn : n = pc + 2) (kk : Wk X cs sl Q w lv2 n st) : Wk X cs sl Q w lv pc (.long x :: st) := by
  subst hn; have e := C.2.2.2.2.2.2.2.2.2.2; exact fun H locs ls hW hl => lv_lstore C.1 C.2.1 d hl (by rw [e]; exact hb) hl2 (fun ls2 h2 => kk H locs ls2 hW h2)
theorem k_astore_n (C : Ok X own cc nL fr lo mc ms) {k : Fin 4} {i : Nat} {x : Nat} {v : Value} (d : decode cc pc = .ok (.astore_n k, 1)) (hi : k.val = i) (hv : v = .ref x) (hb : i < nL) (lv2 : List (Nat × Value)) (hl2 : (i, v) :: lv.filter (fun q => !(q.1 == i) && !(q.1 + 1 == i && q.2.category == 2)) = lv2) (n : Nat) (hn : n = pc + 1) (kk : Wk X cs sl Q w lv2 n st) : Wk X cs sl Q w lv pc (v :: st) := by
  subst hn; subst hv; have e := C.2.2.2.2.2.2.2.2.2.2; exact fun H locs ls hW hl => lv_astore_n C.1 C.2.1 d hi hl (by rw [e]; exact hb) hl2 (fun ls2 h2 => kk H locs ls2 hW h2)
theorem k_astore (C : Ok X own cc nL fr lo mc ms) {i : Nat} {x : Nat} {v : Value} (d : decode cc pc = .ok (.astore i, 2)) (hv : v = .ref x) (hb : i < nL) (lv2 : List (Nat × Value)) (hl2 : (i, v) :: lv.filter (fun q => !(q.1 == i) && !(q.1 + 1 == i && q.2.category == 2)) = lv2) (n : Nat) (hn : n = pc + 2) (kk : Wk X cs sl Q w lv2 n st) : Wk X cs sl Q w lv pc (v :: st) := by
  subst hn; subst hv; have e := C.2.2.2.2.2.2.2.2.2.2; exact fun H locs ls hW hl => lv_astore C.1 C.2.1 d hl (by rw [e]; exact hb) hl2 (fun ls2 h2 => kk H locs ls2 hW h2)
theorem k_iinc (C : Ok X own cc nL fr lo mc ms) {i : Nat} {x v : Int32} {z : Int} (d : decode cc pc = .ok (.iinc i z, 3)) (j : Nat) (hj : lv[j]? = some (i, .int x)) (hv : Int32.ofInt z = v) (hb : i < nL) (lv2 : List (Nat × Value)) (hl2 : (i, Value.int (x + v)) :: lv.filter (fun q => !(q.1 == i) && !(q.1 + 1 == i && q.2.category == 2)) = lv2) (n : Nat) (hn : n = pc + 3) (kk : Wk X cs sl Q w lv2 n st) : Wk X cs sl Q w lv pc st := by
  subst hn; subst hv; have e := C.2.2.2.2.2.2.2.2.2.2; exact fun H locs ls hW hl => lv_iinc C.1 C.2.1 d hl hj rfl (by rw [e]; exact hb) hl2 (fun ls2 h2 => kk H locs ls2 hW h2)
theorem k_iconst (C : Ok X own cc nL fr lo mc ms) {z : Int} (d : decode cc pc = .ok (.iconst z, 1)) (v : Int32) (hv : Int32.ofInt z = v) (n : Nat) (hn : n = pc + 1) (kk : Wk X cs sl Q w lv n (.int v :: st)) : Wk X cs sl Q w lv pc st := by
  subst hn; exact fun H locs ls hW hl => lv_iconst C.1 C.2.1 d hv (kk H locs ls hW hl)
theorem k_bipush (C : Ok X own cc nL fr lo mc ms) {z : Int} (d : decode cc pc = .ok (.bipush z, 2)) (v : Int32) (hv : (Int8.ofInt z).toInt32 = v) (n : Nat) (hn : n = pc + 2) (kk : Wk X cs sl Q w lv n (.int v :: st)) : Wk X cs sl Q w lv pc st := by
  subst hn; exact fun H locs ls hW hl => lv_bipush C.1 C.2.1 d hv (kk H locs ls hW hl)
theorem k_sipush (C : Ok X own cc nL fr lo mc ms) {z : Int} (d : decode cc pc = .ok (.sipush z, 3)) (v : Int32) (hv : (Int16.ofInt z).toInt32 = v) (n : Nat) (hn : n = pc + 3) (kk : Wk X cs sl Q w lv n (.int v :: st)) : Wk X cs sl Q w lv pc st := by
  subst hn; exact fun H locs ls hW hl => lv_sipush C.1 C.2.1 d hv (kk H locs ls hW hl)
theorem k_lconst (C : Ok X own cc nL fr lo mc ms) {z : Fin 2} (d : decode cc pc = .ok (.lconst z, 1)) (v : Int64) (hv : Int64.ofNat z.val = v) (n : Nat) (hn : n = pc + 1) (kk : Wk X cs sl Q w lv n (.long v :: st)) : Wk X cs sl Q w lv pc st := by
  subst hn; exact fun H locs ls hW hl => lv_lconst C.1 C.2.1 d hv (kk H locs ls hW hl)
theorem k_ldc (C : Ok X own cc nL fr lo mc ms) {ix : Nat} {v : Int32} (d : decode cc pc = .ok (.ldc ix, 2)) (hm : Cond.constant own ix v ∈ tb) (n : Nat) (hn : n = pc + 2) (kk : Wk X cs sl Q w lv n (.int v :: st)) : Wk X cs sl Q w lv pc st := by
  subst hn; exact fun H locs ls hW hl => lv_ldc C.1 C.2.1 C.2.2.2.1 (C.2.2.2.2.1 _ hm) d (kk H locs ls hW hl)
theorem k_ldcw (C : Ok X own cc nL fr lo mc ms) {ix : Nat} {v : Int32} (d : decode cc pc = .ok (.ldc_w ix, 3)) (hm : Cond.constant own ix v ∈ tb) (n : Nat) (hn : n = pc + 3) (kk : Wk X cs sl Q w lv n (.int v :: st)) : Wk X cs sl Q w lv pc st := by
  subst hn; exact fun H locs ls hW hl => lv_ldcw C.1 C.2.1 C.2.2.2.1 (C.2.2.2.2.1 _ hm) d (kk H locs ls hW hl)
theorem k_ldc2 (C : Ok X own cc nL fr lo mc ms) {ix : Nat} {v : Int64} (d : decode cc pc = .ok (.ldc2_w ix, 3)) (hm : Cond.constantLong own ix v ∈ tb) (n : Nat) (hn : n = pc + 3) (kk : Wk X cs sl Q w lv n (.long v :: st)) : Wk X cs sl Q w lv pc st := by
  subst hn; exact fun H locs ls hW hl => lv_ldc2 C.1 C.2.1 C.2.2.2.1 (C.2.2.2.2.1 _ hm) d (kk H locs ls hW hl)
theorem k_ldcS (C : Ok X own cc nL fr lo mc ms) {ix : Nat} (d : decode cc pc = .ok (.ldc ix, 2)) (j : Nat) (hj : j < 5) (ho : own = "GrindMill$Text") (hx : sIx.getD j 0 = ix) (n : Nat) (hn : n = pc + 2) (kk : Wk X cs sl Q w lv n (sV (xg X) j :: st)) : Wk X cs sl Q w lv pc st := by
  subst hn; subst hx; subst ho; exact fun H locs ls hW hl => va_ldcS C.1 C.2.1 C.2.2.2.1 (hW.2.2.2.2.2.2.2.1 j hj) d (kk H locs ls hW hl)
theorem k_iadd (C : Ok X own cc nL fr lo mc ms) {x y : Int32} (d : decode cc pc = .ok (.iadd, 1)) (n : Nat) (hn : n = pc + 1) (kk : Wk X cs sl Q w lv n (.int (x + y) :: st)) : Wk X cs sl Q w lv pc (.int y :: .int x :: st) := by
  subst hn; exact fun H locs ls hW hl => lv_iadd C.1 C.2.1 d (kk H locs ls hW hl)
theorem k_isub (C : Ok X own cc nL fr lo mc ms) {x y : Int32} (d : decode cc pc = .ok (.isub, 1)) (n : Nat) (hn : n = pc + 1) (kk : Wk X cs sl Q w lv n (.int (x - y) :: st)) : Wk X cs sl Q w lv pc (.int y :: .int x :: st) := by
  subst hn; exact fun H locs ls hW hl => lv_isub C.1 C.2.1 d (kk H locs ls hW hl)
theorem k_imul (C : Ok X own cc nL fr lo mc ms) {x y : Int32} (d : decode cc pc = .ok (.imul, 1)) (n : Nat) (hn : n = pc + 1) (kk : Wk X cs sl Q w lv n (.int (x * y) :: st)) : Wk X cs sl Q w lv pc (.int y :: .int x :: st) := by
  subst hn; exact fun H locs ls hW hl => lv_imul C.1 C.2.1 d (kk H locs ls hW hl)
theorem k_iand (C : Ok X own cc nL fr lo mc ms) {x y : Int32} (d : decode cc pc = .ok (.iand, 1)) (n : Nat) (hn : n = pc + 1) (kk : Wk X cs sl Q w lv n (.int (x &&& y) :: st)) : Wk X cs sl Q w lv pc (.int y :: .int x :: st) := by
  subst hn; exact fun H locs ls hW hl => lv_iand C.1 C.2.1 d (kk H locs ls hW hl)
theorem k_ior (C : Ok X own cc nL fr lo mc ms) {x y : Int32} (d : decode cc pc = .ok (.ior, 1)) (n : Nat) (hn : n = pc + 1) (kk : Wk X cs sl Q w lv n (.int (x ||| y) :: st)) : Wk X cs sl Q w lv pc (.int y :: .int x :: st) := by
  subst hn; exact fun H locs ls hW hl => lv_ior C.1 C.2.1 d (kk H locs ls hW hl)
theorem k_ixor (C : Ok X own cc nL fr lo mc ms) {x y : Int32} (d : decode cc pc = .ok (.ixor, 1)) (n : Nat) (hn : n = pc + 1) (kk : Wk X cs sl Q w lv n (.int (x ^^^ y) :: st)) : Wk X cs sl Q w lv pc (.int y :: .int x :: st) := by
  subst hn; exact fun H locs ls hW hl => lv_ixor C.1 C.2.1 d (kk H locs ls hW hl)
theorem k_ishl (C : Ok X own cc nL fr lo mc ms) {x y : Int32} (d : decode cc pc = .ok (.ishl, 1)) (n : Nat) (hn : n = pc + 1) (kk : Wk X cs sl Q w lv n (.int (x <<< (y &&& 31)) :: st)) : Wk X cs sl Q w lv pc (.int y :: .int x :: st) := by
  subst hn; exact fun H locs ls hW hl => lv_ishl C.1 C.2.1 d (kk H locs ls hW hl)
theorem k_ishr (C : Ok X own cc nL fr lo mc ms) {x y : Int32} (d : decode cc pc = .ok (.ishr, 1)) (n : Nat) (hn : n = pc + 1) (kk : Wk X cs sl Q w lv n (.int (x >>> (y &&& 31)) :: st)) : Wk X cs sl Q w lv pc (.int y :: .int x :: st) := by
  subst hn; exact fun H locs ls hW hl => lv_ishr C.1 C.2.1 d (kk H locs ls hW hl)
def iush (x y : Int32) : Int32 := (x.toUInt32 >>> (y.toUInt32 &&& Int32.toUInt32 31)).toInt32
theorem k_iushr (C : Ok X own cc nL fr lo mc ms) {x y : Int32} (d : decode cc pc = .ok (.iushr, 1)) (n : Nat) (hn : n = pc + 1) (kk : Wk X cs sl Q w lv n (.int (iush x y) :: st)) : Wk X cs sl Q w lv pc (.int y :: .int x :: st) := by
  subst hn; exact fun H locs ls hW hl => lv_iushr C.1 C.2.1 d rfl (kk H locs ls hW hl)
def irm (x y : Int32) : Int32 := x - x / y * y
def lrm (x y : Int64) : Int64 := x - x / y * y
theorem k_idiv (C : Ok X own cc nL fr lo mc ms) {x y : Int32} (d : decode cc pc = .ok (.idiv, 1)) (h0 : ¬ y = 0) (n : Nat) (hn : n = pc + 1) (kk : Wk X cs sl Q w lv n (.int (x / y) :: st)) : Wk X cs sl Q w lv pc (.int y :: .int x :: st) := by
  subst hn; exact fun H locs ls hW hl => lv_idiv C.1 C.2.1 d h0 (kk H locs ls hW hl)
theorem k_irem (C : Ok X own cc nL fr lo mc ms) {x y : Int32} (d : decode cc pc = .ok (.irem, 1)) (h0 : ¬ y = 0) (n : Nat) (hn : n = pc + 1) (kk : Wk X cs sl Q w lv n (.int (irm x y) :: st)) : Wk X cs sl Q w lv pc (.int y :: .int x :: st) := by
  subst hn; exact fun H locs ls hW hl => lv_irem C.1 C.2.1 d h0 (kk H locs ls hW hl)
theorem k_ladd (C : Ok X own cc nL fr lo mc ms) {x y : Int64} (d : decode cc pc = .ok (.ladd, 1)) (n : Nat) (hn : n = pc + 1) (kk : Wk X cs sl Q w lv n (.long (x + y) :: st)) : Wk X cs sl Q w lv pc (.long y :: .long x :: st) := by
  subst hn; exact fun H locs ls hW hl => lv_ladd C.1 C.2.1 d (kk H locs ls hW hl)
theorem k_lmul (C : Ok X own cc nL fr lo mc ms) {x y : Int64} (d : decode cc pc = .ok (.lmul, 1)) (n : Nat) (hn : n = pc + 1) (kk : Wk X cs sl Q w lv n (.long (x * y) :: st)) : Wk X cs sl Q w lv pc (.long y :: .long x :: st) := by
  subst hn; exact fun H locs ls hW hl => lv_lmul C.1 C.2.1 d (kk H locs ls hW hl)
theorem k_ldiv (C : Ok X own cc nL fr lo mc ms) {x y : Int64} (d : decode cc pc = .ok (.ldiv, 1)) (h0 : ¬ y = 0) (n : Nat) (hn : n = pc + 1) (kk : Wk X cs sl Q w lv n (.long (x / y) :: st)) : Wk X cs sl Q w lv pc (.long y :: .long x :: st) := by
  subst hn; exact fun H locs ls hW hl => lv_ldiv C.1 C.2.1 d h0 (kk H locs ls hW hl)
theorem k_lrem (C : Ok X own cc nL fr lo mc ms) {x y : Int64} (d : decode cc pc = .ok (.lrem, 1)) (h0 : ¬ y = 0) (n : Nat) (hn : n = pc + 1) (kk : Wk X cs sl Q w lv n (.long (lrm x y) :: st)) : Wk X cs sl Q w lv pc (.long y :: .long x :: st) := by
  subst hn; exact fun H locs ls hW hl => lv_lrem C.1 C.2.1 d h0 (kk H locs ls hW hl)
theorem k_lcmp (C : Ok X own cc nL fr lo mc ms) {x y : Int64} (d : decode cc pc = .ok (.lcmp, 1)) (n : Nat) (hn : n = pc + 1) (kk : Wk X cs sl Q w lv n (.int (lg_cmp x y) :: st)) : Wk X cs sl Q w lv pc (.long y :: .long x :: st) := by
  subst hn; exact fun H locs ls hW hl => W.lcmp C.1 C.2.1 d (kk H locs ls hW hl)
theorem k_i2l (C : Ok X own cc nL fr lo mc ms) {x : Int32} (d : decode cc pc = .ok (.i2l, 1)) (n : Nat) (hn : n = pc + 1) (kk : Wk X cs sl Q w lv n (.long (x.toInt64) :: st)) : Wk X cs sl Q w lv pc (.int x :: st) := by
  subst hn; exact fun H locs ls hW hl => lv_i2l C.1 C.2.1 d rfl (kk H locs ls hW hl)
theorem k_l2i (C : Ok X own cc nL fr lo mc ms) {x : Int64} (d : decode cc pc = .ok (.l2i, 1)) (n : Nat) (hn : n = pc + 1) (kk : Wk X cs sl Q w lv n (.int (x.toInt32) :: st)) : Wk X cs sl Q w lv pc (.long x :: st) := by
  subst hn; exact fun H locs ls hW hl => lv_l2i C.1 C.2.1 d rfl (kk H locs ls hW hl)
theorem k_i2b (C : Ok X own cc nL fr lo mc ms) {x : Int32} (d : decode cc pc = .ok (.i2b, 1)) (n : Nat) (hn : n = pc + 1) (kk : Wk X cs sl Q w lv n (.int (x.toInt8.toInt32) :: st)) : Wk X cs sl Q w lv pc (.int x :: st) := by
  subst hn; exact fun H locs ls hW hl => lv_i2b C.1 C.2.1 d rfl (kk H locs ls hW hl)
theorem k_i2c (C : Ok X own cc nL fr lo mc ms) {x : Int32} (d : decode cc pc = .ok (.i2c, 1)) (n : Nat) (hn : n = pc + 1) (kk : Wk X cs sl Q w lv n (.int ((x.toUInt32 % 65536).toInt32) :: st)) : Wk X cs sl Q w lv pc (.int x :: st) := by
  subst hn; exact fun H locs ls hW hl => lv_i2c C.1 C.2.1 d rfl (kk H locs ls hW hl)
theorem k_dup (C : Ok X own cc nL fr lo mc ms) {v : Value} (d : decode cc pc = .ok (.dup, 1)) (hv : v.category = 1) (n : Nat) (hn : n = pc + 1) (kk : Wk X cs sl Q w lv n (v :: v :: st)) : Wk X cs sl Q w lv pc (v :: st) := by
  subst hn; exact fun H locs ls hW hl => lv_dup C.1 C.2.1 d hv (kk H locs ls hW hl)
theorem k_dup2 (C : Ok X own cc nL fr lo mc ms) {v u : Value} (d : decode cc pc = .ok (.dup2, 1)) (hv : v.category = 1) (hu : u.category = 1) (n : Nat) (hn : n = pc + 1) (kk : Wk X cs sl Q w lv n (v :: u :: v :: u :: st)) : Wk X cs sl Q w lv pc (v :: u :: st) := by
  subst hn; exact fun H locs ls hW hl => lv_dup2_11 C.1 C.2.1 d hv hu (kk H locs ls hW hl)
theorem k_pop (C : Ok X own cc nL fr lo mc ms) {v : Value} (d : decode cc pc = .ok (.pop, 1)) (hv : v.category = 1) (n : Nat) (hn : n = pc + 1) (kk : Wk X cs sl Q w lv n st) : Wk X cs sl Q w lv pc (v :: st) := by
  subst hn; exact fun H locs ls hW hl => lv_pop C.1 C.2.1 d hv (kk H locs ls hW hl)
theorem k_goto (C : Ok X own cc nL fr lo mc ms) {off : Int} (d : decode cc pc = .ok (.goto off, 3)) (n : Nat) (hn : (pc : Int) + off = (n : Int)) (kk : Wk X cs sl Q w lv n st) : Wk X cs sl Q w lv pc st :=
  fun H locs ls hW hl => lv_goto C.1 C.2.1 d hn (kk H locs ls hW hl)
theorem k_icmp_eq (C : Ok X own cc nL fr lo mc ms) {α : Type} {x y : Int32} {off : Int} {i0 : Decidable (x = y)} {A B : Option α} {z : α} (d : decode cc pc = .ok (.if_icmp .eq off, 3)) (hf : (@ite _ (x = y) i0 A B) = some z) (t : Nat) (ht : (pc : Int) + off = (t : Int)) (n : Nat) (hn : n = pc + 3) (kt : A = some z → Wk X cs sl Q w lv t st) (kf : B = some z → Wk X cs sl Q w lv n st) : Wk X cs sl Q w lv pc (.int y :: .int x :: st) := by
  subst hn; exact fun H locs ls hW hl => lv_icmp_eq C.1 C.2.1 d ht (fun h => kt (by rw [if_pos h] at hf; exact hf) H locs ls hW hl) (fun h => kf (by rw [if_neg h] at hf; exact hf) H locs ls hW hl)
theorem k_if_eq (C : Ok X own cc nL fr lo mc ms) {α : Type} {x : Int32} {off : Int} {i0 : Decidable (x = 0)} {A B : Option α} {z : α} (d : decode cc pc = .ok (.ifCond .eq off, 3)) (hf : (@ite _ (x = 0) i0 A B) = some z) (t : Nat) (ht : (pc : Int) + off = (t : Int)) (n : Nat) (hn : n = pc + 3) (kt : A = some z → Wk X cs sl Q w lv t st) (kf : B = some z → Wk X cs sl Q w lv n st) : Wk X cs sl Q w lv pc (.int x :: st) := by
  subst hn; exact fun H locs ls hW hl => lv_if_eq C.1 C.2.1 d ht (fun h => kt (by rw [if_pos h] at hf; exact hf) H locs ls hW hl) (fun h => kf (by rw [if_neg h] at hf; exact hf) H locs ls hW hl)
theorem k_icmp_ne (C : Ok X own cc nL fr lo mc ms) {α : Type} {x y : Int32} {off : Int} {i0 : Decidable (x = y)} {A B : Option α} {z : α} (d : decode cc pc = .ok (.if_icmp .ne off, 3)) (hf : (@ite _ (x = y) i0 A B) = some z) (t : Nat) (ht : (pc : Int) + off = (t : Int)) (n : Nat) (hn : n = pc + 3) (kt : B = some z → Wk X cs sl Q w lv t st) (kf : A = some z → Wk X cs sl Q w lv n st) : Wk X cs sl Q w lv pc (.int y :: .int x :: st) := by
  subst hn; exact fun H locs ls hW hl => lv_icmp_ne C.1 C.2.1 d ht (fun h => kt (by rw [if_neg h] at hf; exact hf) H locs ls hW hl) (fun h => kf (by rw [if_pos h] at hf; exact hf) H locs ls hW hl)
theorem k_if_ne (C : Ok X own cc nL fr lo mc ms) {α : Type} {x : Int32} {off : Int} {i0 : Decidable (x = 0)} {A B : Option α} {z : α} (d : decode cc pc = .ok (.ifCond .ne off, 3)) (hf : (@ite _ (x = 0) i0 A B) = some z) (t : Nat) (ht : (pc : Int) + off = (t : Int)) (n : Nat) (hn : n = pc + 3) (kt : B = some z → Wk X cs sl Q w lv t st) (kf : A = some z → Wk X cs sl Q w lv n st) : Wk X cs sl Q w lv pc (.int x :: st) := by
  subst hn; exact fun H locs ls hW hl => lv_if_ne C.1 C.2.1 d ht (fun h => kt (by rw [if_neg h] at hf; exact hf) H locs ls hW hl) (fun h => kf (by rw [if_pos h] at hf; exact hf) H locs ls hW hl)
theorem k_icmp_lt (C : Ok X own cc nL fr lo mc ms) {α : Type} {x y : Int32} {off : Int} {i0 : Decidable (x < y)} {A B : Option α} {z : α} (d : decode cc pc = .ok (.if_icmp .lt off, 3)) (hf : (@ite _ (x < y) i0 A B) = some z) (t : Nat) (ht : (pc : Int) + off = (t : Int)) (n : Nat) (hn : n = pc + 3) (kt : A = some z → Wk X cs sl Q w lv t st) (kf : B = some z → Wk X cs sl Q w lv n st) : Wk X cs sl Q w lv pc (.int y :: .int x :: st) := by
  subst hn; exact fun H locs ls hW hl => lv_icmp_lt C.1 C.2.1 d ht (fun h => kt (by rw [if_pos h] at hf; exact hf) H locs ls hW hl) (fun h => kf (by rw [if_neg h] at hf; exact hf) H locs ls hW hl)
theorem k_if_lt (C : Ok X own cc nL fr lo mc ms) {α : Type} {x : Int32} {off : Int} {i0 : Decidable (x < 0)} {A B : Option α} {z : α} (d : decode cc pc = .ok (.ifCond .lt off, 3)) (hf : (@ite _ (x < 0) i0 A B) = some z) (t : Nat) (ht : (pc : Int) + off = (t : Int)) (n : Nat) (hn : n = pc + 3) (kt : A = some z → Wk X cs sl Q w lv t st) (kf : B = some z → Wk X cs sl Q w lv n st) : Wk X cs sl Q w lv pc (.int x :: st) := by
  subst hn; exact fun H locs ls hW hl => lv_if_lt C.1 C.2.1 d ht (fun h => kt (by rw [if_pos h] at hf; exact hf) H locs ls hW hl) (fun h => kf (by rw [if_neg h] at hf; exact hf) H locs ls hW hl)
theorem k_icmp_ge (C : Ok X own cc nL fr lo mc ms) {α : Type} {x y : Int32} {off : Int} {i0 : Decidable (y ≤ x)} {A B : Option α} {z : α} (d : decode cc pc = .ok (.if_icmp .ge off, 3)) (hf : (@ite _ (y ≤ x) i0 A B) = some z) (t : Nat) (ht : (pc : Int) + off = (t : Int)) (n : Nat) (hn : n = pc + 3) (kt : A = some z → Wk X cs sl Q w lv t st) (kf : B = some z → Wk X cs sl Q w lv n st) : Wk X cs sl Q w lv pc (.int y :: .int x :: st) := by
  subst hn; exact fun H locs ls hW hl => lv_icmp_ge C.1 C.2.1 d ht (fun h => kt (by rw [if_pos h] at hf; exact hf) H locs ls hW hl) (fun h => kf (by rw [if_neg h] at hf; exact hf) H locs ls hW hl)
theorem k_if_ge (C : Ok X own cc nL fr lo mc ms) {α : Type} {x : Int32} {off : Int} {i0 : Decidable (0 ≤ x)} {A B : Option α} {z : α} (d : decode cc pc = .ok (.ifCond .ge off, 3)) (hf : (@ite _ (0 ≤ x) i0 A B) = some z) (t : Nat) (ht : (pc : Int) + off = (t : Int)) (n : Nat) (hn : n = pc + 3) (kt : A = some z → Wk X cs sl Q w lv t st) (kf : B = some z → Wk X cs sl Q w lv n st) : Wk X cs sl Q w lv pc (.int x :: st) := by
  subst hn; exact fun H locs ls hW hl => lv_if_ge C.1 C.2.1 d ht (fun h => kt (by rw [if_pos h] at hf; exact hf) H locs ls hW hl) (fun h => kf (by rw [if_neg h] at hf; exact hf) H locs ls hW hl)
theorem k_icmp_gt (C : Ok X own cc nL fr lo mc ms) {α : Type} {x y : Int32} {off : Int} {i0 : Decidable (y < x)} {A B : Option α} {z : α} (d : decode cc pc = .ok (.if_icmp .gt off, 3)) (hf : (@ite _ (y < x) i0 A B) = some z) (t : Nat) (ht : (pc : Int) + off = (t : Int)) (n : Nat) (hn : n = pc + 3) (kt : A = some z → Wk X cs sl Q w lv t st) (kf : B = some z → Wk X cs sl Q w lv n st) : Wk X cs sl Q w lv pc (.int y :: .int x :: st) := by
  subst hn; exact fun H locs ls hW hl => lv_icmp_gt C.1 C.2.1 d ht (fun h => kt (by rw [if_pos h] at hf; exact hf) H locs ls hW hl) (fun h => kf (by rw [if_neg h] at hf; exact hf) H locs ls hW hl)
theorem k_if_gt (C : Ok X own cc nL fr lo mc ms) {α : Type} {x : Int32} {off : Int} {i0 : Decidable (0 < x)} {A B : Option α} {z : α} (d : decode cc pc = .ok (.ifCond .gt off, 3)) (hf : (@ite _ (0 < x) i0 A B) = some z) (t : Nat) (ht : (pc : Int) + off = (t : Int)) (n : Nat) (hn : n = pc + 3) (kt : A = some z → Wk X cs sl Q w lv t st) (kf : B = some z → Wk X cs sl Q w lv n st) : Wk X cs sl Q w lv pc (.int x :: st) := by
  subst hn; exact fun H locs ls hW hl => lv_if_gt C.1 C.2.1 d ht (fun h => kt (by rw [if_pos h] at hf; exact hf) H locs ls hW hl) (fun h => kf (by rw [if_neg h] at hf; exact hf) H locs ls hW hl)
theorem k_icmp_le (C : Ok X own cc nL fr lo mc ms) {α : Type} {x y : Int32} {off : Int} {i0 : Decidable (x ≤ y)} {A B : Option α} {z : α} (d : decode cc pc = .ok (.if_icmp .le off, 3)) (hf : (@ite _ (x ≤ y) i0 A B) = some z) (t : Nat) (ht : (pc : Int) + off = (t : Int)) (n : Nat) (hn : n = pc + 3) (kt : A = some z → Wk X cs sl Q w lv t st) (kf : B = some z → Wk X cs sl Q w lv n st) : Wk X cs sl Q w lv pc (.int y :: .int x :: st) := by
  subst hn; exact fun H locs ls hW hl => lv_icmp_le C.1 C.2.1 d ht (fun h => kt (by rw [if_pos h] at hf; exact hf) H locs ls hW hl) (fun h => kf (by rw [if_neg h] at hf; exact hf) H locs ls hW hl)
theorem k_if_le (C : Ok X own cc nL fr lo mc ms) {α : Type} {x : Int32} {off : Int} {i0 : Decidable (x ≤ 0)} {A B : Option α} {z : α} (d : decode cc pc = .ok (.ifCond .le off, 3)) (hf : (@ite _ (x ≤ 0) i0 A B) = some z) (t : Nat) (ht : (pc : Int) + off = (t : Int)) (n : Nat) (hn : n = pc + 3) (kt : A = some z → Wk X cs sl Q w lv t st) (kf : B = some z → Wk X cs sl Q w lv n st) : Wk X cs sl Q w lv pc (.int x :: st) := by
  subst hn; exact fun H locs ls hW hl => lv_if_le C.1 C.2.1 d ht (fun h => kt (by rw [if_pos h] at hf; exact hf) H locs ls hW hl) (fun h => kf (by rw [if_neg h] at hf; exact hf) H locs ls hW hl)
theorem k_tswIn (C : Ok X own cc nL fr lo mc ms) {dflt lo2 hi off : Int} {offs : Array Int} {len : Nat} {x : Int32} (d : decode cc pc = .ok (.tableswitch dflt lo2 hi offs, len)) (v : Int32) (hx : x = v) (h : ¬ v.toInt < lo2 ∧ ¬ hi < v.toInt ∧ offs[(v.toInt - lo2).toNat]? = some off) (t : Nat) (ht : (pc : Int) + off = (t : Int)) (kk : Wk X cs sl Q w lv t st) : Wk X cs sl Q w lv pc (.int x :: st) := by
  subst hx; exact fun H locs ls hW hl => lv_tableIn C.1 C.2.1 d h.1 h.2.1 h.2.2 ht (kk H locs ls hW hl)
theorem k_tswOut (C : Ok X own cc nL fr lo mc ms) {dflt lo2 hi : Int} {offs : Array Int} {len : Nat} {x : Int32} (d : decode cc pc = .ok (.tableswitch dflt lo2 hi offs, len)) (h : x.toInt < lo2 ∨ hi < x.toInt) (t : Nat) (ht : (pc : Int) + dflt = (t : Int)) (kk : Wk X cs sl Q w lv t st) : Wk X cs sl Q w lv pc (.int x :: st) :=
  fun H locs ls hW hl => lv_tableOut C.1 C.2.1 d h ht (kk H locs ls hW hl)
theorem k_nm {α β : Type} {e : α} {K : α → Option β} {z : β} {P : Prop} (hf : nm e K = some z) (kk : ∀ x, x = e → K x = some z → P) : P := kk e rfl hf
theorem k_nmi {β : Type} {e : Int32} {K : Int32 → Option β} {z : β} (hf : nm e K = some z) (kk : ∀ x, K x = some z → Wk X cs sl Q w lv pc (.int x :: st)) : Wk X cs sl Q w lv pc (.int e :: st) := kk e hf
theorem k_nml {β : Type} {e : Int64} {K : Int64 → Option β} {z : β} (hf : nm e K = some z) (kk : ∀ x, K x = some z → Wk X cs sl Q w lv pc (.long x :: st)) : Wk X cs sl Q w lv pc (.long e :: st) := kk e hf
theorem k_split {α : Type} {c P : Prop} {i0 : Decidable c} {A B : Option α} {z : α} (hf : (@ite _ c i0 A B) = some z) (kt : c → A = some z → P) (kf : ¬ c → B = some z → P) : P := by
  by_cases h : c
  · exact kt h (by rw [if_pos h] at hf; exact hf)
  · exact kf h (by rw [if_neg h] at hf; exact hf)
/-- a class: its words, the types and names of its fields -/
def isRf (ty : FieldType) : Bool := match ty with
  | .object _ => true
  | .array _ => true
  | _ => false
theorem fval_rf {B : Nat} {w : Wd} {a k : Nat} {ty : FieldType} (h : isRf ty = true) : fval B w a ty k = va_rf (arf B (wR w a) k) := by
  cases ty <;> first | rfl | exact absurd h (by decide)
theorem fits_rf {ty : FieldType} {a : Nat} (h : isRf ty = true) : fits ty (.ref a) = true := by
  cases ty <;> first | rfl | exact absurd h (by decide)
def CE (t : Nat) : Prop := vwCl[t]? = some (cN t, cT t, fn t) ∧ (∀ w ∈ u_ws (cN t) (cT t) (fn t), w ∈ tb) ∧ (∀ k, k < fn t → parseFieldDescriptor (cT t k).2.2.1 = some (fty t k)) ∧ (∀ a, a < fn t → ∀ b, b < fn t → a ≠ b → (cT t a).2.1 ≠ (cT t b).2.1) ∧ t < 13
def FE (own : String) (ix t k : Nat) : Prop := CE t ∧ k < fn t ∧ Cond.fieldLink own ix (cT t k).1 (cT t k).2.1 (cT t k).2.2.1 ∈ tb
theorem k_getI (C : Ok X own cc nL fr lo mc ms) {α : Type} {ix a t k : Nat} {K : Int32 → Option α} {z : α} (E : FE own ix t k) (hty : fty t k = .int) (d : decode cc pc = .ok (.getfield ix, 3)) (hf : gI w a t k K = some z) (n : Nat) (hn : n = pc + 3) (kk : ∀ x, K x = some z → Wk X cs sl Q w lv n (.int x :: st)) : Wk X cs sl Q w lv pc (rV (xg X) a :: st) := by
  subst hn
  obtain ⟨h1, h2⟩ := gI_s hf
  obtain ⟨⟨e1, e2, e3, e4, e5⟩, e6, e7⟩ := E
  intro H locs ls hW hl
  exact va_get C.1 C.2.1 C.2.2.2.2.1 e2 C.2.2.2.1 hW.1 hW.2.1 a (by rw [lay_get (isO_iff.mp h1).1, cell_o h1 e5]) e1 k e6 (C.2.2.2.2.1 _ e7) (fun _ h => h) (by rw [fs_at e6, hty]; rfl) d (kk _ h2 H locs ls hW hl)
theorem k_getL (C : Ok X own cc nL fr lo mc ms) {α : Type} {ix a t k : Nat} {K : Int64 → Option α} {z : α} (E : FE own ix t k) (hty : fty t k = .long) (d : decode cc pc = .ok (.getfield ix, 3)) (hf : gL w a t k K = some z) (n : Nat) (hn : n = pc + 3) (kk : ∀ x, K x = some z → Wk X cs sl Q w lv n (.long x :: st)) : Wk X cs sl Q w lv pc (rV (xg X) a :: st) := by
  subst hn
  obtain ⟨h1, h2⟩ := gL_s hf
  obtain ⟨⟨e1, e2, e3, e4, e5⟩, e6, e7⟩ := E
  intro H locs ls hW hl
  exact va_get C.1 C.2.1 C.2.2.2.2.1 e2 C.2.2.2.1 hW.1 hW.2.1 a (by rw [lay_get (isO_iff.mp h1).1, cell_o h1 e5]) e1 k e6 (C.2.2.2.2.1 _ e7) (fun _ h => h) (by rw [fs_at e6, hty]; rfl) d (kk _ h2 H locs ls hW hl)
theorem k_getR (C : Ok X own cc nL fr lo mc ms) {α : Type} {ix a t k : Nat} {K : Nat → Option α} {z : α} (E : FE own ix t k) (hty : isRf (fty t k) = true) (d : decode cc pc = .ok (.getfield ix, 3)) (hf : gR w a t k K = some z) (n : Nat) (hn : n = pc + 3) (kk : ∀ r, K r = some z → Wk X cs sl Q w lv n (rV (xg X) r :: st)) : Wk X cs sl Q w lv pc (rV (xg X) a :: st) := by
  subst hn
  obtain ⟨h1, r, h3, h2⟩ := gR_s hf
  obtain ⟨⟨e1, e2, e3, e4, e5⟩, e6, e7⟩ := E
  intro H locs ls hW hl
  have hv : fval (gB (xg X)) w a (fty t k) k = rV (xg X) r := by
    rw [fval_rf hty]
    simp [arf, h3, va_rf, rV]
  exact va_get C.1 C.2.1 C.2.2.2.2.1 e2 C.2.2.2.1 hW.1 hW.2.1 a (by rw [lay_get (isO_iff.mp h1).1, cell_o h1 e5]) e1 k e6 (C.2.2.2.2.1 _ e7) (fun _ h => h) (by rw [fs_at e6, hv]) d (kk _ h2 H locs ls hW hl)
theorem lay_sI {G : Nat → ClassId} {B : Nat} {w : Wd} {a t k : Nat} {x : Int32} (h1 : isO w a t = true) (ht : t < 13) (hk : k < fn t) (hty : fty t k = .int) : (lay G B w).set a (B + a, .inr (t, (fsO B w a t).set k (.int x))) = lay G B (sI w a k x) := by
  refine lay_set rfl (isO_iff.mp h1).1 ?_ (fun b hb => ?_)
  · rw [cell_o (w := sI w a k x) (t := t) h1 ht, fs_set (B := B) (w := w) (a := a) (w' := sI w a k x) (v := .int x) hk (by rw [hty]; simp [fval, wI_sI]) (fun j hj => fval_ext (by simp [wI_sI, hj]) rfl rfl)]
  · exact cell_ext rfl (by funext j; simp [wI_sI, hb]) rfl rfl
theorem lay_sL {G : Nat → ClassId} {B : Nat} {w : Wd} {a t k : Nat} {x : Int64} (h1 : isO w a t = true) (ht : t < 13) (hk : k < fn t) (hty : fty t k = .long) : (lay G B w).set a (B + a, .inr (t, (fsO B w a t).set k (.long x))) = lay G B (sL w a k x) := by
  refine lay_set rfl (isO_iff.mp h1).1 ?_ (fun b hb => ?_)
  · rw [cell_o (w := sL w a k x) (t := t) h1 ht, fs_set (B := B) (w := w) (a := a) (w' := sL w a k x) (v := .long x) hk (by rw [hty]; simp [fval, wL_sL]) (fun j hj => fval_ext rfl (by simp [wL_sL, hj]) rfl)]
  · exact cell_ext rfl rfl (by funext j; simp [wL_sL, hb]) rfl
theorem lay_sR {G : Nat → ClassId} {B : Nat} {w : Wd} {a t k r : Nat} (h1 : isO w a t = true) (ht : t < 13) (hk : k < fn t) (hty : isRf (fty t k) = true) : (lay G B w).set a (B + a, .inr (t, (fsO B w a t).set k (.ref (B + r)))) = lay G B (sR w a k r) := by
  refine lay_set rfl (isO_iff.mp h1).1 ?_ (fun b hb => ?_)
  · have hv : fval B (sR w a k r) a (fty t k) k = .ref (B + r) := by
      rw [fval_rf hty]
      simp [arf, wR_sR, va_rf]
    rw [cell_o (w := sR w a k r) (t := t) h1 ht, fs_set (B := B) (w := w) (a := a) (w' := sR w a k r) hk hv (fun j hj => fval_ext rfl rfl (by simp [wR_sR, hj]))]
  · exact cell_ext rfl rfl rfl (by funext j; simp [wR_sR, hb])
theorem FW.to {w w' : Wd} {H H1 : Heap} {locs locs1 : List Loc} (h : FW X w H locs cs) (hP : va_P (gD (xg X)) vwCl (lay (gC (xg X)) (gB (xg X)) w') H1) (hS : va_S (gA (xg X)) (xs X).heap H1 locs1) (hn : wN w' = wN w) : FW X w' H1 locs1 cs :=
  ⟨h.1, hP, hS, by rw [hn]; exact h.2.2.2.1, h.2.2.2.2.1, h.2.2.2.2.2⟩
theorem k_putI (C : Ok X own cc nL fr lo mc ms) {α : Type} {ix a t k : Nat} {x : Int32} {K : Wd → Option α} {z : α} (E : FE own ix t k) (hty : fty t k = .int) (hfin : (cT t k).2.2.2 = false) (d : decode cc pc = .ok (.putfield ix, 3)) (hf : pI w a t k x K = some z) (n : Nat) (hn : n = pc + 3) (kk : ∀ w2, w2 = sI w a k x → K w2 = some z → Wk X cs sl Q w2 lv n st) : Wk X cs sl Q w lv pc (.int x :: rV (xg X) a :: st) := by
  subst hn
  obtain ⟨h1, h2⟩ := pI_s hf
  obtain ⟨⟨e1, e2, e3, e4, e5⟩, e6, e7⟩ := E
  intro H locs ls hW hl
  refine va_put (ty := .int) C.1 C.2.1 C.2.2.2.2.1 e2 (fty t) e3 e4 C.2.2.2.1 hW.1 hW.2.1 lay_D hW.2.2.1 a (by rw [lay_get (isO_iff.mp h1).1, cell_o h1 e5]) e1 k e6 (C.2.2.2.2.1 _ e7) (fun _ h => h) hfin (by rw [e3 k e6, hty]) rfl rfl (by rw [fs_len]; exact e6) d (fun H1 locs1 hP hD hS => ?_)
  rw [lay_sI h1 e5 e6 hty] at hP
  exact kk _ rfl h2 H1 locs1 ls (hW.to hP hS rfl) hl
theorem k_putIF (C : Ok X own cc nL fr lo mc ms) {α : Type} {ix a t k : Nat} {x : Int32} {K : Wd → Option α} {z : α} (E : FE own ix t k) (hty : fty t k = .int) (hfin : (cT t k).2.2.2 = true) (hin : (xme X).name = "<init>") (hdc : (cT t k).1 = own) (d : decode cc pc = .ok (.putfield ix, 3)) (hf : pI w a t k x K = some z) (n : Nat) (hn : n = pc + 3) (kk : ∀ w2, w2 = sI w a k x → K w2 = some z → Wk X cs sl Q w2 lv n st) : Wk X cs sl Q w lv pc (.int x :: rV (xg X) a :: st) := by
  subst hn
  obtain ⟨h1, h2⟩ := pI_s hf
  obtain ⟨⟨e1, e2, e3, e4, e5⟩, e6, e7⟩ := E
  intro H locs ls hW hl
  refine va_putF (ty := .int) C.1 C.2.1 C.2.2.2.2.1 e2 (fty t) e3 e4 C.2.2.2.1 hW.1 hW.2.1 lay_D hW.2.2.1 a (by rw [lay_get (isO_iff.mp h1).1, cell_o h1 e5]) e1 k e6 (C.2.2.2.2.1 _ e7) (fun _ h => h) hfin hin hdc (by rw [e3 k e6, hty]) rfl rfl (by rw [fs_len]; exact e6) d (fun H1 locs1 hP hD hS => ?_)
  rw [lay_sI h1 e5 e6 hty] at hP
  exact kk _ rfl h2 H1 locs1 ls (hW.to hP hS rfl) hl
theorem k_putL (C : Ok X own cc nL fr lo mc ms) {α : Type} {ix a t k : Nat} {x : Int64} {K : Wd → Option α} {z : α} (E : FE own ix t k) (hty : fty t k = .long) (hfin : (cT t k).2.2.2 = false) (d : decode cc pc = .ok (.putfield ix, 3)) (hf : pL w a t k x K = some z) (n : Nat) (hn : n = pc + 3) (kk : ∀ w2, w2 = sL w a k x → K w2 = some z → Wk X cs sl Q w2 lv n st) : Wk X cs sl Q w lv pc (.long x :: rV (xg X) a :: st) := by
  subst hn
  obtain ⟨h1, h2⟩ := pL_s hf
  obtain ⟨⟨e1, e2, e3, e4, e5⟩, e6, e7⟩ := E
  intro H locs ls hW hl
  refine va_put (ty := .long) C.1 C.2.1 C.2.2.2.2.1 e2 (fty t) e3 e4 C.2.2.2.1 hW.1 hW.2.1 lay_D hW.2.2.1 a (by rw [lay_get (isO_iff.mp h1).1, cell_o h1 e5]) e1 k e6 (C.2.2.2.2.1 _ e7) (fun _ h => h) hfin (by rw [e3 k e6, hty]) rfl rfl (by rw [fs_len]; exact e6) d (fun H1 locs1 hP hD hS => ?_)
  rw [lay_sL h1 e5 e6 hty] at hP
  exact kk _ rfl h2 H1 locs1 ls (hW.to hP hS rfl) hl
theorem k_putLF (C : Ok X own cc nL fr lo mc ms) {α : Type} {ix a t k : Nat} {x : Int64} {K : Wd → Option α} {z : α} (E : FE own ix t k) (hty : fty t k = .long) (hfin : (cT t k).2.2.2 = true) (hin : (xme X).name = "<init>") (hdc : (cT t k).1 = own) (d : decode cc pc = .ok (.putfield ix, 3)) (hf : pL w a t k x K = some z) (n : Nat) (hn : n = pc + 3) (kk : ∀ w2, w2 = sL w a k x → K w2 = some z → Wk X cs sl Q w2 lv n st) : Wk X cs sl Q w lv pc (.long x :: rV (xg X) a :: st) := by
  subst hn
  obtain ⟨h1, h2⟩ := pL_s hf
  obtain ⟨⟨e1, e2, e3, e4, e5⟩, e6, e7⟩ := E
  intro H locs ls hW hl
  refine va_putF (ty := .long) C.1 C.2.1 C.2.2.2.2.1 e2 (fty t) e3 e4 C.2.2.2.1 hW.1 hW.2.1 lay_D hW.2.2.1 a (by rw [lay_get (isO_iff.mp h1).1, cell_o h1 e5]) e1 k e6 (C.2.2.2.2.1 _ e7) (fun _ h => h) hfin hin hdc (by rw [e3 k e6, hty]) rfl rfl (by rw [fs_len]; exact e6) d (fun H1 locs1 hP hD hS => ?_)
  rw [lay_sL h1 e5 e6 hty] at hP
  exact kk _ rfl h2 H1 locs1 ls (hW.to hP hS rfl) hl
theorem k_putR (C : Ok X own cc nL fr lo mc ms) {α : Type} {ix a t k r : Nat} {K : Wd → Option α} {z : α} (E : FE own ix t k) (hty : isRf (fty t k) = true) (hfin : (cT t k).2.2.2 = false) (d : decode cc pc = .ok (.putfield ix, 3)) (hf : pR w a t k r K = some z) (n : Nat) (hn : n = pc + 3) (kk : ∀ w2, w2 = sR w a k r → K w2 = some z → Wk X cs sl Q w2 lv n st) : Wk X cs sl Q w lv pc (rV (xg X) r :: rV (xg X) a :: st) := by
  subst hn
  obtain ⟨h1, h2⟩ := pR_s hf
  obtain ⟨⟨e1, e2, e3, e4, e5⟩, e6, e7⟩ := E
  intro H locs ls hW hl
  have hn1 : narrow (fty t k) (rV (xg X) r) = rV (xg X) r := by cases hq : fty t k <;> rfl
  have hn2 : fits (fty t k) (rV (xg X) r) = true := fits_rf hty
  refine va_put (ty := fty t k) C.1 C.2.1 C.2.2.2.2.1 e2 (fty t) e3 e4 C.2.2.2.1 hW.1 hW.2.1 lay_D hW.2.2.1 a (by rw [lay_get (isO_iff.mp h1).1, cell_o h1 e5]) e1 k e6 (C.2.2.2.2.1 _ e7) (fun _ h => h) hfin (e3 k e6) hn1 hn2 (by rw [fs_len]; exact e6) d (fun H1 locs1 hP hD hS => ?_)
  rw [show rV (xg X) r = .ref (gB (xg X) + r) from rfl, lay_sR h1 e5 e6 hty] at hP
  exact kk _ rfl h2 H1 locs1 ls (hW.to hP hS rfl) hl
theorem k_putRF (C : Ok X own cc nL fr lo mc ms) {α : Type} {ix a t k r : Nat} {K : Wd → Option α} {z : α} (E : FE own ix t k) (hty : isRf (fty t k) = true) (hfin : (cT t k).2.2.2 = true) (hin : (xme X).name = "<init>") (hdc : (cT t k).1 = own) (d : decode cc pc = .ok (.putfield ix, 3)) (hf : pR w a t k r K = some z) (n : Nat) (hn : n = pc + 3) (kk : ∀ w2, w2 = sR w a k r → K w2 = some z → Wk X cs sl Q w2 lv n st) : Wk X cs sl Q w lv pc (rV (xg X) r :: rV (xg X) a :: st) := by
  subst hn
  obtain ⟨h1, h2⟩ := pR_s hf
  obtain ⟨⟨e1, e2, e3, e4, e5⟩, e6, e7⟩ := E
  intro H locs ls hW hl
  have hn1 : narrow (fty t k) (rV (xg X) r) = rV (xg X) r := by cases hq : fty t k <;> rfl
  have hn2 : fits (fty t k) (rV (xg X) r) = true := fits_rf hty
  refine va_putF (ty := fty t k) C.1 C.2.1 C.2.2.2.2.1 e2 (fty t) e3 e4 C.2.2.2.1 hW.1 hW.2.1 lay_D hW.2.2.1 a (by rw [lay_get (isO_iff.mp h1).1, cell_o h1 e5]) e1 k e6 (C.2.2.2.2.1 _ e7) (fun _ h => h) hfin hin hdc (e3 k e6) hn1 hn2 (by rw [fs_len]; exact e6) d (fun H1 locs1 hP hD hS => ?_)
  rw [show rV (xg X) r = .ref (gB (xg X) + r) from rfl, lay_sR h1 e5 e6 hty] at hP
  exact kk _ rfl h2 H1 locs1 ls (hW.to hP hS rfl) hl
theorem lay_aI {G : Nat → ClassId} {B : Nat} {w : Wd} {a t k : Nat} {x : Int32} (h1 : isO w a t = true) (ht : ¬ t < 13) (ht2 : t < 16) : (lay G B w).set a (B + a, .inl (G t, (wS w a).2, .inl (upd (wI w a) k x))) = lay G B (sI w a k x) := by
  refine lay_set rfl (isO_iff.mp h1).1 ?_ (fun b hb => ?_)
  · rw [cell_i (w := sI w a k x) (t := t) h1 ht ht2]
    congr 4
    funext j
    by_cases hj : j = k <;> simp [wI_sI, upd, hj]
  · exact cell_ext rfl (by funext j; simp [wI_sI, hb]) rfl rfl
theorem arf_up {B : Nat} {w : Wd} {a k r : Nat} : va_up (arf B (wR w a)) k (some (B + r)) = arf B (wR (sR w a k r) a) := by
  funext j
  by_cases hj : j = k <;> simp [va_up, arf, wR_sR, hj]
theorem lay_aR {G : Nat → ClassId} {B : Nat} {w : Wd} {a t k r : Nat} (h1 : isO w a t = true) (ht2 : ¬ t < 16) : (lay G B w).set a (B + a, .inl (G t, (wS w a).2, .inr (.inr (.inr (.inr (va_up (arf B (wR w a)) k (some (B + r)))))))) = lay G B (sR w a k r) := by
  refine lay_set rfl (isO_iff.mp h1).1 ?_ (fun b hb => ?_)
  · rw [cell_r (w := sR w a k r) (t := t) h1 ht2, arf_up]
    rfl
  · exact cell_ext rfl rfl rfl (by funext j; simp [wR_sR, hb])
theorem k_iald (C : Ok X own cc nL fr lo mc ms) {α : Type} {a : Nat} {i : Int32} {K : Int32 → Option α} {z : α} (d : decode cc pc = .ok (.iaload, 1)) (hf : lI w a 14 i K = some z) (n : Nat) (hn : n = pc + 1) (kk : ∀ x, K x = some z → Wk X cs sl Q w lv n (.int x :: st)) : Wk X cs sl Q w lv pc (.int i :: rV (xg X) a :: st) := by
  subst hn
  obtain ⟨h1, h3, h2⟩ := lI_s hf
  intro H locs ls hW hl
  exact va_iald C.1 C.2.1 hW.1 hW.2.1 a 1 (by rw [lay_get (isO_iff.mp h1).1, cell_i h1 (by decide) (by decide)]) rfl (inb_vp h3) d (kk _ h2 H locs ls hW hl)
theorem k_bald (C : Ok X own cc nL fr lo mc ms) {α : Type} {a : Nat} {i : Int32} {K : Int32 → Option α} {z : α} (d : decode cc pc = .ok (.baload, 1)) (hf : lI w a 13 i K = some z) (n : Nat) (hn : n = pc + 1) (kk : ∀ x, K x = some z → Wk X cs sl Q w lv n (.int x :: st)) : Wk X cs sl Q w lv pc (.int i :: rV (xg X) a :: st) := by
  subst hn
  obtain ⟨h1, h3, h2⟩ := lI_s hf
  intro H locs ls hW hl
  exact va_bald C.1 C.2.1 hW.1 hW.2.1 a 0 (by rw [lay_get (isO_iff.mp h1).1, cell_i h1 (by decide) (by decide)]) rfl (inb_vp h3) d (kk _ h2 H locs ls hW hl)
theorem k_zald (C : Ok X own cc nL fr lo mc ms) {α : Type} {a : Nat} {i : Int32} {K : Int32 → Option α} {z : α} (d : decode cc pc = .ok (.baload, 1)) (hf : lI w a 15 i K = some z) (n : Nat) (hn : n = pc + 1) (kk : ∀ x, K x = some z → Wk X cs sl Q w lv n (.int x :: st)) : Wk X cs sl Q w lv pc (.int i :: rV (xg X) a :: st) := by
  subst hn
  obtain ⟨h1, h3, h2⟩ := lI_s hf
  intro H locs ls hW hl
  exact va_zald C.1 C.2.1 hW.1 hW.2.1 a 2 (by rw [lay_get (isO_iff.mp h1).1, cell_i h1 (by decide) (by decide)]) rfl (inb_vp h3) d (kk _ h2 H locs ls hW hl)
theorem k_iast (C : Ok X own cc nL fr lo mc ms) {α : Type} {a : Nat} {i x : Int32} {K : Wd → Option α} {z : α} (d : decode cc pc = .ok (.iastore, 1)) (hf : aI w a 14 i x K = some z) (n : Nat) (hn : n = pc + 1) (kk : ∀ w2, w2 = sI w a i.toNatClampNeg x → K w2 = some z → Wk X cs sl Q w2 lv n st) : Wk X cs sl Q w lv pc (.int x :: .int i :: rV (xg X) a :: st) := by
  subst hn
  obtain ⟨h1, h3, h2⟩ := aI_s hf
  intro H locs ls hW hl
  refine va_iast C.1 C.2.1 hW.1 hW.2.1 lay_D hW.2.2.1 a 1 (by rw [lay_get (isO_iff.mp h1).1, cell_i h1 (by decide) (by decide)]) rfl (inb_vp h3) d (fun H1 locs1 hP hD hS => ?_)
  rw [lay_aI h1 (by decide) (by decide)] at hP
  exact kk _ rfl h2 H1 locs1 ls (hW.to hP hS rfl) hl
theorem k_bast (C : Ok X own cc nL fr lo mc ms) {α : Type} {a : Nat} {i x : Int32} {K : Wd → Option α} {z : α} (d : decode cc pc = .ok (.bastore, 1)) (hf : aI w a 13 i (vp_nar .byte x) K = some z) (n : Nat) (hn : n = pc + 1) (kk : ∀ w2, w2 = sI w a i.toNatClampNeg (vp_nar .byte x) → K w2 = some z → Wk X cs sl Q w2 lv n st) : Wk X cs sl Q w lv pc (.int x :: .int i :: rV (xg X) a :: st) := by
  subst hn
  obtain ⟨h1, h3, h2⟩ := aI_s hf
  intro H locs ls hW hl
  refine va_bast C.1 C.2.1 hW.1 hW.2.1 lay_D hW.2.2.1 a 0 (by rw [lay_get (isO_iff.mp h1).1, cell_i h1 (by decide) (by decide)]) rfl (inb_vp h3) d (fun H1 locs1 hP hD hS => ?_)
  rw [lay_aI h1 (by decide) (by decide)] at hP
  exact kk _ rfl h2 H1 locs1 ls (hW.to hP hS rfl) hl
theorem k_zast (C : Ok X own cc nL fr lo mc ms) {α : Type} {a : Nat} {i x : Int32} {K : Wd → Option α} {z : α} (d : decode cc pc = .ok (.bastore, 1)) (hf : aI w a 15 i (vp_nar .boolean x) K = some z) (n : Nat) (hn : n = pc + 1) (kk : ∀ w2, w2 = sI w a i.toNatClampNeg (vp_nar .boolean x) → K w2 = some z → Wk X cs sl Q w2 lv n st) : Wk X cs sl Q w lv pc (.int x :: .int i :: rV (xg X) a :: st) := by
  subst hn
  obtain ⟨h1, h3, h2⟩ := aI_s hf
  intro H locs ls hW hl
  refine va_zast C.1 C.2.1 hW.1 hW.2.1 lay_D hW.2.2.1 a 2 (by rw [lay_get (isO_iff.mp h1).1, cell_i h1 (by decide) (by decide)]) rfl (inb_vp h3) d (fun H1 locs1 hP hD hS => ?_)
  rw [lay_aI h1 (by decide) (by decide)] at hP
  exact kk _ rfl h2 H1 locs1 ls (hW.to hP hS rfl) hl
theorem k_aald16 (C : Ok X own cc nL fr lo mc ms) {α : Type} {a : Nat} {i : Int32} {K : Nat → Option α} {z : α} (d : decode cc pc = .ok (.aaload, 1)) (hf : lR w a 16 i K = some z) (n : Nat) (hn : n = pc + 1) (kk : ∀ r, K r = some z → Wk X cs sl Q w lv n (rV (xg X) r :: st)) : Wk X cs sl Q w lv pc (.int i :: rV (xg X) a :: st) := by
  subst hn
  obtain ⟨h1, h3, r, h4, h2⟩ := lR_s hf
  intro H locs ls hW hl
  refine va_aldq C.1 C.2.1 hW.1 hW.2.1 a 3 (by rw [lay_get (isO_iff.mp h1).1, cell_r h1 (by decide)]) rfl (inb_vp h3) d ?_
  rw [show arf (gB (xg X)) (wR w a) i.toNatClampNeg = some (gB (xg X) + r) by simp [arf, h4]]
  exact kk _ h2 H locs ls hW hl
theorem k_aald17 (C : Ok X own cc nL fr lo mc ms) {α : Type} {a : Nat} {i : Int32} {K : Nat → Option α} {z : α} (d : decode cc pc = .ok (.aaload, 1)) (hf : lR w a 17 i K = some z) (n : Nat) (hn : n = pc + 1) (kk : ∀ r, K r = some z → Wk X cs sl Q w lv n (rV (xg X) r :: st)) : Wk X cs sl Q w lv pc (.int i :: rV (xg X) a :: st) := by
  subst hn
  obtain ⟨h1, h3, r, h4, h2⟩ := lR_s hf
  intro H locs ls hW hl
  refine va_aldq C.1 C.2.1 hW.1 hW.2.1 a 4 (by rw [lay_get (isO_iff.mp h1).1, cell_r h1 (by decide)]) rfl (inb_vp h3) d ?_
  rw [show arf (gB (xg X)) (wR w a) i.toNatClampNeg = some (gB (xg X) + r) by simp [arf, h4]]
  exact kk _ h2 H locs ls hW hl
theorem k_aald18 (C : Ok X own cc nL fr lo mc ms) {α : Type} {a : Nat} {i : Int32} {K : Nat → Option α} {z : α} (d : decode cc pc = .ok (.aaload, 1)) (hf : lR w a 18 i K = some z) (n : Nat) (hn : n = pc + 1) (kk : ∀ r, K r = some z → Wk X cs sl Q w lv n (rV (xg X) r :: st)) : Wk X cs sl Q w lv pc (.int i :: rV (xg X) a :: st) := by
  subst hn
  obtain ⟨h1, h3, r, h4, h2⟩ := lR_s hf
  intro H locs ls hW hl
  refine va_aldq C.1 C.2.1 hW.1 hW.2.1 a 5 (by rw [lay_get (isO_iff.mp h1).1, cell_r h1 (by decide)]) rfl (inb_vp h3) d ?_
  rw [show arf (gB (xg X)) (wR w a) i.toNatClampNeg = some (gB (xg X) + r) by simp [arf, h4]]
  exact kk _ h2 H locs ls hW hl
theorem k_aald19 (C : Ok X own cc nL fr lo mc ms) {α : Type} {a : Nat} {i : Int32} {K : Nat → Option α} {z : α} (d : decode cc pc = .ok (.aaload, 1)) (hf : lR w a 19 i K = some z) (n : Nat) (hn : n = pc + 1) (kk : ∀ r, K r = some z → Wk X cs sl Q w lv n (rV (xg X) r :: st)) : Wk X cs sl Q w lv pc (.int i :: rV (xg X) a :: st) := by
  subst hn
  obtain ⟨h1, h3, r, h4, h2⟩ := lR_s hf
  intro H locs ls hW hl
  have hlt : i.toNatClampNeg < (wS w a).2 := (inb_iff.mp h3).2
  have hin := inb_vp h3
  have hP := hW.2.1 a _ (by rw [lay_get (isO_iff.mp h1).1, cell_r h1 (by decide)])
  have hv : arf (gB (xg X)) (wR w a) i.toNatClampNeg = some (gB (xg X) + r) := by simp [arf, h4]
  refine W.aald (v := va_rf (arf (gB (xg X)) (wR w a) i.toNatClampNeg)) (ty := .array .int) C.1 C.2.1 hP ((hW.1.2 6 (gC (xg X) 19, .array .int) rfl).1 (wS w a).2 (fun j => va_rf (arf (gB (xg X)) (wR w a) j))) rfl (fun q => by cases q) (by show ¬ (i < 0 ∨ (arrV _ _ _).slots.size ≤ _); rw [arrV_size]; exact hin) (by show (arrV _ _ _).slots[_]? = _; rw [arrV_read _ _ hlt]) rfl rfl d ?_
  rw [hv]
  exact kk _ h2 H locs ls hW hl
theorem k_alen (C : Ok X own cc nL fr lo mc ms) {α : Type} {a : Nat} {K : Int32 → Option α} {z : α} (d : decode cc pc = .ok (.arraylength, 1)) (hf : lenA w a 14 K = some z) (n : Nat) (hn : n = pc + 1) (kk : ∀ x, K x = some z → Wk X cs sl Q w lv n (.int x :: st)) : Wk X cs sl Q w lv pc (rV (xg X) a :: st) := by
  subst hn
  obtain ⟨h1, h2⟩ := lenA_s hf
  intro H locs ls hW hl
  exact va_alen C.1 C.2.1 hW.1 hW.2.1 a 1 (by rw [lay_get (isO_iff.mp h1).1, cell_i h1 (by decide) (by decide)]) rfl rfl d (kk _ h2 H locs ls hW hl)
theorem k_copy (C : Ok X own cc nL fr lo mc ms) {α : Type} {ix a0 a : Nat} {sp dp m : Int32} {K : Wd → Option α} {z : α} (hm : Cond.methodLink own ix arraycopyName ∈ tb) (hm2 : Cond.native arraycopyName ∈ tb) (hm3 : Cond.static arraycopyName ∈ tb) (hm4 : Cond.initialized "java/lang/System" ∈ tb) (hfr : 1 ≤ fr) (hlo : (st.map fun v => v.category).sum + (nativeFrameWords "java/lang/System" "arraycopy" 5 + 11) ≤ lo) (d : decode cc pc = .ok (.invokestatic ix, 3)) (hf : cpI w a0 sp a dp m K = some z) (n : Nat) (hn : n = pc + 3) (kk : ∀ w2, w2 = cI w a0 sp.toNatClampNeg a dp.toNatClampNeg m.toNatClampNeg → K w2 = some z → Wk X cs sl Q w2 lv n st) : Wk X cs sl Q w lv pc (.int m :: .int dp :: rV (xg X) a :: .int sp :: rV (xg X) a0 :: st) := by
  subst hn
  obtain ⟨h0, h1, q1, q2, q3, q4, q5, h2⟩ := cpI_s hf
  obtain ⟨C1, C2, C3, C4, C5, C6, C7, C8, C9⟩ := C
  intro H locs ls hW hl
  refine va_copyi (ty := .int) C1 C2 (by rw [C3]; exact hl.1.symm) C4 (C5 _ hm) (C5 _ hm2) (C5 _ hm3) (C5 _ hm4) hW.1 hW.2.1 lay_D hW.2.2.1 a0 a 1 1 (by rw [lay_get (isO_iff.mp h0).1, cell_i h0 (by decide) (by decide)]) (by rw [lay_get (isO_iff.mp h1).1, cell_i h1 (by decide) (by decide)]) rfl rfl rfl (Int32.not_lt.mpr q1) (Int32.not_lt.mpr q2) (Int32.not_lt.mpr q3) q4 q5 (fun _ _ => rfl) (by rw [C7]; exact hfr) (by rw [C8]; exact hlo) d (fun H1 locs1 hP hD hS => ?_)
  have e : (lay (gC (xg X)) (gB (xg X)) w).set a (gB (xg X) + a, .inl (gC (xg X) 14, (wS w a).2, .inl (va_cpy (wI w a0) (wI w a) sp.toNatClampNeg dp.toNatClampNeg m.toNatClampNeg))) = lay (gC (xg X)) (gB (xg X)) (cI w a0 sp.toNatClampNeg a dp.toNatClampNeg m.toNatClampNeg) := by
    refine lay_set rfl (isO_iff.mp h1).1 ?_ (fun b hb => ?_)
    · rw [cell_i (w := cI w a0 sp.toNatClampNeg a dp.toNatClampNeg m.toNatClampNeg) (t := 14) h1 (by decide) (by decide)]
      congr 4
      funext j
      simp [wI_cI, va_cpy]
    · exact cell_ext rfl (by funext j; simp [wI_cI, hb]) rfl rfl
  rw [e] at hP
  exact kk _ rfl h2 H1 locs1 ls (hW.to hP hS rfl) hl
end KR
