section VR
variable {E : Ev} {d : Nat} {M : Mt} {post : Po} {lv : List (Nat × Value)} {st : List Value} {σ : Sto}
theorem V_iconst {pc : Nat} {n : Int} {v : Int32} (hd : decode M.2.1 pc = .ok (.iconst n, 1)) (hv : Int32.ofInt n = v) (k : V E d M post (pc + 1) lv (.int v :: st) σ) : V E d M post pc lv (st) σ :=
  fun p e s m args below meth c H locs ls C hP hS hl => lv_iconst C.1 C.2.1 hd hv (k p e s m args below meth c H locs ls C hP hS hl)
theorem V_bipush {pc : Nat} {n : Int} {v : Int32} (hd : decode M.2.1 pc = .ok (.bipush n, 2)) (hv : (Int8.ofInt n).toInt32 = v) (k : V E d M post (pc + 2) lv (.int v :: st) σ) : V E d M post pc lv (st) σ :=
  fun p e s m args below meth c H locs ls C hP hS hl => lv_bipush C.1 C.2.1 hd hv (k p e s m args below meth c H locs ls C hP hS hl)
theorem V_sipush {pc : Nat} {n : Int} {v : Int32} (hd : decode M.2.1 pc = .ok (.sipush n, 3)) (hv : (Int16.ofInt n).toInt32 = v) (k : V E d M post (pc + 3) lv (.int v :: st) σ) : V E d M post pc lv (st) σ :=
  fun p e s m args below meth c H locs ls C hP hS hl => lv_sipush C.1 C.2.1 hd hv (k p e s m args below meth c H locs ls C hP hS hl)
theorem V_lconst {pc : Nat} {n : Fin 2} {v : Int64} (hd : decode M.2.1 pc = .ok (.lconst n, 1)) (hv : Int64.ofNat (n : Nat) = v) (k : V E d M post (pc + 1) lv (.long v :: st) σ) : V E d M post pc lv (st) σ :=
  fun p e s m args below meth c H locs ls C hP hS hl => lv_lconst C.1 C.2.1 hd hv (k p e s m args below meth c H locs ls C hP hS hl)
theorem V_iadd {pc : Nat} {x y : Int32} (hd : decode M.2.1 pc = .ok (.iadd, 1)) (k : V E d M post (pc + 1) lv (.int (x + y) :: st) σ) : V E d M post pc lv (.int y :: .int x :: st) σ :=
  fun p e s m args below meth c H locs ls C hP hS hl => lv_iadd C.1 C.2.1 hd (k p e s m args below meth c H locs ls C hP hS hl)
theorem V_isub {pc : Nat} {x y : Int32} (hd : decode M.2.1 pc = .ok (.isub, 1)) (k : V E d M post (pc + 1) lv (.int (x - y) :: st) σ) : V E d M post pc lv (.int y :: .int x :: st) σ :=
  fun p e s m args below meth c H locs ls C hP hS hl => lv_isub C.1 C.2.1 hd (k p e s m args below meth c H locs ls C hP hS hl)
theorem V_imul {pc : Nat} {x y : Int32} (hd : decode M.2.1 pc = .ok (.imul, 1)) (k : V E d M post (pc + 1) lv (.int (x * y) :: st) σ) : V E d M post pc lv (.int y :: .int x :: st) σ :=
  fun p e s m args below meth c H locs ls C hP hS hl => lv_imul C.1 C.2.1 hd (k p e s m args below meth c H locs ls C hP hS hl)
theorem V_iand {pc : Nat} {x y : Int32} (hd : decode M.2.1 pc = .ok (.iand, 1)) (k : V E d M post (pc + 1) lv (.int (x &&& y) :: st) σ) : V E d M post pc lv (.int y :: .int x :: st) σ :=
  fun p e s m args below meth c H locs ls C hP hS hl => lv_iand C.1 C.2.1 hd (k p e s m args below meth c H locs ls C hP hS hl)
theorem V_ior {pc : Nat} {x y : Int32} (hd : decode M.2.1 pc = .ok (.ior, 1)) (k : V E d M post (pc + 1) lv (.int (x ||| y) :: st) σ) : V E d M post pc lv (.int y :: .int x :: st) σ :=
  fun p e s m args below meth c H locs ls C hP hS hl => lv_ior C.1 C.2.1 hd (k p e s m args below meth c H locs ls C hP hS hl)
theorem V_ixor {pc : Nat} {x y : Int32} (hd : decode M.2.1 pc = .ok (.ixor, 1)) (k : V E d M post (pc + 1) lv (.int (x ^^^ y) :: st) σ) : V E d M post pc lv (.int y :: .int x :: st) σ :=
  fun p e s m args below meth c H locs ls C hP hS hl => lv_ixor C.1 C.2.1 hd (k p e s m args below meth c H locs ls C hP hS hl)
theorem V_ishl {pc : Nat} {x y : Int32} (hd : decode M.2.1 pc = .ok (.ishl, 1)) (k : V E d M post (pc + 1) lv (.int (x <<< (y &&& 31)) :: st) σ) : V E d M post pc lv (.int y :: .int x :: st) σ :=
  fun p e s m args below meth c H locs ls C hP hS hl => lv_ishl C.1 C.2.1 hd (k p e s m args below meth c H locs ls C hP hS hl)
theorem V_ishr {pc : Nat} {x y : Int32} (hd : decode M.2.1 pc = .ok (.ishr, 1)) (k : V E d M post (pc + 1) lv (.int (x >>> (y &&& 31)) :: st) σ) : V E d M post pc lv (.int y :: .int x :: st) σ :=
  fun p e s m args below meth c H locs ls C hP hS hl => lv_ishr C.1 C.2.1 hd (k p e s m args below meth c H locs ls C hP hS hl)
theorem V_ladd {pc : Nat} {x y : Int64} (hd : decode M.2.1 pc = .ok (.ladd, 1)) (k : V E d M post (pc + 1) lv (.long (x + y) :: st) σ) : V E d M post pc lv (.long y :: .long x :: st) σ :=
  fun p e s m args below meth c H locs ls C hP hS hl => lv_ladd C.1 C.2.1 hd (k p e s m args below meth c H locs ls C hP hS hl)
theorem V_lsub {pc : Nat} {x y : Int64} (hd : decode M.2.1 pc = .ok (.lsub, 1)) (k : V E d M post (pc + 1) lv (.long (x - y) :: st) σ) : V E d M post pc lv (.long y :: .long x :: st) σ :=
  fun p e s m args below meth c H locs ls C hP hS hl => lv_lsub C.1 C.2.1 hd (k p e s m args below meth c H locs ls C hP hS hl)
theorem V_lmul {pc : Nat} {x y : Int64} (hd : decode M.2.1 pc = .ok (.lmul, 1)) (k : V E d M post (pc + 1) lv (.long (x * y) :: st) σ) : V E d M post pc lv (.long y :: .long x :: st) σ :=
  fun p e s m args below meth c H locs ls C hP hS hl => lv_lmul C.1 C.2.1 hd (k p e s m args below meth c H locs ls C hP hS hl)
theorem V_land {pc : Nat} {x y : Int64} (hd : decode M.2.1 pc = .ok (.land, 1)) (k : V E d M post (pc + 1) lv (.long (x &&& y) :: st) σ) : V E d M post pc lv (.long y :: .long x :: st) σ :=
  fun p e s m args below meth c H locs ls C hP hS hl => lv_land C.1 C.2.1 hd (k p e s m args below meth c H locs ls C hP hS hl)
theorem V_lor {pc : Nat} {x y : Int64} (hd : decode M.2.1 pc = .ok (.lor, 1)) (k : V E d M post (pc + 1) lv (.long (x ||| y) :: st) σ) : V E d M post pc lv (.long y :: .long x :: st) σ :=
  fun p e s m args below meth c H locs ls C hP hS hl => lv_lor C.1 C.2.1 hd (k p e s m args below meth c H locs ls C hP hS hl)
theorem V_lxor {pc : Nat} {x y : Int64} (hd : decode M.2.1 pc = .ok (.lxor, 1)) (k : V E d M post (pc + 1) lv (.long (x ^^^ y) :: st) σ) : V E d M post pc lv (.long y :: .long x :: st) σ :=
  fun p e s m args below meth c H locs ls C hP hS hl => lv_lxor C.1 C.2.1 hd (k p e s m args below meth c H locs ls C hP hS hl)
theorem V_idiv {pc : Nat} {x y : Int32} (hd : decode M.2.1 pc = .ok (.idiv, 1)) (hne : ¬ y = 0) (k : V E d M post (pc + 1) lv (.int (x / y) :: st) σ) : V E d M post pc lv (.int y :: .int x :: st) σ :=
  fun p e s m args below meth c H locs ls C hP hS hl => lv_idiv C.1 C.2.1 hd hne (k p e s m args below meth c H locs ls C hP hS hl)
theorem V_irem {pc : Nat} {x y : Int32} (hd : decode M.2.1 pc = .ok (.irem, 1)) (hne : ¬ y = 0) (k : V E d M post (pc + 1) lv (.int (x - x / y * y) :: st) σ) : V E d M post pc lv (.int y :: .int x :: st) σ :=
  fun p e s m args below meth c H locs ls C hP hS hl => lv_irem C.1 C.2.1 hd hne (k p e s m args below meth c H locs ls C hP hS hl)
theorem V_ldiv {pc : Nat} {x y : Int64} (hd : decode M.2.1 pc = .ok (.ldiv, 1)) (hne : ¬ y = 0) (k : V E d M post (pc + 1) lv (.long (x / y) :: st) σ) : V E d M post pc lv (.long y :: .long x :: st) σ :=
  fun p e s m args below meth c H locs ls C hP hS hl => lv_ldiv C.1 C.2.1 hd hne (k p e s m args below meth c H locs ls C hP hS hl)
theorem V_lrem {pc : Nat} {x y : Int64} (hd : decode M.2.1 pc = .ok (.lrem, 1)) (hne : ¬ y = 0) (k : V E d M post (pc + 1) lv (.long (x - x / y * y) :: st) σ) : V E d M post pc lv (.long y :: .long x :: st) σ :=
  fun p e s m args below meth c H locs ls C hP hS hl => lv_lrem C.1 C.2.1 hd hne (k p e s m args below meth c H locs ls C hP hS hl)
theorem V_ineg {pc : Nat} {x : Int32} (hd : decode M.2.1 pc = .ok (.ineg, 1)) (k : V E d M post (pc + 1) lv (.int (-x) :: st) σ) : V E d M post pc lv (.int x :: st) σ :=
  fun p e s m args below meth c H locs ls C hP hS hl => lv_ineg C.1 C.2.1 hd (k p e s m args below meth c H locs ls C hP hS hl)
theorem V_lneg {pc : Nat} {x : Int64} (hd : decode M.2.1 pc = .ok (.lneg, 1)) (k : V E d M post (pc + 1) lv (.long (-x) :: st) σ) : V E d M post pc lv (.long x :: st) σ :=
  fun p e s m args below meth c H locs ls C hP hS hl => lv_lneg C.1 C.2.1 hd (k p e s m args below meth c H locs ls C hP hS hl)
theorem V_i2l {pc : Nat} {x : Int32} (hd : decode M.2.1 pc = .ok (.i2l, 1)) (k : V E d M post (pc + 1) lv (.long x.toInt64 :: st) σ) : V E d M post pc lv (.int x :: st) σ :=
  fun p e s m args below meth c H locs ls C hP hS hl => lv_i2l C.1 C.2.1 hd rfl (k p e s m args below meth c H locs ls C hP hS hl)
theorem V_l2i {pc : Nat} {x : Int64} (hd : decode M.2.1 pc = .ok (.l2i, 1)) (k : V E d M post (pc + 1) lv (.int x.toInt32 :: st) σ) : V E d M post pc lv (.long x :: st) σ :=
  fun p e s m args below meth c H locs ls C hP hS hl => lv_l2i C.1 C.2.1 hd rfl (k p e s m args below meth c H locs ls C hP hS hl)
theorem V_i2b {pc : Nat} {x : Int32} (hd : decode M.2.1 pc = .ok (.i2b, 1)) (k : V E d M post (pc + 1) lv (.int x.toInt8.toInt32 :: st) σ) : V E d M post pc lv (.int x :: st) σ :=
  fun p e s m args below meth c H locs ls C hP hS hl => lv_i2b C.1 C.2.1 hd rfl (k p e s m args below meth c H locs ls C hP hS hl)
theorem V_i2s {pc : Nat} {x : Int32} (hd : decode M.2.1 pc = .ok (.i2s, 1)) (k : V E d M post (pc + 1) lv (.int x.toInt16.toInt32 :: st) σ) : V E d M post pc lv (.int x :: st) σ :=
  fun p e s m args below meth c H locs ls C hP hS hl => lv_i2s C.1 C.2.1 hd rfl (k p e s m args below meth c H locs ls C hP hS hl)
theorem V_iushr {pc : Nat} {x y : Int32} (hd : decode M.2.1 pc = .ok (.iushr, 1)) (k : V E d M post (pc + 1) lv (.int (x.toUInt32 >>> (y.toUInt32 &&& Int32.toUInt32 31)).toInt32 :: st) σ) : V E d M post pc lv (.int y :: .int x :: st) σ :=
  fun p e s m args below meth c H locs ls C hP hS hl => lv_iushr C.1 C.2.1 hd rfl (k p e s m args below meth c H locs ls C hP hS hl)
theorem V_lshl {pc : Nat} {x : Int64} {y : Int32} (hd : decode M.2.1 pc = .ok (.lshl, 1)) (k : V E d M post (pc + 1) lv (.long (x <<< (y.toInt64 &&& 63)) :: st) σ) : V E d M post pc lv (.int y :: .long x :: st) σ :=
  fun p e s m args below meth c H locs ls C hP hS hl => lv_lshl C.1 C.2.1 hd rfl (k p e s m args below meth c H locs ls C hP hS hl)
theorem V_dup {pc : Nat} {a : Value} (hd : decode M.2.1 pc = .ok (.dup, 1)) (ha : a.category = 1) (k : V E d M post (pc + 1) lv (a :: a :: st) σ) : V E d M post pc lv (a :: st) σ :=
  fun p e s m args below meth c H locs ls C hP hS hl => lv_dup C.1 C.2.1 hd ((tr_cat _ _).trans ha) (k p e s m args below meth c H locs ls C hP hS hl)
theorem V_pop {pc : Nat} {a : Value} (hd : decode M.2.1 pc = .ok (.pop, 1)) (ha : a.category = 1) (k : V E d M post (pc + 1) lv (st) σ) : V E d M post pc lv (a :: st) σ :=
  fun p e s m args below meth c H locs ls C hP hS hl => lv_pop C.1 C.2.1 hd ((tr_cat _ _).trans ha) (k p e s m args below meth c H locs ls C hP hS hl)
theorem V_dup_x1 {pc : Nat} {a b : Value} (hd : decode M.2.1 pc = .ok (.dup_x1, 1)) (ha : a.category = 1) (hb : b.category = 1) (k : V E d M post (pc + 1) lv (a :: b :: a :: st) σ) : V E d M post pc lv (a :: b :: st) σ :=
  fun p e s m args below meth c H locs ls C hP hS hl => lv_dup_x1 C.1 C.2.1 hd ((tr_cat _ _).trans ha) ((tr_cat _ _).trans hb) (k p e s m args below meth c H locs ls C hP hS hl)
theorem V_dup_x2 {pc : Nat} {a b w : Value} (hd : decode M.2.1 pc = .ok (.dup_x2, 1)) (ha : a.category = 1) (hb : b.category = 1) (hw : w.category = 1) (k : V E d M post (pc + 1) lv (a :: b :: w :: a :: st) σ) : V E d M post pc lv (a :: b :: w :: st) σ :=
  fun p e s m args below meth c H locs ls C hP hS hl => lv_dup_x2 C.1 C.2.1 hd ((tr_cat _ _).trans ha) ((tr_cat _ _).trans hb) ((tr_cat _ _).trans hw) (k p e s m args below meth c H locs ls C hP hS hl)
theorem V_dup2_11 {pc : Nat} {a b : Value} (hd : decode M.2.1 pc = .ok (.dup2, 1)) (ha : a.category = 1) (hb : b.category = 1) (k : V E d M post (pc + 1) lv (a :: b :: a :: b :: st) σ) : V E d M post pc lv (a :: b :: st) σ :=
  fun p e s m args below meth c H locs ls C hP hS hl => lv_dup2_11 C.1 C.2.1 hd ((tr_cat _ _).trans ha) ((tr_cat _ _).trans hb) (k p e s m args below meth c H locs ls C hP hS hl)
theorem V_dup2_2 {pc : Nat} {a : Value} (hd : decode M.2.1 pc = .ok (.dup2, 1)) (ha : a.category = 2) (k : V E d M post (pc + 1) lv (a :: a :: st) σ) : V E d M post pc lv (a :: st) σ :=
  fun p e s m args below meth c H locs ls C hP hS hl => lv_dup2_2 C.1 C.2.1 hd ((tr_cat _ _).trans ha) (k p e s m args below meth c H locs ls C hP hS hl)
theorem V_dup2_x1_2 {pc : Nat} {a b : Value} (hd : decode M.2.1 pc = .ok (.dup2_x1, 1)) (ha : a.category = 2) (hb : b.category = 1) (k : V E d M post (pc + 1) lv (a :: b :: a :: st) σ) : V E d M post pc lv (a :: b :: st) σ :=
  fun p e s m args below meth c H locs ls C hP hS hl => lv_dup2_x1_2 C.1 C.2.1 hd ((tr_cat _ _).trans ha) ((tr_cat _ _).trans hb) (k p e s m args below meth c H locs ls C hP hS hl)
theorem V_dup2_x2_2 {pc : Nat} {a b w : Value} (hd : decode M.2.1 pc = .ok (.dup2_x2, 1)) (ha : a.category = 2) (hb : b.category = 1) (hw : w.category = 1) (k : V E d M post (pc + 1) lv (a :: b :: w :: a :: st) σ) : V E d M post pc lv (a :: b :: w :: st) σ :=
  fun p e s m args below meth c H locs ls C hP hS hl => lv_dup2_x2_2 C.1 C.2.1 hd ((tr_cat _ _).trans ha) ((tr_cat _ _).trans hb) ((tr_cat _ _).trans hw) (k p e s m args below meth c H locs ls C hP hS hl)
theorem trL_at {ad : Nat → Nat} {lv : List (Nat × Value)} {ls : Array Slot} {n k i : Nat} {v : Value} (hl : lv_has ls n (trL ad lv)) (h : lv[k]? = some (i, v)) : ls[i]? = some (.val (tr ad v)) := lv_at hl k (by unfold trL; rw [List.getElem?_map, h]; rfl)
theorem V_iload_n {pc : Nat} {n : Fin 4} (k : Nat) {x : Int32} (hd : decode M.2.1 pc = .ok (.iload_n n, 1)) (h : lv[k]? = some ((n : Nat), .int x)) (kk : V E d M post (pc + 1) lv (.int x :: st) σ) : V E d M post pc lv st σ :=
  fun p e s m args below meth c H locs ls C hP hS hl => lv_iload_n C.1 C.2.1 hd rfl (trL_at hl h) (kk p e s m args below meth c H locs ls C hP hS hl)
theorem V_iload {pc i : Nat} (k : Nat) {x : Int32} (hd : decode M.2.1 pc = .ok (.iload i, 2)) (h : lv[k]? = some (i, .int x)) (kk : V E d M post (pc + 2) lv (.int x :: st) σ) : V E d M post pc lv st σ :=
  fun p e s m args below meth c H locs ls C hP hS hl => lv_iload C.1 C.2.1 hd (trL_at hl h) (kk p e s m args below meth c H locs ls C hP hS hl)
theorem V_lload_n {pc : Nat} {n : Fin 4} (k : Nat) {x : Int64} (hd : decode M.2.1 pc = .ok (.lload_n n, 1)) (h : lv[k]? = some ((n : Nat), .long x)) (kk : V E d M post (pc + 1) lv (.long x :: st) σ) : V E d M post pc lv st σ :=
  fun p e s m args below meth c H locs ls C hP hS hl => lv_lload_n C.1 C.2.1 hd rfl (trL_at hl h) (kk p e s m args below meth c H locs ls C hP hS hl)
theorem V_lload {pc i : Nat} (k : Nat) {x : Int64} (hd : decode M.2.1 pc = .ok (.lload i, 2)) (h : lv[k]? = some (i, .long x)) (kk : V E d M post (pc + 2) lv (.long x :: st) σ) : V E d M post pc lv st σ :=
  fun p e s m args below meth c H locs ls C hP hS hl => lv_lload C.1 C.2.1 hd (trL_at hl h) (kk p e s m args below meth c H locs ls C hP hS hl)
theorem V_aload_n {pc : Nat} {n : Fin 4} (k : Nat) {x : Nat} (hd : decode M.2.1 pc = .ok (.aload_n n, 1)) (h : lv[k]? = some ((n : Nat), .ref x)) (kk : V E d M post (pc + 1) lv (.ref x :: st) σ) : V E d M post pc lv st σ :=
  fun p e s m args below meth c H locs ls C hP hS hl => lv_aload_n C.1 C.2.1 hd rfl (trL_at hl h) (kk p e s m args below meth c H locs ls C hP hS hl)
theorem V_aload {pc i : Nat} (k : Nat) {x : Nat} (hd : decode M.2.1 pc = .ok (.aload i, 2)) (h : lv[k]? = some (i, .ref x)) (kk : V E d M post (pc + 2) lv (.ref x :: st) σ) : V E d M post pc lv st σ :=
  fun p e s m args below meth c H locs ls C hP hS hl => lv_aload C.1 C.2.1 hd (trL_at hl h) (kk p e s m args below meth c H locs ls C hP hS hl)
def st1 (i : Nat) (v : Value) (lv : List (Nat × Value)) : List (Nat × Value) := (i, v) :: lv.filter (fun q => !(q.1 == i) && !(q.1 + 1 == i && q.2.category == 2))
def st2 (i : Nat) (v : Value) (lv : List (Nat × Value)) : List (Nat × Value) := (i, v) :: lv.filter (fun q => !(q.1 == i) && (!(q.1 == i + 1) && !(q.1 + 1 == i && q.2.category == 2)))
theorem trL_st1 {ad : Nat → Nat} {i : Nat} {v : Value} {lv : List (Nat × Value)} : (i, tr ad v) :: (trL ad lv).filter (fun q => !(q.1 == i) && !(q.1 + 1 == i && q.2.category == 2)) = trL ad (st1 i v lv) := by
  unfold trL st1
  rw [List.map_cons, List.filter_map]
  congr 2
  apply List.filter_congr
  intro q _
  simp [Function.comp, tr_cat]
theorem trL_st2 {ad : Nat → Nat} {i : Nat} {v : Value} {lv : List (Nat × Value)} : (i, tr ad v) :: (trL ad lv).filter (fun q => !(q.1 == i) && (!(q.1 == i + 1) && !(q.1 + 1 == i && q.2.category == 2))) = trL ad (st2 i v lv) := by
  unfold trL st2
  rw [List.map_cons, List.filter_map]
  congr 2
  apply List.filter_congr
  intro q _
  simp [Function.comp, tr_cat]
theorem V_istore_n {pc : Nat} {n : Fin 4} {x : Int32} (hd : decode M.2.1 pc = .ok (.istore_n n, 1)) (hn : (n : Nat) < M.2.2.1) (kk : V E d M post (pc + 1) (st1 (n : Nat) (.int x) lv) st σ) : V E d M post pc lv (.int x :: st) σ :=
  fun p e s m args below meth c H locs ls C hP hS hl => lv_istore_n C.1 C.2.1 hd rfl hl hn (trL_st1 (v := .int x)) (fun ls hl => kk p e s m args below meth c H locs ls C hP hS hl)
theorem V_istore {pc i : Nat} {x : Int32} (hd : decode M.2.1 pc = .ok (.istore i, 2)) (hn : i < M.2.2.1) (kk : V E d M post (pc + 2) (st1 i (.int x) lv) st σ) : V E d M post pc lv (.int x :: st) σ :=
  fun p e s m args below meth c H locs ls C hP hS hl => lv_istore C.1 C.2.1 hd hl hn (trL_st1 (v := .int x)) (fun ls hl => kk p e s m args below meth c H locs ls C hP hS hl)
theorem V_lstore_n {pc : Nat} {n : Fin 4} {x : Int64} (hd : decode M.2.1 pc = .ok (.lstore_n n, 1)) (hn : (n : Nat) + 1 < M.2.2.1) (kk : V E d M post (pc + 1) (st2 (n : Nat) (.long x) lv) st σ) : V E d M post pc lv (.long x :: st) σ :=
  fun p e s m args below meth c H locs ls C hP hS hl => lv_lstore_n C.1 C.2.1 hd rfl hl hn (trL_st2 (v := .long x)) (fun ls hl => kk p e s m args below meth c H locs ls C hP hS hl)
theorem V_lstore {pc i : Nat} {x : Int64} (hd : decode M.2.1 pc = .ok (.lstore i, 2)) (hn : i + 1 < M.2.2.1) (kk : V E d M post (pc + 2) (st2 i (.long x) lv) st σ) : V E d M post pc lv (.long x :: st) σ :=
  fun p e s m args below meth c H locs ls C hP hS hl => lv_lstore C.1 C.2.1 hd hl hn (trL_st2 (v := .long x)) (fun ls hl => kk p e s m args below meth c H locs ls C hP hS hl)
theorem V_astore_n {pc : Nat} {n : Fin 4} {x : Nat} (hd : decode M.2.1 pc = .ok (.astore_n n, 1)) (hn : (n : Nat) < M.2.2.1) (kk : V E d M post (pc + 1) (st1 (n : Nat) (.ref x) lv) st σ) : V E d M post pc lv (.ref x :: st) σ :=
  fun p e s m args below meth c H locs ls C hP hS hl => lv_astore_n C.1 C.2.1 hd rfl hl hn (trL_st1 (v := .ref x)) (fun ls hl => kk p e s m args below meth c H locs ls C hP hS hl)
theorem V_astore {pc i : Nat} {x : Nat} (hd : decode M.2.1 pc = .ok (.astore i, 2)) (hn : i < M.2.2.1) (kk : V E d M post (pc + 2) (st1 i (.ref x) lv) st σ) : V E d M post pc lv (.ref x :: st) σ :=
  fun p e s m args below meth c H locs ls C hP hS hl => lv_astore C.1 C.2.1 hd hl hn (trL_st1 (v := .ref x)) (fun ls hl => kk p e s m args below meth c H locs ls C hP hS hl)
theorem V_iinc {pc i : Nat} (k : Nat) {n : Int} {x v : Int32} (hd : decode M.2.1 pc = .ok (.iinc i n, 3)) (h : lv[k]? = some (i, .int x)) (hv : Int32.ofInt n = v) (hn : i < M.2.2.1) (kk : V E d M post (pc + 3) (st1 i (.int (x + v)) lv) st σ) : V E d M post pc lv st σ :=
  fun p e s m args below meth c H locs ls C hP hS hl => lv_iinc (k := k) (v := x + v) C.1 C.2.1 hd hl (by unfold trL; rw [List.getElem?_map, h]; rfl) (by rw [hv]) hn (trL_st1 (v := .int (x + v))) (fun ls hl => kk p e s m args below meth c H locs ls C hP hS hl)
/-- fewer listed locals, in another order -/
theorem V_loc {pc : Nat} {lv' : List (Nat × Value)} (ks : List Nat) (h : lv_pick lv ks = lv') (kk : V E d M post pc lv' st σ) : V E d M post pc lv st σ :=
  fun p e s m args below meth c H locs ls C hP hS hl => kk p e s m args below meth c H locs ls C hP hS (lv_sub hl ks (by
    rw [← h]
    unfold lv_pick trL
    rw [List.map_filterMap]
    congr 1
    funext k
    rw [List.getElem?_map]))
theorem V_pc {pc pc2 : Nat} (h : pc = pc2) (kk : V E d M post pc2 lv st σ) : V E d M post pc lv st σ := h ▸ kk
theorem V_goto {pc tgt : Nat} {off : Int} (hd : decode M.2.1 pc = .ok (.goto off, 3)) (ht : (pc : Int) + off = (tgt : Int)) (k : V E d M post tgt lv st σ) : V E d M post pc lv st σ :=
  fun p e s m args below meth c H locs ls C hP hS hl => lv_goto C.1 C.2.1 hd ht (k p e s m args below meth c H locs ls C hP hS hl)
theorem V_if_eq {pc tgt : Nat} {off : Int} {x : Int32} (hd : decode M.2.1 pc = .ok (.ifCond .eq off, 3)) (ht : (pc : Int) + off = (tgt : Int)) (kt : x = 0 → V E d M post tgt lv st σ) (kf : ¬ (x = 0) → V E d M post (pc + 3) lv st σ) : V E d M post pc lv (.int x :: st) σ :=
  fun p e s m args below meth c H locs ls C hP hS hl => lv_if_eq C.1 C.2.1 hd ht (fun h => kt h p e s m args below meth c H locs ls C hP hS hl) (fun h => kf h p e s m args below meth c H locs ls C hP hS hl)
theorem V_icmp_eq {pc tgt : Nat} {off : Int} {x y : Int32} (hd : decode M.2.1 pc = .ok (.if_icmp .eq off, 3)) (ht : (pc : Int) + off = (tgt : Int)) (kt : x = y → V E d M post tgt lv st σ) (kf : ¬ (x = y) → V E d M post (pc + 3) lv st σ) : V E d M post pc lv (.int y :: .int x :: st) σ :=
  fun p e s m args below meth c H locs ls C hP hS hl => lv_icmp_eq C.1 C.2.1 hd ht (fun h => kt h p e s m args below meth c H locs ls C hP hS hl) (fun h => kf h p e s m args below meth c H locs ls C hP hS hl)
theorem V_if_ne {pc tgt : Nat} {off : Int} {x : Int32} (hd : decode M.2.1 pc = .ok (.ifCond .ne off, 3)) (ht : (pc : Int) + off = (tgt : Int)) (kt : ¬ x = 0 → V E d M post tgt lv st σ) (kf : x = 0 → V E d M post (pc + 3) lv st σ) : V E d M post pc lv (.int x :: st) σ :=
  fun p e s m args below meth c H locs ls C hP hS hl => lv_if_ne C.1 C.2.1 hd ht (fun h => kt h p e s m args below meth c H locs ls C hP hS hl) (fun h => kf h p e s m args below meth c H locs ls C hP hS hl)
theorem V_icmp_ne {pc tgt : Nat} {off : Int} {x y : Int32} (hd : decode M.2.1 pc = .ok (.if_icmp .ne off, 3)) (ht : (pc : Int) + off = (tgt : Int)) (kt : ¬ x = y → V E d M post tgt lv st σ) (kf : x = y → V E d M post (pc + 3) lv st σ) : V E d M post pc lv (.int y :: .int x :: st) σ :=
  fun p e s m args below meth c H locs ls C hP hS hl => lv_icmp_ne C.1 C.2.1 hd ht (fun h => kt h p e s m args below meth c H locs ls C hP hS hl) (fun h => kf h p e s m args below meth c H locs ls C hP hS hl)
theorem V_if_lt {pc tgt : Nat} {off : Int} {x : Int32} (hd : decode M.2.1 pc = .ok (.ifCond .lt off, 3)) (ht : (pc : Int) + off = (tgt : Int)) (kt : x < 0 → V E d M post tgt lv st σ) (kf : ¬ (x < 0) → V E d M post (pc + 3) lv st σ) : V E d M post pc lv (.int x :: st) σ :=
  fun p e s m args below meth c H locs ls C hP hS hl => lv_if_lt C.1 C.2.1 hd ht (fun h => kt h p e s m args below meth c H locs ls C hP hS hl) (fun h => kf h p e s m args below meth c H locs ls C hP hS hl)
theorem V_icmp_lt {pc tgt : Nat} {off : Int} {x y : Int32} (hd : decode M.2.1 pc = .ok (.if_icmp .lt off, 3)) (ht : (pc : Int) + off = (tgt : Int)) (kt : x < y → V E d M post tgt lv st σ) (kf : ¬ (x < y) → V E d M post (pc + 3) lv st σ) : V E d M post pc lv (.int y :: .int x :: st) σ :=
  fun p e s m args below meth c H locs ls C hP hS hl => lv_icmp_lt C.1 C.2.1 hd ht (fun h => kt h p e s m args below meth c H locs ls C hP hS hl) (fun h => kf h p e s m args below meth c H locs ls C hP hS hl)
theorem V_if_ge {pc tgt : Nat} {off : Int} {x : Int32} (hd : decode M.2.1 pc = .ok (.ifCond .ge off, 3)) (ht : (pc : Int) + off = (tgt : Int)) (kt : 0 ≤ x → V E d M post tgt lv st σ) (kf : ¬ (0 ≤ x) → V E d M post (pc + 3) lv st σ) : V E d M post pc lv (.int x :: st) σ :=
  fun p e s m args below meth c H locs ls C hP hS hl => lv_if_ge C.1 C.2.1 hd ht (fun h => kt h p e s m args below meth c H locs ls C hP hS hl) (fun h => kf h p e s m args below meth c H locs ls C hP hS hl)
theorem V_icmp_ge {pc tgt : Nat} {off : Int} {x y : Int32} (hd : decode M.2.1 pc = .ok (.if_icmp .ge off, 3)) (ht : (pc : Int) + off = (tgt : Int)) (kt : y ≤ x → V E d M post tgt lv st σ) (kf : ¬ (y ≤ x) → V E d M post (pc + 3) lv st σ) : V E d M post pc lv (.int y :: .int x :: st) σ :=
  fun p e s m args below meth c H locs ls C hP hS hl => lv_icmp_ge C.1 C.2.1 hd ht (fun h => kt h p e s m args below meth c H locs ls C hP hS hl) (fun h => kf h p e s m args below meth c H locs ls C hP hS hl)
theorem V_if_gt {pc tgt : Nat} {off : Int} {x : Int32} (hd : decode M.2.1 pc = .ok (.ifCond .gt off, 3)) (ht : (pc : Int) + off = (tgt : Int)) (kt : 0 < x → V E d M post tgt lv st σ) (kf : ¬ (0 < x) → V E d M post (pc + 3) lv st σ) : V E d M post pc lv (.int x :: st) σ :=
  fun p e s m args below meth c H locs ls C hP hS hl => lv_if_gt C.1 C.2.1 hd ht (fun h => kt h p e s m args below meth c H locs ls C hP hS hl) (fun h => kf h p e s m args below meth c H locs ls C hP hS hl)
theorem V_icmp_gt {pc tgt : Nat} {off : Int} {x y : Int32} (hd : decode M.2.1 pc = .ok (.if_icmp .gt off, 3)) (ht : (pc : Int) + off = (tgt : Int)) (kt : y < x → V E d M post tgt lv st σ) (kf : ¬ (y < x) → V E d M post (pc + 3) lv st σ) : V E d M post pc lv (.int y :: .int x :: st) σ :=
  fun p e s m args below meth c H locs ls C hP hS hl => lv_icmp_gt C.1 C.2.1 hd ht (fun h => kt h p e s m args below meth c H locs ls C hP hS hl) (fun h => kf h p e s m args below meth c H locs ls C hP hS hl)
theorem V_if_le {pc tgt : Nat} {off : Int} {x : Int32} (hd : decode M.2.1 pc = .ok (.ifCond .le off, 3)) (ht : (pc : Int) + off = (tgt : Int)) (kt : x ≤ 0 → V E d M post tgt lv st σ) (kf : ¬ (x ≤ 0) → V E d M post (pc + 3) lv st σ) : V E d M post pc lv (.int x :: st) σ :=
  fun p e s m args below meth c H locs ls C hP hS hl => lv_if_le C.1 C.2.1 hd ht (fun h => kt h p e s m args below meth c H locs ls C hP hS hl) (fun h => kf h p e s m args below meth c H locs ls C hP hS hl)
theorem V_icmp_le {pc tgt : Nat} {off : Int} {x y : Int32} (hd : decode M.2.1 pc = .ok (.if_icmp .le off, 3)) (ht : (pc : Int) + off = (tgt : Int)) (kt : x ≤ y → V E d M post tgt lv st σ) (kf : ¬ (x ≤ y) → V E d M post (pc + 3) lv st σ) : V E d M post pc lv (.int y :: .int x :: st) σ :=
  fun p e s m args below meth c H locs ls C hP hS hl => lv_icmp_le C.1 C.2.1 hd ht (fun h => kt h p e s m args below meth c H locs ls C hP hS hl) (fun h => kf h p e s m args below meth c H locs ls C hP hS hl)
theorem V_lcmp {pc : Nat} {x y : Int64} (hd : decode M.2.1 pc = .ok (.lcmp, 1)) (k : V E d M post (pc + 1) lv (.int (lg_cmp x y) :: st) σ) : V E d M post pc lv (.long y :: .long x :: st) σ :=
  fun p e s m args below meth c H locs ls C hP hS hl => W.lcmp C.1 C.2.1 hd (k p e s m args below meth c H locs ls C hP hS hl)
theorem lc_eq (x y : Int64) : (lg_cmp x y = 0) ↔ x = y := by
  unfold lg_cmp
  simp only [gt_iff_lt, Int64.lt_iff_toInt_lt, Int64.le_iff_toInt_le, ← Int64.toInt_inj, ne_eq]
  split
  · simp <;> omega
  · split
    · simp <;> omega
    · simp <;> omega
theorem V_lc_eq {pc tgt : Nat} {off : Int} {x y : Int64} (hd : decode M.2.1 pc = .ok (.lcmp, 1)) (hd2 : decode M.2.1 (pc + 1) = .ok (.ifCond .eq off, 3)) (ht : ((pc + 1 : Nat) : Int) + off = (tgt : Int)) (kt : x = y → V E d M post tgt lv st σ) (kf : ¬ (x = y) → V E d M post (pc + 4) lv st σ) : V E d M post pc lv (.long y :: .long x :: st) σ :=
  V_lcmp hd (V_if_eq hd2 ht (fun h => kt ((lc_eq x y).mp h)) (fun h => kf (fun q => h ((lc_eq x y).mpr q))))
theorem lc_ne (x y : Int64) : (¬ lg_cmp x y = 0) ↔ ¬ x = y := by
  unfold lg_cmp
  simp only [gt_iff_lt, Int64.lt_iff_toInt_lt, Int64.le_iff_toInt_le, ← Int64.toInt_inj, ne_eq]
  split
  · simp <;> omega
  · split
    · simp <;> omega
    · simp <;> omega
theorem V_lc_ne {pc tgt : Nat} {off : Int} {x y : Int64} (hd : decode M.2.1 pc = .ok (.lcmp, 1)) (hd2 : decode M.2.1 (pc + 1) = .ok (.ifCond .ne off, 3)) (ht : ((pc + 1 : Nat) : Int) + off = (tgt : Int)) (kt : ¬ x = y → V E d M post tgt lv st σ) (kf : x = y → V E d M post (pc + 4) lv st σ) : V E d M post pc lv (.long y :: .long x :: st) σ :=
  V_lcmp hd (V_if_ne hd2 ht (fun h => kt ((lc_ne x y).mp h)) (fun h => kf ((lc_eq x y).mp h)))
theorem lc_lt (x y : Int64) : (lg_cmp x y < 0) ↔ x < y := by
  unfold lg_cmp
  simp only [gt_iff_lt, Int64.lt_iff_toInt_lt, Int64.le_iff_toInt_le, ← Int64.toInt_inj, ne_eq]
  split
  · simp <;> omega
  · split
    · simp <;> omega
    · simp <;> omega
theorem V_lc_lt {pc tgt : Nat} {off : Int} {x y : Int64} (hd : decode M.2.1 pc = .ok (.lcmp, 1)) (hd2 : decode M.2.1 (pc + 1) = .ok (.ifCond .lt off, 3)) (ht : ((pc + 1 : Nat) : Int) + off = (tgt : Int)) (kt : x < y → V E d M post tgt lv st σ) (kf : ¬ (x < y) → V E d M post (pc + 4) lv st σ) : V E d M post pc lv (.long y :: .long x :: st) σ :=
  V_lcmp hd (V_if_lt hd2 ht (fun h => kt ((lc_lt x y).mp h)) (fun h => kf (fun q => h ((lc_lt x y).mpr q))))
theorem lc_ge (x y : Int64) : (0 ≤ lg_cmp x y) ↔ y ≤ x := by
  unfold lg_cmp
  simp only [gt_iff_lt, Int64.lt_iff_toInt_lt, Int64.le_iff_toInt_le, ← Int64.toInt_inj, ne_eq]
  split
  · simp <;> omega
  · split
    · simp <;> omega
    · simp <;> omega
theorem V_lc_ge {pc tgt : Nat} {off : Int} {x y : Int64} (hd : decode M.2.1 pc = .ok (.lcmp, 1)) (hd2 : decode M.2.1 (pc + 1) = .ok (.ifCond .ge off, 3)) (ht : ((pc + 1 : Nat) : Int) + off = (tgt : Int)) (kt : y ≤ x → V E d M post tgt lv st σ) (kf : ¬ (y ≤ x) → V E d M post (pc + 4) lv st σ) : V E d M post pc lv (.long y :: .long x :: st) σ :=
  V_lcmp hd (V_if_ge hd2 ht (fun h => kt ((lc_ge x y).mp h)) (fun h => kf (fun q => h ((lc_ge x y).mpr q))))
theorem lc_gt (x y : Int64) : (0 < lg_cmp x y) ↔ y < x := by
  unfold lg_cmp
  simp only [gt_iff_lt, Int64.lt_iff_toInt_lt, Int64.le_iff_toInt_le, ← Int64.toInt_inj, ne_eq]
  split
  · simp <;> omega
  · split
    · simp <;> omega
    · simp <;> omega
theorem V_lc_gt {pc tgt : Nat} {off : Int} {x y : Int64} (hd : decode M.2.1 pc = .ok (.lcmp, 1)) (hd2 : decode M.2.1 (pc + 1) = .ok (.ifCond .gt off, 3)) (ht : ((pc + 1 : Nat) : Int) + off = (tgt : Int)) (kt : y < x → V E d M post tgt lv st σ) (kf : ¬ (y < x) → V E d M post (pc + 4) lv st σ) : V E d M post pc lv (.long y :: .long x :: st) σ :=
  V_lcmp hd (V_if_gt hd2 ht (fun h => kt ((lc_gt x y).mp h)) (fun h => kf (fun q => h ((lc_gt x y).mpr q))))
theorem lc_le (x y : Int64) : (lg_cmp x y ≤ 0) ↔ x ≤ y := by
  unfold lg_cmp
  simp only [gt_iff_lt, Int64.lt_iff_toInt_lt, Int64.le_iff_toInt_le, ← Int64.toInt_inj, ne_eq]
  split
  · simp <;> omega
  · split
    · simp <;> omega
    · simp <;> omega
theorem V_lc_le {pc tgt : Nat} {off : Int} {x y : Int64} (hd : decode M.2.1 pc = .ok (.lcmp, 1)) (hd2 : decode M.2.1 (pc + 1) = .ok (.ifCond .le off, 3)) (ht : ((pc + 1 : Nat) : Int) + off = (tgt : Int)) (kt : x ≤ y → V E d M post tgt lv st σ) (kf : ¬ (x ≤ y) → V E d M post (pc + 4) lv st σ) : V E d M post pc lv (.long y :: .long x :: st) σ :=
  V_lcmp hd (V_if_le hd2 ht (fun h => kt ((lc_le x y).mp h)) (fun h => kf (fun q => h ((lc_le x y).mpr q))))
theorem V_tabOut {pc tgt : Nat} {dflt lo hi : Int} {offs : Array Int} {len : Nat} {x : Int32} (hd : decode M.2.1 pc = .ok (.tableswitch dflt lo hi offs, len)) (h : x.toInt < lo ∨ hi < x.toInt) (ht : (pc : Int) + dflt = (tgt : Int)) (k : V E d M post tgt lv st σ) : V E d M post pc lv (.int x :: st) σ :=
  fun p e s m args below meth c H locs ls C hP hS hl => lv_tableOut C.1 C.2.1 hd h ht (k p e s m args below meth c H locs ls C hP hS hl)
theorem V_tabIn {pc tgt : Nat} {dflt lo hi off : Int} {offs : Array Int} {len : Nat} {x : Int32} (hd : decode M.2.1 pc = .ok (.tableswitch dflt lo hi offs, len)) (h1 : ¬ x.toInt < lo) (h2 : ¬ hi < x.toInt) (ho : offs[(x.toInt - lo).toNat]? = some off) (ht : (pc : Int) + off = (tgt : Int)) (k : V E d M post tgt lv st σ) : V E d M post pc lv (.int x :: st) σ :=
  fun p e s m args below meth c H locs ls C hP hS hl => lv_tableIn C.1 C.2.1 hd h1 h2 ho ht (k p e s m args below meth c H locs ls C hP hS hl)
theorem V_ldc {pc idx : Nat} {v : Int32} (hd : decode M.2.1 pc = .ok (.ldc idx, 2)) (hc : Cond.constant M.1.cls idx v ∈ gt) (k : V E d M post (pc + 2) lv (.int v :: st) σ) : V E d M post pc lv st σ :=
  fun p e s m args below meth c H locs ls C hP hS hl => lv_ldc C.1 C.2.1 C.2.2.2.2.2.1 (C.2.2.2.2.2.2.1 _ hc) hd (k p e s m args below meth c H locs ls C hP hS hl)
theorem V_ldcw {pc idx : Nat} {v : Int32} (hd : decode M.2.1 pc = .ok (.ldc_w idx, 3)) (hc : Cond.constant M.1.cls idx v ∈ gt) (k : V E d M post (pc + 3) lv (.int v :: st) σ) : V E d M post pc lv st σ :=
  fun p e s m args below meth c H locs ls C hP hS hl => lv_ldcw C.1 C.2.1 C.2.2.2.2.2.1 (C.2.2.2.2.2.2.1 _ hc) hd (k p e s m args below meth c H locs ls C hP hS hl)
theorem V_ldc2 {pc idx : Nat} {v : Int64} (hd : decode M.2.1 pc = .ok (.ldc2_w idx, 3)) (hc : Cond.constantLong M.1.cls idx v ∈ gt) (k : V E d M post (pc + 3) lv (.long v :: st) σ) : V E d M post pc lv st σ :=
  fun p e s m args below meth c H locs ls C hP hS hl => lv_ldc2 C.1 C.2.1 C.2.2.2.2.2.1 (C.2.2.2.2.2.2.1 _ hc) hd (k p e s m args below meth c H locs ls C hP hS hl)
end VR
